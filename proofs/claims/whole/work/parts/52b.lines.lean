/-! ===== pure: the lines, in both ===== -/
section
variable {b r : Nat → Int32} {n p0 : Nat} {pl tk st dg nm fa A k m g sp bad bp : Int32}
theorem zTail {R_clockIsTold R_waits R_depth R_nots R_partIsDue R_notMayStand D_oil D_weight D_treasury D_aldermen D_motions D_codeLength : Int32} {R_waiting D_lean D_deaf D_kind D_call D_cost D_joy D_follows D_code D_ruleFrom D_ruleTo : Nat → Int32} (hb : zByts b n) (hB : ∀ i, i < n → zBy (b i) (r i)) (h : zCu b n p0 pl tk st dg nm fa A k m g sp bad bp) : ∃ c : Int32 × Int32 × Int32 × Int32 × Int32 × Int32, ∃ o, jX5_readLine_107 (zJ n) pl tk st dg nm fa R_clockIsTold R_waits R_depth R_nots R_partIsDue R_notMayStand b R_waiting D_oil D_weight D_treasury D_aldermen D_motions D_codeLength D_lean D_deaf D_kind D_call D_cost D_joy D_follows D_code D_ruleFrom D_ruleTo = some (c.1, c.2.1, c.2.2.1, c.2.2.2.1, c.2.2.2.2.1, c.2.2.2.2.2, R_clockIsTold, R_waits, R_depth, R_nots, R_partIsDue, R_notMayStand, R_waiting, D_oil, D_weight, D_treasury, D_aldermen, D_motions, D_codeLength, D_lean, D_deaf, D_kind, D_call, D_cost, D_joy, D_follows, D_code, D_ruleFrom, D_ruleTo) ∧ fX9_mark A (zJ n) k m g sp bad bp r 59 = some o ∧ zCu b n (p0 + 1) c.1 c.2.1 c.2.2.1 c.2.2.2.1 c.2.2.2.2.1 c.2.2.2.2.2 o.1 o.2.1 o.2.2.1 o.2.2.2.1 o.2.2.2.2.1 o.2.2.2.2.2.1 o.2.2.2.2.2.2 ∧ (c.2.2.2.2.2 = 0 → fa = 0) := by
  have n1 : ¬ (1 : Int32) = 0 := by decide
  rcases h with ⟨h1, h2, h3, h4⟩ | ⟨h1, h2, p, hp0, hp, h3, h4⟩
  · refine ⟨(pl, tk, st, dg, nm, fa), _, ?_, zm_markB (by rw [h2]; exact h1), Or.inl ⟨h1, h2, h3, h4⟩, fun z => absurd z h1⟩
    unfold jX5_readLine_107
    rw [if_neg h1]
    unfold jX5_readLine_127
    rw [if_neg h1]
  · subst h1 h2
    obtain ⟨r1, r2, r3, r4, r5, r6⟩ := zlx_r (b := b) hp
    have s59 : zsgk (zJ 59) = 3 := by decide
    by_cases k3 : (zlx b n p).1 = 3
    · have r5 := r5 (by omega)
      obtain ⟨c, ec, hc⟩ := zc_go hb hp h3
      obtain ⟨o, eo, ho, ho0⟩ := zm_markK (pl := bp) hb.1 hp hB h4 (c := 59) (by omega) (by rw [s59]; omega) (by rw [s59]; exact k3)
      refine ⟨(c.1, c.2.1, c.2.2.1, c.2.2.2.1, c.2.2.2.2, 0), o, ?_, eo, Or.inr ⟨rfl, ho0, (zlx b n p).2.2.1, by omega, r3, hc, ho⟩, fun _ => rfl⟩
      unfold jX5_readLine_107
      rw [if_pos rfl, if_pos (show tk = 3 by rw [h3.2.1, k3]; rfl)]
      unfold jX5_readLine_127
      rw [if_pos rfl, ec, Option.bind_some]
    · refine ⟨(pl, tk, st, dg, nm, 1), _, ?_, zm_markN hb.1 hp hB h4 (c := 59) (by omega) (by rw [s59]; omega) (by rw [s59]; exact k3), Or.inl ⟨n1, rfl, h3.2.2.1.symm, _, by omega, h3.2.2.1⟩, fun _ => rfl⟩
      unfold jX5_readLine_107
      rw [if_pos rfl, if_neg (show ¬ tk = 3 by rw [h3.2.1]; exact zKn (c := 3) k3 (by omega) (by omega))]
      unfold jX5_readLine_127
      rw [if_neg n1]
theorem zBclock {oil wt tr : Int32} {p : Nat} (hb : zByts b n) (hB : ∀ i, i < n → zBy (b i) (r i)) (hp : p ≤ n) (h3 : zCy b n p pl tk st dg nm) (h4 : zSyn b n p A k m g sp) : ∃ oc v w1 w2 w3, fX5_readClock (zJ n) pl tk st dg nm 0 0 b oil wt tr = some oc ∧ fX9_stepOn A (zJ n) k m g sp r = some v ∧ fX9_readNumber v.1 (zJ n) v.2.1 v.2.2.1 v.2.2.2.1 v.2.2.2.2 0 bp r 0 99 = some w1 ∧ fX9_readNumber w1.2.1 (zJ n) w1.2.2.1 w1.2.2.2.1 w1.2.2.2.2.1 w1.2.2.2.2.2.1 w1.2.2.2.2.2.2.1 w1.2.2.2.2.2.2.2 r 0 99 = some w2 ∧ fX9_readNumber w2.2.1 (zJ n) w2.2.2.1 w2.2.2.2.1 w2.2.2.2.2.1 w2.2.2.2.2.2.1 w2.2.2.2.2.2.2.1 w2.2.2.2.2.2.2.2 r 0 999 = some w3 ∧ zCu b n p oc.1 oc.2.1 oc.2.2.1 oc.2.2.2.1 oc.2.2.2.2.1 oc.2.2.2.2.2.1 w3.2.1 w3.2.2.1 w3.2.2.2.1 w3.2.2.2.2.1 w3.2.2.2.2.2.1 w3.2.2.2.2.2.2.1 w3.2.2.2.2.2.2.2 ∧ oc.2.2.2.2.2.2.1 = 1 ∧ (oc.2.2.2.2.2.1 = 0 → (∃ x, x ≤ 99 ∧ w1.1 = zJ x ∧ oc.2.2.2.2.2.2.2.1 = zJ x) ∧ (∃ x, x ≤ 99 ∧ w2.1 = zJ x ∧ oc.2.2.2.2.2.2.2.2.1 = zJ x) ∧ (∃ x, x ≤ 999 ∧ w3.1 = zJ x ∧ oc.2.2.2.2.2.2.2.2.2 = zJ x)) := by
  obtain ⟨r1, r2, r3, r4, r5, r6⟩ := zlx_r (b := b) hp
  obtain ⟨c, ec, hc⟩ := zc_go hb hp h3
  obtain ⟨v, ev, hv⟩ := zm_go hb.1 hp hB h4
  obtain ⟨c1, w1, a1, a2, a3, a4⟩ := zNumS hb hB (p0 := p) (fa := 0) (bad := 0) (bp := bp) (Or.inr ⟨rfl, rfl, _, by omega, r3, hc, hv⟩) (top := 99) (by omega)
  obtain ⟨c2, w2, b1, b2, b3, b4⟩ := zNumS hb hB a3 (top := 99) (by omega)
  obtain ⟨c3, w3, d1, d2, d3, d4⟩ := zNumS hb hB b3 (top := 999) (by omega)
  refine ⟨(c3.2.1, c3.2.2.1, c3.2.2.2.1, c3.2.2.2.2.1, c3.2.2.2.2.2.1, c3.2.2.2.2.2.2, 1, c1.1, c2.1, c3.1), v, w1, w2, w3, ?_, ev, a2, b2, d2, d3, rfl, fun z => ?_⟩
  · unfold fX5_readClock
    rw [if_pos rfl]
    exact zBind ec (zBind a1 (zBind b1 (zBind d1 rfl)))
  · obtain ⟨z3, x3, e3⟩ := d4 z
    obtain ⟨z2, x2, e2⟩ := b4 z3
    obtain ⟨z1, x1, e1⟩ := a4 z2
    exact ⟨⟨x1, e1⟩, ⟨x2, e2⟩, ⟨x3, e3⟩⟩
theorem zanother {t : Nat → Int32} {p w N lim : Nat} (hb : zByts b n) (hB : ∀ i, i < n → zBy (b i) (r i)) (hp : p ≤ n) (h4 : zSyn b n p A k m g sp) (hw : 7 + w < 14) (ht : t (7 + w) = zJ N) (hN : N < lim) (hl : lim < 100) : zOk (fX9_another A (zJ n) k m g sp 0 bp t r (zJ w) (zJ lim)) (fun o => o.1 = 1 ∧ zSyn b n (zlx b n p).2.2.1 o.2.1 o.2.2.1 o.2.2.2.1 o.2.2.2.2.1 o.2.2.2.2.2.1 ∧ o.2.2.2.2.2.2.1 = 0) := by
  unfold fX9_another
  have e7 : (7 : Int32) + zJ w = zJ (7 + w) := zJ_add (a := 7)
  rw [e7, ck_t (zinb hw (by omega)), zJ_ix (by omega), ht]
  refine zOk.neg (zKn (by omega) (by omega) (by omega)) ?_
  unfold jX9_another_18
  refine zOk.pos rfl (zOk.bind (zm_go hb.1 hp hB h4) (fun o ho => ⟨_, rfl, rfl, ho, rfl⟩))
theorem zanotherN {t : Nat → Int32} {p w lim : Nat} (h4 : zSyn b n p A k m g sp) (hw : 7 + w < 14) (ht : t (7 + w) = zJ lim) : fX9_another A (zJ n) k m g sp 0 bp t r (zJ w) (zJ lim) = some (0, A, k, m, g, sp, 2, zJ (zlx b n p).2.1) := by
  have n2 : ¬ (2 : Int32) = 0 := by decide
  unfold fX9_another
  have e7 : (7 : Int32) + zJ w = zJ (7 + w) := zJ_add (a := 7)
  rw [e7, ck_t (zinb hw (by omega)), zJ_ix (by omega), ht, if_pos rfl]
  unfold fX9_wrong
  rw [if_pos rfl, Option.bind_some]
  unfold jX9_another_18
  rw [if_neg n2, h4.2.2.2.1]
/-- an alderman: the class's outcome beside the reference's -/
theorem zBald {p N : Nat} {t lt df le de : Nat → Int32} (hb : zByts b n) (hB : ∀ i, i < n → zBy (b i) (r i)) (hp : p ≤ n) (h3 : zCy b n p pl tk st dg nm) (h4 : zSyn b n p A k m g sp) (hN : N ≤ 7) (ht : t 10 = zJ N) : ∃ oc om, fX5_readAlderman (zJ n) pl tk st dg nm 0 b (zJ N) le de = some oc ∧ fX9_sayAlderman A (zJ n) k m g sp 0 bp t lt df r = some om ∧ zCu b n p oc.1 oc.2.1 oc.2.2.1 oc.2.2.2.1 oc.2.2.2.2.1 oc.2.2.2.2.2.1 om.1 om.2.1 om.2.2.1 om.2.2.2.1 om.2.2.2.2.1 om.2.2.2.2.2.1 om.2.2.2.2.2.2.1 ∧ (∀ j, j ≠ 10 → om.2.2.2.2.2.2.2.1 j = t j) ∧ (∀ j, j < 7 → om.2.2.2.2.2.2.2.2.1 j = lt j ∧ om.2.2.2.2.2.2.2.2.2 j = df j) ∧ (oc.2.2.2.2.2.1 = 0 → N < 7 ∧ oc.2.2.2.2.2.2.1 = zJ (N + 1) ∧ om.2.2.2.2.2.2.2.1 10 = zJ (N + 1) ∧ ∃ x y, -9 ≤ x ∧ x ≤ 9 ∧ 0 ≤ y ∧ y ≤ 9 ∧ oc.2.2.2.2.2.2.2.1 = upd le N x ∧ oc.2.2.2.2.2.2.2.2 = upd de N y ∧ om.2.2.2.2.2.2.2.2.1 = upd lt (7 + N) x ∧ om.2.2.2.2.2.2.2.2.2 = upd df (7 + N) y) := by
  obtain ⟨r1, r2, r3, r4, r5, r6⟩ := zlx_r (b := b) hp
  have n2 : ¬ (2 : Int32) = 0 := by decide
  have n1 : ¬ (1 : Int32) = 0 := by decide
  rcases Nat.lt_or_ge N 7 with hN7 | hN7
  · obtain ⟨c, ec, hc⟩ := zc_go hb hp h3
    obtain ⟨v, ev, v1, hv, v0⟩ := zanother (bp := bp) hb hB hp h4 (w := 3) (t := t) (N := N) (lim := 7) (by omega) ht hN7 (by omega)
    obtain ⟨c1, w1, a1, a2, a3, a4⟩ := zSigS hb hB (p0 := p) (fa := 0) (bad := v.2.2.2.2.2.2.1) (bp := v.2.2.2.2.2.2.2) (Or.inr ⟨rfl, v0, _, by omega, r3, hc, hv⟩)
    obtain ⟨c2, w2, b1, b2, b3, b4⟩ := zNumS hb hB a3 (top := 9) (by omega)
    have e7 : (7 : Int32) + zJ N = zJ (7 + N) := zJ_add (a := 7)
    have e10 : t (10 : Int32).toNatClampNeg = zJ N := ht
    refine ⟨(c2.2.1, c2.2.2.1, c2.2.2.2.1, c2.2.2.2.2.1, c2.2.2.2.2.2.1, c2.2.2.2.2.2.2, zJ (N + 1), upd le N c1.1, upd de N c2.1), (w2.2.1, w2.2.2.1, w2.2.2.2.1, w2.2.2.2.2.1, w2.2.2.2.2.2.1, w2.2.2.2.2.2.2.1, w2.2.2.2.2.2.2.2, upd t 10 (zJ (N + 1)), upd lt (7 + N) w1.1, upd df (7 + N) w2.1), ?_, ?_, b3, fun j hj => zupd_ne hj, fun j hj => ⟨zupd_ne (by omega), zupd_ne (by omega)⟩, fun z => ?_⟩
    · unfold fX5_readAlderman
      rw [if_pos (show zJ N < 7 from zJ_ylt (b := 7) hN7 (by omega)), zJ_ix (n := N) (by omega)]
      refine zBind ec (zBind a1 ?_)
      rw [ck_t (zinb (by omega) (by omega))]
      refine zBind b1 ?_
      rw [ck_t (zinb (by omega) (by omega)), zJ_a1]
    · unfold fX9_sayAlderman
      refine zBind ev ?_
      rw [if_neg (by rw [v1]; exact n1), ck_t (by decide)]
      refine zBind a2 ?_
      rw [e10, e7, ck_t (zinb (by omega) (by omega))]
      refine zBind b2 ?_
      rw [ck_t (zinb (by omega) (by omega)), ck_t (by decide), ck_t (by decide), zJ_ix (by omega), zJ_a1]
      rfl
    · obtain ⟨z2, x, x1, x2, x3⟩ := b4 z
      obtain ⟨z1, y1, y2, y3⟩ := a4 z2
      refine ⟨hN7, rfl, zupd_eq (f := t) (k := 10) (v := zJ (N + 1)), c1.1, c2.1, y2, y3, by rw [x3]; exact zJ_yle (a := 0) (by omega) (by omega), by rw [x3]; exact zJ_yle (b := 9) x1 (by omega), rfl, rfl, ?_, ?_⟩
      · show upd lt (7 + N) w1.1 = _
        rw [y1]
      · show upd df (7 + N) w2.1 = _
        rw [x2, x3]
  · have e : N = 7 := by omega
    subst e
    refine ⟨(pl, tk, st, dg, nm, 2, zJ 7, le, de), (A, k, m, g, sp, 2, zJ (zlx b n p).2.1, t, lt, df), ?_, ?_, Or.inl ⟨n2, rfl, h3.2.2.1.symm, _, by omega, h3.2.2.1⟩, fun _ _ => rfl, fun _ _ => ⟨rfl, rfl⟩, fun z => absurd z n2⟩
    · unfold fX5_readAlderman
      rw [if_neg (by decide)]
    · unfold fX9_sayAlderman
      refine zBind (zanotherN h4 (w := 3) (lim := 7) (by omega) ht) ?_
      rw [if_pos rfl]
end
