/-! ===== pure: the whole line of a motion, in both ===== -/
section
variable {b r : Nat → Int32} {n p0 : Nat} {pl tk st dg nm fa A k m g sp bad bp : Int32}
theorem zBmot {p N : Nat} {t kd cl cs ps bh ki ca co jo fo : Nat → Int32} {kv : Int32} (hb : zByts b n) (hB : ∀ i, i < n → zBy (b i) (r i)) (hp : p ≤ n) (h3 : zCy b n p pl tk st dg nm) (h4 : zSyn b n p A k m g sp) (hN : N ≤ 10) (ht : t 11 = zJ N) : ∃ oc om, fX5_readMotion (zJ n) pl tk st dg nm 0 b (zJ N) ki ca co jo fo kv = some oc ∧ fX9_sayMotion A (zJ n) k m g sp 0 bp t kd cl cs ps bh r kv = some om ∧ zCu b n p oc.1 oc.2.1 oc.2.2.1 oc.2.2.2.1 oc.2.2.2.2.1 oc.2.2.2.2.2.1 om.1 om.2.1 om.2.2.1 om.2.2.2.1 om.2.2.2.2.1 om.2.2.2.2.2.1 om.2.2.2.2.2.2.1 ∧ (∀ j, j ≠ 11 → om.2.2.2.2.2.2.2.1 j = t j) ∧ (∀ j, j < 10 → om.2.2.2.2.2.2.2.2.1 j = kd j ∧ om.2.2.2.2.2.2.2.2.2.1 j = cl j ∧ om.2.2.2.2.2.2.2.2.2.2.1 j = cs j ∧ om.2.2.2.2.2.2.2.2.2.2.2.1 j = ps j ∧ om.2.2.2.2.2.2.2.2.2.2.2.2 j = bh j) ∧ (oc.2.2.2.2.2.1 = 0 → N < 10 ∧ oc.2.2.2.2.2.2.1 = zJ (N + 1) ∧ om.2.2.2.2.2.2.2.1 11 = zJ (N + 1) ∧ ∃ x y z w, 0 ≤ x ∧ x ≤ 24 ∧ 0 ≤ y ∧ y ≤ 99 ∧ -9 ≤ z ∧ z ≤ 9 ∧ (w = -1 ∨ ∃ j, j < N ∧ w = zJ j) ∧ oc.2.2.2.2.2.2.2.1 = upd ki N kv ∧ oc.2.2.2.2.2.2.2.2.1 = upd ca N x ∧ oc.2.2.2.2.2.2.2.2.2.1 = upd co N y ∧ oc.2.2.2.2.2.2.2.2.2.2.1 = upd jo N z ∧ oc.2.2.2.2.2.2.2.2.2.2.2 N = w ∧ (∀ j, j ≠ N → oc.2.2.2.2.2.2.2.2.2.2.2 j = fo j) ∧ om.2.2.2.2.2.2.2.2.1 = upd kd (10 + N) kv ∧ om.2.2.2.2.2.2.2.2.2.1 = upd cl (10 + N) x ∧ om.2.2.2.2.2.2.2.2.2.2.1 = upd cs (10 + N) y ∧ om.2.2.2.2.2.2.2.2.2.2.2.1 = upd ps (10 + N) z ∧ om.2.2.2.2.2.2.2.2.2.2.2.2 (10 + N) = w ∧ (∀ j, j ≠ 10 + N → om.2.2.2.2.2.2.2.2.2.2.2.2 j = bh j)) := by
  obtain ⟨r1, r2, r3, r4, r5, r6⟩ := zlx_r (b := b) hp
  have hn := hb.1
  have n2 : ¬ (2 : Int32) = 0 := by decide
  have n1 : ¬ (1 : Int32) = 0 := by decide
  rcases Nat.lt_or_ge N 10 with hN7 | hN7
  · obtain ⟨c, ec, hc⟩ := zc_go hb hp h3
    obtain ⟨v, ev, v1, hv, v0⟩ := zanother (bp := bp) hb hB hp h4 (w := 4) (t := t) (N := N) (lim := 10) (by omega) ht hN7 (by omega)
    obtain ⟨c1, w1, a1, a2, a3, a4⟩ := zNumS hb hB (p0 := p) (fa := 0) (bad := v.2.2.2.2.2.2.1) (bp := v.2.2.2.2.2.2.2) (Or.inr ⟨rfl, v0, _, by omega, r3, hc, hv⟩) (top := 24) (by omega)
    obtain ⟨c2, w2, b1, b2, b3, b4⟩ := zNumS hb hB a3 (top := 99) (by omega)
    obtain ⟨c3, w3, d1, d2, d3, d4⟩ := zSigS hb hB b3
    have e7 : (10 : Int32) + zJ N = zJ (10 + N) := zJ_add (a := 10)
    have e10 : t (11 : Int32).toNatClampNeg = zJ N := ht
    have dat : c3.2.2.2.2.2.2 = 0 → (0 ≤ c1.1 ∧ c1.1 ≤ 24 ∧ w1.1 = c1.1) ∧ (0 ≤ c2.1 ∧ c2.1 ≤ 99 ∧ w2.1 = c2.1) ∧ (-9 ≤ c3.1 ∧ c3.1 ≤ 9 ∧ w3.1 = c3.1) := by
      intro z
      obtain ⟨z3, y1, y2, y3⟩ := d4 z
      obtain ⟨z2, x2, s1, s2, s3⟩ := b4 z3
      obtain ⟨z1, x1, t1, t2, t3⟩ := a4 z2
      exact ⟨⟨by rw [t3]; exact zJ_yle (a := 0) (by omega) (by omega), by rw [t3]; exact zJ_yle (b := 24) t1 (by omega), by rw [t2, t3]⟩, ⟨by rw [s3]; exact zJ_yle (a := 0) (by omega) (by omega), by rw [s3]; exact zJ_yle (b := 99) s1 (by omega), by rw [s2, s3]⟩, y2, y3, y1⟩
    have clsF : ∀ R, (if c3.2.2.2.2.2.2 = 0 then if c3.2.2.1 = 20 then (fX5_nextToken (zJ n) c3.2.1 c3.2.2.1 c3.2.2.2.1 c3.2.2.2.2.1 c3.2.2.2.2.2.1 b).bind fun v18 => if v18.2.1 = 2 then if 4 < v18.2.2.2.1 then jX5_readMotion_142 (zJ n) v18.1 v18.2.1 v18.2.2.1 v18.2.2.2.1 v18.2.2.2.2 c3.2.2.2.2.2.2 b (zJ N) (upd ki N kv) (upd ca N c1.1) (upd co N c2.1) (upd jo N c3.1) (upd fo N (-1)) (zJ N) else if v18.2.2.2.2 < zJ N then jX5_readMotion_142 (zJ n) v18.1 v18.2.1 v18.2.2.1 v18.2.2.2.1 v18.2.2.2.2 c3.2.2.2.2.2.2 b (zJ N) (upd ki N kv) (upd ca N c1.1) (upd co N c2.1) (upd jo N c3.1) (upd fo N (-1)) (zJ N) else jX5_readMotion_142 (zJ n) v18.1 v18.2.1 v18.2.2.1 v18.2.2.2.1 v18.2.2.2.2 3 b (zJ N) (upd ki N kv) (upd ca N c1.1) (upd co N c2.1) (upd jo N c3.1) (upd fo N (-1)) (zJ N) else jX5_readMotion_142 (zJ n) v18.1 v18.2.1 v18.2.2.1 v18.2.2.2.1 v18.2.2.2.2 c3.2.2.2.2.2.2 b (zJ N) (upd ki N kv) (upd ca N c1.1) (upd co N c2.1) (upd jo N c3.1) (upd fo N (-1)) (zJ N) else some (c3.2.1, c3.2.2.1, c3.2.2.2.1, c3.2.2.2.2.1, c3.2.2.2.2.2.1, c3.2.2.2.2.2.2, zJ (N + 1), upd ki N kv, upd ca N c1.1, upd co N c2.1, upd jo N c3.1, upd fo N (-1)) else some (c3.2.1, c3.2.2.1, c3.2.2.2.1, c3.2.2.2.2.1, c3.2.2.2.2.2.1, c3.2.2.2.2.2.2, zJ (N + 1), upd ki N kv, upd ca N c1.1, upd co N c2.1, upd jo N c3.1, upd fo N (-1))) = R → fX5_readMotion (zJ n) pl tk st dg nm 0 b (zJ N) ki ca co jo fo kv = R := by
      intro R hR
      unfold fX5_readMotion
      rw [if_pos (show zJ N < 10 from zJ_ylt (b := 10) hN7 (by omega)), zJ_ix (n := N) (by omega)]
      refine zBind ec ?_
      rw [ck_t (zinb (by omega) (by omega))]
      refine zBind a1 ?_
      rw [ck_t (zinb (by omega) (by omega))]
      refine zBind b1 ?_
      rw [ck_t (zinb (by omega) (by omega))]
      refine zBind d1 ?_
      rw [ck_t (zinb (by omega) (by omega)), ck_t (zinb (by omega) (by omega)), zJ_a1]
      exact hR
    have refF : ∀ R, ((fX9_is 16 w3.2.2.1 w3.2.2.2.2.1 w3.2.2.2.2.2.1 w3.2.2.2.2.2.2.1 r).bind fun v17 => if v17 = 0 then some (w3.2.1, w3.2.2.1, w3.2.2.2.1, w3.2.2.2.2.1, w3.2.2.2.2.2.1, w3.2.2.2.2.2.2.1, w3.2.2.2.2.2.2.2, upd t 11 (zJ (N + 1)), upd kd (10 + N) kv, upd cl (10 + N) w1.1, upd cs (10 + N) w2.1, upd ps (10 + N) w3.1, upd bh (10 + N) (-1)) else (fX9_stepOn w3.2.1 (zJ n) w3.2.2.1 w3.2.2.2.1 w3.2.2.2.2.1 w3.2.2.2.2.2.1 r).bind fun v22 => (fX9_numberNow v22.2.1 v22.2.2.1 v22.2.2.2.1 v22.2.2.2.2 w3.2.2.2.2.2.2.1 w3.2.2.2.2.2.2.2 0 9999).bind fun v24 => if v24.2.1 = 0 then ck (inb 11 14) <| if v24.1 < (t (11 : Int32).toNatClampNeg) then jX9_sayMotion_120 v22.1 (zJ n) v22.2.1 v22.2.2.1 v22.2.2.2.1 v22.2.2.2.2 v24.2.1 v24.2.2 t (upd kd (10 + N) kv) (upd cl (10 + N) w1.1) (upd cs (10 + N) w2.1) (upd ps (10 + N) w3.1) (upd bh (10 + N) (-1)) r ((10 : Int32) + (t (11 : Int32).toNatClampNeg)) v24.1 else (fX9_wrong v22.2.2.2.1 v24.2.1 v24.2.2 3).bind fun v35 => jX9_sayMotion_120 v22.1 (zJ n) v22.2.1 v22.2.2.1 v22.2.2.2.1 v22.2.2.2.2 v35.1 v35.2 t (upd kd (10 + N) kv) (upd cl (10 + N) w1.1) (upd cs (10 + N) w2.1) (upd ps (10 + N) w3.1) (upd bh (10 + N) (-1)) r ((10 : Int32) + (t (11 : Int32).toNatClampNeg)) v24.1 else jX9_sayMotion_120 v22.1 (zJ n) v22.2.1 v22.2.2.1 v22.2.2.2.1 v22.2.2.2.2 v24.2.1 v24.2.2 t (upd kd (10 + N) kv) (upd cl (10 + N) w1.1) (upd cs (10 + N) w2.1) (upd ps (10 + N) w3.1) (upd bh (10 + N) (-1)) r ((10 : Int32) + (t (11 : Int32).toNatClampNeg)) v24.1) = R → fX9_sayMotion A (zJ n) k m g sp 0 bp t kd cl cs ps bh r kv = R := by
      intro R hR
      have e10' : ((10 : Int32) + t (11 : Int32).toNatClampNeg).toNatClampNeg = 10 + N := by rw [e10, e7, zJ_ix (by omega)]
      have i10 : inb ((10 : Int32) + t (11 : Int32).toNatClampNeg) 20 = true := by rw [e10, e7]; exact zinb (by omega) (by omega)
      have e11 : t (11 : Int32).toNatClampNeg + (1 : Int32) = zJ (N + 1) := by rw [e10, zJ_a1]
      unfold fX9_sayMotion
      refine zBind ev ?_
      rw [if_neg (by rw [v1]; exact n1), ck_t (by decide), e10', e11, ck_t i10]
      refine zBind a2 ?_
      rw [ck_t i10]
      refine zBind b2 ?_
      rw [ck_t i10]
      refine zBind d2 ?_
      rw [ck_t i10, ck_t i10]
      exact hR
    have lo : ∀ {f : Nat → Int32} {x : Int32} (j : Nat), j < 10 → upd f (10 + N) x j = f j := fun j hj => zupd_ne (by omega)
    rcases d3 with ⟨h1, h2, h5, h6⟩ | ⟨h1, h2, p3, hp0, hp3, h5, h6⟩
    · refine ⟨_, _, clsF _ (if_neg h1), refF _ (zBind (zm_isN (by omega) (fun z => h1 (h2.symm.trans z.1))) (if_pos rfl)), Or.inl ⟨h1, h2, h5, h6⟩, fun j hj => zupd_ne hj, fun j hj => ⟨lo j hj, lo j hj, lo j hj, lo j hj, lo j hj⟩, fun z => absurd z h1⟩
    · have D := dat h1
      have e1 : fX9_is 16 w3.2.2.1 w3.2.2.2.2.1 w3.2.2.2.2.2.1 w3.2.2.2.2.2.2.1 r = some (if (zlx b n p3).1 = 20 then 1 else 0) := by
        have e := zm_isK hn hp3 hB (i := 16) (by omega)
        rw [show zkn 16 = 20 by decide, ← h6.2.1, ← h6.2.2.2.1, ← h6.2.2.2.2] at e
        rw [h2]; exact e
      obtain ⟨u1, u2, u3, u4, u5, u6⟩ := zlx_r (b := b) hp3
      by_cases k20 : (zlx b n p3).1 = 20
      · rw [if_pos k20] at e1
        obtain ⟨vc, evc, hvc⟩ := zc_go hb hp3 h5
        obtain ⟨vm, evm, hvm⟩ := zm_go hn hp3 hB h6
        obtain ⟨oc, om, x1, x2, x3, x4, x5, x6, x7, x8, x9, x10, x11, x12, x13, ⟨wx, x14⟩, x15⟩ := zBbeh (p0 := p) (bp := w3.2.2.2.2.2.2.2) (t := t) (kd := upd kd (10 + N) kv) (cl := upd cl (10 + N) w1.1) (cs := upd cs (10 + N) w2.1) (ps := upd ps (10 + N) w3.1) (bh := upd bh (10 + N) (-1)) (ki := upd ki N kv) (ca := upd ca N c1.1) (co := upd co N c2.1) (jo := upd jo N c3.1) (fo := upd fo N (-1)) hb hB u3 (by omega) hvc hvm hN7 ht
        refine ⟨oc, om, clsF _ ?_, refF _ ?_, x3, ?_, ?_, fun z => ?_⟩
        · rw [if_pos h1, if_pos (show c3.2.2.1 = 20 by rw [h5.2.1, k20]; rfl)]
          refine zBind evc ?_
          rw [h1]
          exact x1
        · refine zBind e1 ?_
          rw [if_neg n1]
          refine zBind evm ?_
          rw [h2]
          exact x2
        · intro j hj; rw [x9]; exact zupd_ne hj
        · intro j hj
          rw [x10, x11, x12, x13, x14]
          exact ⟨lo j hj, lo j hj, lo j hj, lo j hj, (lo j hj).trans (lo j hj)⟩
        · obtain ⟨j, hj, y1, y2⟩ := x15 z
          refine ⟨hN7, x4, by rw [x9]; exact zupd_eq, c1.1, c2.1, c3.1, zJ j, D.1.1, D.1.2.1, D.2.1.1, D.2.1.2.1, D.2.2.1, D.2.2.2.1, Or.inr ⟨j, hj, rfl⟩, x5, x6, x7, x8, by rw [y1]; exact zupd_eq, fun i hi => by rw [y1, zupd_ne hi, zupd_ne hi], x10, by rw [x11, D.1.2.2], by rw [x12, D.2.1.2.2], by rw [x13, D.2.2.2.2], by rw [y2]; exact zupd_eq, fun i hi => by rw [y2, zupd_ne hi, zupd_ne hi]⟩
      · rw [if_neg k20] at e1
        refine ⟨_, _, clsF _ ((if_pos h1).trans (if_neg (show ¬ c3.2.2.1 = 20 by rw [h5.2.1]; exact zKn (c := 20) k20 (by omega) (by omega)))), refF _ (zBind e1 (if_pos rfl)), Or.inr ⟨h1, h2, p3, hp0, hp3, h5, h6⟩, fun j hj => zupd_ne hj, fun j hj => ⟨lo j hj, lo j hj, lo j hj, lo j hj, lo j hj⟩, fun _ => ⟨hN7, rfl, zupd_eq (f := t) (k := 11), c1.1, c2.1, c3.1, -1, D.1.1, D.1.2.1, D.2.1.1, D.2.1.2.1, D.2.2.1, D.2.2.2.1, Or.inl rfl, rfl, rfl, rfl, rfl, zupd_eq (f := fo) (k := N), fun i hi => zupd_ne hi, rfl, ?_, ?_, ?_, zupd_eq (f := bh) (k := 10 + N), fun i hi => zupd_ne hi⟩⟩
        · show upd cl (10 + N) w1.1 = _
          rw [D.1.2.2]
        · show upd cs (10 + N) w2.1 = _
          rw [D.2.1.2.2]
        · show upd ps (10 + N) w3.1 = _
          rw [D.2.2.2.2]
  · have e : N = 10 := by omega
    subst e
    refine ⟨(pl, tk, st, dg, nm, 2, zJ 10, ki, ca, co, jo, fo), (A, k, m, g, sp, 2, zJ (zlx b n p).2.1, t, kd, cl, cs, ps, bh), ?_, ?_, Or.inl ⟨n2, rfl, h3.2.2.1.symm, _, by omega, h3.2.2.1⟩, fun _ _ => rfl, fun _ _ => ⟨rfl, rfl, rfl, rfl, rfl⟩, fun z => absurd z n2⟩
    · unfold fX5_readMotion
      rw [if_neg (by decide)]
    · unfold fX9_sayMotion
      refine zBind (zanotherN h4 (w := 4) (lim := 10) (by omega) ht) ?_
      rw [if_pos rfl]
end
