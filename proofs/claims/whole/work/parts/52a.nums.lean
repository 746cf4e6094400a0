/-! ===== pure: numbers of a line, in both ===== -/
/-- the class's five words at a token -/
def zCy (b : Nat → Int32) (n p : Nat) (pl tk st dg nm : Int32) : Prop := pl = zJ (zlx b n p).2.2.1 ∧ tk = zJ (zlx b n p).1 ∧ st = zJ (zlx b n p).2.1 ∧ ((zlx b n p).1 = 2 → dg = zJ ((zlx b n p).2.2.1 - (zlx b n p).2.1) ∧ ((zlx b n p).2.2.1 - (zlx b n p).2.1 ≤ 4 → nm = zJ (zlx b n p).2.2.2))
/-- both at a token, or both behind the same fault -/
def zCu (b : Nat → Int32) (n p0 : Nat) (pl tk st dg nm fa A k m g sp bad bp : Int32) : Prop := (¬ fa = 0 ∧ bad = fa ∧ bp = st ∧ ∃ S, S ≤ n ∧ st = zJ S) ∨ (fa = 0 ∧ bad = 0 ∧ ∃ p, p0 ≤ p ∧ p ≤ n ∧ zCy b n p pl tk st dg nm ∧ zSyn b n p A k m g sp)
section
variable {b r : Nat → Int32} {n p0 : Nat} {pl tk st dg nm fa A k m g sp bad bp : Int32}
theorem zc_go (hb : zByts b n) {p : Nat} (hp : p ≤ n) (h : zCy b n p pl tk st dg nm) : zOk (fX5_nextToken (zJ n) pl tk st dg nm b) (fun o => zCy b n (zlx b n p).2.2.1 o.1 o.2.1 o.2.2.1 o.2.2.2.1 o.2.2.2.2) := by
  rw [h.1]
  refine zOk.mono (zc_next hb.1 (zlx_r hp).2.2.1 hb.2) (fun o ⟨dg', nm', e, h'⟩ => ?_)
  rw [e]
  exact ⟨rfl, rfl, rfl, h'⟩
theorem zc_rnumB {top x : Int32} (h : ¬ fa = 0) : fX5_readNumber (zJ n) pl tk st dg nm fa b x top = some (0, pl, tk, st, dg, nm, fa) := by
  unfold fX5_readNumber
  rw [if_neg h]
  unfold jX5_readNumber_24 jX5_readNumber_25
  rw [if_pos rfl]
  unfold jX5_readNumber_34
  rw [if_neg h]
  unfold jX5_readNumber_54
  rw [if_neg h]
  unfold jX5_readNumber_82
  rw [if_neg h]
/-- a number behind what stood ahead of it -/
theorem zc_r34 (hb : zByts b n) {p top : Nat} (hp : p ≤ n) (h : zCy b n p pl tk st dg nm) {x3 : Int32} (htop : top < 10000) : zOk (jX5_readNumber_34 (zJ n) pl tk st dg nm 0 b (zJ top) x3) (fun o =>
    ((zlx b n p).1 = 2 ∧ (zlx b n p).2.2.1 - (zlx b n p).2.1 ≤ 4 ∧ (zlx b n p).2.2.2 ≤ top ∧ o.1 = (if x3 = 0 then zJ (zlx b n p).2.2.2 else -zJ (zlx b n p).2.2.2) ∧ o.2.2.2.2.2.2 = 0 ∧ zCy b n (zlx b n p).2.2.1 o.2.1 o.2.2.1 o.2.2.2.1 o.2.2.2.2.1 o.2.2.2.2.2.1) ∨
    ((zlx b n p).1 = 2 ∧ (4 < (zlx b n p).2.2.1 - (zlx b n p).2.1 ∨ ((zlx b n p).2.2.1 - (zlx b n p).2.1 ≤ 4 ∧ top < (zlx b n p).2.2.2)) ∧ o.2.2.2.2.2.2 = 2 ∧ o.2.2.2.1 = zJ (zlx b n p).2.1) ∨
    ((zlx b n p).1 ≠ 2 ∧ o.2.2.2.2.2.2 = 1 ∧ o.2.2.2.1 = zJ (zlx b n p).2.1)) := by
  obtain ⟨r1, r2, r3, r4, r5, r6⟩ := zlx_r (b := b) hp
  have hn := hb.1
  obtain ⟨h1, h2, h3, h4⟩ := h
  have n1 : ¬ (1 : Int32) = 0 := by decide
  have n2 : ¬ (2 : Int32) = 0 := by decide
  unfold jX5_readNumber_34
  refine zOk.pos rfl ?_
  by_cases q : (zlx b n p).1 = 2
  · refine zOk.pos (by rw [h2, q]; rfl) ?_
    obtain ⟨e1, e2⟩ := h4 q
    have f2 : zOk (jX5_readNumber_77 (zJ n) pl tk st dg nm 0 b x3) (fun o => o.2.2.2.2.2.2 = 2 ∧ o.2.2.2.1 = zJ (zlx b n p).2.1) := by
      unfold jX5_readNumber_77 jX5_readNumber_82
      exact zOk.neg n2 ⟨_, rfl, rfl, h3⟩
    unfold jX5_readNumber_54
    refine zOk.pos rfl ?_
    by_cases q4 : 4 < (zlx b n p).2.2.1 - (zlx b n p).2.1
    · refine zOk.pos (by rw [e1]; exact zJ_ylt (a := 4) q4 (by omega)) (zOk.mono f2 (fun o ho => Or.inr (Or.inl ⟨q, Or.inl q4, ho⟩)))
    · refine zOk.neg (by rw [e1]; exact zJ_nlt (a := 4) (by omega) (by omega)) ?_
      have e2 := e2 (by omega)
      have hv := zlx_v q (by omega)
      by_cases qt : (zlx b n p).2.2.2 ≤ top
      · refine zOk.pos (by rw [e2]; exact zJ_yle qt (by omega)) ?_
        unfold jX5_readNumber_82
        refine zOk.pos rfl (zOk.ite (fun z => ?_) (fun z => ?_))
        · refine zOk.bind (zc_go hb hp ⟨h1, h2, h3, h4⟩) (fun o ho => ⟨_, rfl, Or.inl ⟨q, by omega, qt, ?_, rfl, ho⟩⟩)
          rw [if_pos z]; exact e2
        · refine zOk.bind (zc_go hb hp ⟨h1, h2, h3, h4⟩) (fun o ho => ⟨_, rfl, Or.inl ⟨q, by omega, qt, ?_, rfl, ho⟩⟩)
          rw [if_neg z, ← e2]
      · refine zOk.neg (by rw [e2]; exact zJ_nle (by omega) (by omega)) (zOk.mono f2 (fun o ho => Or.inr (Or.inl ⟨q, Or.inr ⟨by omega, by omega⟩, ho⟩)))
  · refine zOk.neg (by rw [h2]; exact zKn (c := 2) q (by omega) (by omega)) ?_
    unfold jX5_readNumber_54
    refine zOk.neg n1 ?_
    unfold jX5_readNumber_82
    exact zOk.neg n1 ⟨_, rfl, Or.inr (Or.inr ⟨q, rfl, h3⟩)⟩
/-- the three ends of a number, in both -/
theorem zNum0 (hb : zByts b n) (hB : ∀ i, i < n → zBy (b i) (r i)) {p top : Nat} (hp : p ≤ n) (hp0 : p0 ≤ p) (h : zCy b n p pl tk st dg nm) (hs : zSyn b n p A k m g sp) {x3 : Int32} (htop : top < 10000) : ∃ oc om, jX5_readNumber_34 (zJ n) pl tk st dg nm 0 b (zJ top) x3 = some oc ∧ fX9_readNumber A (zJ n) k m g sp 0 bp r 0 (zJ top) = some om ∧ zCu b n p0 oc.2.1 oc.2.2.1 oc.2.2.2.1 oc.2.2.2.2.1 oc.2.2.2.2.2.1 oc.2.2.2.2.2.2 om.2.1 om.2.2.1 om.2.2.2.1 om.2.2.2.2.1 om.2.2.2.2.2.1 om.2.2.2.2.2.2.1 om.2.2.2.2.2.2.2 ∧ (oc.2.2.2.2.2.2 = 0 → ∃ x, x ≤ top ∧ om.1 = zJ x ∧ oc.1 = (if x3 = 0 then zJ x else -zJ x)) := by
  obtain ⟨r1, r2, r3, r4, r5, r6⟩ := zlx_r (b := b) hp
  have n1 : ¬ (1 : Int32) = 0 := by decide
  have n2 : ¬ (2 : Int32) = 0 := by decide
  obtain ⟨oc, ec, hc⟩ := zc_r34 hb hp h (x3 := x3) htop
  rcases hc with ⟨q, q4, qt, c1, c2, c3⟩ | ⟨q, q4, c2, c3⟩ | ⟨q, c2, c3⟩
  · obtain ⟨om, em, m1, m2, m3⟩ := zm_rnum (pl := bp) hb.1 hB hp hs q q4 qt (by omega)
    exact ⟨oc, om, ec, em, Or.inr ⟨c2, m3, (zlx b n p).2.2.1, by omega, r3, c3, m2⟩, fun _ => ⟨_, qt, m1, c1⟩⟩
  · refine ⟨oc, _, ec, zm_rnum2 hp hb.1 hs q (by omega) q4, Or.inl ⟨by rw [c2]; exact n2, by rw [c2], by rw [c3], ⟨_, by omega, c3⟩⟩, fun z => absurd z (by rw [c2]; exact n2)⟩
  · refine ⟨oc, _, ec, zm_rnum1 hs q, Or.inl ⟨by rw [c2]; exact n1, by rw [c2], by rw [c3], ⟨_, by omega, c3⟩⟩, fun z => absurd z (by rw [c2]; exact n1)⟩
theorem zNumS (hb : zByts b n) (hB : ∀ i, i < n → zBy (b i) (r i)) (h : zCu b n p0 pl tk st dg nm fa A k m g sp bad bp) {top : Nat} (htop : top < 10000) : ∃ oc om, fX5_readNumber (zJ n) pl tk st dg nm fa b 0 (zJ top) = some oc ∧ fX9_readNumber A (zJ n) k m g sp bad bp r 0 (zJ top) = some om ∧ zCu b n p0 oc.2.1 oc.2.2.1 oc.2.2.2.1 oc.2.2.2.2.1 oc.2.2.2.2.2.1 oc.2.2.2.2.2.2 om.2.1 om.2.2.1 om.2.2.2.1 om.2.2.2.2.1 om.2.2.2.2.2.1 om.2.2.2.2.2.2.1 om.2.2.2.2.2.2.2 ∧ (oc.2.2.2.2.2.2 = 0 → fa = 0 ∧ ∃ x, x ≤ top ∧ om.1 = zJ x ∧ oc.1 = zJ x) := by
  rcases h with ⟨h1, h2, h3, h4⟩ | ⟨h1, h2, p, hp0, hp, h3, h4⟩
  · subst h2 h3
    exact ⟨_, _, zc_rnumB h1, zm_rnumB h1, Or.inl ⟨h1, rfl, rfl, h4⟩, fun z => absurd z h1⟩
  · subst h1 h2
    obtain ⟨oc, om, e1, e2, e3, e4⟩ := zNum0 (bp := bp) hb hB hp hp0 h3 h4 (x3 := 0) htop
    refine ⟨oc, om, ?_, e2, e3, fun z => ?_⟩
    · unfold fX5_readNumber
      rw [if_pos rfl, if_pos (by decide)]
      unfold jX5_readNumber_24 jX5_readNumber_25
      rw [if_pos rfl]; exact e1
    · obtain ⟨x, x1, x2, x3⟩ := e4 z
      rw [if_pos rfl] at x3
      exact ⟨rfl, x, x1, x2, x3⟩
theorem zSigS (hb : zByts b n) (hB : ∀ i, i < n → zBy (b i) (r i)) (h : zCu b n p0 pl tk st dg nm fa A k m g sp bad bp) : ∃ oc om, fX5_readNumber (zJ n) pl tk st dg nm fa b (-9) 9 = some oc ∧ fX9_readSigned A (zJ n) k m g sp bad bp r 9 = some om ∧ zCu b n p0 oc.2.1 oc.2.2.1 oc.2.2.2.1 oc.2.2.2.2.1 oc.2.2.2.2.2.1 oc.2.2.2.2.2.2 om.2.1 om.2.2.1 om.2.2.2.1 om.2.2.2.2.1 om.2.2.2.2.2.1 om.2.2.2.2.2.2.1 om.2.2.2.2.2.2.2 ∧ (oc.2.2.2.2.2.2 = 0 → fa = 0 ∧ om.1 = oc.1 ∧ -9 ≤ oc.1 ∧ oc.1 ≤ 9) := by
  have r9 : ∀ x : Fin 10, (-9 : Int32) ≤ zJ x.1 ∧ zJ x.1 ≤ 9 ∧ (-9 : Int32) ≤ -zJ x.1 ∧ -zJ x.1 ≤ 9 := by decide
  have n10 : ¬ (1 : Int32) = 0 := by decide
  rcases h with ⟨h1, h2, h3, h4⟩ | ⟨h1, h2, p, hp0, hp, h3, h4⟩
  · subst h2 h3
    refine ⟨_, (0, A, k, m, g, sp, bad, bp), zc_rnumB h1, ?_, Or.inl ⟨h1, rfl, rfl, h4⟩, fun z => absurd z h1⟩
    unfold fX9_readSigned
    rw [zm_mkB h1, Option.bind_some, if_pos rfl]
    unfold jX9_readSigned_15
    rw [zm_rnumB h1, Option.bind_some, if_pos rfl]
  · subst h1 h2
    obtain ⟨r1, r2, r3, r4, r5, r6⟩ := zlx_r (b := b) hp
    have em : fX9_isMarked k g 0 r 45 = some (if (zlx b n p).1 = 7 then 1 else 0) := by
      have e := zm_mk hb.1 hp hB (c := 45) (by omega) (by decide)
      rw [show zsgk (zJ 45) = 7 by decide, ← h4.2.1, ← h4.2.2.2.1] at e
      exact e
    by_cases k7 : (zlx b n p).1 = 7
    · rw [if_pos k7] at em
      obtain ⟨oc1, ec1, hc1⟩ := zc_go hb hp h3
      obtain ⟨om1, em1, hm1⟩ := zm_go hb.1 hp hB h4
      obtain ⟨oc, om, e1, e2, e3, e4⟩ := zNum0 (bp := bp) hb hB r3 (p0 := p0) (by omega) hc1 hm1 (x3 := 1) (top := 9) (by omega)
      refine ⟨oc, (-om.1, om.2), ?_, ?_, e3, fun z => ?_⟩
      · unfold fX5_readNumber
        rw [if_pos rfl, if_neg (by decide), if_pos (by rw [h3.2.1, k7]; rfl)]
        unfold jX5_readNumber_25
        rw [if_neg n10, ec1, Option.bind_some]
        exact e1
      · unfold fX9_readSigned
        rw [em, Option.bind_some, if_neg n10, em1, Option.bind_some]
        unfold jX9_readSigned_15
        refine zBind e2 ?_
        rw [if_neg n10]
      · obtain ⟨x, x1, x2, x3⟩ := e4 z
        rw [if_neg n10] at x3
        have := r9 ⟨x, by omega⟩
        rw [x3]
        exact ⟨rfl, by show -om.1 = _; rw [x2], this.2.2⟩
    · rw [if_neg k7] at em
      obtain ⟨oc, om, e1, e2, e3, e4⟩ := zNum0 (bp := bp) hb hB hp hp0 h3 h4 (x3 := 0) (top := 9) (by omega)
      refine ⟨oc, om, ?_, ?_, e3, fun z => ?_⟩
      · unfold fX5_readNumber
        rw [if_pos rfl, if_neg (by decide), if_neg (by rw [h3.2.1]; exact zKn (c := 7) k7 (by omega) (by omega))]
        unfold jX5_readNumber_24 jX5_readNumber_25
        rw [if_pos rfl]; exact e1
      · unfold fX9_readSigned
        rw [em, Option.bind_some, if_pos rfl]
        unfold jX9_readSigned_15
        refine zBind e2 ?_
        rw [if_pos rfl]
      · obtain ⟨x, x1, x2, x3⟩ := e4 z
        rw [if_pos rfl] at x3
        have := r9 ⟨x, by omega⟩
        rw [x3]
        exact ⟨rfl, x2, this.1, this.2.1⟩
end
