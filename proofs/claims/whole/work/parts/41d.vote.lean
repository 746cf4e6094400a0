/-! ===== pure: who votes how ===== -/
set_option maxRecDepth 20000 in
theorem zbits : ∀ n : Fin 1024, fX9_bitsOf (zJ n.1) = some (zbc (zJ n.1)) := by decide +kernel
theorem zbits' {n : Nat} (h : n < 1024) : fX9_bitsOf (zJ n) = some (zbc (zJ n)) := zbits ⟨n, h⟩
theorem zor_bit : ∀ a : Fin 10, ∀ n : Fin 1024, n.1 < 2 ^ a.1 → zJ n.1 ||| zbit a.1 = zJ (n.1 + 2 ^ a.1) := by decide +kernel
theorem zpow {k a : Nat} (h : k < 2 ^ a) (ha : a ≤ 10) : k < 1024 := Nat.lt_of_lt_of_le h (Nat.pow_le_pow_right (by omega) ha)
theorem zor_bit' {a n : Nat} (ha : a < 10) (hn : n < 2 ^ a) : zJ n ||| zbit a = zJ (n + 2 ^ a) := zor_bit ⟨a, ha⟩ ⟨n, zpow hn (by omega)⟩ hn
theorem zsupN_r {E : zE} {t : zT} {m : Nat} {said : Int32} : ∀ a : Nat, a ≤ 10 → ∃ n, n < 2 ^ a ∧ zsupN E t m said a = zJ n
  | 0, _ => ⟨0, by omega, rfl⟩
  | a + 1, h => by
    obtain ⟨n, hn, e⟩ := zsupN_r (E := E) (t := t) (m := m) (said := said) a (by omega)
    have h2 : 2 ^ (a + 1) = 2 ^ a + 2 ^ a := by rw [Nat.pow_succ]; omega
    unfold zsupN
    split
    · rw [e, zor_bit' (by omega) hn]
      exact ⟨_, by omega, rfl⟩
    · exact ⟨n, by omega, e⟩
theorem zsup_r {E : zE} (hE : zEok E) {t : zT} {m : Nat} {said : Int32} : ∃ n, n < 128 ∧ zsup E t m said = zJ n := by
  have := hE.a7
  obtain ⟨n, hn, e⟩ := zsupN_r (E := E) (t := t) (m := m) (said := said) E.nA (by omega)
  exact ⟨n, Nat.lt_of_lt_of_le hn (Nat.pow_le_pow_right (n := 2) (by omega) this), e⟩
section
variable {E : zE} {nA nM : Int32} {deaf kind cost joy fol code rf rt V S : Nat → Int32} {t : zT}
theorem zc_isFor (hE : zEok E) (hc : zCls E nA nM deaf kind cost joy fol code rf rt) {a m : Nat} (ha : a < E.nA) (hm : m < E.nM) {passed lean said : Int32} : zOk (fX2_isFor V S deaf kind cost joy code rf rt passed (zJ a) lean (zJ m) said) (fun o => o.1 = if zfor E passed a lean m said then 1 else 0) := by
  have h7 := hE.a7
  have h10 := hE.m10
  obtain ⟨f, h1, h2, h3, h4⟩ := hc.votes
  unfold fX2_isFor
  refine zOk.eq (zhasRule (r := 1) (by omega) h1 h2 h3) ?_
  unfold zfor
  have im : inb (zJ m) 10 = true := zinb (by omega) (by omega)
  have ia : inb (zJ a) 7 = true := zinb (by omega) (by omega)
  by_cases q : E.votes = []
  · rw [if_pos (znil.2 q), if_pos q]
    refine zOk.pos rfl ?_
    rw [ck_t im, zJ_ix (by omega), hc.joy m hm]
    refine zOk.ite (fun z => ?_) (fun z => ?_)
    · exact zOk.pure (by simp [z])
    · exact zOk.pure (by simp [z])
  · rw [if_neg (fun z => q (znil.1 z)), if_neg q]
    refine zOk.neg (by decide) ?_
    rw [ck_t ia, ck_t (by decide), ck_t (by decide), ck_t im, ck_t (by decide), ck_t im, ck_t (by decide), ck_t im, ck_t (by decide)]
    refine zOk.eq (show fX7_howManyPassed passed = some (zbc passed) from rfl) ?_
    rw [ck_t (by decide), zJ_ix (show a < 2147483648 by omega), zJ_ix (show m < 2147483648 by omega), hc.joy m hm, hc.cost m hm, hc.kind m hm, hc.deaf a ha]
    refine zOk.bind (zc_result (r := 1) (by omega) h1 h2 h3 h4 (hE.votes.resolve_left q)) (fun o ho => ?_)
    rw [zev6] at ho
    rw [← ho]
    refine zOk.ite (fun z => ?_) (fun z => ?_)
    · exact zOk.pure (by simp [z])
    · exact zOk.pure (by simp [z])
theorem zc_sup (hE : zEok E) (hc : zCls E nA nM deaf kind cost joy fol code rf rt) {lean : Nat → Int32} (hl : ∀ a, a < E.nA → lean a = t.lean a) {m : Nat} (hm : m < E.nM) {said : Int32} : zOk (fX2_supporters V S nA deaf kind cost joy code rf rt t.passed lean (zJ m) said) (fun o => o.1 = zsup E t m said) := by
  have h7 := hE.a7
  have loop : ∀ (k a fuel : Nat) (V S : Nat → Int32), k + a = E.nA → k < fuel → zOk (lX2_supporters_6 (fun (C_values_6 : Nat → Int32) (C_stack_7 : Nat → Int32) (x4_8 : Int32) => some (x4_8, C_values_6, C_stack_7)) nA deaf kind cost joy code rf rt t.passed lean (zJ m) said fuel V S (zsupN E t m said a) (zJ a)) (fun o => o.1 = zsup E t m said) := by
    intro k
    induction k with
    | zero =>
      intro a fuel V S hk hf
      obtain ⟨fuel, rfl⟩ : ∃ f, fuel = f + 1 := ⟨fuel - 1, by omega⟩
      unfold lX2_supporters_6
      rw [hc.a]
      refine zOk.pos ((zJ_le (by omega) (by omega)).2 (by omega)) (zOk.pure ?_)
      show zsupN E t m said a = zsupN E t m said E.nA
      rw [show a = E.nA by omega]
    | succ k ih =>
      intro a fuel V S hk hf
      obtain ⟨fuel, rfl⟩ : ∃ f, fuel = f + 1 := ⟨fuel - 1, by omega⟩
      unfold lX2_supporters_6
      have hn : ¬ nA ≤ zJ a := by rw [hc.a]; intro q; have := (zJ_le (by omega) (by omega)).1 q; omega
      rw [if_neg hn, ck_t (zinb (by omega) (by omega)), zJ_ix (by omega), hl a (by omega), zJ_succ]
      refine zOk.bind (zc_isFor hE hc (a := a) (by omega) hm) (fun o ho => ?_)
      have step : zsupN E t m said (a + 1) = if zfor E t.passed a (t.lean a) m said then zsupN E t m said a ||| zbit a else zsupN E t m said a := rfl
      have ih := ih (a + 1) fuel o.2.1 o.2.2 (by omega) (by omega)
      rw [step] at ih
      rw [ho]
      cases hz : zfor E t.passed a (t.lean a) m said
      · rw [hz] at ih
        exact zOk.pos rfl ih
      · rw [hz] at ih
        exact zOk.neg (by decide) ih
  exact loop E.nA 0 FU V S (by omega) (by unfold FU; omega)
theorem zc_carries (hc : zCls E nA nM deaf kind cost joy fol code rf rt) {s : Int32} : fX2_carries nA s = some (if zcarry E s then 1 else 0) := by
  unfold fX2_carries
  rw [zbc_eq, hc.a]
  show (if (2 : Int32) * zbc s ≤ zJ E.nA then some 0 else some 1) = _
  unfold zcarry
  by_cases q : (2 : Int32) * zbc s ≤ zJ E.nA
  · simp [q]
  · simp [q]
theorem zc_expense (h10 : E.nM ≤ 10) (hc : zCls E nA nM deaf kind cost joy fol code rf rt) {m : Nat} (hm : m < E.nM) : fX1_expense kind cost (zJ m) = some (zexp E m) := by
  unfold fX1_expense zexp
  have im : inb (zJ m) 10 = true := zinb (by omega) (by omega)
  rw [ck_t im, ck_t im, ck_t im, zJ_ix (by omega), hc.kind m hm, hc.cost m hm]
  split <;> rfl
theorem zc_pleasure (h10 : E.nM ≤ 10) (hc : zCls E nA nM deaf kind cost joy fol code rf rt) {m : Nat} (hm : m < E.nM) : fX1_pleasure kind joy (zJ m) = some (zple E m) := by
  unfold fX1_pleasure zple
  have im : inb (zJ m) 10 = true := zinb (by omega) (by omega)
  rw [ck_t im, ck_t im, ck_t im, zJ_ix (by omega), hc.kind m hm, hc.joy m hm]
  split <;> rfl
theorem zc_would (hE : zEok E) (hc : zCls E nA nM deaf kind cost joy fol code rf rt) {lean : Nat → Int32} (hl : ∀ a, a < E.nA → lean a = t.lean a) {m : Nat} (hm : m < E.nM) {said : Int32} : zOk (fX2_wouldPass V S nA deaf kind cost joy code rf rt t.treas t.passed lean (zJ m) said) (fun o => o.1 = if zwould E t m said then 1 else 0) := by
  unfold fX2_wouldPass zwould
  refine zOk.eq (zc_expense hE.m10 hc hm) ?_
  refine zOk.ite (fun q => ?_) (fun q => ?_)
  · exact zOk.pure (by simp [q])
  · refine zOk.bind (zc_sup hE hc hl hm) (fun o ho => ?_)
    refine zOk.eq (zc_carries hc) ?_
    rw [ho]
    cases hz : zcarry E (zsup E t m said)
    · exact zOk.pos rfl (zOk.pure (by simp))
    · exact zOk.neg (by decide) (zOk.pure (by simp [q]))
theorem zisP {p k : Int32} : fX7_isPassed p k = some (if zis p k then 1 else 0) := by
  unfold fX7_isPassed zis
  split <;> simp_all
theorem zisM {p k : Int32} : fX9_isOf p k = some (if zis p k then 1 else 0) := by
  unfold fX9_isOf zis
  split <;> simp_all
theorem zc_open (h10 : E.nM ≤ 10) (hc : zCls E nA nM deaf kind cost joy fol code rf rt) {m : Nat} (hm : m < E.nM) {p : Int32} : fX2_mayBeVotedOn fol p (zJ m) = some (if zopen E p m then 1 else 0) := by
  unfold fX2_mayBeVotedOn zopen
  have im : inb (zJ m) 10 = true := zinb (by omega) (by omega)
  rw [ck_t im, zisP, zJ_ix (by omega), hc.fol m hm, zisP]
  cases zis p (zJ m) <;> cases hz : zis p (E.fol m) <;> by_cases q : E.fol m = -1 <;> simp [q]
theorem zc_pass (h10 : E.nM ≤ 10) (hc : zCls E nA nM deaf kind cost joy fol code rf rt) {m : Nat} (hm : m < E.nM) : fX2_pass kind cost joy t.treas t.joy t.passed (zJ m) = some ((zpass E t m).treas, (zpass E t m).joy, (zpass E t m).passed) := by
  unfold fX2_pass
  rw [zc_expense h10 hc hm, zc_pleasure h10 hc hm]
  rfl
end
