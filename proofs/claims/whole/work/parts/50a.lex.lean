/-! ===== pure: the TOKENS, of the class and of the reference ===== -/
abbrev zBy (x y : Int32) : Prop := (∃ c, c < 128 ∧ x = zJ c ∧ y = zJ c) ∨ (x < 0 ∧ 127 < y)
def zsk (b : Nat → Int32) : Nat → Nat → Nat
  | 0, p => p
  | k + 1, p => if b p = 32 then zsk b k (p + 1) else if b p = 10 then zsk b k (p + 1) else p
def zlt (b : Nat → Int32) : Nat → Nat → Nat
  | 0, p => p
  | k + 1, p => if b p < 97 then p else if 122 < b p then p else zlt b k (p + 1)
def zdg (b : Nat → Int32) : Nat → Nat → Nat
  | 0, p => p
  | k + 1, p => if b p < 48 then p else if 57 < b p then p else zdg b k (p + 1)
theorem zsk_r {b : Nat → Int32} : ∀ k p, p ≤ zsk b k p ∧ zsk b k p ≤ p + k
  | 0, p => ⟨Nat.le_refl _, Nat.le_refl _⟩
  | k + 1, p => by
    have := zsk_r (b := b) k (p + 1)
    unfold zsk
    repeat' split
    all_goals omega
theorem zsk_nb {b : Nat → Int32} : ∀ k p, zsk b k p < p + k → ¬ b (zsk b k p) = 32 ∧ ¬ b (zsk b k p) = 10
  | 0, p, h => by unfold zsk at h; omega
  | k + 1, p, h => by
    have ih := zsk_nb (b := b) k (p + 1)
    unfold zsk at h ⊢
    split at h
    · rename_i q; rw [if_pos q]; exact ih (by omega)
    · rename_i q
      rw [if_neg q]
      split at h
      · rename_i q2; rw [if_pos q2]; exact ih (by omega)
      · rename_i q2; rw [if_neg q2]; exact ⟨q, q2⟩
theorem zlt_r {b : Nat → Int32} : ∀ k p, p ≤ zlt b k p ∧ zlt b k p ≤ p + k
  | 0, p => ⟨Nat.le_refl _, Nat.le_refl _⟩
  | k + 1, p => by
    have := zlt_r (b := b) k (p + 1)
    unfold zlt
    repeat' split
    all_goals omega
theorem zdg_r {b : Nat → Int32} : ∀ k p, p ≤ zdg b k p ∧ zdg b k p ≤ p + k
  | 0, p => ⟨Nat.le_refl _, Nat.le_refl _⟩
  | k + 1, p => by
    have := zdg_r (b := b) k (p + 1)
    unfold zdg
    repeat' split
    all_goals omega
/-- the NUMBER of so many digits -/
def znum (b : Nat → Int32) (s : Nat) : Nat → Nat
  | 0 => 0
  | k + 1 => 10 * znum b s k + ((b (s + k)).toNatClampNeg - 48)
theorem zby_dig {x : Int32} (h : ¬ x < 48) (h2 : ¬ 57 < x) : ∃ c, c ≤ 9 ∧ x = zJ (48 + c) := by
  obtain ⟨c, hc, e⟩ := zof_le (x := x) (k := 57) (by grind) (by omega) (by show x ≤ 57; grind)
  have : 48 ≤ c := by
    rcases Nat.lt_or_ge c 48 with q | q
    · exact absurd (by rw [e]; exact zJ_ylt (b := 48) q (by omega)) h
    · exact q
  exact ⟨c - 48, by omega, by rw [e]; congr 1; omega⟩
section
variable {b r : Nat → Int32} {n s : Nat}
theorem zl_skipC {ke : _} {Q : _} (hn : n ≤ 700) : ∀ (k p fuel : Nat), k + p = n → k < fuel → zOk (ke (zJ (zsk b k p))) Q → zOk (lX5_nextToken_0 ke (zJ n) b fuel (zJ p)) Q := by
  intro k
  induction k with
  | zero =>
    intro p fuel hk hf kk
    obtain ⟨fuel, rfl, hf⟩ := zfu hf
    unfold lX5_nextToken_0
    exact zOk.pos (zJ_yle (by omega) (by omega)) kk
  | succ k ih =>
    intro p fuel hk hf kk
    obtain ⟨fuel, rfl, hf⟩ := zfu hf
    unfold lX5_nextToken_0
    refine zOk.neg (zJ_nle (by omega) (by omega)) ?_
    rw [ck_t (zinb (by omega) (by omega)), zJ_ix (by omega), ck_t (zinb (by omega) (by omega)), show zJ p + (1 : Int32) = zJ (p + 1) from zJ_succ]
    unfold zsk at kk
    refine zOk.ite (fun q => ?_) (fun q => ?_)
    · rw [if_pos q] at kk; exact ih _ _ (by omega) (by omega) kk
    · rw [if_neg q] at kk
      refine zOk.ite (fun q => ?_) (fun q => ?_)
      · rw [if_pos q] at kk; exact ih _ _ (by omega) (by omega) kk
      · rw [if_neg q] at kk; exact kk
theorem zm_byte {p : Nat} (hn : n ≤ 700) (hp : p < n) : fX9_byteAt (zJ n) r (zJ p) = some (r p) := by
  unfold fX9_byteAt
  rw [if_neg (zJ_nle (by omega) (by omega)), ck_t (zinb (by omega) (by omega)), zJ_ix (by omega)]
theorem zm_byteE {p : Nat} (hn : n ≤ 700) (hp : n ≤ p) (hp2 : p < 2147483648) : fX9_byteAt (zJ n) r (zJ p) = some (-1) := by
  unfold fX9_byteAt
  rw [if_pos (zJ_yle (by omega) (by omega))]
theorem zby_eq {x y : Int32} (h : zBy x y) {c : Nat} (hc : c < 128) : x = zJ c ↔ y = zJ c := by
  rcases h with ⟨d, hd, rfl, rfl⟩ | ⟨h1, h2⟩
  · exact Iff.rfl
  · constructor
    · intro q; rw [q] at h1; exact absurd h1 (zJ_nn (by omega))
    · intro q; rw [q] at h2; exact absurd h2 (zJ_nlt (a := 127) (by omega) (by omega))
theorem zby_lt {x y : Int32} (h : zBy x y) {c d : Nat} (hc : c < 128) (hd : d < 128) (hcd : c ≤ d) : (x < zJ c ∨ zJ d < x) ↔ (y < zJ c ∨ zJ d < y) := by
  rcases h with ⟨d, hd, rfl, rfl⟩ | ⟨h1, h2⟩
  · exact Iff.rfl
  · constructor
    · intro _
      right
      have : zJ d ≤ 127 := zJ_yle (b := 127) (by omega) (by omega)
      grind
    · intro _
      left
      have : 0 ≤ zJ c := zJ_yle (a := 0) (by omega) (by omega)
      grind
theorem zl_skipM {ke : _} {Q : _} (hn : n ≤ 700) (hB : ∀ i, i < n → zBy (b i) (r i)) : ∀ (k p fuel : Nat), k + p = n → k < fuel → zOk (ke (zJ (zsk b k p))) Q → zOk (lX9_stepOn_0 ke (zJ n) r fuel (zJ p)) Q := by
  intro k
  induction k with
  | zero =>
    intro p fuel hk hf kk
    obtain ⟨fuel, rfl, hf⟩ := zfu hf
    unfold lX9_stepOn_0
    refine zOk.eq (zm_byteE (by omega) (by omega) (by omega)) (zOk.neg (by decide) ?_)
    exact zOk.eq (zm_byteE (by omega) (by omega) (by omega)) (zOk.neg (by decide) kk)
  | succ k ih =>
    intro p fuel hk hf kk
    obtain ⟨fuel, rfl, hf⟩ := zfu hf
    unfold lX9_stepOn_0
    have h1 : b p = 32 ↔ r p = 32 := zby_eq (hB p (by omega)) (c := 32) (by omega)
    have h2 : b p = 10 ↔ r p = 10 := zby_eq (hB p (by omega)) (c := 10) (by omega)
    rw [show zJ p + (1 : Int32) = zJ (p + 1) from zJ_succ]
    unfold zsk at kk
    refine zOk.eq (zm_byte (by omega) (by omega)) (zOk.ite (fun q => ?_) (fun q => ?_))
    · rw [if_pos (h1.2 q)] at kk; exact ih _ _ (by omega) (by omega) kk
    · rw [if_neg (fun z => q (h1.1 z))] at kk
      refine zOk.eq (zm_byte (by omega) (by omega)) (zOk.ite (fun q => ?_) (fun q => ?_))
      · rw [if_pos (h2.2 q)] at kk; exact ih _ _ (by omega) (by omega) kk
      · rw [if_neg (fun z => q (h2.1 z))] at kk; exact kk
theorem zl_letC {ke : _} {Q : _} (hn : n ≤ 700) : ∀ (k p fuel : Nat), k + p = n → k < fuel → zOk (ke (zJ (zlt b k p))) Q → zOk (lX5_readLetters_0 ke (zJ n) b fuel (zJ p)) Q := by
  intro k
  induction k with
  | zero =>
    intro p fuel hk hf kk
    obtain ⟨fuel, rfl, hf⟩ := zfu hf
    unfold lX5_readLetters_0
    exact zOk.pos (zJ_yle (by omega) (by omega)) kk
  | succ k ih =>
    intro p fuel hk hf kk
    obtain ⟨fuel, rfl, hf⟩ := zfu hf
    unfold lX5_readLetters_0
    refine zOk.neg (zJ_nle (by omega) (by omega)) ?_
    rw [ck_t (zinb (by omega) (by omega)), zJ_ix (by omega), ck_t (zinb (by omega) (by omega)), show zJ p + (1 : Int32) = zJ (p + 1) from zJ_succ]
    unfold zlt at kk
    refine zOk.ite (fun q => ?_) (fun q => ?_)
    · rw [if_pos q] at kk; exact kk
    · rw [if_neg q] at kk
      refine zOk.ite (fun q => ?_) (fun q => ?_)
      · rw [if_pos q] at kk; exact kk
      · rw [if_neg q] at kk; exact ih _ _ (by omega) (by omega) kk
theorem zm_isLet {y : Int32} : fX9_isLetter y = some (if y < 97 ∨ 122 < y then 0 else 1) := by
  unfold fX9_isLetter
  by_cases q : y < 97
  · rw [if_pos q, if_pos (Or.inl q)]
  · rw [if_neg q]
    by_cases q2 : 122 < y
    · rw [if_pos q2, if_pos (Or.inr q2)]
    · rw [if_neg q2, if_neg (by rintro (z | z); exact q z; exact q2 z)]
theorem zm_isDig {y : Int32} : fX9_isDigit y = some (if y < 48 ∨ 57 < y then 0 else 1) := by
  unfold fX9_isDigit
  by_cases q : y < 48
  · rw [if_pos q, if_pos (Or.inl q)]
  · rw [if_neg q]
    by_cases q2 : 57 < y
    · rw [if_pos q2, if_pos (Or.inr q2)]
    · rw [if_neg q2, if_neg (by rintro (z | z); exact q z; exact q2 z)]
theorem zl_letM {ke : _} {Q : _} (hn : n ≤ 700) (hB : ∀ i, i < n → zBy (b i) (r i)) : ∀ (k p fuel : Nat), k + p = n → k < fuel → zOk (ke (zJ (zlt b k p))) Q → zOk (lX9_stepOn_76 ke (zJ n) r fuel (zJ p)) Q := by
  intro k
  induction k with
  | zero =>
    intro p fuel hk hf kk
    obtain ⟨fuel, rfl, hf⟩ := zfu hf
    unfold lX9_stepOn_76
    refine zOk.eq (zm_byteE (by omega) (by omega) (by omega)) (zOk.eq zm_isLet ?_)
    exact zOk.pos (by decide) kk
  | succ k ih =>
    intro p fuel hk hf kk
    obtain ⟨fuel, rfl, hf⟩ := zfu hf
    unfold lX9_stepOn_76
    have h1 := zby_lt (hB p (by omega)) (c := 97) (d := 122) (by omega) (by omega) (by omega)
    have h1 : (b p < 97 ∨ 122 < b p) ↔ (r p < 97 ∨ 122 < r p) := h1
    rw [show zJ p + (1 : Int32) = zJ (p + 1) from zJ_succ]
    unfold zlt at kk
    refine zOk.eq (zm_byte (by omega) (by omega)) (zOk.eq zm_isLet ?_)
    by_cases q : b p < 97
    · rw [if_pos q] at kk
      rw [if_pos (h1.1 (Or.inl q))]
      exact zOk.pos rfl kk
    · rw [if_neg q] at kk
      by_cases q2 : 122 < b p
      · rw [if_pos q2] at kk
        rw [if_pos (h1.1 (Or.inr q2))]
        exact zOk.pos rfl kk
      · rw [if_neg q2] at kk
        rw [if_neg (show ¬ (r p < 97 ∨ 122 < r p) from fun z => by rcases h1.2 z with z | z; exact q z; exact q2 z)]
        exact zOk.neg (by decide) (ih _ _ (by omega) (by omega) kk)
theorem znum_step {p c : Nat} (hsp : s ≤ p) (e : b p = zJ (48 + c)) (hc : c ≤ 9) : znum b s (p + 1 - s) = 10 * znum b s (p - s) + c := by
  rw [show p + 1 - s = (p - s) + 1 by omega]
  show 10 * znum b s (p - s) + ((b (s + (p - s))).toNatClampNeg - 48) = _
  rw [show s + (p - s) = p by omega, e, zJ_ix (by omega)]
  omega
theorem znum_calc {v c : Nat} (hv : v < 100000) (hc : c ≤ 9) : (((10 : Int32) * zJ v) + zJ (48 + c)) - (48 : Int32) = zJ (10 * v + c) := by
  rw [show (10 : Int32) = zJ 10 from rfl, zJ_mul, zJ_add, show (48 : Int32) = zJ 48 from rfl, zJ_sub (by omega)]
  congr 1; omega
theorem zl_digC {ke : _} {Q : _} (hn : n ≤ 700) : ∀ (k p fuel : Nat) (N : Int32), k + p = n → k < fuel → s ≤ p → (∃ v, N = zJ v ∧ (p - s ≤ 4 → v = znum b s (p - s) ∧ v < 10 ^ (p - s)) ∧ (4 ≤ p - s → v = znum b s 4)) → (∀ N v, N = zJ v → (zdg b k p - s ≤ 4 → v = znum b s (zdg b k p - s) ∧ v < 10 ^ (zdg b k p - s)) → zOk (ke (zJ (zdg b k p)) N) Q) → zOk (lX5_readDigits_5 ke (zJ n) (zJ s) b fuel (zJ p) N) Q := by
  intro k
  induction k with
  | zero =>
    intro p fuel N hk hf hsp hN kk
    obtain ⟨fuel, rfl, hf⟩ := zfu hf
    unfold lX5_readDigits_5
    obtain ⟨v, e, h1, h2⟩ := hN
    exact zOk.pos (zJ_yle (by omega) (by omega)) (kk N v e h1)
  | succ k ih =>
    intro p fuel N hk hf hsp hN kk
    obtain ⟨fuel, rfl, hf⟩ := zfu hf
    unfold lX5_readDigits_5
    obtain ⟨v, e, h1, h2⟩ := hN
    refine zOk.neg (zJ_nle (by omega) (by omega)) ?_
    rw [ck_t (zinb (by omega) (by omega)), zJ_ix (by omega), ck_t (zinb (by omega) (by omega)), ck_t (zinb (by omega) (by omega)), show zJ p + (1 : Int32) = zJ (p + 1) from zJ_succ]
    unfold zdg at kk
    refine zOk.ite (fun q => ?_) (fun q => ?_)
    · rw [if_pos q] at kk; exact kk N v e h1
    · rw [if_neg q] at kk
      refine zOk.ite (fun q2 => ?_) (fun q2 => ?_)
      · rw [if_pos q2] at kk; exact kk N v e h1
      · rw [if_neg q2] at kk
        obtain ⟨c, hc, ec⟩ := zby_dig q q2
        rw [zJ_sub hsp, ec]
        by_cases q4 : 4 ≤ p - s
        · refine zOk.pos (zJ_yle (a := 4) q4 (by omega)) ?_
          refine ih _ _ N (by omega) (by omega) (by omega) ⟨v, e, fun z => by omega, fun z => h2 q4⟩ kk
        · refine zOk.neg (zJ_nle (a := 4) (by omega) (by omega)) ?_
          obtain ⟨hv, hv2⟩ := h1 (by omega)
          have hp10 : 10 ^ (p - s) ≤ 10 ^ 3 := Nat.pow_le_pow_right (by omega) (by omega)
          have e3 : (10 : Nat) ^ 3 = 1000 := rfl
          rw [e, znum_calc (by omega) hc]
          have hstep := znum_step hsp ec hc
          refine ih _ _ _ (by omega) (by omega) (by omega) ⟨_, rfl, fun z => ⟨by rw [hstep, hv], ?_⟩, fun z => ?_⟩ kk
          · rw [show p + 1 - s = (p - s) + 1 by omega, Nat.pow_succ]; omega
          · rw [← hv] at hstep; rw [show (4 : Nat) = p + 1 - s by omega, hstep]
theorem zl_digM {ke : _} {Q : _} (hn : n ≤ 700) (hB : ∀ i, i < n → zBy (b i) (r i)) : ∀ (k p fuel : Nat) (N : Int32), k + p = n → k < fuel → s ≤ p → (p - s ≤ 4 → ∃ v, N = zJ v ∧ v = znum b s (p - s) ∧ v < 10 ^ (p - s)) → (∀ N, (zdg b k p - s ≤ 4 → ∃ v, N = zJ v ∧ v = znum b s (zdg b k p - s) ∧ v < 10 ^ (zdg b k p - s)) → zOk (ke (zJ (zdg b k p)) N) Q) → zOk (lX9_stepOn_123 ke (zJ n) r fuel (zJ p) N) Q := by
  intro k
  induction k with
  | zero =>
    intro p fuel N hk hf hsp hN kk
    obtain ⟨fuel, rfl, hf⟩ := zfu hf
    unfold lX9_stepOn_123
    refine zOk.eq (zm_byteE (by omega) (by omega) (by omega)) (zOk.eq zm_isDig ?_)
    exact zOk.pos (by decide) (kk N hN)
  | succ k ih =>
    intro p fuel N hk hf hsp hN kk
    obtain ⟨fuel, rfl, hf⟩ := zfu hf
    unfold lX9_stepOn_123
    have h1 := zby_lt (hB p (by omega)) (c := 48) (d := 57) (by omega) (by omega) (by omega)
    have h1 : (b p < 48 ∨ 57 < b p) ↔ (r p < 48 ∨ 57 < r p) := h1
    rw [show zJ p + (1 : Int32) = zJ (p + 1) from zJ_succ]
    unfold zdg at kk
    refine zOk.eq (zm_byte (by omega) (by omega)) (zOk.eq zm_isDig ?_)
    by_cases q : b p < 48
    · rw [if_pos q] at kk
      rw [if_pos (h1.1 (Or.inl q))]
      exact zOk.pos rfl (kk N hN)
    · rw [if_neg q] at kk
      by_cases q2 : 57 < b p
      · rw [if_pos q2] at kk
        rw [if_pos (h1.1 (Or.inr q2))]
        exact zOk.pos rfl (kk N hN)
      · rw [if_neg q2] at kk
        rw [if_neg (show ¬ (r p < 48 ∨ 57 < r p) from fun z => by rcases h1.2 z with z | z; exact q z; exact q2 z)]
        refine zOk.neg (by decide) (zOk.eq (zm_byte (by omega) (by omega)) ?_)
        obtain ⟨c, hc, ec⟩ := zby_dig q q2
        have er : r p = zJ (48 + c) := (zby_eq (hB p (by omega)) (by omega)).1 ec
        rw [er]
        refine ih _ _ _ (by omega) (by omega) (by omega) (fun z => ?_) kk
        obtain ⟨v, e, hv, hv2⟩ := hN (by omega)
        have hp10 : 10 ^ (p - s) ≤ 10 ^ 3 := Nat.pow_le_pow_right (by omega) (by omega)
        have e3 : (10 : Nat) ^ 3 = 1000 := rfl
        have hstep := znum_step hsp ec hc
        refine ⟨10 * v + c, ?_, by rw [hstep, hv], ?_⟩
        · rw [e, znum_calc (by omega) hc]
          exact if_pos (zJ_ylt (b := 100000) (by omega) (by omega))
        · rw [show p + 1 - s = (p - s) + 1 by omega, Nat.pow_succ]; omega
end
