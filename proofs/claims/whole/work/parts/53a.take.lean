/-! ===== pure: what the reference takes over ===== -/
theorem ztakeH {h : Nat} (h7 : h ≤ 700) (e2 : Int32.ofNat (2 * h) / 2 = zJ h) {P : Nat → Int32} : ∃ P', fX9_takeHalf (2 * h) P = some P' ∧ ∀ j, j < h → P' j = P (h + j) := by
  have loop : ∀ (k i fuel : Nat) (R : Nat → Int32), k + i = h → k < fuel → (∀ j, j < i → R j = P (h + j)) → (∀ j, h ≤ j → R j = P j) → ∃ P', lX9_takeHalf_2 (fun x => some x) (2 * h) fuel R (zJ i) = some P' ∧ ∀ j, j < h → P' j = P (h + j) := by
    intro k
    induction k with
    | zero =>
      intro i fuel R hi hf h1 h2
      obtain ⟨fuel, rfl, hf⟩ := zfu hf
      refine ⟨R, ?_, fun j hj => h1 j (by omega)⟩
      unfold lX9_takeHalf_2
      rw [e2, if_pos (zJ_yle (by omega) (by omega))]
    | succ k ih =>
      intro i fuel R hi hf h1 h2
      obtain ⟨fuel, rfl, hf⟩ := zfu hf
      unfold lX9_takeHalf_2
      rw [e2, if_neg (zJ_nle (by omega) (by omega)), zJ_add, ck_t (zinb (by omega) (by omega)), ck_t (zinb (by omega) (by omega)), zJ_ix (by omega), zJ_ix (by omega), zJ_succ]
      refine ih (i + 1) fuel _ (by omega) (by omega) (fun j hj => ?_) (fun j hj => ?_)
      · by_cases z : j = i
        · subst z; rw [zupd_eq]; exact h2 _ (by omega)
        · rw [zupd_ne z]; exact h1 j (by omega)
      · rw [zupd_ne (by omega)]; exact h2 j hj
  unfold fX9_takeHalf
  exact loop h 0 FU P (by omega) (by unfold FU; omega) (fun j hj => by omega) (fun j hj => rfl)
theorem ztake7 {P : Nat → Int32} : ∃ P', fX9_takeHalf 14 P = some P' ∧ ∀ j, j < 7 → P' j = P (7 + j) := ztakeH (h := 7) (by omega) (by decide)
theorem ztake10 {P : Nat → Int32} : ∃ P', fX9_takeHalf 20 P = some P' ∧ ∀ j, j < 10 → P' j = P (10 + j) := ztakeH (h := 10) (by omega) (by decide)
theorem ztake700 {P : Nat → Int32} : ∃ P', fX9_takeHalf 1400 P = some P' ∧ ∀ j, j < 700 → P' j = P (700 + j) := ztakeH (h := 700) (by omega) (by decide)
theorem zAt_sh {c c' : Nat → Int32} (h : ∀ j, j < 700 → c' j = c (700 + j)) : ∀ (L : List Int32) (f : Nat), f + L.length ≤ 700 → zAt c (700 + f) L → zAt c' f L
  | [], _, _, _ => trivial
  | w :: L, f, hf, ⟨h1, h2⟩ => by
    have hl : (w :: L).length = L.length + 1 := rfl
    exact ⟨by rw [h f (by omega)]; exact h1, zAt_sh h L (f + 1) (by omega) h2⟩
section
theorem ztakeL {kk : (Nat → Int32) → Option (Int32 × Int32 × Int32 × Int32 × Int32 × Int32 × Int32 × Int32 × Int32 × Int32 × (Nat → Int32) × (Nat → Int32) × (Nat → Int32) × (Nat → Int32) × (Nat → Int32) × (Nat → Int32) × (Nat → Int32) × (Nat → Int32) × (Nat → Int32) × (Nat → Int32) × (Nat → Int32) × (Nat → Int32))} {Q : (Int32 × Int32 × Int32 × Int32 × Int32 × Int32 × Int32 × Int32 × Int32 × Int32 × (Nat → Int32) × (Nat → Int32) × (Nat → Int32) × (Nat → Int32) × (Nat → Int32) × (Nat → Int32) × (Nat → Int32) × (Nat → Int32) × (Nat → Int32) × (Nat → Int32) × (Nat → Int32) × (Nat → Int32)) → Prop} {t lt : Nat → Int32} {N : Nat} (hN : N ≤ 7) (ht : t 3 = zJ N) : ∀ (k i fuel : Nat) (le : Nat → Int32), k + i = 7 → k < fuel → (∀ j, j < i → j < N → le j = lt j) → (∀ le', (∀ j, j < N → le' j = lt j) → zOk (kk le') Q) → zOk (lX9_takeOver_122 kk t lt fuel le (zJ i)) Q := by
  intro k
  have e3 : t (3 : Int32).toNatClampNeg = zJ N := ht
  induction k with
  | zero =>
    intro i fuel le hi hf h1 h2
    obtain ⟨fuel, rfl, hf⟩ := zfu hf
    unfold lX9_takeOver_122
    refine zOk.pos (show (7 : Int32) ≤ zJ i from zJ_yle (a := 7) (by omega) (by omega)) (h2 le (fun j hj => h1 j (by omega) hj))
  | succ k ih =>
    intro i fuel le hi hf h1 h2
    obtain ⟨fuel, rfl, hf⟩ := zfu hf
    unfold lX9_takeOver_122
    rw [e3]
    refine zOk.neg (show ¬ (7 : Int32) ≤ zJ i from zJ_nle (a := 7) (by omega) (by omega)) (zOk.ck (by decide) (zOk.ite (fun z => ?_) (fun z => ?_)))
    · have z := (zJ_le (by omega) (by omega)).1 z
      refine zOk.ck (zinb (by omega) (by omega)) ?_
      rw [zJ_succ, zJ_ix (by omega)]
      exact ih (i + 1) fuel _ (by omega) (by omega) (fun j hj hjN => by rw [zupd_ne (by omega)]; exact h1 j (by omega) hjN) h2
    · refine zOk.ck (zinb (by omega) (by omega)) (zOk.ck (zinb (by omega) (by omega)) ?_)
      rw [zJ_succ, zJ_ix (by omega)]
      refine ih (i + 1) fuel _ (by omega) (by omega) (fun j hj hjN => ?_) h2
      by_cases y : j = i
      · subst y; rw [zupd_eq]
      · rw [zupd_ne y]; exact h1 j (by omega) hjN
theorem ztakeC {kk : (Nat → Int32) → Option (Int32 × Int32 × Int32 × Int32 × Int32 × Int32 × Int32 × Int32 × Int32 × Int32 × (Nat → Int32) × (Nat → Int32) × (Nat → Int32) × (Nat → Int32) × (Nat → Int32) × (Nat → Int32) × (Nat → Int32) × (Nat → Int32) × (Nat → Int32) × (Nat → Int32) × (Nat → Int32) × (Nat → Int32))} {Q : (Int32 × Int32 × Int32 × Int32 × Int32 × Int32 × Int32 × Int32 × Int32 × Int32 × (Nat → Int32) × (Nat → Int32) × (Nat → Int32) × (Nat → Int32) × (Nat → Int32) × (Nat → Int32) × (Nat → Int32) × (Nat → Int32) × (Nat → Int32) × (Nat → Int32) × (Nat → Int32) × (Nat → Int32)) → Prop} {t lt : Nat → Int32} {N : Nat} (hN : N ≤ 10) (ht : t 4 = zJ N) : ∀ (k i fuel : Nat) (le : Nat → Int32), k + i = 10 → k < fuel → (∀ j, j < i → j < N → le j = lt j) → (∀ le', (∀ j, j < N → le' j = lt j) → zOk (kk le') Q) → zOk (lX9_takeOver_162 kk t lt fuel le (zJ i)) Q := by
  intro k
  have e3 : t (4 : Int32).toNatClampNeg = zJ N := ht
  induction k with
  | zero =>
    intro i fuel le hi hf h1 h2
    obtain ⟨fuel, rfl, hf⟩ := zfu hf
    unfold lX9_takeOver_162
    refine zOk.pos (show (10 : Int32) ≤ zJ i from zJ_yle (a := 10) (by omega) (by omega)) (h2 le (fun j hj => h1 j (by omega) hj))
  | succ k ih =>
    intro i fuel le hi hf h1 h2
    obtain ⟨fuel, rfl, hf⟩ := zfu hf
    unfold lX9_takeOver_162
    rw [e3]
    refine zOk.neg (show ¬ (10 : Int32) ≤ zJ i from zJ_nle (a := 10) (by omega) (by omega)) (zOk.ck (by decide) (zOk.ite (fun z => ?_) (fun z => ?_)))
    · have z := (zJ_le (by omega) (by omega)).1 z
      refine zOk.ck (zinb (by omega) (by omega)) ?_
      rw [zJ_succ, zJ_ix (by omega)]
      exact ih (i + 1) fuel _ (by omega) (by omega) (fun j hj hjN => by rw [zupd_ne (by omega)]; exact h1 j (by omega) hjN) h2
    · refine zOk.ck (zinb (by omega) (by omega)) (zOk.ck (zinb (by omega) (by omega)) ?_)
      rw [zJ_succ, zJ_ix (by omega)]
      refine ih (i + 1) fuel _ (by omega) (by omega) (fun j hj hjN => ?_) h2
      by_cases y : j = i
      · subst y; rw [zupd_eq]
      · rw [zupd_ne y]; exact h1 j (by omega) hjN
end
theorem zhead {kk : (Nat → Int32) → Option (Int32 × Int32 × Int32 × Int32 × Int32 × Int32 × Int32 × Int32 × Int32 × Int32 × Int32 × Int32 × Int32 × Int32 × Int32 × Int32 × Int32 × Int32 × Int32 × Int32 × Int32 × Int32 × Int32 × Int32 × (Nat → Int32) × (Nat → Int32) × (Nat → Int32) × (Nat → Int32) × (Nat → Int32) × (Nat → Int32) × (Nat → Int32) × (Nat → Int32) × (Nat → Int32) × (Nat → Int32) × (Nat → Int32) × (Nat → Int32) × (Nat → Int32))} {t : Nat → Int32} : lX9_borough_50 kk FU t 0 = kk (upd (upd (upd (upd (upd (upd (upd t 7 20) 8 24) 9 100) 10 0) 11 0) 12 0) 13 0) := by
  obtain ⟨f, ef⟩ : ∃ f, FU = f + 8 := ⟨FU - 8, by unfold FU; omega⟩
  rw [ef]
  rfl
