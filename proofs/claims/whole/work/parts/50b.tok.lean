/-! ===== pure: words; what a TOKEN of the class says of the reference's ===== -/
def zwl : List Nat := [17, 20, 0, 1, 2, 18, 19, 16, 15, 14, 13, 3, 4, 5, 6, 7, 8, 9, 10, 11, 12]
/-- the class's number of a word of the reference -/
def zkn (i : Nat) : Nat := [15, 16, 17, 24, 25, 26, 27, 28, 29, 30, 31, 32, 33, 23, 22, 21, 20, 13, 18, 19, 14].getD i 0
def zkd (i : Nat) : Int32 := zJ (zkn i)
def zsegs : List Nat → Nat → Nat → Bool
  | [], q, _ => decide (q = sN 22)
  | i :: l, q, κ => decide (i < 21) && decide (zkn i = κ) && ((List.range (sN i)).all fun j => decide (sB 22 (q + j) = sB i j) && decide (¬ sB i j = 32)) && decide (sB 22 (q + sN i) = 32) && decide (q + sN i < sN 22) && zsegs l (q + sN i + 1) (κ + 1)
set_option maxRecDepth 20000 in
theorem zsegs_ok : zsegs zwl 0 13 = true := by decide +kernel
set_option maxRecDepth 20000 in
theorem zlen_ok : ∀ i : Fin 33, fJ0_length_8abf5 i.1 = some (zJ (sN i.1)) := by decide +kernel
set_option maxRecDepth 20000 in
theorem zchar_ok : ∀ i : Fin 23, ∀ j : Fin 120, j.1 < sN i.1 → fJ0_charAt_5068e i.1 (zJ j.1) = some (sB i.1 j.1) := by decide +kernel
set_option maxRecDepth 20000 in
theorem zsN_le : ∀ i : Fin 23, sN i.1 ≤ 111 := by decide +kernel
set_option maxRecDepth 20000 in
theorem zuniq_ok : ∀ i : Fin 21, ∀ i' : Fin 21, sN i.1 = sN i'.1 → (∀ j : Fin 10, j.1 < sN i.1 → sB i.1 j.1 = sB i'.1 j.1) → i.1 = i'.1 := by decide +kernel
set_option maxRecDepth 20000 in
theorem zs10 : ∀ i : Fin 21, sN i.1 ≤ 10 ∧ ∀ j : Fin 10, j.1 < sN i.1 → ∃ c : Fin 128, sB i.1 j.1 = zJ c.1 := by decide +kernel
theorem zlen {i : Nat} (h : i < 33) : fJ0_length_8abf5 i = some (zJ (sN i)) := zlen_ok ⟨i, h⟩
theorem zchar {i j : Nat} (h : i < 23) (hj : j < sN i) : fJ0_charAt_5068e i (zJ j) = some (sB i j) := by
  have := zsN_le ⟨i, h⟩
  have : sN i ≤ 111 := this
  exact zchar_ok ⟨i, h⟩ ⟨j, by omega⟩ hj
/-- the letters from s to e are that word -/
abbrev zmt (b : Nat → Int32) (s e i : Nat) : Prop := sN i = e - s ∧ ∀ j, j < sN i → b (s + j) = sB i j
theorem zmt_uniq {b : Nat → Int32} {s e i i' : Nat} (hi : i < 21) (hi' : i' < 21) (h : zmt b s e i) (h' : zmt b s e i') : i = i' := by
  refine zuniq_ok ⟨i, hi⟩ ⟨i', hi'⟩ (h.1.trans h'.1.symm) (fun j hj => ?_)
  have hj : j.1 < sN i := hj
  show sB i j.1 = sB i' j.1
  rw [← h.2 j.1 hj, ← h'.2 j.1 (by rw [h'.1, ← h.1]; exact hj)]
section
variable {b r : Nat → Int32} {n s e : Nat}
theorem zl_seg {ke : _} {Q : _} {i q : Nat} {κ : Int32} (hi : i < 21) (h1 : ∀ j, j < sN i → sB 22 (q + j) = sB i j ∧ ¬ sB i j = 32) (h2 : sB 22 (q + sN i) = 32) (h3 : q + sN i < sN 22) (hse : s ≤ e) (he : e ≤ 700) {T : Int32} : ∀ (k j fuel : Nat) (fl : Int32), k + j = sN i → k + 1 < fuel → ((fl = 1 ∧ s + j ≤ e ∧ ∀ x, x < j → b (s + x) = sB i x) ∨ (fl = 0 ∧ ¬ (s + j ≤ e ∧ ∀ x, x < j → b (s + x) = sB i x))) → (∀ f T', f + k + 1 = fuel → ((zmt b s e i ∧ T' = κ) ∨ (¬ zmt b s e i ∧ T' = T)) → zOk (lX5_readLetters_71 ke (zJ e) (zJ s) b f T' (κ + 1) (zJ s) 1 (zJ (q + sN i + 1))) Q) → zOk (lX5_readLetters_71 ke (zJ e) (zJ s) b fuel T κ (zJ (s + j)) fl (zJ (q + j))) Q := by
  have h22 : sN 22 = 111 := rfl
  intro k
  induction k with
  | zero =>
    intro j fuel fl hk hf hfl kk
    obtain ⟨fuel, rfl, hf⟩ := zfu hf
    have hj : j = sN i := by omega
    subst hj
    unfold lX5_readLetters_71
    refine zOk.eq (zlen (by omega)) (zOk.neg (zJ_nle (by omega) (by omega)) ?_)
    refine zOk.eq (zchar (by omega) h3) ?_
    rw [show zJ (q + sN i) + 1 = zJ (q + sN i + 1) from zJ_succ]
    refine zOk.pos h2 ?_
    rcases hfl with ⟨rfl, a1, a2⟩ | ⟨rfl, a1⟩
    · refine zOk.neg (by decide) ?_
      by_cases q : s + sN i = e
      · exact zOk.pos (by rw [q]) (kk fuel _ (by omega) (Or.inl ⟨⟨by omega, a2⟩, rfl⟩))
      · refine zOk.neg (fun z => q ((zJ_inj (by omega) (by omega)).1 z)) (kk fuel _ (by omega) (Or.inr ⟨fun z => q (by have := z.1; omega), rfl⟩))
    · refine zOk.pos rfl (kk fuel _ (by omega) (Or.inr ⟨fun z => a1 ⟨by have := z.1; omega, z.2⟩, rfl⟩))
  | succ k ih =>
    intro j fuel fl hk hf hfl kk
    obtain ⟨fuel, rfl, hf⟩ := zfu hf
    obtain ⟨c1, c2⟩ := h1 j (by omega)
    unfold lX5_readLetters_71
    refine zOk.eq (zlen (by omega)) (zOk.neg (zJ_nle (by omega) (by omega)) ?_)
    refine zOk.eq (zchar (by omega) (by omega)) ?_
    rw [c1]
    refine zOk.neg c2 ?_
    rw [show zJ (q + j) + 1 = zJ (q + (j + 1)) from zJ_succ, show zJ (s + j) + 1 = zJ (s + (j + 1)) from zJ_succ]
    have ih' := fun fl h => ih (j + 1) fuel fl (by omega) (by omega) h (fun f T' hf h => kk f T' (by omega) h)
    rcases hfl with ⟨rfl, a1, a2⟩ | ⟨rfl, a1⟩
    · refine zOk.neg (by decide) ?_
      by_cases q : e ≤ s + j
      · refine zOk.pos (zJ_yle q (by omega)) (ih' _ (Or.inr ⟨rfl, fun z => by omega⟩))
      · refine zOk.neg (zJ_nle (by omega) (by omega)) ?_
        rw [ck_t (zinb (by omega) (by omega)), zJ_ix (by omega)]
        refine zOk.ite (fun q2 => ih' _ (Or.inl ⟨rfl, by omega, fun x hx => ?_⟩)) (fun q2 => ih' _ (Or.inr ⟨rfl, fun z => q2 (z.2 j (by omega))⟩))
        by_cases qx : x = j
        · rw [qx]; exact q2
        · exact a2 x (by omega)
    · refine zOk.pos rfl (ih' _ (Or.inr ⟨rfl, fun z => a1 ⟨by omega, fun x hx => z.2 x (by omega)⟩⟩))
theorem zl_words {ke : _} {Q : _} (hse : s ≤ e) (he : e ≤ 700) : ∀ (l : List Nat) (q κ fuel : Nat) (T : Int32), zsegs l q κ = true → 112 - q < fuel → (∀ T', ((T' = T ∧ ∀ i, i ∈ l → ¬ zmt b s e i) ∨ (∃ i, i ∈ l ∧ i < 21 ∧ zmt b s e i ∧ T' = zkd i)) → zOk (ke T') Q) → zOk (lX5_readLetters_71 ke (zJ e) (zJ s) b fuel T (zJ κ) (zJ s) 1 (zJ q)) Q := by
  have h22 : sN 22 = 111 := rfl
  intro l
  induction l with
  | nil =>
    intro q κ fuel T hz hf kk
    obtain ⟨fuel, rfl, hf⟩ := zfu hf
    unfold zsegs at hz
    have hz := of_decide_eq_true hz
    unfold lX5_readLetters_71
    refine zOk.eq (zlen (by omega)) (zOk.pos (zJ_yle (by omega) (by omega)) (kk T (Or.inl ⟨rfl, fun i hi => by cases hi⟩)))
  | cons i l ih =>
    intro q κ fuel T hz hf kk
    unfold zsegs at hz
    simp only [Bool.and_eq_true, decide_eq_true_eq, List.all_eq_true, List.mem_range] at hz
    obtain ⟨⟨⟨⟨⟨hi, hκ⟩, hs⟩, h32⟩, hlt⟩, hrest⟩ := hz
    refine zl_seg (b := b) (s := s) (e := e) (i := i) (q := q) (κ := zJ κ) hi hs h32 hlt hse he (sN i) 0 fuel 1 (by omega) (by omega) (Or.inl ⟨rfl, hse, fun x hx => by omega⟩) (fun f T' hf' hT' => ?_)
    rw [show zJ κ + 1 = zJ (κ + 1) from zJ_succ]
    refine ih _ _ f T' hrest (by omega) (fun T2 h2 => kk T2 ?_)
    rcases h2 with ⟨e2, hno⟩ | ⟨i2, m2, l2, mt2, e2⟩
    · rcases hT' with ⟨m1, e1⟩ | ⟨m1, e1⟩
      · exact Or.inr ⟨i, List.mem_cons_self, hi, m1, by rw [e2, e1]; unfold zkd; rw [hκ]⟩
      · refine Or.inl ⟨e2.trans e1, fun x hx => ?_⟩
        rcases List.mem_cons.1 hx with rfl | hx
        · exact m1
        · exact hno x hx
    · exact Or.inr ⟨i2, List.mem_cons_of_mem _ m2, l2, mt2, e2⟩
theorem zwl_all : ∀ i : Fin 21, i.1 ∈ zwl := by decide
theorem zkd_inj : ∀ i : Fin 21, ∀ i' : Fin 21, zkd i.1 = zkd i'.1 → i.1 = i'.1 := by decide
theorem zkd_r : ∀ i : Fin 21, 13 ≤ zkd i.1 ∧ zkd i.1 ≤ 33 := by decide
/-- the reference's test of a word -/
theorem zl_is {ke : _} {Q : _} {i : Nat} (hi : i < 21) (hse : s + sN i ≤ 700) (hB : ∀ j, j < sN i → zBy (b (s + j)) (r (s + j))) : ∀ (k j fuel : Nat) (fl : Int32), k + j = sN i → k + 1 < fuel → ((fl = 1 ∧ ∀ x, x < j → b (s + x) = sB i x) ∨ (fl = 0 ∧ ¬ ∀ x, x < sN i → b (s + x) = sB i x)) → zOk (ke (if ∀ x, x < sN i → b (s + x) = sB i x then 1 else 0)) Q → zOk (lX9_is_39 ke i (zJ s) r fuel fl (zJ j)) Q := by
  have hs10 := zs10 ⟨i, hi⟩
  have hs10' : sN i ≤ 10 := hs10.1
  have h33 : i33 i = true := by unfold i33; rw [decide_eq_true_eq]; omega
  intro k
  induction k with
  | zero =>
    intro j fuel fl hk hf hfl kk
    obtain ⟨fuel, rfl, hf⟩ := zfu hf
    unfold lX9_is_39
    rw [ck_t h33]
    rcases hfl with ⟨rfl, a⟩ | ⟨rfl, a⟩
    · refine zOk.neg (by decide) (zOk.eq (zlen (by omega)) (zOk.pos (zJ_yle (by omega) (by omega)) ?_))
      rw [if_pos (by rw [show sN i = j by omega]; exact a)] at kk
      exact kk
    · rw [if_neg a] at kk
      exact zOk.pos rfl kk
  | succ k ih =>
    intro j fuel fl hk hf hfl kk
    obtain ⟨fuel, rfl, hf⟩ := zfu hf
    unfold lX9_is_39
    rw [ck_t h33]
    rcases hfl with ⟨rfl, a⟩ | ⟨rfl, a⟩
    · refine zOk.neg (by decide) (zOk.eq (zlen (by omega)) (zOk.neg (zJ_nle (by omega) (by omega)) (zOk.eq (zchar (by omega) (by omega)) ?_)))
      rw [zJ_add, ck_t (zinb (by omega) (by omega)), zJ_ix (by omega), show zJ j + 1 = zJ (j + 1) from zJ_succ]
      obtain ⟨c, hc⟩ := hs10.2 ⟨j, by omega⟩ (show j < sN i by omega)
      have hc : sB i j = zJ c.1 := hc
      have hq := zby_eq (hB j (by omega)) c.2
      rw [← hc] at hq
      refine zOk.ite (fun z => ih _ _ _ (by omega) (by omega) (Or.inl ⟨rfl, fun x hx => ?_⟩) kk) (fun z => ih _ _ _ (by omega) (by omega) (Or.inr ⟨rfl, fun y => z (hq.1 (y j (by omega))).symm⟩) kk)
      by_cases qx : x = j
      · rw [qx]; exact hq.2 z.symm
      · exact a x (by omega)
    · rw [if_neg a] at kk
      exact zOk.pos rfl kk
theorem zm_is {i : Nat} (hi : i < 21) (hn : n ≤ 700) (hse : s ≤ e) (hen : e ≤ n) (hB : ∀ i, i < n → zBy (b i) (r i)) : fX9_is i 1 (zJ s) (zJ e) 0 r = some (if zmt b s e i then 1 else 0) := by
  have h33 : i33 i = true := by unfold i33; rw [decide_eq_true_eq]; omega
  have hs10 : sN i ≤ 10 := (zs10 ⟨i, hi⟩).1
  have key : zOk (fX9_is i 1 (zJ s) (zJ e) 0 r) (fun o => o = if zmt b s e i then 1 else 0) := by
    unfold fX9_is
    rw [ck_t h33]
    refine zOk.pos rfl (zOk.pos rfl (zOk.eq (zlen (by omega)) ?_))
    rw [zJ_sub hse]
    by_cases q : sN i = e - s
    · refine zOk.pos (by rw [q]) ?_
      unfold jX9_is_36
      rw [ck_t h33]
      refine zl_is (b := b) (s := s) hi (by omega) (fun j hj => hB _ (by omega)) (sN i) 0 FU 1 (by omega) (by unfold FU; omega) (Or.inl ⟨rfl, fun x hx => by omega⟩) ?_
      by_cases a : ∀ x, x < sN i → b (s + x) = sB i x
      · rw [if_pos a, if_pos ⟨q, a⟩]
        exact zOk.ck (by decide) (zOk.pure rfl)
      · rw [if_neg a, if_neg (fun z => a z.2)]
        exact zOk.ck (by decide) (zOk.pure rfl)
    · refine zOk.neg (fun z => q ((zJ_inj (by omega) (by omega)).1 z)) ?_
      unfold jX9_is_35 jX9_is_36
      rw [ck_t h33, ck_t h33]
      unfold FU lX9_is_39
      rw [ck_t h33, if_neg (show ¬ zmt b s e i from fun z => q z.1)]
      exact zOk.pos rfl (zOk.ck (by decide) (zOk.pure rfl))
  obtain ⟨o, e1, e2⟩ := key
  rw [e1, e2]
/-- no word: the reference's test says no -/
theorem zm_isN {i : Nat} {tk beg stp bad : Int32} (hi : i < 21) (h : ¬ (bad = 0 ∧ tk = 1)) : fX9_is i tk beg stp bad r = some 0 := by
  have h33 : i33 i = true := by unfold i33; rw [decide_eq_true_eq]; omega
  have fin : jX9_is_35 i beg r = some 0 := by
    unfold jX9_is_35 jX9_is_36
    rw [ck_t h33, ck_t h33]
    unfold FU lX9_is_39
    rw [ck_t h33, if_pos rfl, ck_t (by decide)]
  unfold fX9_is
  rw [ck_t h33]
  by_cases q : bad = 0
  · rw [if_pos q]
    by_cases q2 : tk = 1
    · exact absurd ⟨q, q2⟩ h
    · rw [if_neg q2]; exact fin
  · rw [if_neg q]; exact fin
end
