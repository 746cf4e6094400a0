/-! ===== pure: words of Int32, the calculus of Ok ===== -/
abbrev zJ (n : Nat) : Int32 := Int32.ofNat n
theorem zJ_toInt {n : Nat} (h : n < 2147483648) : (zJ n).toInt = n := by
  show (Int32.ofNat n).toInt = n
  rw [Int32.toInt_ofNat', show Int32.size = 4294967296 from rfl, Int.bmod_eq_of_le (by omega) (by omega)]
theorem zJ_ix {n : Nat} (h : n < 2147483648) : (zJ n).toNatClampNeg = n := by
  have := zJ_toInt h
  rw [Int32.toNatClampNeg, this]; rfl
theorem zJ_add {a b : Nat} : zJ a + zJ b = zJ (a + b) := (Int32.ofNat_add a b).symm
theorem zJ_succ {a : Nat} : zJ a + 1 = zJ (a + 1) := (Int32.ofNat_add a 1).symm
theorem zJ_lt {a b : Nat} (h : a < 2147483648) (h' : b < 2147483648) : zJ a < zJ b ↔ a < b := by
  rw [Int32.lt_iff_toInt_lt, zJ_toInt h, zJ_toInt h']; omega
theorem zJ_le {a b : Nat} (h : a < 2147483648) (h' : b < 2147483648) : zJ a ≤ zJ b ↔ a ≤ b := by
  rw [Int32.le_iff_toInt_le, zJ_toInt h, zJ_toInt h']; omega
theorem zJ_inj {a b : Nat} (h : a < 2147483648) (h' : b < 2147483648) : zJ a = zJ b ↔ a = b := by
  rw [← Int32.toInt_inj, zJ_toInt h, zJ_toInt h']; omega
theorem zJ_nn {a : Nat} (h : a < 2147483648) : ¬ zJ a < 0 := by
  rw [Int32.lt_iff_toInt_lt, zJ_toInt h]; show ¬ ((a : Int) < 0); omega
theorem zJ_of {x : Int32} {n : Nat} (h0 : ¬ x < 0) (hn : n < 2147483648) (h1 : x < zJ n) : ∃ i, i < n ∧ x = zJ i := by
  rw [Int32.lt_iff_toInt_lt, zJ_toInt hn] at h1
  rw [Int32.lt_iff_toInt_lt] at h0
  have h0 : ¬ x.toInt < 0 := h0
  refine ⟨x.toInt.toNat, by omega, ?_⟩
  rw [← Int32.toInt_inj, zJ_toInt (by omega)]; omega
theorem zJ_sub {a b : Nat} (h : b ≤ a) : zJ a - zJ b = zJ (a - b) := by
  have e : zJ (a - b) + zJ b = zJ a := by rw [zJ_add]; congr 1; omega
  rw [← e]; grind
theorem zJ_pred {a : Nat} : zJ (a + 1) - 1 = zJ a := by rw [← zJ_succ]; grind
theorem zinb {i n : Nat} (h : i < n) (hn : n ≤ 2147483648) : inb (zJ i) n = true := by
  have := zJ_nn (a := i) (by omega)
  have := zJ_ix (n := i) (by omega)
  unfold inb
  rw [decide_eq_true_eq]
  rintro (q | q)
  · contradiction
  · omega
theorem zinb_of {x : Int32} {n : Nat} (h : inb x n = true) (hn : n ≤ 2147483647) : ∃ i, i < n ∧ x = zJ i := by
  unfold inb at h
  rw [decide_eq_true_eq] at h
  refine zJ_of (fun q => h (Or.inl q)) (by omega) ?_
  rw [Int32.lt_iff_toInt_lt, zJ_toInt (by omega)]
  have : x.toNatClampNeg = x.toInt.toNat := rfl
  omega
def zOk {α : Type} (x : Option α) (P : α → Prop) : Prop := ∃ a, x = some a ∧ P a
theorem zOk.pure {α : Type} {a : α} {P : α → Prop} (h : P a) : zOk (some a) P := ⟨a, rfl, h⟩
theorem zOk.ck {α : Type} {b : Bool} {x : Option α} {P : α → Prop} (h : b = true) (k : zOk x P) : zOk (ck b x) P := by rw [ck_t h]; exact k
theorem zOk.bind {α β : Type} {x : Option α} {g : α → Option β} {P : α → Prop} {Q : β → Prop} (h : zOk x P) (k : ∀ a, P a → zOk (g a) Q) : zOk (x.bind g) Q := by
  obtain ⟨a, rfl, ha⟩ := h
  exact k a ha
theorem zOk.eq {α β : Type} {x : Option α} {a : α} {g : α → Option β} {Q : β → Prop} (h : x = some a) (k : zOk (g a) Q) : zOk (x.bind g) Q := by
  subst h; exact k
theorem zOk.mono {α : Type} {x : Option α} {P Q : α → Prop} (h : zOk x P) (k : ∀ a, P a → Q a) : zOk x Q := by
  obtain ⟨a, e, ha⟩ := h
  exact ⟨a, e, k a ha⟩
theorem zOk.ite {α : Type} {c : Prop} {d : Decidable c} {a b : Option α} {P : α → Prop} (h : c → zOk a P) (k : ¬ c → zOk b P) : zOk (@_root_.ite _ c d a b) P := by
  by_cases q : c
  · rw [if_pos q]; exact h q
  · rw [if_neg q]; exact k q
theorem zOk.pos {α : Type} {c : Prop} {d : Decidable c} {a b : Option α} {P : α → Prop} (q : c) (h : zOk a P) : zOk (@_root_.ite _ c d a b) P := by rw [if_pos q]; exact h
theorem zOk.neg {α : Type} {c : Prop} {d : Decidable c} {a b : Option α} {P : α → Prop} (q : ¬ c) (h : zOk b P) : zOk (@_root_.ite _ c d a b) P := by rw [if_neg q]; exact h
