/-! ===== pure: sets as bits ===== -/
theorem zJ_and {a b : Nat} : zJ a &&& zJ b = zJ (a &&& b) := by
  rw [← Int32.toBitVec_inj, Int32.toBitVec_and]
  exact BitVec.ofNat_and.symm
theorem zJ_or {a b : Nat} : zJ a ||| zJ b = zJ (a ||| b) := by
  rw [← Int32.toBitVec_inj, Int32.toBitVec_or]
  exact BitVec.ofNat_or.symm
set_option maxRecDepth 20000 in
theorem zis_dec : ∀ m : Fin 10, ∀ n : Fin 1024, zis (zJ n.1) (zJ m.1) = n.1.testBit m.1 := by decide +kernel
theorem zis_nat {n m : Nat} (hn : n < 1024) (hm : m < 10) : zis (zJ n) (zJ m) = n.testBit m := zis_dec ⟨m, hm⟩ ⟨n, hn⟩
theorem zbit_eq : ∀ m : Fin 10, zbit m.1 = zJ (2 ^ m.1) := by decide +kernel
theorem zbit_nat {m : Nat} (h : m < 10) : zbit m = zJ (2 ^ m) := zbit_eq ⟨m, h⟩
theorem zor_nat {n m : Nat} (hm : m < 10) : zJ n ||| zbit m = zJ (n ||| 2 ^ m) := by rw [zbit_nat hm, zJ_or]
theorem zor_lt {n m k : Nat} (hn : n < 2 ^ k) (hm : m < k) : n ||| 2 ^ m < 2 ^ k := Nat.or_lt_two_pow hn (Nat.pow_lt_pow_right (by omega) hm)
theorem zis_or {n m i : Nat} (hn : n < 1024) (hm : m < 10) (hi : i < 10) : zis (zJ n ||| zbit m) (zJ i) = (zis (zJ n) (zJ i) || decide (m = i)) := by
  rw [zor_nat hm, zis_nat (zor_lt (k := 10) hn hm) hi, zis_nat hn hi, Nat.testBit_or, Nat.testBit_two_pow]
/-- what is in one set and not in another -/
def zdiff (a b : Nat) : Nat := a &&& (1023 ^^^ b)
theorem zdiff_bit {a b i : Nat} (hi : i < 10) : (zdiff a b).testBit i = (a.testBit i && !b.testBit i) := by
  unfold zdiff
  rw [Nat.testBit_and, Nat.testBit_xor, show 1023 = 2 ^ 10 - 1 from rfl, Nat.testBit_two_pow_sub_one]
  simp [hi]
theorem zdiff_lt {a b : Nat} (h : a < 1024) : zdiff a b < 1024 := Nat.lt_of_le_of_lt Nat.and_le_left h
theorem zandnot {a b : Nat} (ha : a < 1024) : zJ a &&& (zJ b ^^^ (-1 : Int32)) = zJ (zdiff a b) := by
  rw [← Int32.toBitVec_inj, Int32.toBitVec_and, Int32.toBitVec_xor]
  show BitVec.ofNat 32 a &&& (BitVec.ofNat 32 b ^^^ BitVec.allOnes 32) = BitVec.ofNat 32 (a &&& (1023 ^^^ b))
  apply BitVec.eq_of_getLsbD_eq
  intro i hi
  rw [BitVec.getLsbD_and, BitVec.getLsbD_xor, BitVec.getLsbD_ofNat, BitVec.getLsbD_ofNat, BitVec.getLsbD_ofNat, BitVec.getLsbD_allOnes, Nat.testBit_and, Nat.testBit_xor, show 1023 = 2 ^ 10 - 1 from rfl, Nat.testBit_two_pow_sub_one]
  by_cases q : i < 10
  · simp [hi, q]
  · have : a.testBit i = false := Nat.testBit_lt_two_pow (Nat.lt_of_lt_of_le ha (Nat.pow_le_pow_right (n := 2) (i := 10) (by omega) (by omega)))
    simp [this]
theorem zext {a b n : Nat} (ha : a < 2 ^ n) (hb : b < 2 ^ n) (h : ∀ i, i < n → a.testBit i = b.testBit i) : a = b := by
  apply Nat.eq_of_testBit_eq
  intro i
  by_cases q : i < n
  · exact h i q
  · rw [Nat.testBit_lt_two_pow (Nat.lt_of_lt_of_le ha (Nat.pow_le_pow_right (by omega) (by omega))), Nat.testBit_lt_two_pow (Nat.lt_of_lt_of_le hb (Nat.pow_le_pow_right (by omega) (by omega)))]
theorem zbc_or : ∀ m : Fin 10, ∀ n : Fin 1024, n.1.testBit m.1 = false → zbc (zJ n.1 ||| zbit m.1) = zbc (zJ n.1) + 1 := by decide +kernel
theorem zxor_dec : ∀ a : Fin 7, ∀ n : Fin 128, ∃ k : Fin 128, zJ n.1 ^^^ zbit a.1 = zJ k.1 := by decide +kernel
theorem zbc_lt : ∀ a : Fin 8, ∀ n : Fin 128, n.1 < 2 ^ a.1 → ∃ k : Fin 8, k.1 ≤ a.1 ∧ zbc (zJ n.1) = zJ k.1 := by decide +kernel
theorem zones : ∀ n : Fin 11, ((1 : Int32) <<< (zJ n.1 &&& 31)) = zJ (2 ^ n.1) := by decide +kernel
theorem zones' {n : Nat} (h : n ≤ 10) : ((1 : Int32) <<< (zJ n &&& 31)) = zJ (2 ^ n) := zones ⟨n, by omega⟩
theorem zsup_bit {E : zE} {t : zT} {m : Nat} {said : Int32} : ∀ (k : Nat), k ≤ 10 → ∀ a, a < 10 → zis (zsupN E t m said k) (zJ a) = (decide (a < k) && zfor E t.passed a (t.lean a) m said)
  | 0, _, a, ha => by
    show zis (zJ 0) (zJ a) = _
    rw [zis_nat (by omega) ha]; simp
  | k + 1, hk, a, ha => by
    obtain ⟨n, hn, e⟩ := zsupN_r (E := E) (t := t) (m := m) (said := said) k (by omega)
    have ih := zsup_bit (E := E) (t := t) (m := m) (said := said) k (by omega) a ha
    have hn' := zpow hn (show k ≤ 10 by omega)
    have step : zsupN E t m said (k + 1) = if zfor E t.passed k (t.lean k) m said then zsupN E t m said k ||| zbit k else zsupN E t m said k := rfl
    rw [step]
    by_cases q : a = k
    · subst q
      cases hz : zfor E t.passed a (t.lean a) m said
      · rw [if_neg (by decide), ih, hz]; simp
      · rw [if_pos rfl, e, zis_or hn' (by omega) ha]; simp
    · have e1 : decide (a < k + 1) = decide (a < k) := by rw [decide_eq_decide]; omega
      have e2 : decide (k = a) = false := by rw [decide_eq_false_iff_not]; exact fun z => q z.symm
      cases hz : zfor E t.passed k (t.lean k) m said
      · rw [if_neg (by decide), ih, e1]
      · rw [if_pos rfl, e, zis_or hn' (by omega) ha, ← e, ih, e1, e2, Bool.or_false]
/-- what a vote does to the set of those that are passed -/
theorem zvotes_bits {E : zE} (h10 : E.nM ≤ 10) {wo said : Int32} : ∀ (k m : Nat) (t : zT) (n : Nat), k + m = E.nM → n < 2 ^ E.nM → t.passed = zJ n → ∃ n', n' < 2 ^ E.nM ∧ (zvotes E wo said k m t).passed = zJ n' ∧ (∀ i, n.testBit i = true → n'.testBit i = true) ∧ (∀ i, i < 10 → wo = zJ i → n'.testBit i = n.testBit i)
  | 0, m, t, n, _, hn, e => ⟨n, hn, e, fun _ h => h, fun _ _ _ => rfl⟩
  | k + 1, m, t, n, hk, hn, e => by
    have hn' := zpow hn h10
    have step : zvotes E wo said (k + 1) m t = zvotes E wo said k (m + 1) (zvote1 E wo said t m) := rfl
    rw [step]
    by_cases q : (!decide (zJ m = wo) && (decide (t.call m = said) && (zopen E t.passed m && zwould E t m said))) = true
    · have e1 : (zvote1 E wo said t m).passed = zJ (n ||| 2 ^ m) := by
        unfold zvote1
        rw [if_pos q]
        show t.passed ||| zbit m = _
        rw [e, zor_nat (by omega)]
      have hw : ¬ zJ m = wo := by
        intro z
        rw [decide_eq_true z] at q
        exact absurd q (by simp)
      obtain ⟨n', a1, a2, a3, a4⟩ := zvotes_bits h10 k (m + 1) (zvote1 E wo said t m) (n ||| 2 ^ m) (by omega) (zor_lt hn (by omega)) e1
      refine ⟨n', a1, a2, fun i hi => a3 i (by rw [Nat.testBit_or, hi, Bool.true_or]), fun i hi z => ?_⟩
      rw [a4 i hi z, Nat.testBit_or, Nat.testBit_two_pow, decide_eq_false (fun y => hw (by rw [z, y])), Bool.or_false]
    · have e1 : zvote1 E wo said t m = t := by unfold zvote1; rw [if_neg q]
      rw [e1]
      exact zvotes_bits h10 k (m + 1) t n (by omega) hn e
theorem zhs_bits {E : zE} (h10 : E.nM ≤ 10) {wo : Int32} : ∀ (k : Nat) (t : zT) (n : Nat), n < 2 ^ E.nM → t.passed = zJ n → ∃ n', n' < 2 ^ E.nM ∧ (zhs E wo k t).passed = zJ n' ∧ (∀ i, n.testBit i = true → n'.testBit i = true) ∧ (∀ i, i < 10 → wo = zJ i → n'.testBit i = n.testBit i)
  | 0, t, n, hn, e => ⟨n, hn, e, fun _ h => h, fun _ _ _ => rfl⟩
  | k + 1, t, n, hn, e => by
    have hp : ∃ n', n' < 2 ^ E.nM ∧ (zhour E wo t).passed = zJ n' ∧ (∀ i, n.testBit i = true → n'.testBit i = true) ∧ (∀ i, i < 10 → wo = zJ i → n'.testBit i = n.testBit i) := by
      unfold zhour
      show ∃ n', n' < 2 ^ E.nM ∧ (if zsaid E t = -1 then t else zvotes E wo (zsaid E t) E.nM 0 (zdrop E t)).passed = zJ n' ∧ _
      split
      · exact ⟨n, hn, e, fun _ h => h, fun _ _ _ => rfl⟩
      · exact zvotes_bits h10 E.nM 0 (zdrop E t) n (by omega) hn (by rw [zdrop_keep.2.2.2.2.2.1, e])
    obtain ⟨n1, a1, a2, a3, a4⟩ := hp
    obtain ⟨n2, b1, b2, b3, b4⟩ := zhs_bits h10 k (zhour E wo t) n1 a1 a2
    exact ⟨n2, b1, b2, fun i hi => b3 i (a3 i hi), fun i hi z => (b4 i hi z).trans (a4 i hi z)⟩
/-- one after the other -/
def zfold (g : Int32 → Nat → Int32) : Nat → Nat → Int32 → Int32
  | 0, _, s => s
  | k + 1, m, s => zfold g k (m + 1) (g s m)
theorem zfold_cong {g h : Int32 → Nat → Int32} : ∀ (k m : Nat) (s : Int32), (∀ s j, m ≤ j → j < m + k → g s j = h s j) → zfold g k m s = zfold h k m s
  | 0, _, _, _ => rfl
  | k + 1, m, s, e => by
    show zfold g k (m + 1) (g s m) = zfold h k (m + 1) (h s m)
    rw [e s m (by omega) (by omega)]
    exact zfold_cong k (m + 1) _ (fun s j h1 h2 => e s j (by omega) (by omega))
def zblk (E : zE) (p s : Int32) (m : Nat) : Int32 := if !zis p (zJ m) && !zopen E p m then s ||| zbit m else s
def zsway (E : zE) (t : zT) (a : Nat) (s : Int32) (m : Nat) : Int32 := if !zis t.passed (zJ m) && (zcarry E (zsup E t m (t.call m)) != zcarry E (zsup E t m (t.call m) ^^^ zbit a)) then s ||| zbit m else s
def zally (E : zE) (t : zT) (a b : Nat) (s : Int32) (m : Nat) : Int32 := if !zis t.passed (zJ m) && (zfor E t.passed a (t.lean a) m (t.call m) == zfor E t.passed b (t.lean b) m (t.call m)) then s + 1 else s
