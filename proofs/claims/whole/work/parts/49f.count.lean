/-! ===== pure: how many bits a number has ===== -/
def zus (x k : Int32) : Int32 := (x.toUInt32 >>> (k.toUInt32 &&& Int32.toUInt32 31)).toInt32
def zb1 (x : Int32) : Int32 := x - (zus x 1 &&& (1431655765 : Int32))
def zb2 (x : Int32) : Int32 := (x &&& (858993459 : Int32)) + (zus x 2 &&& (858993459 : Int32))
def zb3 (x : Int32) : Int32 := (x + zus x 4) &&& (252645135 : Int32)
def zb4 (x : Int32) : Int32 := x + zus x 8
def zb5 (x : Int32) : Int32 := x + zus x 16
theorem zbc_steps (x : Int32) : zbc x = zb5 (zb4 (zb3 (zb2 (zb1 x)))) &&& (63 : Int32) := rfl
theorem zus_nat {a k : Nat} (ha : a < 2147483648) (hk : k < 32) : zus (zJ a) (zJ k) = zJ (a / 2 ^ k) := by
  unfold zus
  rw [← Int32.toBitVec_inj]
  apply BitVec.eq_of_toNat_eq
  have h1 : ((zJ a).toUInt32 >>> ((zJ k).toUInt32 &&& Int32.toUInt32 31)).toNat = a / 2 ^ k := by
    rw [UInt32.toNat_shiftRight, UInt32.toNat_and]
    have e1 : (zJ a).toUInt32.toNat = a := by
      show (BitVec.ofNat 32 a).toNat = a
      rw [BitVec.toNat_ofNat, Nat.mod_eq_of_lt (by omega)]
    have e2 : (zJ k).toUInt32.toNat = k := by
      show (BitVec.ofNat 32 k).toNat = k
      rw [BitVec.toNat_ofNat, Nat.mod_eq_of_lt (by omega)]
    have e3 : (Int32.toUInt32 31).toNat = 2 ^ 5 - 1 := rfl
    rw [e1, e2, e3, Nat.and_two_pow_sub_one_eq_mod, Nat.mod_eq_of_lt (a := k) (by omega), Nat.mod_eq_of_lt (by omega), Nat.shiftRight_eq_div_pow]
  have h2 : a / 2 ^ k ≤ a := Nat.div_le_self _ _
  show ((zJ a).toUInt32 >>> ((zJ k).toUInt32 &&& Int32.toUInt32 31)).toNat = (BitVec.ofNat 32 (a / 2 ^ k)).toNat
  rw [h1, BitVec.toNat_ofNat, Nat.mod_eq_of_lt (show a / 2 ^ k < 2 ^ 32 by omega)]
def zn1 (w : Nat) : Nat := w - ((w / 2) &&& 1431655765)
def zn2 (w : Nat) : Nat := (w &&& 858993459) + ((w / 4) &&& 858993459)
def zn3 (w : Nat) : Nat := (w + w / 16) &&& 252645135
theorem zbc_nat {w : Nat} (h : w < 67108864) : zbc (zJ w) = zJ (((zn3 (zn2 (zn1 w)) + zn3 (zn2 (zn1 w)) / 256) + (zn3 (zn2 (zn1 w)) + zn3 (zn2 (zn1 w)) / 256) / 65536) &&& 63) := by
  have b1 : zn1 w ≤ w := Nat.sub_le _ _
  have b2 : zn2 (zn1 w) ≤ zn1 w + zn1 w / 4 := Nat.add_le_add Nat.and_le_left Nat.and_le_left
  have b3 : zn3 (zn2 (zn1 w)) ≤ zn2 (zn1 w) + zn2 (zn1 w) / 16 := Nat.and_le_left
  have e1 : zb1 (zJ w) = zJ (zn1 w) := by
    unfold zb1 zn1
    rw [show zus (zJ w) 1 = zJ (w / 2 ^ 1) from zus_nat (k := 1) (by omega) (by omega), show (1431655765 : Int32) = zJ 1431655765 from rfl, zJ_and, zJ_sub (Nat.le_trans Nat.and_le_left (by omega))]
  have e2 : zb2 (zJ (zn1 w)) = zJ (zn2 (zn1 w)) := by
    unfold zb2
    rw [show zus (zJ (zn1 w)) 2 = zJ (zn1 w / 2 ^ 2) from zus_nat (k := 2) (by omega) (by omega), show (858993459 : Int32) = zJ 858993459 from rfl, zJ_and, zJ_and, zJ_add]; rfl
  have e3 : zb3 (zJ (zn2 (zn1 w))) = zJ (zn3 (zn2 (zn1 w))) := by
    unfold zb3
    rw [show zus (zJ (zn2 (zn1 w))) 4 = zJ (zn2 (zn1 w) / 2 ^ 4) from zus_nat (k := 4) (by omega) (by omega), show (252645135 : Int32) = zJ 252645135 from rfl, zJ_add, zJ_and]; rfl
  rw [zbc_steps, e1, e2, e3]
  unfold zb4
  rw [show zus (zJ (zn3 (zn2 (zn1 w)))) 8 = zJ (zn3 (zn2 (zn1 w)) / 2 ^ 8) from zus_nat (k := 8) (by omega) (by omega), zJ_add]
  unfold zb5
  rw [show zus (zJ (zn3 (zn2 (zn1 w)) + zn3 (zn2 (zn1 w)) / 2 ^ 8)) 16 = zJ ((zn3 (zn2 (zn1 w)) + zn3 (zn2 (zn1 w)) / 2 ^ 8) / 2 ^ 16) from zus_nat (k := 16) (by omega) (by omega), zJ_add, show (63 : Int32) = zJ 63 from rfl, zJ_and]
theorem zand16 {a b c d : Nat} (hb : b < 16) (hd : d < 16) : (b + 16 * a) &&& (d + 16 * c) = (b &&& d) + 16 * (a &&& c) := by
  have h1 := Nat.and_div_two_pow (a := b + 16 * a) (b := d + 16 * c) (n := 4)
  have h2 := Nat.and_mod_two_pow (a := b + 16 * a) (b := d + 16 * c) (n := 4)
  rw [show (b + 16 * a) / 2 ^ 4 = a by omega, show (d + 16 * c) / 2 ^ 4 = c by omega] at h1
  rw [show (b + 16 * a) % 2 ^ 4 = b by omega, show (d + 16 * c) % 2 ^ 4 = d by omega] at h2
  omega
def zm5 : Nat → Nat
  | 0 => 0
  | k + 1 => 5 + 16 * zm5 k
def zm3 : Nat → Nat
  | 0 => 0
  | k + 1 => 3 + 16 * zm3 k
def zp1 (n : Nat) : Nat := n - ((n / 2) &&& 5)
def zp2 (n : Nat) : Nat := (n &&& 3) + ((n / 4) &&& 3)
def zp (n : Nat) : Nat := zp2 (zp1 n)
def zS1 : Nat → Nat → Nat
  | 0, _ => 0
  | k + 1, w => zp1 (w % 16) + 16 * zS1 k (w / 16)
def zS : Nat → Nat → Nat
  | 0, _ => 0
  | k + 1, w => zp (w % 16) + 16 * zS k (w / 16)
theorem zd1 : ∀ r : Fin 2, ∀ n : Fin 16, (8 * r.1 + n.1 / 2) &&& 5 = (n.1 / 2) &&& 5 := by decide
theorem zd2 : ∀ r : Fin 4, ∀ n : Fin 16, (4 * r.1 + n.1 / 4) &&& 3 = (n.1 / 4) &&& 3 := by decide
theorem zd3 : ∀ n : Fin 16, zp1 n.1 < 16 ∧ zp n.1 ≤ 4 ∧ ((n.1 / 2) &&& 5) ≤ n.1 := by decide
theorem zS1_eq : ∀ (k w : Nat), w < 16 ^ k → ((w / 2) &&& zm5 k) ≤ w ∧ w - ((w / 2) &&& zm5 k) = zS1 k w
  | 0, w, h => by
    have : w = 0 := by rw [Nat.pow_zero] at h; omega
    subst this; exact ⟨by simp [zm5], by simp [zm5, zS1]⟩
  | k + 1, w, h => by
    have hp : 16 ^ (k + 1) = 16 ^ k * 16 := Nat.pow_succ ..
    obtain ⟨i1, i2⟩ := zS1_eq k (w / 16) (by omega)
    have hn := Nat.mod_lt w (show 16 > 0 by omega)
    have e : w / 2 = (8 * (w / 16 % 2) + w % 16 / 2) + 16 * (w / 16 / 2) := by omega
    have e2 : (w / 2) &&& zm5 (k + 1) = ((w % 16 / 2) &&& 5) + 16 * ((w / 16 / 2) &&& zm5 k) := by
      rw [e]
      show (8 * (w / 16 % 2) + w % 16 / 2) + 16 * (w / 16 / 2) &&& 5 + 16 * zm5 k = _
      rw [zand16 (by omega) (by omega), zd1 ⟨w / 16 % 2, by omega⟩ ⟨w % 16, hn⟩]
    have d := (zd3 ⟨w % 16, hn⟩).2.2
    rw [e2]
    show _ ∧ _ = zp1 (w % 16) + 16 * zS1 k (w / 16)
    rw [← i2]
    unfold zp1
    have d : (w % 16 / 2 &&& 5) ≤ w % 16 := d
    omega
theorem zS_eq : ∀ (k w : Nat), w < 16 ^ k → (zS1 k w &&& zm3 k) + ((zS1 k w / 4) &&& zm3 k) = zS k w
  | 0, w, h => by simp [zm3, zS]
  | k + 1, w, h => by
    have hp : 16 ^ (k + 1) = 16 ^ k * 16 := Nat.pow_succ ..
    have ih := zS_eq k (w / 16) (by omega)
    have hn := Nat.mod_lt w (show 16 > 0 by omega)
    have d := zd3 ⟨w % 16, hn⟩
    have d1 : zp1 (w % 16) < 16 := d.1
    show ((zp1 (w % 16) + 16 * zS1 k (w / 16)) &&& (3 + 16 * zm3 k)) + (((zp1 (w % 16) + 16 * zS1 k (w / 16)) / 4) &&& (3 + 16 * zm3 k)) = zp (w % 16) + 16 * zS k (w / 16)
    rw [zand16 d1 (by omega), show (zp1 (w % 16) + 16 * zS1 k (w / 16)) / 4 = (4 * (zS1 k (w / 16) % 4) + zp1 (w % 16) / 4) + 16 * (zS1 k (w / 16) / 4) by omega, zand16 (by omega) (by omega), zd2 ⟨zS1 k (w / 16) % 4, by omega⟩ ⟨zp1 (w % 16), d1⟩, ← ih]
    unfold zp zp2
    show _ + _ + ((zp1 (w % 16) / 4 &&& 3) + _) = _
    omega
def zpc : Nat → Nat → Nat
  | 0, _ => 0
  | k + 1, w => zp (w % 16) + zpc k (w / 16)
theorem zle15 {q : Nat} (h : q < 16) : q &&& 15 = q := Nat.and_two_pow_sub_one_of_lt_two_pow (n := 4) h
theorem zfin8 {p0 p1 p2 p3 p4 p5 p6 p7 : Nat} (h0 : p0 ≤ 4) (h1 : p1 ≤ 4) (h2 : p2 ≤ 4) (h3 : p3 ≤ 4) (h4 : p4 ≤ 4) (h5 : p5 ≤ 4) (h6 : p6 ≤ 4) (h7 : p7 ≤ 4) : zn3 (p0 + 16 * (p1 + 16 * (p2 + 16 * (p3 + 16 * (p4 + 16 * (p5 + 16 * (p6 + 16 * p7))))))) = (p0 + p1) + 256 * (p2 + p3) + 65536 * (p4 + p5) + 16777216 * (p6 + p7) := by
  unfold zn3
  have e : (p0 + 16 * (p1 + 16 * (p2 + 16 * (p3 + 16 * (p4 + 16 * (p5 + 16 * (p6 + 16 * p7))))))) + (p0 + 16 * (p1 + 16 * (p2 + 16 * (p3 + 16 * (p4 + 16 * (p5 + 16 * (p6 + 16 * p7))))))) / 16 = (p0 + p1) + 16 * ((p1 + p2) + 16 * ((p2 + p3) + 16 * ((p3 + p4) + 16 * ((p4 + p5) + 16 * ((p5 + p6) + 16 * ((p6 + p7) + 16 * p7)))))) := by omega
  rw [e, show (252645135 : Nat) = 15 + 16 * (0 + 16 * (15 + 16 * (0 + 16 * (15 + 16 * (0 + 16 * (15 + 16 * 0)))))) from rfl]
  rw [zand16 (by omega) (by omega), zand16 (by omega) (by omega), zand16 (by omega) (by omega), zand16 (by omega) (by omega), zand16 (by omega) (by omega), zand16 (by omega) (by omega), zand16 (by omega) (by omega), zle15 (by omega), zle15 (by omega), zle15 (by omega), zle15 (by omega)]
  simp only [Nat.and_zero]
  omega
theorem zbc_pc {w : Nat} (h : w < 67108864) : zbc (zJ w) = zJ (zpc 8 w) := by
  have hp : w < 16 ^ 8 := Nat.lt_trans h (by decide)
  have e1 : zn1 w = zS1 8 w := (zS1_eq 8 w hp).2
  have e2 : zn2 (zn1 w) = zS 8 w := by rw [e1]; exact zS_eq 8 w hp
  have hq : ∀ x, zp (x % 16) ≤ 4 := fun x => (zd3 ⟨x % 16, Nat.mod_lt x (by omega)⟩).2.1
  rw [zbc_nat h, e2]
  have es : zS 8 w = zp (w % 16) + 16 * (zp (w / 16 % 16) + 16 * (zp (w / 16 / 16 % 16) + 16 * (zp (w / 16 / 16 / 16 % 16) + 16 * (zp (w / 16 / 16 / 16 / 16 % 16) + 16 * (zp (w / 16 / 16 / 16 / 16 / 16 % 16) + 16 * (zp (w / 16 / 16 / 16 / 16 / 16 / 16 % 16) + 16 * zp (w / 16 / 16 / 16 / 16 / 16 / 16 / 16 % 16))))))) := by
    simp only [zS, Nat.mul_zero, Nat.add_zero]
  have ep : zpc 8 w = zp (w % 16) + (zp (w / 16 % 16) + (zp (w / 16 / 16 % 16) + (zp (w / 16 / 16 / 16 % 16) + (zp (w / 16 / 16 / 16 / 16 % 16) + (zp (w / 16 / 16 / 16 / 16 / 16 % 16) + (zp (w / 16 / 16 / 16 / 16 / 16 / 16 % 16) + zp (w / 16 / 16 / 16 / 16 / 16 / 16 / 16 % 16))))))) := by
    simp only [zpc, Nat.add_zero]
  have a0 := hq w
  have a1 := hq (w / 16)
  have a2 := hq (w / 16 / 16)
  have a3 := hq (w / 16 / 16 / 16)
  have a4 := hq (w / 16 / 16 / 16 / 16)
  have a5 := hq (w / 16 / 16 / 16 / 16 / 16)
  have a6 := hq (w / 16 / 16 / 16 / 16 / 16 / 16)
  have a7 := hq (w / 16 / 16 / 16 / 16 / 16 / 16 / 16)
  rw [es, ep]
  generalize zp (w % 16) = p0 at *
  generalize zp (w / 16 % 16) = p1 at *
  generalize zp (w / 16 / 16 % 16) = p2 at *
  generalize zp (w / 16 / 16 / 16 % 16) = p3 at *
  generalize zp (w / 16 / 16 / 16 / 16 % 16) = p4 at *
  generalize zp (w / 16 / 16 / 16 / 16 / 16 % 16) = p5 at *
  generalize zp (w / 16 / 16 / 16 / 16 / 16 / 16 % 16) = p6 at *
  generalize zp (w / 16 / 16 / 16 / 16 / 16 / 16 / 16 % 16) = p7 at *
  rw [zfin8 a0 a1 a2 a3 a4 a5 a6 a7, show (63 : Nat) = 2 ^ 6 - 1 from rfl, Nat.and_two_pow_sub_one_eq_mod]
  clear es ep e1 e2 hq h hp
  have hx : (p0 + p1 + 256 * (p2 + p3) + 65536 * (p4 + p5) + 16777216 * (p6 + p7)) / 256 = (p2 + p3) + 256 * (p4 + p5) + 65536 * (p6 + p7) := by omega
  rw [hx]
  have hy : (p0 + p1 + 256 * (p2 + p3) + 65536 * (p4 + p5) + 16777216 * (p6 + p7) + ((p2 + p3) + 256 * (p4 + p5) + 65536 * (p6 + p7))) / 65536 = (p4 + p5 + (p6 + p7)) + 256 * (p6 + p7) := by omega
  rw [hy]
  congr 1
  rw [show (2 : Nat) ^ 6 = 64 from rfl]
  omega
theorem zd4 : ∀ j : Fin 4, ∀ n : Fin 16, zp (n.1 ||| 2 ^ j.1) = zp n.1 + (if n.1.testBit j.1 then 0 else 1) := by decide
theorem zpc_or : ∀ (k w j : Nat), j < 4 * k → zpc k (w ||| 2 ^ j) = zpc k w + (if w.testBit j then 0 else 1)
  | 0, _, _, h => by omega
  | k + 1, w, j, h => by
    have hn := Nat.mod_lt w (show 16 > 0 by omega)
    show zp ((w ||| 2 ^ j) % 2 ^ 4) + zpc k ((w ||| 2 ^ j) / 2 ^ 4) = zp (w % 16) + zpc k (w / 16) + _
    rw [Nat.or_mod_two_pow, Nat.or_div_two_pow]
    by_cases q : j < 4
    · have e1 : 2 ^ j < 2 ^ 4 := Nat.pow_lt_pow_right (by omega) q
      rw [Nat.mod_eq_of_lt e1, Nat.div_eq_of_lt e1, Nat.or_zero]
      have := zd4 ⟨j, q⟩ ⟨w % 16, hn⟩
      have this : zp (w % 16 ||| 2 ^ j) = zp (w % 16) + (if (w % 16).testBit j then 0 else 1) := this
      have tb : (w % 16).testBit j = w.testBit j := by
        rw [show (w % 16) = w % 2 ^ 4 from rfl, Nat.testBit_mod_two_pow, decide_eq_true q, Bool.true_and]
      rw [show w % 2 ^ 4 = w % 16 from rfl, show w / 2 ^ 4 = w / 16 from rfl, this, tb]
      omega
    · obtain ⟨i, rfl⟩ : ∃ i, j = i + 4 := ⟨j - 4, by omega⟩
      have e1 : 2 ^ (i + 4) = 2 ^ i * 2 ^ 4 := Nat.pow_add ..
      rw [e1, Nat.mul_mod_left, Nat.mul_div_cancel _ (by decide), Nat.or_zero, show w / 2 ^ 4 = w / 16 from rfl, zpc_or k (w / 16) i (by omega), show w / 16 = w / 2 ^ 4 from rfl, Nat.testBit_div_two_pow, show w % 2 ^ 4 = w % 16 from rfl]
      omega
/-- how many unlike ones -/
def zold (f : Nat → Int32) (a : Nat) : Nat → Bool
  | 0 => false
  | b + 1 => zold f a b || decide (f b = f a)
def zdist (f : Nat → Int32) : Nat → Nat
  | 0 => 0
  | a + 1 => zdist f a + if zold f a a then 0 else 1
theorem zold_iff {f : Nat → Int32} {a : Nat} : ∀ b, zold f a b = true ↔ ∃ c, c < b ∧ f c = f a
  | 0 => by simp [zold]
  | b + 1 => by
    unfold zold
    rw [Bool.or_eq_true, zold_iff b, decide_eq_true_eq]
    constructor
    · rintro (⟨c, h1, h2⟩ | h)
      · exact ⟨c, by omega, h2⟩
      · exact ⟨b, by omega, h⟩
    · rintro ⟨c, h1, h2⟩
      by_cases z : c = b
      · rw [z] at h2; exact Or.inr h2
      · exact Or.inl ⟨c, by omega, h2⟩
def zorb (f : Nat → Int32) : Nat → Int32
  | 0 => 0
  | a + 1 => zorb f a ||| ((1 : Int32) <<< ((f a + (1 : Int32)) &&& 31))
theorem zsh26 : ∀ j : Fin 26, ((1 : Int32) <<< (zJ j.1 &&& 31)) = zJ (2 ^ j.1) := by decide +kernel
theorem zorb_count {f : Nat → Int32} : ∀ n, (∀ a, a < n → -1 ≤ f a ∧ f a ≤ 24) → ∃ w, w < 2 ^ 26 ∧ zorb f n = zJ w ∧ zpc 8 w = zdist f n ∧ ∀ j, j < 26 → (w.testBit j = true ↔ ∃ a, a < n ∧ f a + 1 = zJ j)
  | 0, _ => ⟨0, by decide, rfl, rfl, fun j hj => by simp⟩
  | n + 1, h => by
    obtain ⟨w, h1, h2, h3, h4⟩ := zorb_count (f := f) n (fun a ha => h a (by omega))
    have hb := h n (by omega)
    obtain ⟨j, hj, ej⟩ := zof_le (x := f n + 1) (k := 25) (by grind) (by omega) (by show f n + 1 ≤ 25; grind)
    have e : zorb f (n + 1) = zJ (w ||| 2 ^ j) := by
      show zorb f n ||| ((1 : Int32) <<< ((f n + (1 : Int32)) &&& 31)) = _
      rw [h2, ej, zsh26 ⟨j, by omega⟩, zJ_or]
    have hold : w.testBit j = zold f n n := by
      have a := h4 j (by omega)
      have b := zold_iff (f := f) (a := n) n
      cases hz : zold f n n
      · cases hw : w.testBit j
        · rfl
        · obtain ⟨c, hc, ec⟩ := a.1 hw
          have : zold f n n = true := b.2 ⟨c, hc, by rw [← ej] at ec; grind⟩
          rw [hz] at this; exact absurd this (by decide)
      · obtain ⟨c, hc, ec⟩ := b.1 hz
        exact a.2 ⟨c, hc, by rw [ec, ej]⟩
    refine ⟨w ||| 2 ^ j, Nat.or_lt_two_pow h1 (Nat.pow_lt_pow_right (by omega) (by omega)), e, ?_, fun i hi => ?_⟩
    · rw [zpc_or 8 w j (by omega), h3, hold]; rfl
    · rw [Nat.testBit_or, Nat.testBit_two_pow, Bool.or_eq_true, h4 i hi, decide_eq_true_eq]
      constructor
      · rintro (⟨a, ha, ea⟩ | z)
        · exact ⟨a, by omega, ea⟩
        · exact ⟨n, by omega, by rw [ej, z]⟩
      · rintro ⟨a, ha, ea⟩
        by_cases z : a = n
        · subst z
          rw [ej] at ea
          exact Or.inr ((zJ_inj (by omega) (by omega)).1 ea)
        · exact Or.inl ⟨a, by omega, ea⟩
theorem zorb_bc {f : Nat → Int32} {n : Nat} (h : ∀ a, a < n → -1 ≤ f a ∧ f a ≤ 24) : zbc (zorb f n) = zJ (zdist f n) := by
  obtain ⟨w, h1, h2, h3, _⟩ := zorb_count n h
  rw [h2, zbc_pc h1, h3]
