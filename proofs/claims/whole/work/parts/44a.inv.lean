/-! ===== pure: what holds between the two ===== -/
abbrev zTw (t : zT) (nA nM : Nat) (h o w s tr jo pa : Int32) (le ca : Nat → Int32) : Prop :=
  h = t.hour ∧ o = t.oil ∧ w = t.weight ∧ s = t.spider ∧ tr = t.treas ∧ jo = t.joy ∧ pa = t.passed ∧ (∀ a, a < nA → le a = t.lean a) ∧ (∀ m, m < nM → ca m = t.call m)
def zRow (E : zE) (u : zT) (P : Nat → Int32) (p : Nat) : Prop := zTw u E.nA E.nM (P p) (P (p + 1)) (P (p + 2)) (P (p + 3)) (P (p + 4)) (P (p + 5)) (P (p + 6)) (fun a => P (p + 7 + a)) (fun m => P (p + 14 + m))
def zHist (E : zE) (n n' : Int32) (P P' : Nat → Int32) : Prop := ∃ k, k ≤ 40 ∧ n = zJ k ∧ n' = zJ k ∧ ∀ i, i < k → ∃ u, zTb E 9999 u ∧ zRow E u P (24 * i) ∧ zRow E u P' (24 * i)
def zSeenR (n n' : Int32) (h s h' s' : Nat → Int32) : Prop := ∃ k, k ≤ 8 ∧ n = zJ k ∧ n' = zJ k ∧ ∀ i, i < k → h' i = h i ∧ s' i = s i ∧ (∃ q, 1 ≤ q ∧ q ≤ 48 ∧ h i = zJ q) ∧ -1 ≤ s i ∧ s i ≤ 24
def zStat (a b : Nat → Int32) : Prop := ∀ i, i < 3 → b i = a i
def zByte (c r : Int32) : Prop := ∃ n, n < 256 ∧ r = zJ n ∧ c = (if n < 128 then zJ n else zJ n - 256)
def zTapeR (l l' : Int32) (tp tp' : Nat → Int32) : Prop := ∃ k, k ≤ 700 ∧ l = zJ k ∧ l' = zJ k ∧ ∀ i, i < k → zByte (tp i) (tp' i)
def zKept (E : zE) (sc : Nat → Int32) (ar : Nat → Nat → Int32) : Prop := ∃ u, zTb E 9999 u ∧ zTw u E.nA E.nM (sc 84) (sc 85) (sc 86) (sc 87) (sc 88) (sc 89) (sc 90) (ar 72) (ar 73) ∧ zRow E u (ar 26) 0 ∧ zHist E (sc 49) (sc 31) (ar 40) (ar 27) ∧ zSeenR (sc 50) (sc 32) (ar 41) (ar 42) (ar 28) (ar 29) ∧ zStat (ar 43) (ar 30)
def zIE (E : zE) (t : zT) (sc : Nat → Int32) (ar : Nat → Nat → Int32) : Prop :=
  zEok E ∧ zCls E (sc 54) (sc 55) (ar 47) (ar 48) (ar 50) (ar 51) (ar 52) (ar 53) (ar 54) (ar 55) ∧ zRef E (ar 1) (ar 3) (ar 4) (ar 6) (ar 7) (ar 8) (ar 9) (ar 10) ∧ zTb E 9999 t
  ∧ zTw t E.nA E.nM (sc 63) (sc 64) (sc 65) (sc 66) (sc 67) (sc 68) (sc 69) (ar 66) (ar 67) ∧ zTw t E.nA E.nM (sc 16) (sc 17) (sc 18) (sc 19) (sc 20) (sc 21) (sc 22) (ar 13) (ar 14) ∧ sc 25 = -1 ∧ zHist E (sc 47) (sc 23) (ar 36) (ar 15) ∧ zSeenR (sc 48) (sc 24) (ar 37) (ar 38) (ar 21) (ar 22) ∧ zStat (ar 39) (ar 11)
  ∧ zTapeR (sc 0) (sc 5) (ar 0) (ar 12) ∧ sc 14 = sc 1 ∧ sc 30 = sc 2 ∧ (sc 2 = 0 ∨ (sc 2 = 1 ∧ zKept E sc ar))
def zInv (sc : Nat → Int32) (ar : Nat → Nat → Int32) : Prop := ∃ E t, zIE E t sc ar
def zkS (i : Nat) : Bool := List.elem i [0, 1, 2, 5, 14, 16, 17, 18, 19, 20, 21, 22, 23, 24, 25, 30, 31, 32, 47, 48, 49, 50, 54, 55, 63, 64, 65, 66, 67, 68, 69, 84, 85, 86, 87, 88, 89, 90]
def zkA (i : Nat) : Bool := List.elem i [0, 1, 3, 4, 6, 7, 8, 9, 10, 11, 12, 15, 21, 22, 26, 27, 28, 29, 30, 36, 37, 38, 39, 40, 41, 42, 43, 47, 48, 50, 51, 52, 53, 54, 55, 66, 67, 72, 73]
def zSr (sc sc' : Nat → Int32) : Prop := ∀ i, zkS i = true → sc' i = sc i
abbrev zAr (ar ar' : Nat → Nat → Int32) : Prop := (∀ i, zkA i = true → ar' i = ar i) ∧ (∀ a, a < 7 → ar' 13 a = ar 13 a) ∧ (∀ m, m < 10 → ar' 14 m = ar 14 m)
theorem zSr0 {sc : Nat → Int32} : zSr sc sc := fun _ _ => rfl
theorem zSn {sc f : Nat → Int32} {k : Nat} {v : Int32} (hk : zkS k = false) (h : zSr sc f) : zSr sc (upd f k v) := fun i hi => by
  rw [zupd_ne (fun e => by rw [e, hk] at hi; exact absurd hi (by decide))]; exact h i hi
theorem zSs {sc f : Nat → Int32} {k : Nat} {v : Int32} (hv : sc k = v) (h : zSr sc f) : zSr sc (upd f k v) := fun i hi => by
  by_cases e : i = k
  · rw [e, zupd_eq]; exact hv.symm
  · rw [zupd_ne e]; exact h i hi
theorem zAr0 {ar : Nat → Nat → Int32} : zAr ar ar := ⟨fun _ _ => rfl, fun _ _ => rfl, fun _ _ => rfl⟩
theorem zupa_ne {f : Nat → Nat → Int32} {k j : Nat} {v : Nat → Int32} (h : j ≠ k) : va_up f k v j = f j := by unfold va_up; rw [if_neg h]
theorem zupa_eq {f : Nat → Nat → Int32} {k : Nat} {v : Nat → Int32} : va_up f k v k = v := by unfold va_up; rw [if_pos rfl]
theorem zAn {ar f : Nat → Nat → Int32} {k : Nat} {v : Nat → Int32} (hk : zkA k = false) (h3 : (k == 13) = false) (h4 : (k == 14) = false) (h : zAr ar f) : zAr ar (va_up f k v) := by
  have h3 : k ≠ 13 := by simpa using h3
  have h4 : k ≠ 14 := by simpa using h4
  refine ⟨fun i hi => ?_, fun a ha => ?_, fun a ha => ?_⟩
  · rw [zupa_ne (fun e => by rw [e, hk] at hi; exact absurd hi (by decide))]; exact h.1 i hi
  · rw [zupa_ne (fun e => h3 e.symm)]; exact h.2.1 a ha
  · rw [zupa_ne (fun e => h4 e.symm)]; exact h.2.2 a ha
theorem zAn13 {ar f : Nat → Nat → Int32} {v : Nat → Int32} (hv : ∀ a, a < 7 → v a = ar 13 a) (h : zAr ar f) : zAr ar (va_up f 13 v) := by
  refine ⟨fun i hi => ?_, fun a ha => ?_, fun a ha => ?_⟩
  · rw [zupa_ne (fun e => by rw [e] at hi; exact absurd hi (by decide))]; exact h.1 i hi
  · rw [zupa_eq]; exact hv a ha
  · rw [zupa_ne (by decide)]; exact h.2.2 a ha
theorem zAn14 {ar f : Nat → Nat → Int32} {v : Nat → Int32} (hv : ∀ a, a < 10 → v a = ar 14 a) (h : zAr ar f) : zAr ar (va_up f 14 v) := by
  refine ⟨fun i hi => ?_, fun a ha => ?_, fun a ha => ?_⟩
  · rw [zupa_ne (fun e => by rw [e] at hi; exact absurd hi (by decide))]; exact h.1 i hi
  · rw [zupa_ne (by decide)]; exact h.2.1 a ha
  · rw [zupa_eq]; exact hv a ha
theorem zAs {ar f : Nat → Nat → Int32} {k : Nat} {v : Nat → Int32} (hv : ar k = v) (h : zAr ar f) : zAr ar (va_up f k v) := by
  refine ⟨fun i hi => ?_, fun a ha => ?_, fun a ha => ?_⟩
  · by_cases e : i = k
    · rw [e, zupa_eq]; exact hv.symm
    · rw [zupa_ne e]; exact h.1 i hi
  · by_cases e : 13 = k
    · rw [← e, zupa_eq, ← hv, e]
    · rw [zupa_ne e]; exact h.2.1 a ha
  · by_cases e : 14 = k
    · rw [← e, zupa_eq, ← hv, e]
    · rw [zupa_ne e]; exact h.2.2 a ha
theorem zKept_q {E : zE} {sc sc' : Nat → Int32} {ar ar' : Nat → Nat → Int32} (h : zKept E sc ar) (hs : zSr sc sc') (ha : zAr ar ar') : zKept E sc' ar' := by
  unfold zKept at h ⊢
  rw [hs 84 rfl, hs 85 rfl, hs 86 rfl, hs 87 rfl, hs 88 rfl, hs 89 rfl, hs 90 rfl, hs 49 rfl, hs 31 rfl, hs 50 rfl, hs 32 rfl, ha.1 72 rfl, ha.1 73 rfl, ha.1 26 rfl, ha.1 40 rfl, ha.1 27 rfl, ha.1 41 rfl, ha.1 42 rfl, ha.1 28 rfl, ha.1 29 rfl, ha.1 43 rfl, ha.1 30 rfl]
  exact h
theorem zIE_q {E : zE} {t : zT} {sc sc' : Nat → Int32} {ar ar' : Nat → Nat → Int32} (h : zIE E t sc ar) (hs : zSr sc sc') (ha : zAr ar ar') : zIE E t sc' ar' := by
  obtain ⟨h1, h2, h3, h4, h5, ⟨a1, a2, a3, a4, a5, a6, a7, a8, a9⟩, h7, h8, h9, h10, h11, h12, h13, h14⟩ := h
  have q7 := h1.a7
  have q10 := h1.m10
  unfold zIE
  rw [hs 54 rfl, hs 55 rfl, hs 63 rfl, hs 64 rfl, hs 65 rfl, hs 66 rfl, hs 67 rfl, hs 68 rfl, hs 69 rfl, hs 16 rfl, hs 17 rfl, hs 18 rfl, hs 19 rfl, hs 20 rfl, hs 21 rfl, hs 22 rfl, hs 25 rfl, hs 47 rfl, hs 23 rfl, hs 48 rfl, hs 24 rfl, hs 0 rfl, hs 5 rfl, hs 14 rfl, hs 30 rfl, hs 1 rfl, hs 2 rfl, ha.1 47 rfl, ha.1 48 rfl, ha.1 50 rfl, ha.1 51 rfl, ha.1 52 rfl, ha.1 53 rfl, ha.1 54 rfl, ha.1 55 rfl, ha.1 1 rfl, ha.1 3 rfl, ha.1 4 rfl, ha.1 6 rfl, ha.1 7 rfl, ha.1 8 rfl, ha.1 9 rfl, ha.1 10 rfl, ha.1 66 rfl, ha.1 67 rfl, ha.1 36 rfl, ha.1 15 rfl, ha.1 37 rfl, ha.1 38 rfl, ha.1 21 rfl, ha.1 22 rfl, ha.1 39 rfl, ha.1 11 rfl, ha.1 0 rfl, ha.1 12 rfl]
  refine ⟨h1, h2, h3, h4, h5, ⟨a1, a2, a3, a4, a5, a6, a7, fun a q => (ha.2.1 a (by omega)).trans (a8 a q), fun a q => (ha.2.2 a (by omega)).trans (a9 a q)⟩, h7, h8, h9, h10, h11, h12, h13, ?_⟩
  rcases h14 with z | z
  · exact Or.inl z
  · exact Or.inr ⟨z.1, zKept_q z.2 hs ha⟩
theorem zInv_q {E : zE} {t : zT} {sc sc' : Nat → Int32} {ar ar' : Nat → Nat → Int32} (h : zIE E t sc ar) (hs : zSr sc sc') (ha : zAr ar ar') : zInv sc' ar' := ⟨E, t, zIE_q h hs ha⟩
theorem zlg_lt {x y : Int32} : lg_cmp x.toInt64 y.toInt64 < 0 ↔ x < y := by
  unfold lg_cmp
  rw [show (x < y) ↔ x.toInt < y.toInt from Int32.lt_iff_toInt_lt]
  have e1 : x.toInt64 > y.toInt64 ↔ y.toInt < x.toInt := by
    show y.toInt64 < x.toInt64 ↔ _
    rw [Int64.lt_iff_toInt_lt, Int32.toInt_toInt64, Int32.toInt_toInt64]
  have e2 : x.toInt64 = y.toInt64 ↔ x.toInt = y.toInt := by rw [← Int64.toInt_inj, Int32.toInt_toInt64, Int32.toInt_toInt64]
  by_cases q : y.toInt < x.toInt
  · rw [if_pos (e1.2 q)]; constructor
    · intro z; exact absurd z (by decide)
    · intro z; omega
  · rw [if_neg (fun z => q (e1.1 z))]
    by_cases q2 : x.toInt = y.toInt
    · rw [if_pos (e2.2 q2)]; constructor
      · intro z; exact absurd z (by decide)
      · intro z; omega
    · rw [if_neg (fun z => q2 (e2.1 z))]; constructor
      · intro z; omega
      · intro z; decide
theorem zlg_gt {x y : Int32} : 0 < lg_cmp x.toInt64 y.toInt64 ↔ y < x := by
  unfold lg_cmp
  rw [show (y < x) ↔ y.toInt < x.toInt from Int32.lt_iff_toInt_lt]
  have e1 : x.toInt64 > y.toInt64 ↔ y.toInt < x.toInt := by
    show y.toInt64 < x.toInt64 ↔ _
    rw [Int64.lt_iff_toInt_lt, Int32.toInt_toInt64, Int32.toInt_toInt64]
  by_cases q : y.toInt < x.toInt
  · rw [if_pos (e1.2 q)]; constructor
    · intro z; exact q
    · intro z; decide
  · rw [if_neg (fun z => q (e1.1 z))]; constructor
    · intro z; split at z <;> exact absurd z (by decide)
    · intro z; exact absurd z q
theorem zlg_self {x : Int64} : lg_cmp x x = 0 := by
  unfold lg_cmp
  rw [if_neg (by show ¬ x < x; rw [Int64.lt_iff_toInt_lt]; omega), if_pos rfl]
theorem zlgO {O : Nat → Int64} {a : Int32} : lg_cmp (vp_updL O 0 a.toInt64 0) a.toInt64 = 0 := by
  have : vp_updL O 0 a.toInt64 0 = a.toInt64 := by unfold vp_updL; rw [if_pos rfl]
  rw [this]; exact zlg_self
theorem zisIn {p lo hi : Int32} : fX9_isIn p.toInt64 lo.toInt64 hi.toInt64 = some (if p < lo then 0 else if hi < p then 0 else 1) := by
  unfold fX9_isIn
  by_cases q : p < lo
  · rw [if_pos (zlg_lt.2 q), if_pos q]
  · rw [if_neg (fun z => q (zlg_lt.1 z)), if_neg q]
    by_cases q2 : hi < p
    · rw [if_pos (zlg_gt.2 q2), if_pos q2]
    · rw [if_neg (fun z => q2 (zlg_gt.1 z)), if_neg q2]
theorem zoutside {p lo hi : Int32} : fX8_isOutside p lo hi = some (if p < lo then 1 else if hi < p then 1 else 0) := by
  unfold fX8_isOutside
  by_cases q : p < lo
  · simp [q, Int32.not_le]
  · by_cases q2 : hi < p
    · simp [q, q2]
    · simp [q, q2]
