/-! ===== pure: the levels of an expression ===== -/
def zFrec (rec : Int32 → Int32 → Int32 → Int32 → Int32 → Int32 → Int32 → Int32 → Int32 → Int32 → (Nat → Int32) → (Nat → Int32) → (Nat → Int32) → (Nat → Int32) → Int32 → Option zRS) (q n a : Nat) (r : Nat → Int32) (s : zRS) : Option zRS := rec (zJ q) s.1 (zJ n) s.2.1 s.2.2.1 s.2.2.2.1 s.2.2.2.2.1 s.2.2.2.2.2.1 s.2.2.2.2.2.2.1 (zJ q) s.2.2.2.2.2.2.2.1 s.2.2.2.2.2.2.2.2.1 s.2.2.2.2.2.2.2.2.2 r (zJ a)
def zFPart (rec : Int32 → Int32 → Int32 → Int32 → Int32 → Int32 → Int32 → Int32 → Int32 → Int32 → (Nat → Int32) → (Nat → Int32) → (Nat → Int32) → (Nat → Int32) → Int32 → Option zRS) (q n a : Nat) (r : Nat → Int32) (s : zRS) : Option zRS := fX9_readPart rec (zJ q) s.1 (zJ n) s.2.1 s.2.2.1 s.2.2.2.1 s.2.2.2.2.1 s.2.2.2.2.2.1 s.2.2.2.2.2.2.1 (zJ q) s.2.2.2.2.2.2.2.1 s.2.2.2.2.2.2.2.2.1 s.2.2.2.2.2.2.2.2.2 r (zJ a)
def zFProd (rec : Int32 → Int32 → Int32 → Int32 → Int32 → Int32 → Int32 → Int32 → Int32 → Int32 → (Nat → Int32) → (Nat → Int32) → (Nat → Int32) → (Nat → Int32) → Int32 → Option zRS) (q n a : Nat) (r : Nat → Int32) (s : zRS) : Option zRS := fX9_readProduct rec (zJ q) s.1 (zJ n) s.2.1 s.2.2.1 s.2.2.2.1 s.2.2.2.2.1 s.2.2.2.2.2.1 s.2.2.2.2.2.2.1 (zJ q) s.2.2.2.2.2.2.2.1 s.2.2.2.2.2.2.2.2.1 s.2.2.2.2.2.2.2.2.2 r (zJ a)
def zFSum (rec : Int32 → Int32 → Int32 → Int32 → Int32 → Int32 → Int32 → Int32 → Int32 → Int32 → (Nat → Int32) → (Nat → Int32) → (Nat → Int32) → (Nat → Int32) → Int32 → Option zRS) (q n a : Nat) (r : Nat → Int32) (s : zRS) : Option zRS := fX9_readSum rec (zJ q) s.1 (zJ n) s.2.1 s.2.2.1 s.2.2.2.1 s.2.2.2.2.1 s.2.2.2.2.2.1 s.2.2.2.2.2.2.1 (zJ q) s.2.2.2.2.2.2.2.1 s.2.2.2.2.2.2.2.2.1 s.2.2.2.2.2.2.2.2.2 r (zJ a)
def zFNot (rec : Int32 → Int32 → Int32 → Int32 → Int32 → Int32 → Int32 → Int32 → Int32 → Int32 → (Nat → Int32) → (Nat → Int32) → (Nat → Int32) → (Nat → Int32) → Int32 → Option zRS) (q n a : Nat) (r : Nat → Int32) (s : zRS) : Option zRS := fX9_readNot rec (zJ q) s.1 (zJ n) s.2.1 s.2.2.1 s.2.2.2.1 s.2.2.2.2.1 s.2.2.2.2.2.1 s.2.2.2.2.2.2.1 (zJ q) s.2.2.2.2.2.2.2.1 s.2.2.2.2.2.2.2.2.1 s.2.2.2.2.2.2.2.2.2 r (zJ a)
def zFAnd (rec : Int32 → Int32 → Int32 → Int32 → Int32 → Int32 → Int32 → Int32 → Int32 → Int32 → (Nat → Int32) → (Nat → Int32) → (Nat → Int32) → (Nat → Int32) → Int32 → Option zRS) (q n a : Nat) (r : Nat → Int32) (s : zRS) : Option zRS := fX9_readAnd rec (zJ q) s.1 (zJ n) s.2.1 s.2.2.1 s.2.2.2.1 s.2.2.2.2.1 s.2.2.2.2.2.1 s.2.2.2.2.2.2.1 (zJ q) s.2.2.2.2.2.2.2.1 s.2.2.2.2.2.2.2.2.1 s.2.2.2.2.2.2.2.2.2 r (zJ a)
def zFOr (rec : Int32 → Int32 → Int32 → Int32 → Int32 → Int32 → Int32 → Int32 → Int32 → Int32 → (Nat → Int32) → (Nat → Int32) → (Nat → Int32) → (Nat → Int32) → Int32 → Option zRS) (q n a : Nat) (r : Nat → Int32) (s : zRS) : Option zRS := jX9_readExpression_62 rec (zJ q) s.1 (zJ n) s.2.1 s.2.2.1 s.2.2.2.1 s.2.2.2.2.1 s.2.2.2.2.2.1 s.2.2.2.2.2.2.1 (zJ q) s.2.2.2.2.2.2.2.1 s.2.2.2.2.2.2.2.2.1 s.2.2.2.2.2.2.2.2.2 r (zJ a)
def zLProd (rec : Int32 → Int32 → Int32 → Int32 → Int32 → Int32 → Int32 → Int32 → Int32 → Int32 → (Nat → Int32) → (Nat → Int32) → (Nat → Int32) → (Nat → Int32) → Int32 → Option zRS) (q n a : Nat) (r : Nat → Int32) (f : Nat) (s : zRS) : Option zRS := lX9_readProduct_5 rec (fun x1 x2 x3 x4 x5 x6 x7 x8 x9 x10 => some (x1, x2, x3, x4, x5, x6, x7, x8, x9, x10)) (zJ q) (zJ n) (zJ q) r (zJ a) f s.1 s.2.1 s.2.2.1 s.2.2.2.1 s.2.2.2.2.1 s.2.2.2.2.2.1 s.2.2.2.2.2.2.1 s.2.2.2.2.2.2.2.1 s.2.2.2.2.2.2.2.2.1 s.2.2.2.2.2.2.2.2.2
def zLSum (rec : Int32 → Int32 → Int32 → Int32 → Int32 → Int32 → Int32 → Int32 → Int32 → Int32 → (Nat → Int32) → (Nat → Int32) → (Nat → Int32) → (Nat → Int32) → Int32 → Option zRS) (q n a : Nat) (r : Nat → Int32) (f : Nat) (s : zRS) : Option zRS := lX9_readSum_5 rec (fun x1 x2 x3 x4 x5 x6 x7 x8 x9 x10 => some (x1, x2, x3, x4, x5, x6, x7, x8, x9, x10)) (zJ q) (zJ n) (zJ q) r (zJ a) f s.1 s.2.1 s.2.2.1 s.2.2.2.1 s.2.2.2.2.1 s.2.2.2.2.2.1 s.2.2.2.2.2.2.1 s.2.2.2.2.2.2.2.1 s.2.2.2.2.2.2.2.2.1 s.2.2.2.2.2.2.2.2.2
def zLAnd (rec : Int32 → Int32 → Int32 → Int32 → Int32 → Int32 → Int32 → Int32 → Int32 → Int32 → (Nat → Int32) → (Nat → Int32) → (Nat → Int32) → (Nat → Int32) → Int32 → Option zRS) (q n a : Nat) (r : Nat → Int32) (f : Nat) (s : zRS) : Option zRS := lX9_readAnd_5 rec (fun x1 x2 x3 x4 x5 x6 x7 x8 x9 x10 => some (x1, x2, x3, x4, x5, x6, x7, x8, x9, x10)) (zJ q) (zJ n) (zJ q) r (zJ a) f s.1 s.2.1 s.2.2.1 s.2.2.2.1 s.2.2.2.2.1 s.2.2.2.2.2.1 s.2.2.2.2.2.2.1 s.2.2.2.2.2.2.2.1 s.2.2.2.2.2.2.2.2.1 s.2.2.2.2.2.2.2.2.2
def zLOr (rec : Int32 → Int32 → Int32 → Int32 → Int32 → Int32 → Int32 → Int32 → Int32 → Int32 → (Nat → Int32) → (Nat → Int32) → (Nat → Int32) → (Nat → Int32) → Int32 → Option zRS) (q n a : Nat) (r : Nat → Int32) (f : Nat) (s : zRS) : Option zRS := lX9_readExpression_67 rec (fun x1 x2 x3 x4 x5 x6 x7 x8 x9 x10 => some (x1, x2, x3, x4, x5, x6, x7, x8, x9, x10)) (zJ q) (zJ n) (zJ q) r (zJ a) f s.1 s.2.1 s.2.2.1 s.2.2.2.1 s.2.2.2.2.1 s.2.2.2.2.2.1 s.2.2.2.2.2.2.1 s.2.2.2.2.2.2.2.1 s.2.2.2.2.2.2.2.2.1 s.2.2.2.2.2.2.2.2.2
section
variable {ke : Int32 → Int32 → Int32 → Int32 → Int32 → Int32 → Int32 → Int32 → Int32 → Int32 → Int32 → (Nat → Int32) → Int32 → (Nat → Int32) → Option (Int32 × Int32 × Int32 × Int32 × Int32 × Int32 × Int32 × Int32 × Int32 × Int32 × Int32 × (Nat → Int32) × Int32 × (Nat → Int32) × (Nat → Int32) × (Nat → Int32))} {Q : Int32 × Int32 × Int32 × Int32 × Int32 × Int32 × Int32 × Int32 × Int32 × Int32 × Int32 × (Nat → Int32) × Int32 × (Nat → Int32) × (Nat → Int32) × (Nat → Int32) → Prop} {b r code0 : Nat → Int32} {n q base : Nat} {t0 s0 v0 : Nat → Int32} {rec : Int32 → Int32 → Int32 → Int32 → Int32 → Int32 → Int32 → Int32 → Int32 → Int32 → (Nat → Int32) → (Nat → Int32) → (Nat → Int32) → (Nat → Int32) → Int32 → Option zRS} {a : Nat}
theorem zm_mkc (hn : n ≤ 700) (hB : ∀ i, i < n → zBy (b i) (r i)) {s : zRS} {p : Nat} (hp : p ≤ n) (hs : zTs b n p s) (hbad : zbad s = 0) {c kc : Nat} (hc : c < 128) (hk : zsgk (zJ c) = kc) (h1 : kc ≠ 1) : fX9_isMarked s.2.1 s.2.2.2.1 s.2.2.2.2.2.1 r (zJ c) = some (if (zlx b n p).1 = kc then 1 else 0) := by
  subst hk
  have hbad : s.2.2.2.2.2.1 = 0 := hbad
  rw [hs.2.1, hs.2.2.2.1, hbad]
  exact zm_mk hn hp hB hc h1
theorem zm_isc (hn : n ≤ 700) (hB : ∀ i, i < n → zBy (b i) (r i)) {s : zRS} {p : Nat} (hp : p ≤ n) (hs : zTs b n p s) (hbad : zbad s = 0) {i kc : Nat} (hi : i < 21) (hk : zkn i = kc) : fX9_is i s.2.1 s.2.2.2.1 s.2.2.2.2.1 s.2.2.2.2.2.1 r = some (if (zlx b n p).1 = kc then 1 else 0) := by
  subst hk
  have hbad : s.2.2.2.2.2.1 = 0 := hbad
  rw [hs.2.1, hs.2.2.2.1, hs.2.2.2.2, hbad]
  exact zm_isK hn hp hB hi
theorem zProd0 : ∀ f s, ¬ zbad s = 0 → zLProd rec q n a r (f + 1) s = some s := by
  intro f s h
  unfold zLProd lX9_readProduct_5
  rw [zm_mkB h, Option.bind_some, if_pos rfl, zm_mkB h, Option.bind_some, if_pos rfl]
theorem zProd1 (hn : n ≤ 700) (hB : ∀ i, i < n → zBy (b i) (r i)) : ∀ f s p, p ≤ n → zTs b n p s → zbad s = 0 → zst (zlx b n p).1 ≠ 6 → zLProd rec q n a r (f + 1) s = some s := by
  intro f s p hp hs hbad hk
  have r6 : (zlx b n p).1 ≤ 33 := (zlx_r hp).2.2.2.2.2
  obtain ⟨f6, f5, f4, f3, f2, f1, f0, fo⟩ := zst_f ⟨(zlx b n p).1, by omega⟩
  have e1 : fX9_isMarked s.2.1 s.2.2.2.1 s.2.2.2.2.2.1 r 42 = some (if (zlx b n p).1 = 8 then 1 else 0) := zm_mkc hn hB hp hs hbad (c := 42) (by omega) (by decide) (by omega)
  have e2 : fX9_isMarked s.2.1 s.2.2.2.1 s.2.2.2.2.2.1 r 47 = some (if (zlx b n p).1 = 9 then 1 else 0) := zm_mkc hn hB hp hs hbad (c := 47) (by omega) (by decide) (by omega)
  rw [if_neg (fun z => hk (f6.2 (Or.inl z)))] at e1
  rw [if_neg (fun z => hk (f6.2 (Or.inr z)))] at e2
  unfold zLProd lX9_readProduct_5
  rw [e1, Option.bind_some, if_pos rfl, e2, Option.bind_some, if_pos rfl]
theorem zProd2 (hn : n ≤ 700) (hB : ∀ i, i < n → zBy (b i) (r i)) : ∀ f s p, p ≤ n → zTs b n p s → zbad s = 0 → zst (zlx b n p).1 = 6 → zLProd rec q n a r (f + 1) s = (fX9_stepOn s.1 (zJ n) s.2.1 s.2.2.1 s.2.2.2.1 s.2.2.2.2.1 r).bind fun v => (zFPart rec q n a r (v.1, v.2.1, v.2.2.1, v.2.2.2.1, v.2.2.2.2, s.2.2.2.2.2)).bind fun o => (fX9_lay o.2.2.2.2.2.1 (zJ q) o.2.2.2.2.2.2.2.1 o.2.2.2.2.2.2.2.2.1 o.2.2.2.2.2.2.2.2.2 (zcv (zopk (zlx b n p).1))).bind fun g => zLProd rec q n a r f (o.1, o.2.1, o.2.2.1, o.2.2.2.1, o.2.2.2.2.1, o.2.2.2.2.2.1, o.2.2.2.2.2.2.1, g.1, g.2.1, g.2.2) := by
  intro f s p hp hs hbad hk
  have r6 : (zlx b n p).1 ≤ 33 := (zlx_r hp).2.2.2.2.2
  obtain ⟨f6, f5, f4, f3, f2, f1, f0, fo⟩ := zst_f ⟨(zlx b n p).1, by omega⟩
  have e1 : fX9_isMarked s.2.1 s.2.2.2.1 s.2.2.2.2.2.1 r 42 = some (if (zlx b n p).1 = 8 then 1 else 0) := zm_mkc hn hB hp hs hbad (c := 42) (by omega) (by decide) (by omega)
  have e2 : fX9_isMarked s.2.1 s.2.2.2.1 s.2.2.2.2.2.1 r 47 = some (if (zlx b n p).1 = 9 then 1 else 0) := zm_mkc hn hB hp hs hbad (c := 47) (by omega) (by decide) (by omega)
  have hk : (zlx b n p).1 = 8 ∨ (zlx b n p).1 = 9 := f6.1 hk
  rcases hk with hk | hk
  · rw [if_pos hk] at e1
    have ez : zcv (zopk (zlx b n p).1) = -22 := by rw [hk]; decide
    rw [ez]
    conv => lhs; unfold zLProd lX9_readProduct_5
    rw [e1, Option.bind_some, if_neg (show ¬ (1 : Int32) = 0 by decide)]
    unfold jX9_readProduct_23
    rw [e1, Option.bind_some, if_neg (show ¬ (1 : Int32) = 0 by decide)]
    rfl
  · rw [if_neg (by omega)] at e1
    rw [if_pos hk] at e2
    have ez : zcv (zopk (zlx b n p).1) = -23 := by rw [hk]; decide
    rw [ez]
    conv => lhs; unfold zLProd lX9_readProduct_5
    rw [e1, Option.bind_some, if_pos rfl, e2, Option.bind_some, if_neg (show ¬ (1 : Int32) = 0 by decide)]
    unfold jX9_readProduct_23
    rw [e1, Option.bind_some, if_pos rfl]
    rfl
theorem zSum0 : ∀ f s, ¬ zbad s = 0 → zLSum rec q n a r (f + 1) s = some s := by
  intro f s h
  unfold zLSum lX9_readSum_5
  rw [zm_mkB h, Option.bind_some, if_pos rfl, zm_mkB h, Option.bind_some, if_pos rfl]
theorem zSum1 (hn : n ≤ 700) (hB : ∀ i, i < n → zBy (b i) (r i)) : ∀ f s p, p ≤ n → zTs b n p s → zbad s = 0 → zst (zlx b n p).1 ≠ 5 → zLSum rec q n a r (f + 1) s = some s := by
  intro f s p hp hs hbad hk
  have r6 : (zlx b n p).1 ≤ 33 := (zlx_r hp).2.2.2.2.2
  obtain ⟨f6, f5, f4, f3, f2, f1, f0, fo⟩ := zst_f ⟨(zlx b n p).1, by omega⟩
  have e1 : fX9_isMarked s.2.1 s.2.2.2.1 s.2.2.2.2.2.1 r 43 = some (if (zlx b n p).1 = 6 then 1 else 0) := zm_mkc hn hB hp hs hbad (c := 43) (by omega) (by decide) (by omega)
  have e2 : fX9_isMarked s.2.1 s.2.2.2.1 s.2.2.2.2.2.1 r 45 = some (if (zlx b n p).1 = 7 then 1 else 0) := zm_mkc hn hB hp hs hbad (c := 45) (by omega) (by decide) (by omega)
  rw [if_neg (fun z => hk (f5.2 (Or.inl z)))] at e1
  rw [if_neg (fun z => hk (f5.2 (Or.inr z)))] at e2
  unfold zLSum lX9_readSum_5
  rw [e1, Option.bind_some, if_pos rfl, e2, Option.bind_some, if_pos rfl]
theorem zSum2 (hn : n ≤ 700) (hB : ∀ i, i < n → zBy (b i) (r i)) : ∀ f s p, p ≤ n → zTs b n p s → zbad s = 0 → zst (zlx b n p).1 = 5 → zLSum rec q n a r (f + 1) s = (fX9_stepOn s.1 (zJ n) s.2.1 s.2.2.1 s.2.2.2.1 s.2.2.2.2.1 r).bind fun v => (zFProd rec q n a r (v.1, v.2.1, v.2.2.1, v.2.2.2.1, v.2.2.2.2, s.2.2.2.2.2)).bind fun o => (fX9_lay o.2.2.2.2.2.1 (zJ q) o.2.2.2.2.2.2.2.1 o.2.2.2.2.2.2.2.2.1 o.2.2.2.2.2.2.2.2.2 (zcv (zopk (zlx b n p).1))).bind fun g => zLSum rec q n a r f (o.1, o.2.1, o.2.2.1, o.2.2.2.1, o.2.2.2.2.1, o.2.2.2.2.2.1, o.2.2.2.2.2.2.1, g.1, g.2.1, g.2.2) := by
  intro f s p hp hs hbad hk
  have r6 : (zlx b n p).1 ≤ 33 := (zlx_r hp).2.2.2.2.2
  obtain ⟨f6, f5, f4, f3, f2, f1, f0, fo⟩ := zst_f ⟨(zlx b n p).1, by omega⟩
  have e1 : fX9_isMarked s.2.1 s.2.2.2.1 s.2.2.2.2.2.1 r 43 = some (if (zlx b n p).1 = 6 then 1 else 0) := zm_mkc hn hB hp hs hbad (c := 43) (by omega) (by decide) (by omega)
  have e2 : fX9_isMarked s.2.1 s.2.2.2.1 s.2.2.2.2.2.1 r 45 = some (if (zlx b n p).1 = 7 then 1 else 0) := zm_mkc hn hB hp hs hbad (c := 45) (by omega) (by decide) (by omega)
  have hk : (zlx b n p).1 = 6 ∨ (zlx b n p).1 = 7 := f5.1 hk
  rcases hk with hk | hk
  · rw [if_pos hk] at e1
    have ez : zcv (zopk (zlx b n p).1) = -20 := by rw [hk]; decide
    rw [ez]
    conv => lhs; unfold zLSum lX9_readSum_5
    rw [e1, Option.bind_some, if_neg (show ¬ (1 : Int32) = 0 by decide)]
    unfold jX9_readSum_23
    rw [e1, Option.bind_some, if_neg (show ¬ (1 : Int32) = 0 by decide)]
    rfl
  · rw [if_neg (by omega)] at e1
    rw [if_pos hk] at e2
    have ez : zcv (zopk (zlx b n p).1) = -21 := by rw [hk]; decide
    rw [ez]
    conv => lhs; unfold zLSum lX9_readSum_5
    rw [e1, Option.bind_some, if_pos rfl, e2, Option.bind_some, if_neg (show ¬ (1 : Int32) = 0 by decide)]
    unfold jX9_readSum_23
    rw [e1, Option.bind_some, if_pos rfl]
    rfl
theorem zAnd0 : ∀ f s, ¬ zbad s = 0 → zLAnd rec q n a r (f + 1) s = some s := by
  intro f s h
  unfold zLAnd lX9_readAnd_5
  rw [zm_isN (by omega) (fun z => h z.1), Option.bind_some, if_pos rfl]
theorem zAnd1 (hn : n ≤ 700) (hB : ∀ i, i < n → zBy (b i) (r i)) : ∀ f s p, p ≤ n → zTs b n p s → zbad s = 0 → zst (zlx b n p).1 ≠ 2 → zLAnd rec q n a r (f + 1) s = some s := by
  intro f s p hp hs hbad hk
  have r6 : (zlx b n p).1 ≤ 33 := (zlx_r hp).2.2.2.2.2
  obtain ⟨f6, f5, f4, f3, f2, f1, f0, fo⟩ := zst_f ⟨(zlx b n p).1, by omega⟩
  have e1 := zm_isc hn hB hp hs hbad (i := 14) (kc := 22) (by omega) (by decide)
  rw [if_neg (fun z => hk (f2.2 z))] at e1
  unfold zLAnd lX9_readAnd_5
  rw [e1, Option.bind_some, if_pos rfl]
theorem zAnd2 (hn : n ≤ 700) (hB : ∀ i, i < n → zBy (b i) (r i)) : ∀ f s p, p ≤ n → zTs b n p s → zbad s = 0 → zst (zlx b n p).1 = 2 → zLAnd rec q n a r (f + 1) s = (fX9_stepOn s.1 (zJ n) s.2.1 s.2.2.1 s.2.2.2.1 s.2.2.2.2.1 r).bind fun v => (zFNot rec q n a r (v.1, v.2.1, v.2.2.1, v.2.2.2.1, v.2.2.2.2, s.2.2.2.2.2)).bind fun o => (fX9_lay o.2.2.2.2.2.1 (zJ q) o.2.2.2.2.2.2.2.1 o.2.2.2.2.2.2.2.2.1 o.2.2.2.2.2.2.2.2.2 (zcv (zopk (zlx b n p).1))).bind fun g => zLAnd rec q n a r f (o.1, o.2.1, o.2.2.1, o.2.2.2.1, o.2.2.2.2.1, o.2.2.2.2.2.1, o.2.2.2.2.2.2.1, g.1, g.2.1, g.2.2) := by
  intro f s p hp hs hbad hk
  have r6 : (zlx b n p).1 ≤ 33 := (zlx_r hp).2.2.2.2.2
  obtain ⟨f6, f5, f4, f3, f2, f1, f0, fo⟩ := zst_f ⟨(zlx b n p).1, by omega⟩
  have hk : (zlx b n p).1 = 22 := f2.1 hk
  have e1 := zm_isc hn hB hp hs hbad (i := 14) (kc := 22) (by omega) (by decide)
  rw [if_pos hk] at e1
  have ez : zcv (zopk (zlx b n p).1) = -26 := by rw [hk]; decide
  rw [ez]
  conv => lhs; unfold zLAnd lX9_readAnd_5
  rw [e1, Option.bind_some, if_neg (show ¬ (1 : Int32) = 0 by decide)]
  rfl
theorem zOr0 : ∀ f s, ¬ zbad s = 0 → zLOr rec q n a r (f + 1) s = some s := by
  intro f s h
  unfold zLOr lX9_readExpression_67
  rw [zm_isN (by omega) (fun z => h z.1), Option.bind_some, if_pos rfl]
theorem zOr1 (hn : n ≤ 700) (hB : ∀ i, i < n → zBy (b i) (r i)) : ∀ f s p, p ≤ n → zTs b n p s → zbad s = 0 → zst (zlx b n p).1 ≠ 1 → zLOr rec q n a r (f + 1) s = some s := by
  intro f s p hp hs hbad hk
  have r6 : (zlx b n p).1 ≤ 33 := (zlx_r hp).2.2.2.2.2
  obtain ⟨f6, f5, f4, f3, f2, f1, f0, fo⟩ := zst_f ⟨(zlx b n p).1, by omega⟩
  have e1 := zm_isc hn hB hp hs hbad (i := 15) (kc := 21) (by omega) (by decide)
  rw [if_neg (fun z => hk (f1.2 z))] at e1
  unfold zLOr lX9_readExpression_67
  rw [e1, Option.bind_some, if_pos rfl]
theorem zOr2 (hn : n ≤ 700) (hB : ∀ i, i < n → zBy (b i) (r i)) : ∀ f s p, p ≤ n → zTs b n p s → zbad s = 0 → zst (zlx b n p).1 = 1 → zLOr rec q n a r (f + 1) s = (fX9_stepOn s.1 (zJ n) s.2.1 s.2.2.1 s.2.2.2.1 s.2.2.2.2.1 r).bind fun v => (zFAnd rec q n a r (v.1, v.2.1, v.2.2.1, v.2.2.2.1, v.2.2.2.2, s.2.2.2.2.2)).bind fun o => (fX9_lay o.2.2.2.2.2.1 (zJ q) o.2.2.2.2.2.2.2.1 o.2.2.2.2.2.2.2.2.1 o.2.2.2.2.2.2.2.2.2 (zcv (zopk (zlx b n p).1))).bind fun g => zLOr rec q n a r f (o.1, o.2.1, o.2.2.1, o.2.2.2.1, o.2.2.2.2.1, o.2.2.2.2.2.1, o.2.2.2.2.2.2.1, g.1, g.2.1, g.2.2) := by
  intro f s p hp hs hbad hk
  have r6 : (zlx b n p).1 ≤ 33 := (zlx_r hp).2.2.2.2.2
  obtain ⟨f6, f5, f4, f3, f2, f1, f0, fo⟩ := zst_f ⟨(zlx b n p).1, by omega⟩
  have hk : (zlx b n p).1 = 21 := f1.1 hk
  have e1 := zm_isc hn hB hp hs hbad (i := 15) (kc := 21) (by omega) (by decide)
  rw [if_pos hk] at e1
  have ez : zcv (zopk (zlx b n p).1) = -27 := by rw [hk]; decide
  rw [ez]
  conv => lhs; unfold zLOr lX9_readExpression_67
  rw [e1, Option.bind_some, if_neg (show ¬ (1 : Int32) = 0 by decide)]
  rfl
theorem zpPart : zPass (zFPart rec q n a r) := by
  intro s h
  unfold zFPart fX9_readPart
  rw [if_neg h]
theorem zProdF (s : zRS) : zFProd rec q n a r s = (zFPart rec q n a r s).bind fun o => zLProd rec q n a r FU o := rfl
theorem zpProd : zPass (zFProd rec q n a r) := zPassL zpPart zProdF zProd0
theorem zsProd (hb : zByts b n) (hB : ∀ i, i < n → zBy (b i) (r i)) (hq : q < 2) (ha : a ≤ 5) (h : zSim ke Q b code0 n q base t0 s0 v0 7 a (zFPart rec q n a r)) : zSim ke Q b code0 n q base t0 s0 v0 6 a (zFProd rec q n a r) := zSimL hb hB hq (by omega) ha h zProdF zProd0 (zProd1 hb.1 hB) (zProd2 hb.1 hB)
theorem zSumF (s : zRS) : zFSum rec q n a r s = (zFProd rec q n a r s).bind fun o => zLSum rec q n a r FU o := rfl
theorem zpSum : zPass (zFSum rec q n a r) := zPassL zpProd zSumF zSum0
theorem zsSum (hb : zByts b n) (hB : ∀ i, i < n → zBy (b i) (r i)) (hq : q < 2) (ha : a ≤ 5) (h : zSim ke Q b code0 n q base t0 s0 v0 6 a (zFProd rec q n a r)) : zSim ke Q b code0 n q base t0 s0 v0 5 a (zFSum rec q n a r) := zSimL hb hB hq (by omega) ha h zSumF zSum0 (zSum1 hb.1 hB) (zSum2 hb.1 hB)
theorem zAndF (s : zRS) : zFAnd rec q n a r s = (zFNot rec q n a r s).bind fun o => zLAnd rec q n a r FU o := rfl
theorem zpAnd (hp : zPass (zFNot rec q n a r)) : zPass (zFAnd rec q n a r) := zPassL hp zAndF zAnd0
theorem zsAnd (hb : zByts b n) (hB : ∀ i, i < n → zBy (b i) (r i)) (hq : q < 2) (ha : a ≤ 5) (h : zSim ke Q b code0 n q base t0 s0 v0 3 a (zFNot rec q n a r)) : zSim ke Q b code0 n q base t0 s0 v0 2 a (zFAnd rec q n a r) := zSimL hb hB hq (by omega) ha h zAndF zAnd0 (zAnd1 hb.1 hB) (zAnd2 hb.1 hB)
theorem zOrF (s : zRS) : zFOr rec q n a r s = (zFAnd rec q n a r s).bind fun o => zLOr rec q n a r FU o := rfl
theorem zpOr (hp : zPass (zFNot rec q n a r)) : zPass (zFOr rec q n a r) := zPassL (zpAnd hp) zOrF zOr0
theorem zsOr (hb : zByts b n) (hB : ∀ i, i < n → zBy (b i) (r i)) (hq : q < 2) (ha : a ≤ 5) (h : zSim ke Q b code0 n q base t0 s0 v0 2 a (zFAnd rec q n a r)) : zSim ke Q b code0 n q base t0 s0 v0 1 a (zFOr rec q n a r) := zSimL hb hB hq (by omega) ha h zOrF zOr0 (zOr1 hb.1 hB) (zOr2 hb.1 hB)
end
