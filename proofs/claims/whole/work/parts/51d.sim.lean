/-! ===== pure: both readers side by side ===== -/
abbrev zRS : Type := Int32 × Int32 × Int32 × Int32 × Int32 × Int32 × Int32 × (Nat → Int32) × (Nat → Int32) × (Nat → Int32)
abbrev zbad (s : zRS) : Int32 := s.2.2.2.2.2.1
abbrev zTs (b : Nat → Int32) (n p : Nat) (s : zRS) : Prop := zSyn b n p s.1 s.2.1 s.2.2.1 s.2.2.2.1 s.2.2.2.2.1
abbrev zGs (q : Nat) (t0 s0 v0 : Nat → Int32) (L : List Int32) (s : zRS) : Prop := zG q t0 s0 v0 L s.2.2.2.2.2.2.2.1 s.2.2.2.2.2.2.2.2.1 s.2.2.2.2.2.2.2.2.2
def zst (k : Nat) : Nat := zsto (zopk k)
def zpl (l : Nat) : Nat := if l = 7 then 0 else if l = 6 then 1 else if l = 5 then 2 else if l = 3 then 9 else if l = 2 then 10 else 11
def zwb (l : Nat) : Nat := if l = 7 then 11 else if l = 6 then 10 else if l = 5 then 9 else if l = 3 then 2 else if l = 2 then 1 else 0
def zbd (l : Nat) : Nat := if l = 7 then 5 else if l = 6 then 4 else if l = 5 then 3 else if l = 3 then 2 else if l = 2 then 1 else 0
def zshape (P : List Int32) : Prop := ∃ P1 t P2, P = P1 ++ t :: P2 ∧ (∀ x, x ∈ P1 → 5 ≤ zsto x) ∧ zsto t = 4
def zex (l k : Nat) (P : List Int32) : Prop := (zst k = 4 ∧ (l ≤ 3 → zshape P)) ∨ zst k < l
def zdp (bd : Nat) (L : List Int32) : Prop := ∀ e rest, e ≤ bd → zwf rest (e + 1) → zwf (L ++ rest) e
def zgd (q : Nat) (L : List Int32) : Prop := q = 0 → ∀ x, x ∈ L → x < -6 ∨ -4 ≤ x
def zent (l : Nat) (may : Int32) (m k : Nat) : Prop := if 5 ≤ l then (may = 0 ∨ k ≠ 23) else (may = 1 ∧ m = 0)
def zFlt (ke : Int32 → Int32 → Int32 → Int32 → Int32 → Int32 → Int32 → Int32 → Int32 → Int32 → Int32 → (Nat → Int32) → Int32 → (Nat → Int32) → Option (Int32 × Int32 × Int32 × Int32 × Int32 × Int32 × Int32 × Int32 × Int32 × Int32 × Int32 × (Nat → Int32) × Int32 × (Nat → Int32) × (Nat → Int32) × (Nat → Int32))) (Q : Int32 × Int32 × Int32 × Int32 × Int32 × Int32 × Int32 × Int32 × Int32 × Int32 × Int32 × (Nat → Int32) × Int32 × (Nat → Int32) × (Nat → Int32) × (Nat → Int32) → Prop) (n q : Nat) (t0 s0 v0 : Nat → Int32) (o : zRS) (goal : Prop) : Prop := ¬ zbad o = 0 ∧ ∃ s L, o.2.2.2.2.2.2.1 = zJ s ∧ s ≤ n ∧ zGs q t0 s0 v0 L o ∧ (zCF ke Q (zbad o) s → goal)
def zSuc (ke : Int32 → Int32 → Int32 → Int32 → Int32 → Int32 → Int32 → Int32 → Int32 → Int32 → Int32 → (Nat → Int32) → Int32 → (Nat → Int32) → Option (Int32 × Int32 × Int32 × Int32 × Int32 × Int32 × Int32 × Int32 × Int32 × Int32 × Int32 × (Nat → Int32) × Int32 × (Nat → Int32) × (Nat → Int32) × (Nat → Int32))) (Q : Int32 × Int32 × Int32 × Int32 × Int32 × Int32 × Int32 × Int32 × Int32 × Int32 × Int32 × (Nat → Int32) × Int32 × (Nat → Int32) × (Nat → Int32) × (Nat → Int32) → Prop) (b code0 : Nat → Int32) (n q base : Nat) (t0 s0 v0 : Nat → Int32) (l x bd d p : Nat) (W C : List Int32) (o : zRS) (goal : Prop) : Prop := zbad o = 0 ∧ d ≤ 5 ∧ ∃ p' C' P, p' ≤ n ∧ p + C'.length + P.length ≤ p' ∧ zTs b n p' o ∧ zGs q t0 s0 v0 (C ++ C' ++ P) o ∧ (∀ y, y ∈ P → l ≤ zsto y) ∧ P.length ≤ zpl l ∧ zex x (zlx b n p').1 P ∧ zdp bd (C' ++ P) ∧ zgd q (C' ++ P) ∧ ((∀ may m, zCR ke Q b code0 n q base p' 0 may (P ++ W) (C ++ C') d m) → goal)
def zRes (ke : Int32 → Int32 → Int32 → Int32 → Int32 → Int32 → Int32 → Int32 → Int32 → Int32 → Int32 → (Nat → Int32) → Int32 → (Nat → Int32) → Option (Int32 × Int32 × Int32 × Int32 × Int32 × Int32 × Int32 × Int32 × Int32 × Int32 × Int32 × (Nat → Int32) × Int32 × (Nat → Int32) × (Nat → Int32) × (Nat → Int32))) (Q : Int32 × Int32 × Int32 × Int32 × Int32 × Int32 × Int32 × Int32 × Int32 × Int32 × Int32 × (Nat → Int32) × Int32 × (Nat → Int32) × (Nat → Int32) × (Nat → Int32) → Prop) (b code0 : Nat → Int32) (n q base : Nat) (t0 s0 v0 : Nat → Int32) (l bd d p : Nat) (W C : List Int32) (o : zRS) (goal : Prop) : Prop := zFlt ke Q n q t0 s0 v0 o goal ∨ zSuc ke Q b code0 n q base t0 s0 v0 l l bd d p W C o goal
def zSim (ke : Int32 → Int32 → Int32 → Int32 → Int32 → Int32 → Int32 → Int32 → Int32 → Int32 → Int32 → (Nat → Int32) → Int32 → (Nat → Int32) → Option (Int32 × Int32 × Int32 × Int32 × Int32 × Int32 × Int32 × Int32 × Int32 × Int32 × Int32 × (Nat → Int32) × Int32 × (Nat → Int32) × (Nat → Int32) × (Nat → Int32))) (Q : Int32 × Int32 × Int32 × Int32 × Int32 × Int32 × Int32 × Int32 × Int32 × Int32 × Int32 × (Nat → Int32) × Int32 × (Nat → Int32) × (Nat → Int32) × (Nat → Int32) → Prop) (b code0 : Nat → Int32) (n q base : Nat) (t0 s0 v0 : Nat → Int32) (l a : Nat) (F : zRS → Option zRS) : Prop := ∀ (p : Nat) (s : zRS) (W C : List Int32) (may : Int32) (m : Nat), p ≤ n → zTs b n p s → zbad s = 0 → zGs q t0 s0 v0 C s → base + C.length + W.length ≤ p → W.length ≤ 12 * a + zwb l → (∀ x, W.head? = some x → zsto x < l) → zent l may m (zlx b n p).1 → zOk (F s) (fun o => zRes ke Q b code0 n q base t0 s0 v0 l (5 * a + zbd l) a p W C o (zCR ke Q b code0 n q base p 1 may W C a m))
def zPass (F : zRS → Option zRS) : Prop := ∀ s, ¬ zbad s = 0 → F s = some s
theorem zst_f : ∀ k : Fin 34, (zst k.1 = 6 ↔ k.1 = 8 ∨ k.1 = 9) ∧ (zst k.1 = 5 ↔ k.1 = 6 ∨ k.1 = 7) ∧ (zst k.1 = 4 ↔ k.1 = 10 ∨ k.1 = 11) ∧ zst k.1 ≠ 3 ∧ (zst k.1 = 2 ↔ k.1 = 22) ∧ (zst k.1 = 1 ↔ k.1 = 21) ∧ (zst k.1 = 0 → zopk k.1 = 0) ∧ (1 ≤ zst k.1 → zopk k.1 ≠ 0 ∧ zopk k.1 < -6 ∧ zopk k.1 ≠ -7 ∧ -15 ≤ zopk k.1) := by decide +kernel
theorem zshape_app {P R : List Int32} (h : zshape P) : zshape (P ++ R) := by
  obtain ⟨P1, t, P2, e, h1, h2⟩ := h
  exact ⟨P1, t, P2 ++ R, by rw [e, List.append_assoc]; rfl, h1, h2⟩
theorem zdp_op {bd : Nat} {A B : List Int32} {w : Int32} (hb : bd ≤ 38) (hA : zdp bd A) (hB : zdp (bd + 1) B) (h1 : w < -6) (h2 : w ≠ -7) (h3 : -15 ≤ w) : zdp bd (A ++ (B ++ [w])) := by
  intro e rest he hr
  rw [List.append_assoc, List.append_assoc]
  refine hA e _ he (hB (e + 1) _ (by omega) ?_)
  show zwf (w :: rest) (e + 1 + 1)
  unfold zwf
  rw [if_pos h1, if_neg h2]
  exact ⟨h3, by omega, by omega, hr⟩
theorem zdp_le {bd bd' : Nat} {A : List Int32} (h : zdp bd A) (hb : bd' ≤ bd) : zdp bd' A := fun e rest he hr => h e rest (by omega) hr
theorem zgd_app {q : Nat} {A B : List Int32} (hA : zgd q A) (hB : zgd q B) : zgd q (A ++ B) := fun hq x hx => (List.mem_append.1 hx).elim (hA hq x) (hB hq x)
theorem zgd_1 {q : Nat} {w : Int32} (h : w < -6) : zgd q [w] := fun _ x hx => by rw [List.mem_singleton.1 hx]; exact Or.inl h
theorem zlv {l : Nat} (h : l = 6 ∨ l = 5 ∨ l = 2 ∨ l = 1) : zwb (l + 1) = zwb l + 1 ∧ zpl l = zpl (l + 1) + 1 ∧ zbd (l + 1) = zbd l + 1 ∧ zpl l + zwb l = 11 ∧ zbd l ≤ 4 := by rcases h with rfl | rfl | rfl | rfl <;> decide
theorem zent_s {l m k : Nat} {may : Int32} (h : l = 6 ∨ l = 5 ∨ l = 2 ∨ l = 1) (he : zent l may m k) : zent (l + 1) may m k := by rcases h with rfl | rfl | rfl | rfl <;> exact he
theorem zent_o {l k k' : Nat} (h : l = 6 ∨ l = 5 ∨ l = 2 ∨ l = 1) (hk : k ≤ 33) (he : zst k = l) : zent (l + 1) (zmy k) 0 k' := by
  obtain ⟨f6, f5, f4, f3, f2, f1, f0, fo⟩ := zst_f ⟨k, by omega⟩
  rcases h with rfl | rfl | rfl | rfl
  · rcases f6.1 he with e | e <;> (have e : k = _ := e; subst e; exact Or.inl rfl)
  · rcases f5.1 he with e | e <;> (have e : k = _ := e; subst e; exact Or.inl rfl)
  · have e : k = 22 := f2.1 he
    subst e; exact ⟨rfl, rfl⟩
  · have e : k = 21 := f1.1 he
    subst e; exact ⟨rfl, rfl⟩
section
variable {ke : Int32 → Int32 → Int32 → Int32 → Int32 → Int32 → Int32 → Int32 → Int32 → Int32 → Int32 → (Nat → Int32) → Int32 → (Nat → Int32) → Option (Int32 × Int32 × Int32 × Int32 × Int32 × Int32 × Int32 × Int32 × Int32 × Int32 × Int32 × (Nat → Int32) × Int32 × (Nat → Int32) × (Nat → Int32) × (Nat → Int32))} {Q : Int32 × Int32 × Int32 × Int32 × Int32 × Int32 × Int32 × Int32 × Int32 × Int32 × Int32 × (Nat → Int32) × Int32 × (Nat → Int32) × (Nat → Int32) × (Nat → Int32) → Prop} {b r code0 : Nat → Int32} {n q base : Nat} {t0 s0 v0 : Nat → Int32}
theorem zLoop {l a : Nat} (hb : zByts b n) (hB : ∀ i, i < n → zBy (b i) (r i)) (hq : q < 2) (hl : l = 6 ∨ l = 5 ∨ l = 2 ∨ l = 1) (ha : a ≤ 5) {Y : zRS → Option zRS} {lp : Nat → zRS → Option zRS} (hY : zSim ke Q b code0 n q base t0 s0 v0 (l + 1) a Y)
  (l0 : ∀ f s, ¬ zbad s = 0 → lp (f + 1) s = some s)
  (l1 : ∀ f s p, p ≤ n → zTs b n p s → zbad s = 0 → zst (zlx b n p).1 ≠ l → lp (f + 1) s = some s)
  (l2 : ∀ f s p, p ≤ n → zTs b n p s → zbad s = 0 → zst (zlx b n p).1 = l → lp (f + 1) s = (fX9_stepOn s.1 (zJ n) s.2.1 s.2.2.1 s.2.2.2.1 s.2.2.2.2.1 r).bind fun v => (Y (v.1, v.2.1, v.2.2.1, v.2.2.2.1, v.2.2.2.2, s.2.2.2.2.2)).bind fun o => (fX9_lay o.2.2.2.2.2.1 (zJ q) o.2.2.2.2.2.2.2.1 o.2.2.2.2.2.2.2.2.1 o.2.2.2.2.2.2.2.2.2 (zcv (zopk (zlx b n p).1))).bind fun g => lp f (o.1, o.2.1, o.2.2.1, o.2.2.2.1, o.2.2.2.2.1, o.2.2.2.2.2.1, o.2.2.2.2.2.2.1, g.1, g.2.1, g.2.2))
  {p0 : Nat} {W C : List Int32} {goal : Prop} (hbase : base + C.length + W.length ≤ p0) (hW : W.length ≤ 12 * a + zwb l) (hWt : ∀ x, W.head? = some x → zsto x < l) : ∀ (fuel p : Nat) (s : zRS) (C' P : List Int32), n - p < fuel → zbad s = 0 → p ≤ n → p0 + C'.length + P.length ≤ p → zTs b n p s → zGs q t0 s0 v0 (C ++ C' ++ P) s → (∀ y, y ∈ P → l ≤ zsto y) → P.length ≤ zpl l → zex (l + 1) (zlx b n p).1 P → zdp (5 * a + zbd l) (C' ++ P) → zgd q (C' ++ P) → ((∀ may m, zCR ke Q b code0 n q base p 0 may (P ++ W) (C ++ C') a m) → goal) → zOk (lp fuel s) (fun o => zRes ke Q b code0 n q base t0 s0 v0 l (5 * a + zbd l) a p0 W C o goal) := by
  intro fuel
  induction fuel with
  | zero => intro p s C' P hf; omega
  | succ fuel ih =>
    intro p s C' P hf hbad hp hsz hs hg hP hPl hx hdp hgd hk
    have hn := hb.1
    obtain ⟨r1, r2, r3, r4, r5, r6⟩ := zlx_r (b := b) hp
    obtain ⟨v1, v2, v3, v4, v5⟩ := zlv hl
    by_cases z : zst (zlx b n p).1 = l
    · have hl1 : 1 ≤ l := by omega
      obtain ⟨f6, f5, f4, f3, f2, f1, f0, fo⟩ := zst_f ⟨(zlx b n p).1, by omega⟩
      have fo : zopk (zlx b n p).1 ≠ 0 ∧ zopk (zlx b n p).1 < -6 ∧ zopk (zlx b n p).1 ≠ -7 ∧ -15 ≤ zopk (zlx b n p).1 := fo (by show 1 ≤ zst (zlx b n p).1; omega)
      have f4 : zst (zlx b n p).1 = 4 ↔ (zlx b n p).1 = 10 ∨ (zlx b n p).1 = 11 := f4
      have n10 : (zlx b n p).1 ≠ 10 := fun y => by have := f4.2 (Or.inl y); omega
      have n11 : (zlx b n p).1 ≠ 11 := fun y => by have := f4.2 (Or.inr y); omega
      have n0 : (zlx b n p).1 ≠ 0 := fun y => fo.1 (by rw [y]; rfl)
      have r5 := r5 n0
      have hst : zsto (zopk (zlx b n p).1) = l := z
      rw [l2 fuel s p hp hs hbad z]
      refine zOk.bind (zm_go hn hp hB hs) (fun v hv => ?_)
      have hlen : (C ++ C' ++ P).length = C.length + C'.length + P.length := by rw [List.length_append, List.length_append]
      have hc1 : (zopk (zlx b n p).1 :: W).length = W.length + 1 := rfl
      have goal1 : zCR ke Q b code0 n q base (zlx b n p).2.2.1 1 (zmy (zlx b n p).1) (zopk (zlx b n p).1 :: W) (C ++ C' ++ P) a 0 → goal := fun h => hk (fun may m => zc_op hb hp fo.1 n10 n11 (fun x hx => by rw [hst]; exact hP x hx) (fun x hx => by rw [hst]; exact hWt x hx) (by omega) (by omega) (by rw [List.length_append]; omega) (by omega) h)
      refine zOk.bind (hY (zlx b n p).2.2.1 (v.1, v.2.1, v.2.2.1, v.2.2.2.1, v.2.2.2.2, s.2.2.2.2.2) (zopk (zlx b n p).1 :: W) (C ++ C' ++ P) (zmy (zlx b n p).1) 0 r3 hv hbad hg (by omega) (by omega) (fun x hx => by rw [← Option.some.inj hx, hst]; omega) (zent_o hl (by omega) z)) (fun o ho => ?_)
      rcases ho with ⟨b1, S, L, b2, b3, b4, b5⟩ | ⟨b1, b0, p', C2, P2, b2, b3, b4, b5, b6, b7, b8, b9, b10, b11⟩
      · refine zOk.eq (zm_layB b1) ?_
        obtain ⟨f, rfl, hf'⟩ := zfu (show 0 < fuel by omega)
        rw [l0 f _ b1]
        exact ⟨_, rfl, Or.inl ⟨b1, S, L, b2, b3, b4, fun h => goal1 (b5 h)⟩⟩
      · have b1' : o.2.2.2.2.2.1 = 0 := b1
        rw [b1']
        have hlen2 : (C ++ C' ++ P ++ C2 ++ P2).length = C.length + C'.length + P.length + C2.length + P2.length := by rw [List.length_append, List.length_append, hlen]
        refine zOk.bind (zm_lay hq b5 (by omega) rfl) (fun g hgg => ?_)
        refine ih p' _ (C' ++ P ++ C2) (P2 ++ [zopk (zlx b n p).1]) (by omega) rfl b2 ?_ b4 ?_ ?_ ?_ ?_ ?_ ?_ ?_
        · rw [List.length_append, List.length_append, List.length_append]
          show p0 + (C'.length + P.length + C2.length) + (P2.length + 1) ≤ p'
          omega
        · have e : C ++ (C' ++ P ++ C2) ++ (P2 ++ [zopk (zlx b n p).1]) = C ++ C' ++ P ++ C2 ++ P2 ++ [zopk (zlx b n p).1] := by simp only [List.append_assoc]
          rw [e]; exact hgg
        · intro y hy
          rcases List.mem_append.1 hy with h | h
          · have := b6 y h; omega
          · rw [List.mem_singleton.1 h, hst]; exact Nat.le_refl _
        · rw [List.length_append]
          show P2.length + 1 ≤ zpl l
          omega
        · rcases b8 with ⟨h1, h2⟩ | h
          · exact Or.inl ⟨h1, fun h => zshape_app (h2 h)⟩
          · exact Or.inr h
        · have e : C' ++ P ++ C2 ++ (P2 ++ [zopk (zlx b n p).1]) = (C' ++ P) ++ ((C2 ++ P2) ++ [zopk (zlx b n p).1]) := by simp only [List.append_assoc]
          rw [e]
          exact zdp_op (by omega) hdp (zdp_le b9 (by omega)) fo.2.1 fo.2.2.1 fo.2.2.2
        · have e : C' ++ P ++ C2 ++ (P2 ++ [zopk (zlx b n p).1]) = (C' ++ P) ++ ((C2 ++ P2) ++ [zopk (zlx b n p).1]) := by simp only [List.append_assoc]
          rw [e]
          exact zgd_app hgd (zgd_app b10 (zgd_1 fo.2.1))
        · intro h
          refine goal1 (b11 (fun may m => ?_))
          have := h may m
          have e1 : P2 ++ [zopk (zlx b n p).1] ++ W = P2 ++ zopk (zlx b n p).1 :: W := by simp only [List.append_assoc]; rfl
          have e2 : C ++ (C' ++ P ++ C2) = C ++ C' ++ P ++ C2 := by simp only [List.append_assoc]
          rw [e1, e2] at this
          exact this
    · rw [l1 fuel s p hp hs hbad z]
      refine ⟨_, rfl, Or.inr ⟨hbad, ha, p, C', P, hp, hsz, hs, hg, hP, hPl, ?_, hdp, hgd, hk⟩⟩
      rcases hx with ⟨h1, h2⟩ | h
      · rcases hl with rfl | rfl | rfl | rfl
        · exact Or.inl ⟨h1, fun h => by omega⟩
        · exact Or.inl ⟨h1, fun h => by omega⟩
        · exact Or.inl ⟨h1, fun _ => h2 (by omega)⟩
        · exact Or.inl ⟨h1, fun _ => h2 (by omega)⟩
      · exact Or.inr (by omega)
theorem zSimL {l a : Nat} (hb : zByts b n) (hB : ∀ i, i < n → zBy (b i) (r i)) (hq : q < 2) (hl : l = 6 ∨ l = 5 ∨ l = 2 ∨ l = 1) (ha : a ≤ 5) {Y F : zRS → Option zRS} {lp : Nat → zRS → Option zRS} (hY : zSim ke Q b code0 n q base t0 s0 v0 (l + 1) a Y)
  (hF : ∀ s, F s = (Y s).bind fun o => lp FU o)
  (l0 : ∀ f s, ¬ zbad s = 0 → lp (f + 1) s = some s)
  (l1 : ∀ f s p, p ≤ n → zTs b n p s → zbad s = 0 → zst (zlx b n p).1 ≠ l → lp (f + 1) s = some s)
  (l2 : ∀ f s p, p ≤ n → zTs b n p s → zbad s = 0 → zst (zlx b n p).1 = l → lp (f + 1) s = (fX9_stepOn s.1 (zJ n) s.2.1 s.2.2.1 s.2.2.2.1 s.2.2.2.2.1 r).bind fun v => (Y (v.1, v.2.1, v.2.2.1, v.2.2.2.1, v.2.2.2.2, s.2.2.2.2.2)).bind fun o => (fX9_lay o.2.2.2.2.2.1 (zJ q) o.2.2.2.2.2.2.2.1 o.2.2.2.2.2.2.2.2.1 o.2.2.2.2.2.2.2.2.2 (zcv (zopk (zlx b n p).1))).bind fun g => lp f (o.1, o.2.1, o.2.2.1, o.2.2.2.1, o.2.2.2.2.1, o.2.2.2.2.2.1, o.2.2.2.2.2.2.1, g.1, g.2.1, g.2.2)) : zSim ke Q b code0 n q base t0 s0 v0 l a F := by
  intro p s W C may m hp hs hbad hg hbase hW hWt he
  obtain ⟨v1, v2, v3, v4, v5⟩ := zlv hl
  have hn := hb.1
  rw [hF]
  refine zOk.bind (hY p s W C may m hp hs hbad hg hbase (by omega) (fun x hx => by have := hWt x hx; omega) (zent_s hl he)) (fun o ho => ?_)
  rcases ho with h | ⟨b1, b0, p', C2, P2, b2, b3, b4, b5, b6, b7, b8, b9, b10, b11⟩
  · obtain ⟨f, ef⟩ : ∃ f, FU = f + 1 := ⟨FU - 1, by unfold FU; omega⟩
    rw [ef, l0 f o h.1]
    exact ⟨_, rfl, Or.inl h⟩
  · exact zLoop hb hB hq hl ha hY l0 l1 l2 hbase hW hWt FU p' o C2 P2 (by unfold FU; omega) b1 b2 b3 b4 b5 (fun y hy => by have := b6 y hy; omega) (by omega) b8 (zdp_le b9 (by omega)) b10 b11
theorem zPassL {Y F : zRS → Option zRS} {lp : Nat → zRS → Option zRS} (hY : zPass Y) (hF : ∀ s, F s = (Y s).bind fun o => lp FU o) (l0 : ∀ f s, ¬ zbad s = 0 → lp (f + 1) s = some s) : zPass F := by
  intro s h
  obtain ⟨f, ef⟩ : ∃ f, FU = f + 1 := ⟨FU - 1, by unfold FU; omega⟩
  rw [hF, hY s h, Option.bind_some, ef, l0 f s h]
end
