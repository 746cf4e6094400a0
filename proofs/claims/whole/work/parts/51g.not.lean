/-! ===== pure: nots and a test, in both ===== -/
theorem zwf_nots {rest : List Int32} {d : Nat} (hd : 1 ≤ d) (h : zwf rest d) : ∀ i, zwf (List.replicate i (-7) ++ rest) d
  | 0 => h
  | i + 1 => by
    show zwf ((-7) :: (List.replicate i (-7) ++ rest)) d
    unfold zwf
    rw [if_pos (by decide), if_pos rfl]
    exact ⟨hd, zwf_nots hd h i⟩
theorem zdp_nots {bd i : Nat} {A : List Int32} (h : zdp bd A) : zdp bd (A ++ List.replicate i (-7)) := by
  intro e rest he hr
  rw [List.append_assoc]
  exact h e _ he (zwf_nots (by omega) hr i)
theorem zgd_nots {q i : Nat} : zgd q (List.replicate i (-7)) := fun _ x hx => by rw [List.eq_of_mem_replicate hx]; exact Or.inl (by decide)
theorem znots_top {W : List Int32} (h : ∀ x, W.head? = some x → zsto x < 3) : ∀ (i : Nat) (x : Int32), (List.replicate i (-7) ++ W).head? = some x → zsto x < 4
  | 0, x, hx => by have := h x hx; omega
  | i + 1, x, hx => by
    have e : (-7 : Int32) = x := Option.some.inj hx
    rw [← e]; decide
def zNK (rec : Int32 → Int32 → Int32 → Int32 → Int32 → Int32 → Int32 → Int32 → Int32 → Int32 → (Nat → Int32) → (Nat → Int32) → (Nat → Int32) → (Nat → Int32) → Int32 → Option zRS) (q n a : Nat) (r : Nat → Int32) (s : zRS) (x : Int32) : Option zRS := (zFSum rec q n a r s).bind fun v => (fX9_isMarked v.2.1 v.2.2.2.1 v.2.2.2.2.2.1 r 60).bind fun v21 => if v21 = 0 then (fX9_isMarked v.2.1 v.2.2.2.1 v.2.2.2.2.2.1 r 61).bind fun v39 => if v39 = 0 then jX9_readNot_94 rec v.1 v.2.1 v.2.2.1 v.2.2.2.1 v.2.2.2.2.1 v.2.2.2.2.2.1 v.2.2.2.2.2.2.1 (zJ q) v.2.2.2.2.2.2.2.1 v.2.2.2.2.2.2.2.2.1 v.2.2.2.2.2.2.2.2.2 x else jX9_readNot_63 rec (zJ q) v.1 (zJ n) v.2.1 v.2.2.1 v.2.2.2.1 v.2.2.2.2.1 v.2.2.2.2.2.1 v.2.2.2.2.2.2.1 (zJ q) v.2.2.2.2.2.2.2.1 v.2.2.2.2.2.2.2.2.1 v.2.2.2.2.2.2.2.2.2 r (zJ a) x else jX9_readNot_63 rec (zJ q) v.1 (zJ n) v.2.1 v.2.2.1 v.2.2.2.1 v.2.2.2.2.1 v.2.2.2.2.2.1 v.2.2.2.2.2.2.1 (zJ q) v.2.2.2.2.2.2.2.1 v.2.2.2.2.2.2.2.2.1 v.2.2.2.2.2.2.2.2.2 r (zJ a) x
section
variable {ke : Int32 → Int32 → Int32 → Int32 → Int32 → Int32 → Int32 → Int32 → Int32 → Int32 → Int32 → (Nat → Int32) → Int32 → (Nat → Int32) → Option (Int32 × Int32 × Int32 × Int32 × Int32 × Int32 × Int32 × Int32 × Int32 × Int32 × Int32 × (Nat → Int32) × Int32 × (Nat → Int32) × (Nat → Int32) × (Nat → Int32))} {Q : Int32 × Int32 × Int32 × Int32 × Int32 × Int32 × Int32 × Int32 × Int32 × Int32 × Int32 × (Nat → Int32) × Int32 × (Nat → Int32) × (Nat → Int32) × (Nat → Int32) → Prop} {b r code0 : Nat → Int32} {n q base : Nat} {t0 s0 v0 : Nat → Int32} {rec : Int32 → Int32 → Int32 → Int32 → Int32 → Int32 → Int32 → Int32 → Int32 → Int32 → (Nat → Int32) → (Nat → Int32) → (Nat → Int32) → (Nat → Int32) → Int32 → Option zRS} {a : Nat}
theorem zl_not {kk : (Nat → Int32) → (Nat → Int32) → (Nat → Int32) → Option zRS} {QQ : zRS → Prop} (hq : q < 2) {x : Nat} (hx : x ≤ 6) : ∀ (k j fuel : Nat) (L : List Int32) (t s v : Nat → Int32), k + j = x → k < fuel → zG q t0 s0 v0 L t s v → L.length + k ≤ 700 → (∀ t' s' v', zG q t0 s0 v0 (L ++ List.replicate k (-7)) t' s' v' → zOk (kk t' s' v') QQ) → zOk (lX9_readNot_96 rec kk 0 (zJ q) (zJ x) fuel t s v (zJ j)) QQ := by
  intro k
  induction k with
  | zero =>
    intro j fuel L t s v hj hf hg hL h
    obtain ⟨fuel, rfl, hf⟩ := zfu hf
    unfold lX9_readNot_96
    refine zOk.pos (zJ_yle (by omega) (by omega)) (h t s v ?_)
    rw [show List.replicate 0 (-7 : Int32) = [] from rfl, List.append_nil]
    exact hg
  | succ k ih =>
    intro j fuel L t s v hj hf hg hL h
    obtain ⟨fuel, rfl, hf⟩ := zfu hf
    unfold lX9_readNot_96
    refine zOk.neg (zJ_nle (by omega) (by omega)) (zOk.bind (zm_lay hq hg (by omega) (w := -7) (by decide)) (fun g hgg => ?_))
    rw [zJ_succ]
    refine ih (j + 1) fuel (L ++ [-7]) _ _ _ (by omega) (by omega) hgg (by rw [List.length_append]; show L.length + 1 + k ≤ 700; omega) (fun t' s' v' h' => h t' s' v' ?_)
    rw [List.append_assoc] at h'
    exact h'
theorem zl_notB {kk : (Nat → Int32) → (Nat → Int32) → (Nat → Int32) → Option zRS} {bad qv : Int32} (hb : ¬ bad = 0) {x : Nat} (hx : x ≤ 7) {t s v : Nat → Int32} : ∀ (k j fuel : Nat), k + j = x → k < fuel → lX9_readNot_96 rec kk bad qv (zJ x) fuel t s v (zJ j) = kk t s v := by
  intro k
  induction k with
  | zero =>
    intro j fuel hj hf
    obtain ⟨fuel, rfl, hf⟩ := zfu hf
    unfold lX9_readNot_96
    rw [if_pos (zJ_yle (by omega) (by omega))]
  | succ k ih =>
    intro j fuel hj hf
    obtain ⟨fuel, rfl, hf⟩ := zfu hf
    unfold lX9_readNot_96
    rw [if_neg (zJ_nle (by omega) (by omega)), zm_layB hb, Option.bind_some, zJ_succ]
    exact ih (j + 1) fuel (by omega) (by omega)
theorem zj94B {v : zRS} (hb : ¬ zbad v = 0) {i : Nat} (hi : i ≤ 7) : jX9_readNot_94 rec v.1 v.2.1 v.2.2.1 v.2.2.2.1 v.2.2.2.2.1 v.2.2.2.2.2.1 v.2.2.2.2.2.2.1 (zJ q) v.2.2.2.2.2.2.2.1 v.2.2.2.2.2.2.2.2.1 v.2.2.2.2.2.2.2.2.2 (zJ i) = some v := by
  unfold jX9_readNot_94
  exact zl_notB hb hi i 0 FU (by omega) (by unfold FU; omega)
theorem zNKB {s : zRS} (hb : ¬ zbad s = 0) {i : Nat} (hi : i ≤ 7) : zNK rec q n a r s (zJ i) = some s := by
  unfold zNK
  rw [zpSum s hb, Option.bind_some, zm_mkB hb, Option.bind_some, if_pos rfl, zm_mkB hb, Option.bind_some, if_pos rfl]
  exact zj94B hb hi
theorem zNKs (hb : zByts b n) (hB : ∀ i, i < n → zBy (b i) (r i)) (hq : q < 2) (ha : a ≤ 5) (hsum : zSim ke Q b code0 n q base t0 s0 v0 5 a (zFSum rec q n a r)) {p0 p i mm : Nat} {s : zRS} {W C : List Int32} {may : Int32} {goal : Prop} (hi : i ≤ 6) (hp : p ≤ n) (hs : zTs b n p s) (hbad : zbad s = 0) (hg : zGs q t0 s0 v0 C s) (hp0 : p0 + i ≤ p) (hbase : base + C.length + W.length ≤ p0) (hW : W.length ≤ 12 * a + 2) (hWt : ∀ x, W.head? = some x → zsto x < 3) (hk : (zlx b n p).1 ≠ 23) (hgoal : zCR ke Q b code0 n q base p 1 may (List.replicate i (-7) ++ W) C a mm → goal) : zOk (zNK rec q n a r s (zJ i)) (fun o => zRes ke Q b code0 n q base t0 s0 v0 3 (5 * a + 2) a p0 W C o goal) := by
  have hn := hb.1
  have hNl : (List.replicate i (-7 : Int32)).length = i := List.length_replicate
  have hNW : (List.replicate i (-7 : Int32) ++ W).length = i + W.length := by rw [List.length_append, hNl]
  have htop := znots_top hWt i
  unfold zNK
  refine zOk.bind (hsum p s (List.replicate i (-7) ++ W) C may mm hp hs hbad hg (by omega) (by show _ ≤ 12 * a + 9; omega) (fun x hx => by have := htop x hx; omega) (Or.inr hk)) (fun o ho => ?_)
  rcases ho with h | ⟨b1, b0, p', C2, P2, b2, b3, b4, b5, b6, b7, b8, b9, b10, b11⟩
  · refine zOk.eq (zm_mkB h.1) (zOk.pos rfl (zOk.eq (zm_mkB h.1) (zOk.pos rfl ?_)))
    rw [zj94B h.1 (by omega)]
    obtain ⟨c1, S, L, c2, c3, c4, c5⟩ := h
    exact ⟨_, rfl, Or.inl ⟨c1, S, L, c2, c3, c4, fun h => hgoal (c5 h)⟩⟩
  · obtain ⟨u1, u2, u3, u4, u5, u6⟩ := zlx_r (b := b) b2
    obtain ⟨f6, f5, f4, f3, f2, f1, f0, fo⟩ := zst_f ⟨(zlx b n p').1, by omega⟩
    have f4 : zst (zlx b n p').1 = 4 ↔ (zlx b n p').1 = 10 ∨ (zlx b n p').1 = 11 := f4
    have f3 : zst (zlx b n p').1 ≠ 3 := f3
    have b1' : o.2.2.2.2.2.1 = 0 := b1
    have b7 : P2.length ≤ 2 := b7
    have hl1 : (C ++ C2 ++ P2).length = C.length + C2.length + P2.length := by rw [List.length_append, List.length_append]
    have e1 : fX9_isMarked o.2.1 o.2.2.2.1 o.2.2.2.2.2.1 r 60 = some (if (zlx b n p').1 = 10 then 1 else 0) := zm_mkc hn hB b2 b4 b1 (c := 60) (by omega) (by decide) (by omega)
    have e2 : fX9_isMarked o.2.1 o.2.2.2.1 o.2.2.2.2.2.1 r 61 = some (if (zlx b n p').1 = 11 then 1 else 0) := zm_mkc hn hB b2 b4 b1 (c := 61) (by omega) (by decide) (by omega)
    by_cases kt : (zlx b n p').1 = 10 ∨ (zlx b n p').1 = 11
    · have u5 := u5 (by omega)
      obtain ⟨t1, t2, t3, t4, t5⟩ := zop_t kt
      have fo : zopk (zlx b n p').1 ≠ 0 ∧ zopk (zlx b n p').1 < -6 ∧ zopk (zlx b n p').1 ≠ -7 ∧ -15 ≤ zopk (zlx b n p').1 := fo (by show 1 ≤ zst (zlx b n p').1; rw [f4.2 kt]; omega)
      have m79 : zOk (jX9_readNot_79 rec (zJ q) o.1 (zJ n) o.2.1 o.2.2.1 o.2.2.2.1 o.2.2.2.2.1 o.2.2.2.2.2.1 o.2.2.2.2.2.2.1 (zJ q) o.2.2.2.2.2.2.2.1 o.2.2.2.2.2.2.2.2.1 o.2.2.2.2.2.2.2.2.2 r (zJ a) (zJ i) (zcv (zopk (zlx b n p').1))) (fun o => zRes ke Q b code0 n q base t0 s0 v0 3 (5 * a + 2) a p0 W C o goal) := by
        unfold jX9_readNot_79
        have hc1 : (zopk (zlx b n p').1 :: (List.replicate i (-7) ++ W)).length = i + W.length + 1 := by rw [List.length_cons, hNW]
        have goal2 : zCR ke Q b code0 n q base (zlx b n p').2.2.1 1 0 (zopk (zlx b n p').1 :: (List.replicate i (-7) ++ W)) (C ++ C2 ++ P2) a 0 → goal := fun h => hgoal (b11 (fun may m => zc_test hb b2 kt b6 htop (by omega) (by rw [List.length_append]; omega) (by omega) h))
        refine zOk.bind (zm_go hn b2 hB b4) (fun v hv => ?_)
        refine zOk.bind (hsum (zlx b n p').2.2.1 (v.1, v.2.1, v.2.2.1, v.2.2.2.1, v.2.2.2.2, o.2.2.2.2.2) (zopk (zlx b n p').1 :: (List.replicate i (-7) ++ W)) (C ++ C2 ++ P2) 0 0 u3 hv b1 b5 (by omega) (by show _ ≤ 12 * a + 9; omega) (fun x hx => by rw [← Option.some.inj hx]; omega) (Or.inl rfl)) (fun w hw => ?_)
        rcases hw with h | ⟨d1, d0, p2, C3, P3, d2, d3, d4, d5, d6, d7, d8, d9, d10, d11⟩
        · refine zOk.eq (zm_layB h.1) ?_
          obtain ⟨c1, S, L, c2, c3, c4, c5⟩ := h
          refine ⟨_, zj94B (v := w) c1 (by omega), Or.inl ⟨c1, S, L, c2, c3, c4, fun h => goal2 (c5 h)⟩⟩
        · have d1' : w.2.2.2.2.2.1 = 0 := d1
          have d7 : P3.length ≤ 2 := d7
          rw [d1']
          have hl2 : (C ++ C2 ++ P2 ++ C3 ++ P3).length = C.length + C2.length + P2.length + C3.length + P3.length := by rw [List.length_append, List.length_append, hl1]
          have hl3 : (C ++ C2 ++ P2 ++ C3 ++ P3 ++ [zopk (zlx b n p').1]).length = C.length + C2.length + P2.length + C3.length + P3.length + 1 := by rw [List.length_append, hl2]; rfl
          refine zOk.bind (zm_lay hq d5 (by omega) (w := zopk (zlx b n p').1) rfl) (fun g hgg => ?_)
          unfold jX9_readNot_94
          refine zl_not (t0 := t0) (s0 := s0) (v0 := v0) hq hi i 0 FU _ _ _ _ (by omega) (by unfold FU; omega) hgg (by omega) (fun t' s' v' h' => ⟨_, rfl, Or.inr ⟨rfl, ha, p2, C2 ++ P2 ++ C3, P3 ++ [zopk (zlx b n p').1] ++ List.replicate i (-7), d2, ?_, d4, ?_, ?_, ?_, ?_, ?_, ?_, fun h => goal2 (d11 (fun may m => ?_))⟩⟩)
          · rw [List.length_append, List.length_append, List.length_append, List.length_append, hNl]
            show p0 + (C2.length + P2.length + C3.length) + (P3.length + 1 + i) ≤ p2
            omega
          · have e : C ++ (C2 ++ P2 ++ C3) ++ (P3 ++ [zopk (zlx b n p').1] ++ List.replicate i (-7)) = C ++ C2 ++ P2 ++ C3 ++ P3 ++ [zopk (zlx b n p').1] ++ List.replicate i (-7) := by simp only [List.append_assoc]
            rw [e]; exact h'
          · intro y hy
            rcases List.mem_append.1 hy with hy | hy
            · rcases List.mem_append.1 hy with hy | hy
              · have := d6 y hy; omega
              · rw [List.mem_singleton.1 hy, t2]; omega
            · rw [List.eq_of_mem_replicate hy]; decide
          · rw [List.length_append, List.length_append, hNl]
            show P3.length + 1 + i ≤ 9
            omega
          · obtain ⟨g6, g5, g4, g3, g2, g1, g0, go⟩ := zst_f ⟨(zlx b n p2).1, by have := (zlx_r (b := b) d2).2.2.2.2.2; omega⟩
            have g3 : zst (zlx b n p2).1 ≠ 3 := g3
            by_cases y : zst (zlx b n p2).1 = 4
            · exact Or.inl ⟨y, fun _ => ⟨P3, zopk (zlx b n p').1, List.replicate i (-7), by simp only [List.append_assoc]; rfl, d6, t2⟩⟩
            · refine Or.inr ?_
              rcases d8 with z | z
              · exact absurd z.1 y
              · omega
          · have e : C2 ++ P2 ++ C3 ++ (P3 ++ [zopk (zlx b n p').1] ++ List.replicate i (-7)) = ((C2 ++ P2) ++ ((C3 ++ P3) ++ [zopk (zlx b n p').1])) ++ List.replicate i (-7) := by simp only [List.append_assoc]
            rw [e]
            exact zdp_nots (zdp_op (by omega) (zdp_le b9 (by show 5 * a + 2 ≤ 5 * a + 3; omega)) (zdp_le d9 (by show 5 * a + 2 + 1 ≤ 5 * a + 3; omega)) fo.2.1 fo.2.2.1 fo.2.2.2)
          · have e : C2 ++ P2 ++ C3 ++ (P3 ++ [zopk (zlx b n p').1] ++ List.replicate i (-7)) = ((C2 ++ P2) ++ ((C3 ++ P3) ++ [zopk (zlx b n p').1])) ++ List.replicate i (-7) := by simp only [List.append_assoc]
            rw [e]
            exact zgd_app (zgd_app b10 (zgd_app d10 (zgd_1 fo.2.1))) zgd_nots
          · have h := h may m
            have x1 : P3 ++ [zopk (zlx b n p').1] ++ List.replicate i (-7) ++ W = P3 ++ zopk (zlx b n p').1 :: (List.replicate i (-7) ++ W) := by simp only [List.append_assoc]; rfl
            have x2 : C ++ (C2 ++ P2 ++ C3) = C ++ C2 ++ P2 ++ C3 := by simp only [List.append_assoc]
            rw [x1, x2] at h
            exact h
      have m63 : zOk (jX9_readNot_63 rec (zJ q) o.1 (zJ n) o.2.1 o.2.2.1 o.2.2.2.1 o.2.2.2.2.1 o.2.2.2.2.2.1 o.2.2.2.2.2.2.1 (zJ q) o.2.2.2.2.2.2.2.1 o.2.2.2.2.2.2.2.2.1 o.2.2.2.2.2.2.2.2.2 r (zJ a) (zJ i)) (fun o => zRes ke Q b code0 n q base t0 s0 v0 3 (5 * a + 2) a p0 W C o goal) := by
        unfold jX9_readNot_63
        refine zOk.eq e1 ?_
        rcases kt with kt | kt
        · rw [if_pos kt]
          refine zOk.neg (by decide) ?_
          rw [show zcv (zopk (zlx b n p').1) = -24 by rw [kt]; decide] at m79
          exact m79
        · rw [if_neg (show ¬ (zlx b n p').1 = 10 by omega)]
          refine zOk.pos rfl ?_
          rw [show zcv (zopk (zlx b n p').1) = -25 by rw [kt]; decide] at m79
          exact m79
      refine zOk.eq e1 ?_
      rcases kt with kt | kt
      · rw [if_pos kt]
        exact zOk.neg (by decide) m63
      · rw [if_neg (show ¬ (zlx b n p').1 = 10 by omega)]
        refine zOk.pos rfl (zOk.eq e2 ?_)
        rw [if_pos kt]
        exact zOk.neg (by decide) m63
    · rw [if_neg (fun z => kt (Or.inl z))] at e1
      rw [if_neg (fun z => kt (Or.inr z))] at e2
      refine zOk.eq e1 (zOk.pos rfl (zOk.eq e2 (zOk.pos rfl ?_)))
      unfold jX9_readNot_94
      rw [b1']
      refine zl_not (t0 := t0) (s0 := s0) (v0 := v0) hq hi i 0 FU _ _ _ _ (by omega) (by unfold FU; omega) b5 (by omega) (fun t' s' v' h' => ⟨_, rfl, Or.inr ⟨rfl, ha, p', C2, P2 ++ List.replicate i (-7), b2, ?_, b4, ?_, ?_, ?_, ?_, ?_, ?_, fun h => hgoal (b11 (fun may m => ?_))⟩⟩)
      · rw [List.length_append, hNl]; omega
      · rw [← List.append_assoc]; exact h'
      · intro y hy
        rcases List.mem_append.1 hy with hy | hy
        · have := b6 y hy; omega
        · rw [List.eq_of_mem_replicate hy]; decide
      · rw [List.length_append, hNl]
        show P2.length + i ≤ 9
        omega
      · refine Or.inr ?_
        rcases b8 with z | z
        · exact absurd (f4.1 z.1) kt
        · have : zst (zlx b n p').1 ≠ 4 := fun y => kt (f4.1 y)
          omega
      · rw [← List.append_assoc]
        exact zdp_nots (zdp_le b9 (by show 5 * a + 2 ≤ 5 * a + 3; omega))
      · rw [← List.append_assoc]
        exact zgd_app b10 zgd_nots
      · have h := h may m
        rw [List.append_assoc] at h
        exact h
theorem zNl (hb : zByts b n) (hB : ∀ i, i < n → zBy (b i) (r i)) (hq : q < 2) (ha : a ≤ 5) (hsum : zSim ke Q b code0 n q base t0 s0 v0 5 a (zFSum rec q n a r)) {p0 : Nat} {W C : List Int32} {goal : Prop} {T S V : Nat → Int32} (hg : zG q t0 s0 v0 C T S V) (hbase : base + C.length + W.length ≤ p0) (hW : W.length ≤ 12 * a + 2) (hWt : ∀ x, W.head? = some x → zsto x < 3) : ∀ (fuel p i : Nat) (A k m g e pl : Int32), n - p + 1 < fuel → i ≤ 6 → p ≤ n → zSyn b n p A k m g e → p0 + i ≤ p → (zCR ke Q b code0 n q base p 1 1 (List.replicate i (-7) ++ W) C a i → goal) → zOk (lX9_readNot_2 rec (fun x1 x2 x3 x4 x5 x6 x7 x => zNK rec q n a r (x1, x2, x3, x4, x5, x6, x7, T, S, V) x) (zJ n) r fuel A k m g e 0 pl (zJ i)) (fun o => zRes ke Q b code0 n q base t0 s0 v0 3 (5 * a + 2) a p0 W C o goal) := by
  intro fuel
  induction fuel with
  | zero => intro p i A k m g e pl hf; omega
  | succ fuel ih =>
    intro p i A k m g e pl hf hi hp hs hp0 hgoal
    have hn := hb.1
    obtain ⟨u1, u2, u3, u4, u5, u6⟩ := zlx_r (b := b) hp
    have hNl : (List.replicate i (-7 : Int32)).length = i := List.length_replicate
    have hNW : (List.replicate i (-7 : Int32) ++ W).length = i + W.length := by rw [List.length_append, hNl]
    have e1 : fX9_is 13 k g e 0 r = some (if (zlx b n p).1 = 23 then 1 else 0) := zm_isc hn hB (s := (A, k, m, g, e, 0, pl, T, S, V)) hp hs rfl (i := 13) (kc := 23) (by omega) (by decide)
    unfold lX9_readNot_2
    refine zOk.eq e1 ?_
    by_cases hk : (zlx b n p).1 = 23
    · rw [if_pos hk]
      refine zOk.neg (by decide) ?_
      have u5 := u5 (by omega)
      by_cases h6 : i = 6
      · refine zOk.pos (show zJ i = 6 from zKe (c := 6) h6) ?_
        unfold fX9_wrong
        refine zOk.eq (if_pos rfl) ?_
        unfold jX9_readNot_23
        refine zOk.neg (by show ¬ (2 : Int32) = 0; decide) ?_
        obtain ⟨fuel, rfl, hf'⟩ := zfu (show 0 < fuel by omega)
        have e2 : fX9_is 13 k g e 2 r = some 0 := zm_isN (by omega) (fun z => absurd z.1 (by decide))
        unfold lX9_readNot_2
        refine zOk.eq e2 (zOk.pos rfl ?_)
        rw [zJ_succ]
        refine ⟨_, zNKB (by show ¬ (2 : Int32) = 0; decide) (by omega), Or.inl ⟨by show ¬ (2 : Int32) = 0; decide, (zlx b n p).2.1, C, hs.2.2.2.1, by omega, hg, fun h => hgoal ?_⟩⟩
        exact zc_f2n hb hp (by omega) hk (by decide) (by omega) (by omega) (by omega) h
      · refine zOk.neg (show ¬ zJ i = 6 from zKn (c := 6) h6 (by omega) (by omega)) ?_
        unfold jX9_readNot_23
        refine zOk.pos rfl (zOk.bind (zm_go hn hp hB hs) (fun v hv => ?_))
        rw [zJ_succ]
        refine ih (zlx b n p).2.2.1 (i + 1) _ _ _ _ _ _ (by omega) (by omega) u3 hv (by omega) (fun h => hgoal ?_)
        exact zc_not hb hp hk (by decide) (by omega) (by omega) (by omega) h
    · rw [if_neg hk]
      refine zOk.pos rfl ?_
      exact zNKs hb hB hq ha hsum (s := (A, k, m, g, e, 0, pl, T, S, V)) hi hp hs rfl hg hp0 hbase hW hWt hk hgoal
theorem zNotF (s : zRS) : zFNot rec q n a r s = lX9_readNot_2 rec (fun x1 x2 x3 x4 x5 x6 x7 x => zNK rec q n a r (x1, x2, x3, x4, x5, x6, x7, s.2.2.2.2.2.2.2.1, s.2.2.2.2.2.2.2.2.1, s.2.2.2.2.2.2.2.2.2) x) (zJ n) r FU s.1 s.2.1 s.2.2.1 s.2.2.2.1 s.2.2.2.2.1 s.2.2.2.2.2.1 s.2.2.2.2.2.2.1 (zJ 0) := rfl
theorem zpNot : zPass (zFNot rec q n a r) := by
  intro s h
  obtain ⟨f, ef⟩ : ∃ f, FU = f + 1 := ⟨FU - 1, by unfold FU; omega⟩
  rw [zNotF, ef]
  unfold lX9_readNot_2
  rw [zm_isN (by omega) (fun z => h z.1), Option.bind_some, if_pos rfl]
  exact zNKB (s := s) h (by omega)
theorem zsNot (hb : zByts b n) (hB : ∀ i, i < n → zBy (b i) (r i)) (hq : q < 2) (ha : a ≤ 5) (hsum : zSim ke Q b code0 n q base t0 s0 v0 5 a (zFSum rec q n a r)) : zSim ke Q b code0 n q base t0 s0 v0 3 a (zFNot rec q n a r) := by
  intro p s W C may m hp hs hbad hg hbase hW hWt he
  have he : may = 1 ∧ m = 0 := he
  have hn := hb.1
  have hbad' : s.2.2.2.2.2.1 = 0 := hbad
  rw [zNotF, hbad', he.1, he.2]
  exact zNl hb hB hq ha hsum hg hbase hW hWt FU p 0 _ _ _ _ _ _ (by unfold FU; omega) (by omega) hp hs (by omega) (fun h => h)
end
