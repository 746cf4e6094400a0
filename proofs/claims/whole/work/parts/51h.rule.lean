/-! ===== pure: an expression and a rule, in both ===== -/
section
variable {ke : Int32 → Int32 → Int32 → Int32 → Int32 → Int32 → Int32 → Int32 → Int32 → Int32 → Int32 → (Nat → Int32) → Int32 → (Nat → Int32) → Option (Int32 × Int32 × Int32 × Int32 × Int32 × Int32 × Int32 × Int32 × Int32 × Int32 × Int32 × (Nat → Int32) × Int32 × (Nat → Int32) × (Nat → Int32) × (Nat → Int32))} {Q : Int32 × Int32 × Int32 × Int32 × Int32 × Int32 × Int32 × Int32 × Int32 × Int32 × Int32 × (Nat → Int32) × Int32 × (Nat → Int32) × (Nat → Int32) × (Nat → Int32) → Prop} {b r code0 : Nat → Int32} {n q base : Nat} {t0 s0 v0 : Nat → Int32}
theorem zpExpr {f a : Nat} (hf : 1 ≤ f) : zPass (zFrec (fX9_readExpression f) q n a r) := by
  intro s h
  obtain ⟨f, rfl⟩ : ∃ g, f = g + 1 := ⟨f - 1, by omega⟩
  show fX9_readExpressionB (fX9_readExpression f) (zJ q) s.1 (zJ n) s.2.1 s.2.2.1 s.2.2.2.1 s.2.2.2.2.1 s.2.2.2.2.2.1 s.2.2.2.2.2.2.1 (zJ q) s.2.2.2.2.2.2.2.1 s.2.2.2.2.2.2.2.2.1 s.2.2.2.2.2.2.2.2.2 r (zJ a) = some s
  unfold fX9_readExpressionB
  rw [if_neg h]
theorem zsExpr (hb : zByts b n) (hB : ∀ i, i < n → zBy (b i) (r i)) (hq : q < 2) : ∀ (f a : Nat), 7 ≤ a + f → 1 ≤ f → a ≤ 6 → zSim ke Q b code0 n q base t0 s0 v0 1 a (zFrec (fX9_readExpression f) q n a r) := by
  intro f
  induction f with
  | zero => intro a _ h; omega
  | succ f ih =>
    intro a h7 _ ha6 p s W C may m hp hs hbad hg hbase hW hWt he
    have hn := hb.1
    obtain ⟨r1, r2, r3, r4, r5, r6⟩ := zlx_r (b := b) hp
    have hbad' : s.2.2.2.2.2.1 = 0 := hbad
    have hW' : W.length ≤ 12 * a + 0 := hW
    show zOk (fX9_readExpressionB (fX9_readExpression f) (zJ q) s.1 (zJ n) s.2.1 s.2.2.1 s.2.2.2.1 s.2.2.2.2.1 s.2.2.2.2.2.1 s.2.2.2.2.2.2.1 (zJ q) s.2.2.2.2.2.2.2.1 s.2.2.2.2.2.2.2.2.1 s.2.2.2.2.2.2.2.2.2 r (zJ a)) _
    have good : ((zlx b n p).1 = 2 ∨ (zlx b n p).1 = 4 ∨ 12 ≤ (zlx b n p).1) → zOk (jX9_readExpression_33 (fX9_readExpression f) (zJ q) s.1 (zJ n) s.2.1 s.2.2.1 s.2.2.2.1 s.2.2.2.2.1 s.2.2.2.2.2.1 s.2.2.2.2.2.2.1 (zJ q) s.2.2.2.2.2.2.2.1 s.2.2.2.2.2.2.2.2.1 s.2.2.2.2.2.2.2.2.2 r (zJ a)) (fun o => zRes ke Q b code0 n q base t0 s0 v0 1 (5 * a + zbd 1) a p W C o (zCR ke Q b code0 n q base p 1 may W C a m)) := by
      intro hk
      unfold jX9_readExpression_33 jX9_readExpression_38
      refine zOk.neg (by show ¬ (1 : Int32) = 0; decide) ?_
      by_cases h6 : a = 6
      · refine zOk.pos (show zJ a = 6 from zKe (c := 6) h6) ?_
        unfold fX9_wrong
        refine zOk.eq (if_pos hbad') ?_
        have nz : ¬ (2 : Int32) = 0 := by decide
        exact ⟨_, zpOr zpNot (s.1, s.2.1, s.2.2.1, s.2.2.2.1, s.2.2.2.2.1, 2, s.2.2.2.1, s.2.2.2.2.2.2.2) nz, Or.inl ⟨nz, (zlx b n p).2.1, C, hs.2.2.2.1, by omega, hg, fun h => zc_f2 hb hp (by omega) (by omega) hk (Or.inl (by omega)) h⟩⟩
      · refine zOk.neg (show ¬ zJ a = 6 from zKn (c := 6) h6 (by omega) (by omega)) ?_
        exact zsOr hb hB hq (by omega) (zsAnd hb hB hq (by omega) (zsNot hb hB hq (by omega) (zsSum hb hB hq (by omega) (zsProd hb hB hq (by omega) (zsPart hb hB hq (by omega) (ih (a + 1) (by omega) (by omega) (by omega)) (zpExpr (by omega))))))) p s W C may m hp hs hbad hg hbase hW hWt he
    unfold fX9_readExpressionB
    refine zOk.pos hbad (zOk.ite (fun z => good (Or.inl ?_)) (fun z2 => zOk.ite (fun z => good (Or.inr (Or.inr ?_))) (fun z1 => ?_)))
    · rw [hs.2.1] at z; exact zrt2.1 z
    · rw [hs.2.1] at z; exact zrt1.1 z
    · have n2 : (zlx b n p).1 ≠ 2 := fun y => z2 (by rw [hs.2.1]; exact zrt2.2 y)
      have n12 : ¬ 12 ≤ (zlx b n p).1 := fun y => z1 (by rw [hs.2.1]; exact zrt1.2 y)
      have e1 : fX9_isMarked s.2.1 s.2.2.2.1 s.2.2.2.2.2.1 r 40 = some (if (zlx b n p).1 = 4 then 1 else 0) := zm_mkc hn hB hp hs hbad (c := 40) (by omega) (by decide) (by omega)
      refine zOk.eq e1 ?_
      by_cases k4 : (zlx b n p).1 = 4
      · rw [if_pos k4]
        exact zOk.neg (by decide) (good (Or.inr (Or.inl k4)))
      · rw [if_neg k4]
        refine zOk.pos rfl ?_
        unfold jX9_readExpression_38
        refine zOk.pos rfl ?_
        unfold fX9_wrong
        refine zOk.eq (if_pos hbad') ?_
        have nz : ¬ (1 : Int32) = 0 := by decide
        exact ⟨_, zpOr zpNot (s.1, s.2.1, s.2.2.1, s.2.2.2.1, s.2.2.2.2.1, 1, s.2.2.2.1, s.2.2.2.2.2.2.2) nz, Or.inl ⟨nz, (zlx b n p).2.1, C, hs.2.2.2.1, by omega, hg, fun h => zc_f1 hb hp (by omega) n2 k4 (by omega) h⟩⟩
theorem zputAny {c : Int32} {code : Nat → Int32} {w : Int32} : ∃ o, fX5_putCode c code w = some o := by
  unfold fX5_putCode
  by_cases z : c < 0
  · rw [if_pos z]; exact ⟨_, rfl⟩
  · rw [if_neg z]
    by_cases y : (700 : Int32) ≤ c
    · rw [if_pos y]; exact ⟨_, rfl⟩
    · rw [if_neg y]
      obtain ⟨i, hi, e⟩ := zJ_of (n := 700) z (by omega) (by show c < 700; grind)
      rw [e, ck_t (zinb hi (by omega))]; exact ⟨_, rfl⟩
theorem zdoAny {wa : Nat → Int32} : ∀ (w fuel : Nat) (len : Int32) (code : Nat → Int32), w ≤ 80 → w < fuel → ∃ o, lX5_doWaiting_5 (fun a b c => some (a, b, c)) wa 1 fuel (zJ w) len code (zJ w) = some o := by
  intro w
  induction w with
  | zero =>
    intro fuel len code h8 hf
    obtain ⟨fuel, rfl, hf⟩ := zfu hf
    unfold lX5_doWaiting_5
    rw [if_pos (show zJ 0 ≤ 0 by decide)]; exact ⟨_, rfl⟩
  | succ w ih =>
    intro fuel len code h8 hf
    obtain ⟨fuel, rfl, hf⟩ := zfu hf
    unfold lX5_doWaiting_5
    rw [if_neg (show ¬ zJ (w + 1) ≤ 0 from zJ_nle (b := 0) (by omega) (by omega)), if_neg (show ¬ (80 : Int32) < zJ (w + 1) from zJ_nlt (a := 80) (by omega) (by omega)), zJ_pred, ck_t (zinb (by omega) (by omega)), zJ_ix (by omega), zst_c, Option.bind_some]
    by_cases z : zJ (zsto (wa w)) < 1
    · rw [if_pos z]; exact ⟨_, rfl⟩
    · rw [if_neg z, ck_t (zinb (by omega) (by omega))]
      obtain ⟨o, e⟩ := zputAny (c := len) (code := code) (w := wa w)
      rw [e, Option.bind_some, zJ_m1]
      exact ih fuel _ _ (by omega) (by omega)
/-- what the class's rule must be, beside the reference's -/
def zRuR (b code0 : Nat → Int32) (n q base p : Nat) (t0 s0 v0 rf rt : Nat → Int32) (om : zRS) (oc : Int32 × Int32 × Int32 × Int32 × Int32 × Int32 × Int32 × Int32 × Int32 × Int32 × Int32 × (Nat → Int32) × Int32 × (Nat → Int32) × (Nat → Int32) × (Nat → Int32)) : Prop :=
  (¬ zbad om = 0 ∧ oc.2.2.2.2.2.1 = zbad om ∧ oc.2.2.1 = om.2.2.2.2.2.2.1 ∧ (∃ s, s ≤ n ∧ om.2.2.2.2.2.2.1 = zJ s) ∧ ∃ L, zGs q t0 s0 v0 L om) ∨
  (zbad om = 0 ∧ ∃ p' L, p' ≤ n ∧ p + L.length ≤ p' ∧ zTs b n p' om ∧ zGs q t0 s0 v0 L om ∧
    (((zlx b n p').1 ≠ 3 ∧ oc.2.2.2.2.2.1 = 1 ∧ oc.2.2.1 = zJ (zlx b n p').2.1) ∨
     ((zlx b n p').1 = 3 ∧ zwf L 0 ∧ zgd q L ∧ oc.1 = zJ (zlx b n p').2.2.1 ∧ oc.2.1 = 3 ∧ oc.2.2.1 = zJ (zlx b n p').2.1 ∧ oc.2.2.2.2.2.1 = 0 ∧ oc.2.2.2.2.2.2.2.2.2.2.2.2.1 = zJ (base + L.length) ∧ zAt oc.2.2.2.2.2.2.2.2.2.2.2.2.2.1 base L ∧ (∀ j, j < base → oc.2.2.2.2.2.2.2.2.2.2.2.2.2.1 j = code0 j) ∧ oc.2.2.2.2.2.2.2.2.2.2.2.2.2.2.1 = upd rf q (zJ base) ∧ oc.2.2.2.2.2.2.2.2.2.2.2.2.2.2.2 = upd rt q (zJ (base + L.length)))))
theorem zRule (hb : zByts b n) (hB : ∀ i, i < n → zBy (b i) (r i)) (hq : q < 2) {p : Nat} (hp : p ≤ n) {s : zRS} (hs : zTs b n p s) (hbad : zbad s = 0) (hg : zGs q t0 s0 v0 [] s) (hbase : base ≤ p) {rf rt : Nat → Int32} {dg nm : Int32} {wa : Nat → Int32} (hd : (zlx b n p).1 = 2 → dg = zJ ((zlx b n p).2.2.1 - (zlx b n p).2.1) ∧ ((zlx b n p).2.2.1 - (zlx b n p).2.1 ≤ 4 → nm = zJ (zlx b n p).2.2.2)) : ∃ om, zFrec (fX9_readExpression DP) q n 0 r s = some om ∧ zOk (lX5_readRule_64 (fun x1 x2 x3 x4 x5 x6 x7 x8 x9 x10 x11 x12 x13 x14 => jX5_readRule_121 x1 x2 x3 x4 x5 x6 x7 x8 x9 x10 x11 x12 x13 x14 (upd rf q (zJ base)) rt (zJ q)) (zJ n) b (zJ q) FU (zJ (zlx b n p).2.2.1) (zJ (zlx b n p).1) (zJ (zlx b n p).2.1) dg nm 0 0 0 0 1 1 wa (zJ base) code0 0) (zRuR b code0 n q base p t0 s0 v0 rf rt om) := by
  have hn := hb.1
  have run : ∀ Q' : Int32 × Int32 × Int32 × Int32 × Int32 × Int32 × Int32 × Int32 × Int32 × Int32 × Int32 × (Nat → Int32) × Int32 × (Nat → Int32) × (Nat → Int32) × (Nat → Int32) → Prop, zOk (zFrec (fX9_readExpression DP) q n 0 r s) (fun o => zRes (fun x1 x2 x3 x4 x5 x6 x7 x8 x9 x10 x11 x12 x13 x14 => jX5_readRule_121 x1 x2 x3 x4 x5 x6 x7 x8 x9 x10 x11 x12 x13 x14 (upd rf q (zJ base)) rt (zJ q)) Q' b code0 n q base t0 s0 v0 1 (5 * 0 + zbd 1) 0 p [] [] o (zCR (fun x1 x2 x3 x4 x5 x6 x7 x8 x9 x10 x11 x12 x13 x14 => jX5_readRule_121 x1 x2 x3 x4 x5 x6 x7 x8 x9 x10 x11 x12 x13 x14 (upd rf q (zJ base)) rt (zJ q)) Q' b code0 n q base p 1 1 [] [] 0 0)) := fun Q' => zsExpr hb hB hq DP 0 (by unfold DP; omega) (by unfold DP; omega) (by omega) p s [] [] 1 0 hp hs hbad hg (by show base + 0 + 0 ≤ p; omega) (by show 0 ≤ _; omega) (fun x hx => by cases hx) ⟨rfl, rfl⟩
  obtain ⟨om, e, _⟩ := run (fun _ => True)
  refine ⟨om, e, ?_⟩
  obtain ⟨om', e', h⟩ := run (zRuR b code0 n q base p t0 s0 v0 rf rt om)
  rw [e] at e'
  have ee : om = om' := Option.some.inj e'
  rw [← ee] at h
  have fin : zCR (fun x1 x2 x3 x4 x5 x6 x7 x8 x9 x10 x11 x12 x13 x14 => jX5_readRule_121 x1 x2 x3 x4 x5 x6 x7 x8 x9 x10 x11 x12 x13 x14 (upd rf q (zJ base)) rt (zJ q)) (zRuR b code0 n q base p t0 s0 v0 rf rt om) b code0 n q base p 1 1 [] [] 0 0 := by
    have anyF : ∀ (f : Int32) (S : Nat), (∀ oc : Int32 × Int32 × Int32 × Int32 × Int32 × Int32 × Int32 × Int32 × Int32 × Int32 × Int32 × (Nat → Int32) × Int32 × (Nat → Int32) × (Nat → Int32) × (Nat → Int32), oc.2.2.2.2.2.1 = f → oc.2.2.1 = zJ S → zRuR b code0 n q base p t0 s0 v0 rf rt om oc) → zCF (fun x1 x2 x3 x4 x5 x6 x7 x8 x9 x10 x11 x12 x13 x14 => jX5_readRule_121 x1 x2 x3 x4 x5 x6 x7 x8 x9 x10 x11 x12 x13 x14 (upd rf q (zJ base)) rt (zJ q)) (zRuR b code0 n q base p t0 s0 v0 rf rt om) f S := by
      intro f S hh e k dg nm w d m due may wa len code hw
      obtain ⟨o, eo⟩ := zdoAny (wa := wa) w FU len code hw (by unfold FU; omega)
      unfold jX5_readRule_121 fX5_doWaiting
      refine zOk.eq eo (zOk.ck (zinb hq (by omega)) ⟨_, rfl, hh _ rfl rfl⟩)
    rcases h with ⟨b1, S, L, b2, b3, b4, b5⟩ | ⟨b1, b0, p', C2, P2, b2, b3, b4, b5, b6, b7, b8, b9, b10, b11⟩
    · exact b5 (anyF _ _ (fun oc h1 h2 => Or.inl ⟨b1, h1, by rw [h2, b2], ⟨S, b3, b2⟩, L, b4⟩))
    · obtain ⟨u1, u2, u3, u4, u5, u6⟩ := zlx_r (b := b) b2
      have b7 : P2.length ≤ 11 := b7
      have hlen : (C2 ++ P2).length = C2.length + P2.length := List.length_append
      refine b11 (fun may m => ?_)
      rw [List.append_nil, List.nil_append]
      rw [List.nil_append] at b5
      by_cases k3 : (zlx b n p').1 = 3
      · intro i fuel dg nm wa code hi hf ht hR hA h0
        obtain ⟨fuel, rfl, hf0⟩ := zfu (show 0 < fuel by omega)
        unfold lX5_readRule_64
        have er : fX5_ruleEnds (zJ (zlx b n p').1) (zJ 0) 0 = some 1 := by rw [k3]; rfl
        refine zOk.neg (zJ_nlt (a := 700) (by omega) (by omega)) (zOk.pos rfl (zOk.eq er (zOk.neg (by decide) ?_)))
        have hR' : zRep wa (P2 ++ []) := by rw [List.append_nil]; exact hR
        obtain ⟨c', a1, a2, a3⟩ := zdo (P := P2) (W := []) (C := C2) (sg := 1) (base := base) (by omega) (by omega) hR' b6 (fun x hx => by cases hx) (by rw [List.append_nil]; omega) (by omega) hA
        rw [List.append_nil] at a3
        have z1 : (1 : Int32) = zJ 1 := rfl
        show zOk (jX5_readRule_121 _ _ _ _ _ _ _ _ _ _ _ _ _ _ _ _ _) _
        unfold jX5_readRule_121
        rw [z1]
        refine zOk.eq a3 (zOk.ck (zinb hq (by omega)) ⟨_, rfl, Or.inr ⟨b1, p', C2 ++ P2, b2, by omega, b4, b5, Or.inr ⟨k3, ?_, b10, rfl, ?_, rfl, rfl, rfl, a1, fun j hj => (a2 j hj).trans (h0 j hj), rfl, ?_⟩⟩⟩)
        · have := b9 0 [] (by omega) (show (0 + 1 : Nat) = 1 from rfl)
          rw [List.append_nil] at this
          exact this
        · show zJ (zlx b n p').1 = 3
          rw [k3]; rfl
        · show upd rt (zJ q).toNatClampNeg _ = _
          rw [zJ_ix (by omega)]
      · have kF := anyF 1 (zlx b n p').2.1 (fun oc h1 h2 => Or.inr ⟨b1, p', C2 ++ P2, b2, by omega, b4, b5, Or.inl ⟨k3, h1, h2⟩⟩)
        obtain ⟨f6, f5, f4, f3, f2, f1, f0, fo⟩ := zst_f ⟨(zlx b n p').1, by omega⟩
        rcases b8 with ⟨h1, h2⟩ | h1
        · obtain ⟨P1, t, P3, e1, e2, e3⟩ := h2 (by omega)
          have hl3 : P2.length = P1.length + (P3.length + 1) := by rw [e1, List.length_append]; rfl
          rw [e1]
          exact zc_testf hb b2 (f4.1 h1) e2 e3 (by omega) (by omega) (by omega) kF
        · exact zc_f1b hb b2 (by omega) (by omega) (f0 (by show zst (zlx b n p').1 = 0; omega)) (Or.inr rfl) (Or.inl k3) kF
  exact fin 0 FU dg nm wa code0 (by omega) (by unfold FU; omega) hd trivial trivial (fun j _ => rfl)
end
