/-! ===== pure: the reading of a rule, step by step ===== -/
def zsto (w : Int32) : Nat := if w = -8 then 1 else if w = -9 then 2 else if w = -7 then 3 else if w = -10 then 4 else if w = -11 then 4 else if w = -12 then 5 else if w = -13 then 5 else if w = -14 then 6 else if w = -15 then 6 else 0
theorem zst_c (w : Int32) : fX5_strengthOf w = some (zJ (zsto w)) := by
  unfold fX5_strengthOf zsto
  by_cases a1 : w = -15
  · subst a1; rfl
  by_cases a2 : w = -14
  · subst a2; rfl
  by_cases a3 : w = -13
  · subst a3; rfl
  by_cases a4 : w = -12
  · subst a4; rfl
  by_cases a5 : w = -11
  · subst a5; rfl
  by_cases a6 : w = -10
  · subst a6; rfl
  by_cases a7 : w = -9
  · subst a7; rfl
  by_cases a8 : w = -8
  · subst a8; rfl
  by_cases a9 : w = -7
  · subst a9; rfl
  simp only [if_neg a1, if_neg a2, if_neg a3, if_neg a4, if_neg a5, if_neg a6, if_neg a7, if_neg a8, if_neg a9]
  rfl
theorem zst_le (w : Int32) : zsto w ≤ 6 := by unfold zsto; repeat' (first | (split; · omega) | omega)
def zopk (k : Nat) : Int32 := if k = 21 then -8 else if k = 22 then -9 else if k = 10 then -10 else if k = 11 then -11 else if k = 6 then -12 else if k = 7 then -13 else if k = 8 then -14 else if k = 9 then -15 else 0
theorem zop_c : ∀ k : Fin 34, fX5_operatorOf (zJ k.1) = some (zopk k.1) := by decide +kernel
theorem zput_c {c : Nat} {code : Nat → Int32} {w : Int32} (h : c < 700) : fX5_putCode (zJ c) code w = some (zJ (c + 1), upd code c w) := by
  unfold fX5_putCode
  rw [if_neg (zJ_nn (by omega)), if_neg (show ¬ (700 : Int32) ≤ zJ c from zJ_nle (a := 700) (by omega) (by omega)), ck_t (zinb h (by omega)), zJ_a1, zJ_ix (by omega)]
theorem zput_w {c : Nat} {wa : Nat → Int32} {w : Int32} (h : c < 80) : fX5_putWaiting (zJ c) wa w = some (zJ (c + 1), upd wa c w) := by
  unfold fX5_putWaiting
  rw [if_neg (zJ_nn (by omega)), if_neg (show ¬ (80 : Int32) ≤ zJ c from zJ_nle (a := 80) (by omega) (by omega)), ck_t (zinb h (by omega)), zJ_a1, zJ_ix (by omega)]
theorem zAt_put {code : Nat → Int32} {v : Int32} {q : Nat} : ∀ (C : List Int32) (p : Nat), zAt code p C → p + C.length ≤ q → zAt (upd code q v) p C
  | [], _, _, _ => trivial
  | w :: C, p, ⟨h1, h2⟩, hq => by
    have hl : (w :: C).length = C.length + 1 := rfl
    exact ⟨by rw [zupd_ne (by omega)]; exact h1, zAt_put C (p + 1) h2 (by omega)⟩
theorem zAt_app {code : Nat → Int32} : ∀ (C D : List Int32) (p : Nat), zAt code p (C ++ D) ↔ zAt code p C ∧ zAt code (p + C.length) D
  | [], D, p => ⟨fun h => ⟨trivial, h⟩, fun h => h.2⟩
  | w :: C, D, p => by
    have := zAt_app (code := code) C D (p + 1)
    show (code p = w ∧ zAt code (p + 1) (C ++ D)) ↔ ((code p = w ∧ zAt code (p + 1) C) ∧ zAt code (p + (C.length + 1)) D)
    rw [this, show p + 1 + C.length = p + (C.length + 1) by omega]
    exact ⟨fun ⟨a, b, c⟩ => ⟨⟨a, b⟩, c⟩, fun ⟨⟨a, b⟩, c⟩ => ⟨a, b, c⟩⟩
theorem zAt_push {code : Nat → Int32} {v : Int32} {C : List Int32} {p : Nat} (h : zAt code p C) : zAt (upd code (p + C.length) v) p (C ++ [v]) := (zAt_app C [v] p).2 ⟨zAt_put C p h (Nat.le_refl _), zupd_eq, trivial⟩
/-- those that bind so strongly are done, down to the first that doesn't -/
theorem zdoW {wa : Nat → Int32} {sg base : Nat} {ke : Int32 → Int32 → (Nat → Int32) → Option (Int32 × Int32 × (Nat → Int32))} (hsg : 1 ≤ sg) (hsg7 : sg ≤ 7) : ∀ (P W C : List Int32) (fuel : Nat) (code : Nat → Int32), zRep wa (P ++ W) → (∀ x, x ∈ P → sg ≤ zsto x) → (∀ x, W.head? = some x → zsto x < sg) → (P ++ W).length ≤ 80 → base + C.length + P.length ≤ 700 → P.length < fuel → zAt code base C → ∃ code', zAt code' base (C ++ P) ∧ (∀ j, j < base → code' j = code j) ∧ lX5_doWaiting_5 ke wa (zJ sg) fuel (zJ (P ++ W).length) (zJ (base + C.length)) code (zJ (P ++ W).length) = ke (zJ W.length) (zJ (base + (C ++ P).length)) code'
  | [], W, C, fuel, code, hR, hP, hW, h80, h7, hf, hA => by
    obtain ⟨fuel, rfl, hf⟩ := zfu hf
    refine ⟨code, by rw [List.append_nil]; exact hA, fun _ _ => rfl, ?_⟩
    rw [List.append_nil]
    unfold lX5_doWaiting_5
    cases W with
    | nil => rw [if_pos (show zJ ([] ++ [] : List Int32).length ≤ 0 by decide)]; rfl
    | cons x W =>
      have hl : ([] ++ x :: W : List Int32).length = W.length + 1 := rfl
      have h80 : W.length + 1 ≤ 80 := h80
      rw [hl, if_neg (show ¬ zJ (W.length + 1) ≤ 0 from zJ_nle (b := 0) (by omega) (by omega)), if_neg (show ¬ (80 : Int32) < zJ (W.length + 1) from zJ_nlt (a := 80) (by omega) (by omega)), zJ_pred, ck_t (zinb (by omega) (by omega)), zJ_ix (by omega)]
      have hx : wa W.length = x := hR.1
      rw [hx, zst_c, Option.bind_some, if_pos (zJ_ylt (hW x rfl) (by omega))]
      rfl
  | x :: P, W, C, fuel, code, hR, hP, hW, h80, h7, hf, hA => by
    obtain ⟨fuel, rfl, hf⟩ := zfu hf
    have hl : (x :: P ++ W).length = (P ++ W).length + 1 := rfl
    have hl2 : (x :: P).length = P.length + 1 := rfl
    have hx : wa (P ++ W).length = x := hR.1
    rw [hl] at h80
    rw [hl2] at h7 hf
    have hs := hP x List.mem_cons_self
    obtain ⟨code', a1, a2, a3⟩ := zdoW (wa := wa) (sg := sg) (base := base) (ke := ke) hsg hsg7 P W (C ++ [x]) fuel (upd code (base + C.length) x) hR.2 (fun y hy => hP y (List.mem_cons_of_mem _ hy)) hW (by omega) (by rw [List.length_append]; show base + (C.length + 1) + P.length ≤ 700; omega) (by omega) (zAt_push hA)
    refine ⟨code', by rw [List.append_cons]; exact a1, fun j hj => by rw [a2 j hj, zupd_ne (by omega)], ?_⟩
    unfold lX5_doWaiting_5
    rw [hl, if_neg (show ¬ zJ ((P ++ W).length + 1) ≤ 0 from zJ_nle (b := 0) (by omega) (by omega)), if_neg (show ¬ (80 : Int32) < zJ ((P ++ W).length + 1) from zJ_nlt (a := 80) (by omega) (by omega)), zJ_pred, ck_t (zinb (by omega) (by omega)), zJ_ix (by omega), hx, zst_c, Option.bind_some, if_neg (zJ_nlt hs (by have := zst_le x; omega)), ck_t (zinb (by omega) (by omega)), zput_c (by omega), Option.bind_some, zJ_m1]
    rw [show base + C.length + 1 = base + (C ++ [x]).length by rw [List.length_append]; rfl]
    rw [a3, ← List.append_cons]
section
variable {ke : Int32 → Int32 → Int32 → Int32 → Int32 → Int32 → Int32 → Int32 → Int32 → Int32 → Int32 → (Nat → Int32) → Int32 → (Nat → Int32) → Option (Int32 × Int32 × Int32 × Int32 × Int32 × Int32 × Int32 × Int32 × Int32 × Int32 × Int32 × (Nat → Int32) × Int32 × (Nat → Int32) × (Nat → Int32) × (Nat → Int32))} {Q : Int32 × Int32 × Int32 × Int32 × Int32 × Int32 × Int32 × Int32 × Int32 × Int32 × Int32 × (Nat → Int32) × Int32 × (Nat → Int32) × (Nat → Int32) × (Nat → Int32) → Prop} {b code0 : Nat → Int32} {n q base : Nat}
/-- the loop, from a place on -/
def zCR (ke : Int32 → Int32 → Int32 → Int32 → Int32 → Int32 → Int32 → Int32 → Int32 → Int32 → Int32 → (Nat → Int32) → Int32 → (Nat → Int32) → Option (Int32 × Int32 × Int32 × Int32 × Int32 × Int32 × Int32 × Int32 × Int32 × Int32 × Int32 × (Nat → Int32) × Int32 × (Nat → Int32) × (Nat → Int32) × (Nat → Int32))) (Q : Int32 × Int32 × Int32 × Int32 × Int32 × Int32 × Int32 × Int32 × Int32 × Int32 × Int32 × (Nat → Int32) × Int32 × (Nat → Int32) × (Nat → Int32) × (Nat → Int32) → Prop) (b code0 : Nat → Int32) (n q base p : Nat) (due may : Int32) (W C : List Int32) (d m : Nat) : Prop :=
  ∀ (i fuel : Nat) (dg nm : Int32) (wa code : Nat → Int32), i ≤ p → 702 ≤ fuel + i → ((zlx b n p).1 = 2 → dg = zJ ((zlx b n p).2.2.1 - (zlx b n p).2.1) ∧ ((zlx b n p).2.2.1 - (zlx b n p).2.1 ≤ 4 → nm = zJ (zlx b n p).2.2.2)) → zRep wa W → zAt code base C → (∀ j, j < base → code j = code0 j) → zOk (lX5_readRule_64 ke (zJ n) b (zJ q) fuel (zJ (zlx b n p).2.2.1) (zJ (zlx b n p).1) (zJ (zlx b n p).2.1) dg nm 0 (zJ W.length) (zJ d) (zJ m) due may wa (zJ (base + C.length)) code (zJ i)) Q
/-- a fault ends it -/
def zCF (ke : Int32 → Int32 → Int32 → Int32 → Int32 → Int32 → Int32 → Int32 → Int32 → Int32 → Int32 → (Nat → Int32) → Int32 → (Nat → Int32) → Option (Int32 × Int32 × Int32 × Int32 × Int32 × Int32 × Int32 × Int32 × Int32 × Int32 × Int32 × (Nat → Int32) × Int32 × (Nat → Int32) × (Nat → Int32) × (Nat → Int32))) (Q : Int32 × Int32 × Int32 × Int32 × Int32 × Int32 × Int32 × Int32 × Int32 × Int32 × Int32 × (Nat → Int32) × Int32 × (Nat → Int32) × (Nat → Int32) × (Nat → Int32) → Prop) (f : Int32) (s : Nat) : Prop := ∀ (e k dg nm : Int32) (w : Nat) (d m due may : Int32) (wa : Nat → Int32) (len : Int32) (code : Nat → Int32), w ≤ 80 → zOk (ke e k (zJ s) dg nm f (zJ w) d m due may wa len code) Q
abbrev zByts (b : Nat → Int32) (n : Nat) : Prop := n ≤ 700 ∧ ∀ i, i < n → (∃ c, c < 128 ∧ b i = zJ c) ∨ b i < 0
/-- one round of the loop: what it makes of the token, then the next one -/
theorem zCR_step (hb : zByts b n) {p : Nat} (hp : p ≤ n) {due may due' may' : Int32} {W C W' C' : List Int32} {d m d' m' : Nat} (hk : (zlx b n p).1 ≠ 0) (hend : fX5_ruleEnds (zJ (zlx b n p).1) (zJ d) due = some 0)
  (hs : ∀ (dg nm : Int32) (wa code : Nat → Int32), ((zlx b n p).1 = 2 → dg = zJ ((zlx b n p).2.2.1 - (zlx b n p).2.1) ∧ ((zlx b n p).2.2.1 - (zlx b n p).2.1 ≤ 4 → nm = zJ (zlx b n p).2.2.2)) → zRep wa W → zAt code base C → ∃ wa' code', (if due = 0 then fX5_readBehindPart (zJ (zlx b n p).1) 0 (zJ W.length) (zJ d) (zJ m) due may wa (zJ (base + C.length)) code else fX5_readPart (zJ (zlx b n p).1) dg nm 0 (zJ W.length) (zJ d) (zJ m) due may wa (zJ (base + C.length)) code (zJ q)) = some (0, zJ W'.length, zJ d', zJ m', due', may', wa', zJ (base + C'.length), code') ∧ zRep wa' W' ∧ zAt code' base C' ∧ ∀ j, j < base → code' j = code j)
  (kk : zCR ke Q b code0 n q base (zlx b n p).2.2.1 due' may' W' C' d' m') : zCR ke Q b code0 n q base p due may W C d m := by
  intro i fuel dg nm wa code hi hf ht hR hA h0
  obtain ⟨r1, r2, r3, r4, r5, r6⟩ := zlx_r (b := b) hp
  have r5 := r5 hk
  have hn := hb.1
  obtain ⟨fuel, rfl, hf0⟩ := zfu (show 0 < fuel by omega)
  unfold lX5_readRule_64
  refine zOk.neg (zJ_nlt (a := 700) (by omega) (by omega)) (zOk.pos rfl (zOk.eq hend (zOk.pos rfl ?_)))
  obtain ⟨wa', code', e1, e2, e3, e4⟩ := hs dg nm wa code ht hR hA
  have nx : zOk (jX5_readRule_104 (lX5_readRule_64 ke (zJ n) b (zJ q) fuel) (zJ n) (zJ (zlx b n p).2.2.1) (zJ (zlx b n p).1) (zJ (zlx b n p).2.1) dg nm 0 (zJ W'.length) (zJ d') (zJ m') due' may' b wa' (zJ (base + C'.length)) code' (zJ i)) Q := by
    unfold jX5_readRule_104
    refine zOk.pos rfl (zOk.bind (zc_next hn r3 hb.2) (fun o ho => ?_))
    obtain ⟨dg', nm', rfl, h2⟩ := ho
    dsimp only
    rw [zJ_succ]
    exact kk (i + 1) fuel dg' nm' wa' code' (by omega) (by omega) h2 e2 e3 (fun j hj => (e4 j hj).trans (h0 j hj))
  by_cases z : due = 0
  · rw [if_pos z] at e1
    exact zOk.pos z (zOk.eq e1 nx)
  · rw [if_neg z] at e1
    exact zOk.neg z (zOk.eq e1 nx)
theorem zCR_fault (hb : zByts b n) {p : Nat} (hp : p ≤ n) {due may : Int32} {W C : List Int32} {d m : Nat} {f : Int32} (hf0 : ¬ f = 0) (hW : W.length ≤ 80) (hend : fX5_ruleEnds (zJ (zlx b n p).1) (zJ d) due = some 0)
  (hs : ∀ (dg nm : Int32) (wa code : Nat → Int32), ((zlx b n p).1 = 2 → dg = zJ ((zlx b n p).2.2.1 - (zlx b n p).2.1) ∧ ((zlx b n p).2.2.1 - (zlx b n p).2.1 ≤ 4 → nm = zJ (zlx b n p).2.2.2)) → zRep wa W → zAt code base C → ∃ (w : Nat) (d' m' due' may' len : Int32) (wa' code' : Nat → Int32), w ≤ 80 ∧ (if due = 0 then fX5_readBehindPart (zJ (zlx b n p).1) 0 (zJ W.length) (zJ d) (zJ m) due may wa (zJ (base + C.length)) code else fX5_readPart (zJ (zlx b n p).1) dg nm 0 (zJ W.length) (zJ d) (zJ m) due may wa (zJ (base + C.length)) code (zJ q)) = some (f, zJ w, d', m', due', may', wa', len, code'))
  (kk : zCF ke Q f (zlx b n p).2.1) : zCR ke Q b code0 n q base p due may W C d m := by
  intro i fuel dg nm wa code hi hf ht hR hA h0
  have hn := hb.1
  obtain ⟨fuel, rfl, hf1⟩ := zfu (show 0 < fuel by omega)
  unfold lX5_readRule_64
  refine zOk.neg (zJ_nlt (a := 700) (by omega) (by omega)) (zOk.pos rfl (zOk.eq hend (zOk.pos rfl ?_)))
  obtain ⟨w, d', m', due', may', len, wa', code', hw, e1⟩ := hs dg nm wa code ht hR hA
  have nx : zOk (jX5_readRule_104 (lX5_readRule_64 ke (zJ n) b (zJ q) fuel) (zJ n) (zJ (zlx b n p).2.2.1) (zJ (zlx b n p).1) (zJ (zlx b n p).2.1) dg nm f (zJ w) d' m' due' may' b wa' len code' (zJ i)) Q := by
    unfold jX5_readRule_104
    refine zOk.neg hf0 ?_
    obtain ⟨fuel, rfl, hf1⟩ := zfu (show 0 < fuel by omega)
    unfold lX5_readRule_64
    exact zOk.ite (fun _ => kk _ _ _ _ _ _ _ _ _ _ _ _ hw) (fun _ => zOk.neg hf0 (kk _ _ _ _ _ _ _ _ _ _ _ _ hw))
  by_cases z : due = 0
  · rw [if_pos z] at e1
    exact zOk.pos z (zOk.eq e1 nx)
  · rw [if_neg z] at e1
    exact zOk.neg z (zOk.eq e1 nx)
end
