/-! ===== pure: what the class makes of each token of a rule ===== -/
theorem zKe {K c : Nat} (h : K = c) : zJ K = zJ c := by rw [h]
theorem zKn {K c : Nat} (h : K ≠ c) (hK : K < 2147483648) (hc : c < 2147483648) : ¬ zJ K = zJ c := fun z => h ((zJ_inj hK hc).1 z)
theorem zRep_drop {wa : Nat → Int32} : ∀ {P W : List Int32}, zRep wa (P ++ W) → zRep wa W
  | [], _, h => h
  | _ :: P, W, h => zRep_drop (P := P) h.2
section
variable {dg nm w dd mm due may c x : Int32} {wa code : Nat → Int32} {K d m : Nat}
theorem zrp14 (h : K = 2 ∨ K = 4 ∨ 12 ≤ K) (hK : K ≤ 33) : fX5_readPart (zJ K) dg nm 0 w dd mm due may wa c code x = jX5_readPart_43 (zJ K) dg nm 0 w dd mm due may wa c code x := by
  unfold fX5_readPart
  rcases h with h | h | h
  · subst h
    rw [if_pos (show zJ 2 < 12 by decide)]
    unfold jX5_readPart_14
    rw [if_pos (show zJ 2 = 2 from rfl)]
  · subst h
    rw [if_pos (show zJ 4 < 12 by decide)]
    unfold jX5_readPart_14
    rw [if_neg (show ¬ zJ 4 = 2 by decide), if_pos (show zJ 4 = 4 from rfl)]
  · rw [if_neg (show ¬ zJ K < 12 from zJ_nlt (b := 12) h (by omega))]
    unfold jX5_readPart_14
    rw [if_neg (show ¬ zJ K = 2 from zKn (c := 2) (by omega) (by omega) (by omega)), if_neg (show ¬ zJ K = 4 from zKn (c := 4) (by omega) (by omega) (by omega)), if_neg (show ¬ (1 : Int32) = 0 by decide)]
theorem zrp1 (h2 : K ≠ 2) (h4 : K ≠ 4) (hK : K < 12) : fX5_readPart (zJ K) dg nm 0 w dd mm due may wa c code x = some (1, w, dd, mm, due, may, wa, c, code) := by
  unfold fX5_readPart
  rw [if_pos (show zJ K < 12 from zJ_ylt (b := 12) hK (by omega))]
  unfold jX5_readPart_14
  rw [if_neg (show ¬ zJ K = 2 from zKn (c := 2) (by omega) (by omega) (by omega)), if_neg (show ¬ zJ K = 4 from zKn (c := 4) (by omega) (by omega) (by omega)), if_pos rfl]
theorem zrp76 (hK : K ≤ 33) (hd : d < 6) (h : K = 2 → dg ≤ 4) : jX5_readPart_43 (zJ K) dg nm 0 w (zJ d) mm due may wa c code x = jX5_readPart_76 (zJ K) nm 0 w (zJ d) mm due may wa c code x := by
  unfold jX5_readPart_43
  rw [if_neg (show ¬ (6 : Int32) ≤ zJ d from zJ_nle (a := 6) (by omega) (by omega))]
  by_cases z : K = 2
  · have e : zJ K = 2 := zKe (c := 2) z
    rw [if_pos e, if_pos (h z)]
  · rw [if_neg (show ¬ zJ K = 2 from zKn (c := 2) z (by omega) (by omega))]
theorem zrp2 (h : 6 ≤ d ∨ (K = 2 ∧ ¬ dg ≤ 4)) (hd : d < 100) : jX5_readPart_43 (zJ K) dg nm 0 w (zJ d) mm due may wa c code x = some (2, w, zJ d, mm, due, may, wa, c, code) := by
  unfold jX5_readPart_43
  by_cases q : (6 : Int32) ≤ zJ d
  · rw [if_pos q]
  · rw [if_neg q]
    rcases h with h | ⟨h, h'⟩
    · exact absurd (show (6 : Int32) ≤ zJ d from zJ_yle (a := 6) h (by omega)) q
    · subst h
      rw [if_pos (show zJ 2 = 2 from rfl), if_neg h']
end
section
variable {ke : Int32 → Int32 → Int32 → Int32 → Int32 → Int32 → Int32 → Int32 → Int32 → Int32 → Int32 → (Nat → Int32) → Int32 → (Nat → Int32) → Option (Int32 × Int32 × Int32 × Int32 × Int32 × Int32 × Int32 × Int32 × Int32 × Int32 × Int32 × (Nat → Int32) × Int32 × (Nat → Int32) × (Nat → Int32) × (Nat → Int32))} {Q : Int32 × Int32 × Int32 × Int32 × Int32 × Int32 × Int32 × Int32 × Int32 × Int32 × Int32 × (Nat → Int32) × Int32 × (Nat → Int32) × (Nat → Int32) × (Nat → Int32) → Prop} {b code0 : Nat → Int32} {n q base p : Nat} {may : Int32} {W P C : List Int32} {d m : Nat}
theorem zre1 {K d : Nat} : fX5_ruleEnds (zJ K) (zJ d) 1 = some 0 := by
  unfold fX5_ruleEnds
  by_cases z : zJ K = 3
  · rw [if_pos z, if_neg (show ¬ (1 : Int32) = 0 by decide)]
  · rw [if_neg z]
theorem zre0 {K d : Nat} (hK : K ≤ 33) (hd : d < 100) (h : K ≠ 3 ∨ d ≠ 0) : fX5_ruleEnds (zJ K) (zJ d) 0 = some 0 := by
  unfold fX5_ruleEnds
  by_cases z : zJ K = 3
  · rw [if_pos z, if_pos rfl]
    have e : K = 3 := (zJ_inj (by omega) (by omega)).1 (show zJ K = zJ 3 from z)
    have hd0 : d ≠ 0 := h.resolve_left (fun y => y e)
    rw [if_neg (show ¬ zJ d = 0 from zKn (c := 0) hd0 (by omega) (by omega))]
  · rw [if_neg z]
abbrev zvf (q : Nat) : Nat := if q = 0 then 24 else 28
abbrev zvb (q : Nat) : Nat := if q = 0 then 28 else 34
theorem zrv {K c : Nat} {due : Int32} {code : Nat → Int32} (hq : q < 2) (hK : K ≤ 33) (h1 : zvf q ≤ K) (h2 : K < zvb q) (hc : c < 700) : fX5_readValue (zJ K) 0 due (zJ c) code (zJ q) = some (0, 0, zJ (c + 1), upd code c ((-1 : Int32) - zJ (K - zvf q))) := by
  unfold fX5_readValue
  have e1 : ∀ f : Nat, f ≤ K → (zJ f - zJ K) - (1 : Int32) = (-1 : Int32) - zJ (K - f) := fun f hf => by rw [← zJ_sub hf]; grind
  rcases (show q = 0 ∨ q = 1 by omega) with z | z
  · subst z
    have h1 : 24 ≤ K := h1
    have h2 : K < 28 := h2
    rw [if_pos (show zJ 0 = 0 from rfl)]
    unfold jX5_readValue_11
    rw [if_pos (show zJ 0 = 0 from rfl)]
    unfold jX5_readValue_23
    rw [if_neg (show ¬ zJ K < 24 from zJ_nlt (b := 24) h1 (by omega)), if_pos (show zJ K < 28 from zJ_ylt (b := 28) h2 (by omega)), zput_c hc]
    have := e1 24 h1
    show some (0, 0, zJ (c + 1), upd code c ((zJ 24 - zJ K) - (1 : Int32))) = _
    rw [this]; rfl
  · subst z
    have h1 : 28 ≤ K := h1
    have h2 : K < 34 := h2
    rw [if_neg (show ¬ zJ 1 = 0 by decide)]
    unfold jX5_readValue_11
    rw [if_neg (show ¬ zJ 1 = 0 by decide)]
    unfold jX5_readValue_23
    rw [if_neg (show ¬ zJ K < 28 from zJ_nlt (b := 28) h1 (by omega)), if_pos (show zJ K < 34 from zJ_ylt (b := 34) h2 (by omega)), zput_c hc]
    have := e1 28 h1
    show some (0, 0, zJ (c + 1), upd code c ((zJ 28 - zJ K) - (1 : Int32))) = _
    rw [this]; rfl
theorem zrv3 {K : Nat} {due c : Int32} {code : Nat → Int32} (hq : q < 2) (hK : K ≤ 33) (h : K < zvf q ∨ zvb q ≤ K) : fX5_readValue (zJ K) 0 due c code (zJ q) = some (3, due, c, code) := by
  unfold fX5_readValue
  rcases (show q = 0 ∨ q = 1 by omega) with z | z
  · subst z
    have h : K < 24 ∨ 28 ≤ K := h
    rw [if_pos (show zJ 0 = 0 from rfl)]
    unfold jX5_readValue_11
    rw [if_pos (show zJ 0 = 0 from rfl)]
    unfold jX5_readValue_23
    by_cases y : zJ K < 24
    · rw [if_pos y]
    · rw [if_neg y, if_neg (show ¬ zJ K < 28 from zJ_nlt (b := 28) (h.resolve_left (fun z => y (zJ_ylt (b := 24) z (by omega)))) (by omega))]
  · subst z
    have h : K < 28 ∨ 34 ≤ K := h
    rw [if_neg (show ¬ zJ 1 = 0 by decide)]
    unfold jX5_readValue_11
    rw [if_neg (show ¬ zJ 1 = 0 by decide)]
    unfold jX5_readValue_23
    by_cases y : zJ K < 28
    · rw [if_pos y]
    · exact absurd (zJ_ylt (b := 28) (h.resolve_right (by omega)) (by omega)) y
theorem zc_num (hb : zByts b n) (hp : p ≤ n) (hk : (zlx b n p).1 = 2) (h4 : (zlx b n p).2.2.1 - (zlx b n p).2.1 ≤ 4) (hd : d < 6) (hc : base + C.length < 700) (kk : zCR ke Q b code0 n q base (zlx b n p).2.2.1 0 may W (C ++ [zJ (zlx b n p).2.2.2]) d m) : zCR ke Q b code0 n q base p 1 may W C d m := by
  refine zCR_step hb hp (by omega) zre1 (fun dg nm wa code ht hR hA => ?_) kk
  rw [if_neg (show ¬ (1 : Int32) = 0 by decide)]
  obtain ⟨t1, t2⟩ := ht hk
  have t2 := t2 h4
  rw [hk, zrp14 (Or.inl rfl) (by omega), zrp76 (by omega) hd (fun _ => by rw [t1]; exact zJ_yle (b := 4) h4 (by omega))]
  unfold jX5_readPart_76
  refine ⟨wa, upd code (base + C.length) (zJ (zlx b n p).2.2.2), ?_, hR, zAt_push hA, fun j hj => zupd_ne (by omega)⟩
  rw [if_pos (show zJ 2 = 2 from rfl), zput_c hc, Option.bind_some, t2, List.length_append]
  rfl
theorem zc_val (hb : zByts b n) (hp : p ≤ n) (hq : q < 2) (h1 : zvf q ≤ (zlx b n p).1) (h2 : (zlx b n p).1 < zvb q) (hd : d < 6) (hc : base + C.length < 700) (kk : zCR ke Q b code0 n q base (zlx b n p).2.2.1 0 may W (C ++ [(-1 : Int32) - zJ ((zlx b n p).1 - zvf q)]) d m) : zCR ke Q b code0 n q base p 1 may W C d m := by
  have hK : (zlx b n p).1 ≤ 33 := (zlx_r hp).2.2.2.2.2
  have h24 : 24 ≤ (zlx b n p).1 := by unfold zvf at h1; split at h1 <;> omega
  refine zCR_step hb hp (by omega) zre1 (fun dg nm wa code ht hR hA => ?_) kk
  rw [if_neg (show ¬ (1 : Int32) = 0 by decide), zrp14 (Or.inr (Or.inr (by omega))) hK, zrp76 hK hd (fun z => by omega)]
  unfold jX5_readPart_76
  refine ⟨wa, upd code (base + C.length) ((-1 : Int32) - zJ ((zlx b n p).1 - zvf q)), ?_, hR, zAt_push hA, fun j hj => zupd_ne (by omega)⟩
  rw [if_neg (show ¬ zJ (zlx b n p).1 = 2 from zKn (c := 2) (by omega) (by omega) (by omega)), if_neg (show ¬ zJ (zlx b n p).1 = 4 from zKn (c := 4) (by omega) (by omega) (by omega)), if_neg (show ¬ zJ (zlx b n p).1 = 23 from zKn (c := 23) (by omega) (by omega) (by omega)), zrv hq hK h1 h2 hc, Option.bind_some, List.length_append]
  rfl
theorem zc_opn (hb : zByts b n) (hp : p ≤ n) (hk : (zlx b n p).1 = 4) (hd : d < 6) (hw : W.length < 80) (kk : zCR ke Q b code0 n q base (zlx b n p).2.2.1 1 1 (0 :: W) C (d + 1) 0) : zCR ke Q b code0 n q base p 1 may W C d m := by
  refine zCR_step hb hp (by omega) zre1 (fun dg nm wa code ht hR hA => ?_) kk
  rw [if_neg (show ¬ (1 : Int32) = 0 by decide), hk, zrp14 (Or.inr (Or.inl rfl)) (by omega), zrp76 (by omega) hd (fun z => by omega)]
  unfold jX5_readPart_76
  refine ⟨upd wa W.length 0, code, ?_, zRep_push hR, hA, fun j hj => rfl⟩
  rw [if_neg (show ¬ zJ 4 = 2 by decide), if_pos (show zJ 4 = 4 from rfl), zput_w hw, Option.bind_some, zJ_a1]
  rfl
theorem zc_not (hb : zByts b n) (hp : p ≤ n) (hk : (zlx b n p).1 = 23) (hmay : ¬ may = 0) (hm : m < 6) (hd : d < 6) (hw : W.length < 80) (kk : zCR ke Q b code0 n q base (zlx b n p).2.2.1 1 may ((-7) :: W) C d (m + 1)) : zCR ke Q b code0 n q base p 1 may W C d m := by
  refine zCR_step hb hp (by omega) zre1 (fun dg nm wa code ht hR hA => ?_) kk
  rw [if_neg (show ¬ (1 : Int32) = 0 by decide), hk, zrp14 (Or.inr (Or.inr (by omega))) (by omega), zrp76 (by omega) hd (fun z => by omega)]
  unfold jX5_readPart_76 fX5_readNot
  refine ⟨upd wa W.length (-7), code, ?_, zRep_push hR, hA, fun j hj => rfl⟩
  rw [if_neg (show ¬ zJ 23 = 2 by decide), if_neg (show ¬ zJ 23 = 4 by decide), if_pos (show zJ 23 = 23 from rfl), if_neg hmay, if_pos (show zJ m < 6 from zJ_ylt (b := 6) hm (by omega)), zput_w hw, Option.bind_some, zJ_a1]
  rfl
theorem zc_f1 (hb : zByts b n) (hp : p ≤ n) (hw : W.length ≤ 80) (h2 : (zlx b n p).1 ≠ 2) (h4 : (zlx b n p).1 ≠ 4) (hk : (zlx b n p).1 < 12) (kk : zCF ke Q 1 (zlx b n p).2.1) : zCR ke Q b code0 n q base p 1 may W C d m := by
  refine zCR_fault hb hp (by decide) hw zre1 (fun dg nm wa code ht hR hA => ?_) kk
  rw [if_neg (show ¬ (1 : Int32) = 0 by decide), zrp1 h2 h4 hk]
  exact ⟨_, _, _, _, _, _, _, _, hw, rfl⟩
theorem zc_f2 (hb : zByts b n) (hp : p ≤ n) (hw : W.length ≤ 80) (hd9 : d < 100) (hk : (zlx b n p).1 = 2 ∨ (zlx b n p).1 = 4 ∨ 12 ≤ (zlx b n p).1) (h : 6 ≤ d ∨ ((zlx b n p).1 = 2 ∧ 4 < (zlx b n p).2.2.1 - (zlx b n p).2.1)) (kk : zCF ke Q 2 (zlx b n p).2.1) : zCR ke Q b code0 n q base p 1 may W C d m := by
  obtain ⟨r1, r2, r3, r4, r5, r6⟩ := zlx_r (b := b) hp
  have hn := hb.1
  refine zCR_fault hb hp (by decide) hw zre1 (fun dg nm wa code ht hR hA => ?_) kk
  have h' : 6 ≤ d ∨ ((zlx b n p).1 = 2 ∧ ¬ dg ≤ 4) := h.imp id (fun ⟨z, y⟩ => ⟨z, by rw [(ht z).1]; exact zJ_nle (b := 4) y (by omega)⟩)
  rw [if_neg (show ¬ (1 : Int32) = 0 by decide), zrp14 hk r6, zrp2 h' hd9]
  exact ⟨_, _, _, _, _, _, _, _, hw, rfl⟩
theorem zc_f2n (hb : zByts b n) (hp : p ≤ n) (hw : W.length ≤ 80) (hk : (zlx b n p).1 = 23) (hmay : ¬ may = 0) (hm : 6 ≤ m) (hm9 : m < 100) (hd : d < 6) (kk : zCF ke Q 2 (zlx b n p).2.1) : zCR ke Q b code0 n q base p 1 may W C d m := by
  refine zCR_fault hb hp (by decide) hw zre1 (fun dg nm wa code ht hR hA => ?_) kk
  rw [if_neg (show ¬ (1 : Int32) = 0 by decide), hk, zrp14 (Or.inr (Or.inr (by omega))) (by omega), zrp76 (by omega) hd (fun z => by omega)]
  unfold jX5_readPart_76 fX5_readNot
  rw [if_neg (show ¬ zJ 23 = 2 by decide), if_neg (show ¬ zJ 23 = 4 by decide), if_pos (show zJ 23 = 23 from rfl), if_neg hmay, if_neg (show ¬ zJ m < 6 from zJ_nlt (b := 6) hm (by omega))]
  exact ⟨_, _, _, _, _, _, _, _, hw, rfl⟩
theorem zc_f3 (hb : zByts b n) (hp : p ≤ n) (hq : q < 2) (hw : W.length ≤ 80) (h12 : 12 ≤ (zlx b n p).1) (hd : d < 6) (hm : (zlx b n p).1 ≠ 23 ∨ may = 0) (h : (zlx b n p).1 < zvf q ∨ zvb q ≤ (zlx b n p).1) (kk : zCF ke Q 3 (zlx b n p).2.1) : zCR ke Q b code0 n q base p 1 may W C d m := by
  have hK : (zlx b n p).1 ≤ 33 := (zlx_r hp).2.2.2.2.2
  refine zCR_fault hb hp (by decide) hw zre1 (fun dg nm wa code ht hR hA => ?_) kk
  rw [if_neg (show ¬ (1 : Int32) = 0 by decide), zrp14 (Or.inr (Or.inr h12)) hK, zrp76 hK hd (fun z => by omega)]
  unfold jX5_readPart_76
  rw [if_neg (show ¬ zJ (zlx b n p).1 = 2 from zKn (c := 2) (by omega) (by omega) (by omega)), if_neg (show ¬ zJ (zlx b n p).1 = 4 from zKn (c := 4) (by omega) (by omega) (by omega))]
  by_cases z : (zlx b n p).1 = 23
  · rw [if_pos (show zJ (zlx b n p).1 = 23 from zKe (c := 23) z), if_pos (hm.resolve_left (fun y => y z)), zrv3 hq hK h]
    exact ⟨_, _, _, _, _, _, _, _, hw, rfl⟩
  · rw [if_neg (show ¬ zJ (zlx b n p).1 = 23 from zKn (c := 23) z (by omega) (by omega)), zrv3 hq hK h]
    exact ⟨_, _, _, _, _, _, _, _, hw, rfl⟩
theorem zdo {wa code : Nat → Int32} {sg : Nat} (hsg : 1 ≤ sg) (hsg7 : sg ≤ 7) (hR : zRep wa (P ++ W)) (hP : ∀ x, x ∈ P → sg ≤ zsto x) (hW : ∀ x, W.head? = some x → zsto x < sg) (h8 : (P ++ W).length ≤ 80) (h7 : base + C.length + P.length ≤ 700) (hA : zAt code base C) : ∃ code', zAt code' base (C ++ P) ∧ (∀ j, j < base → code' j = code j) ∧ fX5_doWaiting (zJ (P ++ W).length) wa (zJ (base + C.length)) code (zJ sg) = some (zJ W.length, zJ (base + (C ++ P).length), code') := by
  have := List.length_append (as := P) (bs := W)
  obtain ⟨c', a1, a2, a3⟩ := zdoW (ke := fun a b c => some (a, b, c)) hsg hsg7 P W C FU code hR hP hW h8 h7 (by unfold FU; omega) hA
  exact ⟨c', a1, a2, a3⟩
theorem zop_f : ∀ k : Fin 34, zopk k.1 ≠ 0 → k.1 ≠ 10 → k.1 ≠ 11 → zopk k.1 ≠ -10 ∧ zopk k.1 ≠ -11 ∧ 1 ≤ zsto (zopk k.1) ∧ (zopk k.1 = -8 ↔ k.1 = 21) ∧ (zopk k.1 = -9 ↔ k.1 = 22) := by decide
def zmy (K : Nat) : Int32 := if K = 21 then 1 else if K = 22 then 1 else 0
theorem zc_op (hb : zByts b n) (hp : p ≤ n) (ho : zopk (zlx b n p).1 ≠ 0) (h10 : (zlx b n p).1 ≠ 10) (h11 : (zlx b n p).1 ≠ 11) (hP : ∀ x, x ∈ P → zsto (zopk (zlx b n p).1) ≤ zsto x) (hW : ∀ x, W.head? = some x → zsto x < zsto (zopk (zlx b n p).1)) (hw : P.length + W.length ≤ 79) (hw2 : W.length < 79) (h7 : base + C.length + P.length ≤ 700) (hd : d < 100) (kk : zCR ke Q b code0 n q base (zlx b n p).2.2.1 1 (zmy (zlx b n p).1) (zopk (zlx b n p).1 :: W) (C ++ P) d 0) : zCR ke Q b code0 n q base p 0 may (P ++ W) C d m := by
  have hK : (zlx b n p).1 ≤ 33 := (zlx_r hp).2.2.2.2.2
  have hl := List.length_append (as := P) (bs := W)
  have hoc : fX5_operatorOf (zJ (zlx b n p).1) = some (zopk (zlx b n p).1) := zop_c ⟨(zlx b n p).1, by omega⟩
  obtain ⟨f1, f2, f3, f4, f5⟩ := zop_f ⟨(zlx b n p).1, by omega⟩ ho h10 h11
  have n3 : (zlx b n p).1 ≠ 3 := fun z => ho (by rw [z]; rfl)
  have n0 : (zlx b n p).1 ≠ 0 := fun z => ho (by rw [z]; rfl)
  refine zCR_step hb hp n0 (zre0 hK hd (Or.inl n3)) (fun dg nm wa code ht hR hA => ?_) kk
  obtain ⟨c', a1, a2, a3⟩ := zdo (P := P) (W := W) (C := C) (sg := zsto (zopk (zlx b n p).1)) f3 (by have := zst_le (zopk (zlx b n p).1); omega) hR hP hW (by omega) h7 hA
  rw [if_pos rfl]
  unfold fX5_readBehindPart
  refine ⟨upd wa W.length (zopk (zlx b n p).1), c', ?_, zRep_push (zRep_drop hR), a1, a2⟩
  rw [hoc, Option.bind_some, if_neg ho]
  unfold jX5_readBehindPart_33
  rw [if_neg ho, if_neg f1, if_neg f2]
  unfold jX5_readBehindPart_80
  rw [if_pos rfl, zst_c, Option.bind_some]
  unfold jX5_readBehindPart_99
  rw [a3, Option.bind_some, if_pos rfl]
  unfold jX5_readBehindPart_140
  rw [zput_w (by omega), Option.bind_some]
  unfold zmy
  by_cases z1 : (zlx b n p).1 = 21
  · rw [if_pos (f4.2 z1), if_pos z1]; rfl
  · rw [if_neg (fun z => z1 (f4.1 z)), if_neg z1]
    by_cases z2 : (zlx b n p).1 = 22
    · rw [if_pos (f5.2 z2), if_pos z2]; rfl
    · rw [if_neg (fun z => z2 (f5.1 z)), if_neg z2]; rfl
theorem zop_t {K : Nat} (h : K = 10 ∨ K = 11) : zopk K ≠ 0 ∧ zsto (zopk K) = 4 ∧ (zopk K = -10 ∨ zopk K = -11) ∧ zopk K ≠ -8 ∧ zopk K ≠ -9 := by rcases h with rfl | rfl <;> decide
theorem zrb_t {wa code : Nat → Int32} {K : Nat} {w dd mm c : Int32} (h : K = 10 ∨ K = 11) : fX5_readBehindPart (zJ K) 0 w dd mm 0 may wa c code = jX5_readBehindPart_99 0 w dd mm 0 may wa c code (zopk K) 1 (zJ 5) := by
  unfold fX5_readBehindPart
  rcases h with rfl | rfl
  · rw [zop_c ⟨10, by omega⟩, Option.bind_some, if_neg (by decide)]
    unfold jX5_readBehindPart_33
    rw [if_neg (by decide), if_pos (by decide)]
    unfold jX5_readBehindPart_75 jX5_readBehindPart_80
    rw [if_neg (by decide), zst_c, Option.bind_some]
    rfl
  · rw [zop_c ⟨11, by omega⟩, Option.bind_some, if_neg (by decide)]
    unfold jX5_readBehindPart_33
    rw [if_neg (by decide), if_neg (by decide), if_pos (by decide)]
    unfold jX5_readBehindPart_75 jX5_readBehindPart_80
    rw [if_neg (by decide), zst_c, Option.bind_some]
    rfl
theorem zc_test (hb : zByts b n) (hp : p ≤ n) (hk : (zlx b n p).1 = 10 ∨ (zlx b n p).1 = 11) (hP : ∀ x, x ∈ P → 5 ≤ zsto x) (hW : ∀ x, W.head? = some x → zsto x < 4) (hw : P.length + W.length ≤ 79) (h7 : base + C.length + P.length ≤ 700) (hd : d < 100) (kk : zCR ke Q b code0 n q base (zlx b n p).2.2.1 1 0 (zopk (zlx b n p).1 :: W) (C ++ P) d 0) : zCR ke Q b code0 n q base p 0 may (P ++ W) C d m := by
  have hK : (zlx b n p).1 ≤ 33 := (zlx_r hp).2.2.2.2.2
  have hl := List.length_append (as := P) (bs := W)
  obtain ⟨t1, t2, t3, t4, t5⟩ := zop_t hk
  refine zCR_step hb hp (by omega) (zre0 hK hd (Or.inl (by omega))) (fun dg nm wa code ht hR hA => ?_) kk
  obtain ⟨c', a1, a2, a3⟩ := zdo (P := P) (W := W) (C := C) (sg := 5) (by omega) (by omega) hR hP (fun x hx => by have := hW x hx; omega) (by omega) h7 hA
  have fin : jX5_readBehindPart_140 0 (zJ W.length) (zJ d) (zJ m) 0 may wa (zJ (base + (C ++ P).length)) c' (zopk (zlx b n p).1) = some (0, zJ (zopk (zlx b n p).1 :: W).length, zJ d, zJ 0, 1, 0, upd wa W.length (zopk (zlx b n p).1), zJ (base + (C ++ P).length), c') := by
    unfold jX5_readBehindPart_140
    rw [zput_w (by omega), Option.bind_some, if_neg t4, if_neg t5]; rfl
  rw [if_pos rfl, zrb_t hk]
  refine ⟨upd wa W.length (zopk (zlx b n p).1), c', ?_, zRep_push (zRep_drop hR), a1, a2⟩
  unfold jX5_readBehindPart_99
  rw [a3, Option.bind_some, if_neg (show ¬ (1 : Int32) = 0 by decide)]
  dsimp only
  cases W with
  | nil => rw [if_pos (show zJ ([] : List Int32).length ≤ 0 by decide)]; exact fin
  | cons x W =>
    have hx : wa W.length = x := (zRep_drop hR).1
    have hlx : (x :: W).length = W.length + 1 := rfl
    rw [hlx] at hw
    rw [if_neg (show ¬ zJ (x :: W).length ≤ 0 from zJ_nle (b := 0) (by rw [hlx]; omega) (by rw [hlx]; omega))]
    rw [show zJ (x :: W).length - 1 = zJ W.length from zJ_pred, ck_t (zinb (by omega) (by omega)), zJ_ix (by omega), hx, zst_c, Option.bind_some, zst_c, Option.bind_some, t2]
    have := hW x rfl
    rw [if_neg (zKn (by omega) (by omega) (by omega))]
    exact fin
theorem zc_testf {t : Int32} (hb : zByts b n) (hp : p ≤ n) (hk : (zlx b n p).1 = 10 ∨ (zlx b n p).1 = 11) (hP : ∀ x, x ∈ P → 5 ≤ zsto x) (ht4 : zsto t = 4) (hw : P.length + W.length ≤ 78) (h7 : base + C.length + P.length ≤ 700) (hd : d < 100) (kk : zCF ke Q 1 (zlx b n p).2.1) : zCR ke Q b code0 n q base p 0 may (P ++ t :: W) C d m := by
  have hK : (zlx b n p).1 ≤ 33 := (zlx_r hp).2.2.2.2.2
  have hl := List.length_append (as := P) (bs := t :: W)
  have hlx : (t :: W).length = W.length + 1 := rfl
  obtain ⟨t1, t2, t3, t4, t5⟩ := zop_t hk
  refine zCR_fault hb hp (by decide) (by omega) (zre0 hK hd (Or.inl (by omega))) (fun dg nm wa code ht hR hA => ?_) kk
  obtain ⟨c', a1, a2, a3⟩ := zdo (P := P) (W := t :: W) (C := C) (sg := 5) (by omega) (by omega) hR hP (fun x hx => by rw [← Option.some.inj hx]; omega) (by omega) h7 hA
  rw [if_pos rfl, zrb_t hk]
  have hx : wa W.length = t := (zRep_drop hR).1
  refine ⟨(t :: W).length, zJ d, zJ m, 0, may, zJ (base + (C ++ P).length), wa, c', by omega, ?_⟩
  unfold jX5_readBehindPart_99
  rw [a3, Option.bind_some, if_neg (show ¬ (1 : Int32) = 0 by decide)]
  dsimp only
  rw [if_neg (show ¬ zJ (t :: W).length ≤ 0 from zJ_nle (b := 0) (by rw [hlx]; omega) (by rw [hlx]; omega))]
  rw [show zJ (t :: W).length - 1 = zJ W.length from zJ_pred, ck_t (zinb (by omega) (by omega)), zJ_ix (by omega), hx, zst_c, Option.bind_some, zst_c, Option.bind_some, t2, ht4, if_pos rfl]
theorem zc_close (hb : zByts b n) (hp : p ≤ n) (hk : (zlx b n p).1 = 5) (hP : ∀ x, x ∈ P → 1 ≤ zsto x) (hw : P.length + W.length ≤ 78) (h7 : base + C.length + P.length ≤ 700) (hd : d < 99) (kk : zCR ke Q b code0 n q base (zlx b n p).2.2.1 0 may W (C ++ P) d m) : zCR ke Q b code0 n q base p 0 may (P ++ 0 :: W) C (d + 1) m := by
  have hl := List.length_append (as := P) (bs := 0 :: W)
  have hlx : ((0 : Int32) :: W).length = W.length + 1 := rfl
  refine zCR_step hb hp (by omega) (zre0 (by omega) (by omega) (Or.inl (by omega))) (fun dg nm wa code ht hR hA => ?_) kk
  obtain ⟨c', a1, a2, a3⟩ := zdo (P := P) (W := 0 :: W) (C := C) (sg := 1) (by omega) (by omega) hR hP (fun x hx => by rw [← Option.some.inj hx]; decide) (by omega) h7 hA
  rw [if_pos rfl, hk]
  unfold fX5_readBehindPart
  refine ⟨wa, c', ?_, (zRep_drop hR).2, a1, a2⟩
  rw [zop_c ⟨5, by omega⟩, Option.bind_some, if_pos (show zopk 5 = 0 from rfl), if_pos (show zJ 5 = 5 from rfl), if_neg (show ¬ zJ (d + 1) = 0 from zKn (c := 0) (by omega) (by omega) (by omega))]
  unfold jX5_readBehindPart_33
  rw [if_pos (show zopk 5 = 0 from rfl)]
  refine zBind a3 ?_
  show some (0, zJ ((0 : Int32) :: W).length - 1, zJ (d + 1) - 1, zJ m, 0, may, wa, zJ (base + (C ++ P).length), c') = _
  rw [hlx, zJ_pred, zJ_pred]
theorem zc_f1b (hb : zByts b n) (hp : p ≤ n) (hw : W.length ≤ 80) (hd : d < 100) (ho : zopk (zlx b n p).1 = 0) (h5 : (zlx b n p).1 ≠ 5 ∨ d = 0) (h3 : (zlx b n p).1 ≠ 3 ∨ d ≠ 0) (kk : zCF ke Q 1 (zlx b n p).2.1) : zCR ke Q b code0 n q base p 0 may W C d m := by
  have hK : (zlx b n p).1 ≤ 33 := (zlx_r hp).2.2.2.2.2
  have hoc : fX5_operatorOf (zJ (zlx b n p).1) = some (zopk (zlx b n p).1) := zop_c ⟨(zlx b n p).1, by omega⟩
  refine zCR_fault hb hp (by decide) hw (zre0 hK hd h3) (fun dg nm wa code ht hR hA => ?_) kk
  rw [if_pos rfl]
  unfold fX5_readBehindPart
  rw [hoc, Option.bind_some, if_pos ho]
  by_cases z : (zlx b n p).1 = 5
  · have e : d = 0 := h5.resolve_left (fun y => y z)
    rw [if_pos (show zJ (zlx b n p).1 = 5 from zKe (c := 5) z), if_pos (show zJ d = 0 from zKe (c := 0) e)]
    exact ⟨_, _, _, _, _, _, _, _, hw, rfl⟩
  · rw [if_neg (show ¬ zJ (zlx b n p).1 = 5 from zKn (c := 5) z (by omega) (by omega))]
    exact ⟨_, _, _, _, _, _, _, _, hw, rfl⟩
end
