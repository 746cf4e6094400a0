/-! ===== pure: the line of a motion, in both ===== -/
section
variable {b r : Nat → Int32} {n p0 : Nat} {pl tk st dg nm fa A k m g sp bad bp : Int32}
theorem zm_now (hn : n ≤ 700) {p : Nat} (hp : p ≤ n) (hs : zSyn b n p A k m g sp) : ((zlx b n p).1 = 2 ∧ (zlx b n p).2.2.1 - (zlx b n p).2.1 ≤ 4 ∧ (zlx b n p).2.2.2 < 10000 ∧ fX9_numberNow k m g sp 0 bp 0 9999 = some (zJ (zlx b n p).2.2.2, 0, bp)) ∨ ((zlx b n p).1 = 2 ∧ 4 < (zlx b n p).2.2.1 - (zlx b n p).2.1 ∧ fX9_numberNow k m g sp 0 bp 0 9999 = some (0, 2, zJ (zlx b n p).2.1)) ∨ ((zlx b n p).1 ≠ 2 ∧ fX9_numberNow k m g sp 0 bp 0 9999 = some (0, 1, zJ (zlx b n p).2.1)) := by
  obtain ⟨r1, r2, r3, r4, r5, r6⟩ := zlx_r (b := b) hp
  unfold fX9_numberNow
  have es : sp - g = zJ ((zlx b n p).2.2.1 - (zlx b n p).2.1) := by rw [hs.2.2.2.1, hs.2.2.2.2, zJ_sub r2]
  rw [if_pos rfl, es]
  by_cases q : (zlx b n p).1 = 2
  · rw [if_pos (show k = 2 by rw [hs.2.1]; exact zrt2.2 q)]
    by_cases q4 : 4 < (zlx b n p).2.2.1 - (zlx b n p).2.1
    · refine Or.inr (Or.inl ⟨q, q4, ?_⟩)
      rw [if_pos (show (4 : Int32) < zJ ((zlx b n p).2.2.1 - (zlx b n p).2.1) from zJ_ylt (a := 4) q4 (by omega))]
      unfold jX9_numberNow_54 fX9_wrong
      rw [if_pos rfl, Option.bind_some, if_neg (by show ¬ (2 : Int32) = 0; decide), hs.2.2.2.1]
    · have hm := hs.2.2.1 q (by omega)
      have hv := zlx_v q (by omega)
      refine Or.inl ⟨q, by omega, hv, ?_⟩
      rw [if_neg (show ¬ (4 : Int32) < zJ ((zlx b n p).2.2.1 - (zlx b n p).2.1) from zJ_nlt (a := 4) (by omega) (by omega)), hm, if_neg (zJ_nn (by omega)), if_pos (show zJ (zlx b n p).2.2.2 ≤ 9999 from zJ_yle (b := 9999) (by omega) (by omega)), if_pos rfl]
  · refine Or.inr (Or.inr ⟨q, ?_⟩)
    rw [if_neg (show ¬ k = 2 by rw [hs.2.1]; exact fun z => q (zrt2.1 z))]
    unfold fX9_wrong
    rw [if_pos rfl, Option.bind_some, if_neg (by show ¬ (1 : Int32) = 0; decide), hs.2.2.2.1]
theorem zc_rn34 {x2 : Int32} : fX5_readNumber (zJ n) pl tk st dg nm 0 b 0 x2 = jX5_readNumber_34 (zJ n) pl tk st dg nm 0 b x2 0 := by
  unfold fX5_readNumber
  rw [if_pos rfl, if_pos (by decide)]
  unfold jX5_readNumber_24 jX5_readNumber_25
  rw [if_pos rfl]
/-- what stands behind 'behind', in both -/
theorem zBbeh {p N : Nat} {t kd cl cs ps bh ki ca co jo fo : Nat → Int32} (hb : zByts b n) (hB : ∀ i, i < n → zBy (b i) (r i)) (hp : p ≤ n) (hp0 : p0 ≤ p) (h3 : zCy b n p pl tk st dg nm) (h4 : zSyn b n p A k m g sp) (hN : N < 10) (ht : t 11 = zJ N) : ∃ oc om, (if tk = 2 then if 4 < dg then jX5_readMotion_142 (zJ n) pl tk st dg nm 0 b (zJ N) ki ca co jo fo (zJ N) else if nm < zJ N then jX5_readMotion_142 (zJ n) pl tk st dg nm 0 b (zJ N) ki ca co jo fo (zJ N) else jX5_readMotion_142 (zJ n) pl tk st dg nm 3 b (zJ N) ki ca co jo fo (zJ N) else jX5_readMotion_142 (zJ n) pl tk st dg nm 0 b (zJ N) ki ca co jo fo (zJ N)) = some oc ∧ ((fX9_numberNow k m g sp 0 bp 0 9999).bind fun v24 => if v24.2.1 = 0 then ck (inb 11 14) <| if v24.1 < (t (11 : Int32).toNatClampNeg) then jX9_sayMotion_120 A (zJ n) k m g sp v24.2.1 v24.2.2 t kd cl cs ps bh r ((10 : Int32) + (t (11 : Int32).toNatClampNeg)) v24.1 else (fX9_wrong g v24.2.1 v24.2.2 3).bind fun v35 => jX9_sayMotion_120 A (zJ n) k m g sp v35.1 v35.2 t kd cl cs ps bh r ((10 : Int32) + (t (11 : Int32).toNatClampNeg)) v24.1 else jX9_sayMotion_120 A (zJ n) k m g sp v24.2.1 v24.2.2 t kd cl cs ps bh r ((10 : Int32) + (t (11 : Int32).toNatClampNeg)) v24.1) = some om ∧ zCu b n p0 oc.1 oc.2.1 oc.2.2.1 oc.2.2.2.1 oc.2.2.2.2.1 oc.2.2.2.2.2.1 om.1 om.2.1 om.2.2.1 om.2.2.2.1 om.2.2.2.2.1 om.2.2.2.2.2.1 om.2.2.2.2.2.2.1 ∧ oc.2.2.2.2.2.2.1 = zJ (N + 1) ∧ oc.2.2.2.2.2.2.2.1 = ki ∧ oc.2.2.2.2.2.2.2.2.1 = ca ∧ oc.2.2.2.2.2.2.2.2.2.1 = co ∧ oc.2.2.2.2.2.2.2.2.2.2.1 = jo ∧ om.2.2.2.2.2.2.2.1 = upd t 11 (zJ (N + 1)) ∧ om.2.2.2.2.2.2.2.2.1 = kd ∧ om.2.2.2.2.2.2.2.2.2.1 = cl ∧ om.2.2.2.2.2.2.2.2.2.2.1 = cs ∧ om.2.2.2.2.2.2.2.2.2.2.2.1 = ps ∧ (∃ w, om.2.2.2.2.2.2.2.2.2.2.2.2 = upd bh (10 + N) w) ∧ (oc.2.2.2.2.2.1 = 0 → ∃ j, j < N ∧ oc.2.2.2.2.2.2.2.2.2.2.2 = upd fo N (zJ j) ∧ om.2.2.2.2.2.2.2.2.2.2.2.2 = upd bh (10 + N) (zJ j)) := by
  obtain ⟨r1, r2, r3, r4, r5, r6⟩ := zlx_r (b := b) hp
  have hn := hb.1
  have n1 : ¬ (1 : Int32) = 0 := by decide
  have n2 : ¬ (2 : Int32) = 0 := by decide
  have n3 : ¬ (3 : Int32) = 0 := by decide
  have e10 : t (11 : Int32).toNatClampNeg = zJ N := ht
  have e7 : (10 : Int32) + zJ N = zJ (10 + N) := zJ_add (a := 10)
  rw [e10, e7]
  have j131 : ∀ {A' k' m' g' s' bd' bp' w : Int32}, jX9_sayMotion_131 A' k' m' g' s' bd' bp' t kd cl cs ps bh (zJ (10 + N)) w = some (A', k', m', g', s', bd', bp', upd t 11 (zJ (N + 1)), kd, cl, cs, ps, upd bh (10 + N) w) := by
    intro A' k' m' g' s' bd' bp' w
    unfold jX9_sayMotion_131
    rw [ck_t (zinb (by omega) (by omega)), ck_t (by decide), ck_t (by decide), e10, zJ_ix (by omega), zJ_a1]
    rfl
  have bad120 : ∀ {A' k' m' g' s' bd' bp' w : Int32}, ¬ bd' = 0 → jX9_sayMotion_120 A' (zJ n) k' m' g' s' bd' bp' t kd cl cs ps bh r (zJ (10 + N)) w = some (A', k', m', g', s', bd', bp', upd t 11 (zJ (N + 1)), kd, cl, cs, ps, upd bh (10 + N) w) := by
    intro A' k' m' g' s' bd' bp' w h
    unfold jX9_sayMotion_120
    rw [if_neg h, j131]
  have c142 : ∀ {fb : Int32} {o : Int32 × Int32 × Int32 × Int32 × Int32 × Int32 × Int32}, fX5_readNumber (zJ n) pl tk st dg nm fb b 0 9 = some o → jX5_readMotion_142 (zJ n) pl tk st dg nm fb b (zJ N) ki ca co jo fo (zJ N) = some (o.2.1, o.2.2.1, o.2.2.2.1, o.2.2.2.2.1, o.2.2.2.2.2.1, o.2.2.2.2.2.2, zJ (N + 1), ki, ca, co, jo, upd fo N o.1) := by
    intro fb o h
    unfold jX5_readMotion_142
    refine zBind h ?_
    rw [ck_t (zinb (by omega) (by omega)), zJ_ix (by omega), zJ_a1]
  obtain ⟨o, eo, ho⟩ := zc_r34 hb hp h3 (x3 := 0) (top := 9) (by omega)
  have eo : fX5_readNumber (zJ n) pl tk st dg nm 0 b 0 9 = some o := by rw [zc_rn34]; exact eo
  have key := c142 eo
  rcases zm_now (bp := bp) hn hp h4 with ⟨q, q4, qv, em⟩ | ⟨q, q4, em⟩ | ⟨q, em⟩
  · have tk2 : tk = 2 := by rw [h3.2.1, q]; rfl
    obtain ⟨d1, d2⟩ := h3.2.2.2 q
    have d2 := d2 q4
    rw [if_pos tk2, if_neg (show ¬ (4 : Int32) < dg by rw [d1]; exact zJ_nlt (a := 4) q4 (by omega)), em, Option.bind_some]
    dsimp only
    rw [if_pos rfl, ck_t (by decide), d2]
    by_cases y : (zlx b n p).2.2.2 < N
    · rw [if_pos (zJ_ylt y (by omega)), if_pos (zJ_ylt y (by omega))]
      rcases ho with ⟨_, _, _, c1, c2, c3⟩ | ⟨_, z, _⟩ | ⟨z, _⟩
      · rw [if_pos rfl] at c1
        obtain ⟨v, ev, hv⟩ := zm_go hn hp hB h4
        rw [d2] at key
        refine ⟨_, (v.1, v.2.1, v.2.2.1, v.2.2.2.1, v.2.2.2.2, 0, bp, upd t 11 (zJ (N + 1)), kd, cl, cs, ps, upd bh (10 + N) (zJ (zlx b n p).2.2.2)), key, ?_, Or.inr ⟨c2, rfl, _, by omega, r3, c3, hv⟩, rfl, rfl, rfl, rfl, rfl, rfl, rfl, rfl, rfl, rfl, ⟨_, rfl⟩, fun _ => ⟨_, y, by rw [c1], rfl⟩⟩
        unfold jX9_sayMotion_120
        rw [if_pos rfl]
        refine zBind ev ?_
        rw [j131]
      · omega
      · exact absurd q z
    · rw [if_neg (zJ_nlt (by omega) (by omega)), if_neg (zJ_nlt (by omega) (by omega))]
      have k3 := c142 (zc_rnumB (b := b) (n := n) (pl := pl) (tk := tk) (st := st) (dg := dg) (nm := nm) (top := 9) (x := 0) n3)
      rw [d2] at k3
      refine ⟨_, _, k3, zBind (if_pos rfl) (bad120 n3), Or.inl ⟨n3, rfl, ?_, _, by omega, h3.2.2.1⟩, rfl, rfl, rfl, rfl, rfl, rfl, rfl, rfl, rfl, rfl, ⟨_, rfl⟩, fun z => absurd z n3⟩
      show g = st
      rw [h4.2.2.2.1, h3.2.2.1]
  · have tk2 : tk = 2 := by rw [h3.2.1, q]; rfl
    obtain ⟨d1, d2⟩ := h3.2.2.2 q
    rw [if_pos tk2, if_pos (show (4 : Int32) < dg by rw [d1]; exact zJ_ylt (a := 4) q4 (by omega)), em, Option.bind_some]
    dsimp only
    rw [if_neg n2]
    rcases ho with ⟨_, z, _⟩ | ⟨_, _, c2, c3⟩ | ⟨z, _⟩
    · omega
    · refine ⟨_, _, key, bad120 n2, Or.inl ⟨by show ¬ o.2.2.2.2.2.2 = 0; rw [c2]; exact n2, c2.symm, c3.symm, _, by omega, c3⟩, rfl, rfl, rfl, rfl, rfl, rfl, rfl, rfl, rfl, rfl, ⟨_, rfl⟩, fun z => absurd (c2.symm.trans z) n2⟩
    · exact absurd q z
  · have tk2 : ¬ tk = 2 := by rw [h3.2.1]; exact zKn (c := 2) q (by omega) (by omega)
    rw [if_neg tk2, em, Option.bind_some]
    dsimp only
    rw [if_neg n1]
    rcases ho with ⟨z, _⟩ | ⟨z, _⟩ | ⟨_, c2, c3⟩
    · exact absurd z q
    · exact absurd z q
    · refine ⟨_, _, key, bad120 n1, Or.inl ⟨by show ¬ o.2.2.2.2.2.2 = 0; rw [c2]; exact n1, c2.symm, c3.symm, _, by omega, c3⟩, rfl, rfl, rfl, rfl, rfl, rfl, rfl, rfl, rfl, rfl, ⟨_, rfl⟩, fun z => absurd (c2.symm.trans z) n1⟩
end
