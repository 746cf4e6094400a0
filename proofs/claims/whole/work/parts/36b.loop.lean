def lawSt (L : Nat) (xs : Nat → Int32) (sc : Nat → Int32) (ar : Nat → Nat → Int32) (O : Nat → Int64) (x4 k : Int32) : Option ((Nat → Int32) × (Nat → Nat → Int32) × (Nat → Int64)) :=
  if k = 0 then st0 L xs sc ar O x4 else
  if k = 1 then st1 L xs sc ar O x4 else
  if k = 2 then st2 L xs sc ar O x4 else
  if k = 3 then st3 L xs sc ar O x4 else
  if k = 4 then st4 L xs sc ar O x4 else
  if k = 5 then st5 L xs sc ar O x4 else
  if k = 6 then st6 L xs sc ar O x4 else
  if k = 7 then st7 L xs sc ar O x4 else
  if k = 8 then st8 L xs sc ar O x4 else
  if k = 9 then st9 L xs sc ar O x4 else
  if k = 10 then st10 L xs sc ar O x4 else
  if k = 11 then st11 L xs sc ar O x4 else
  if k = 12 then st12 L xs sc ar O x4 else
  if k = 13 then st13 L xs sc ar O x4 else
  if k = 14 then st14 L xs sc ar O x4 else
  if k = 15 then st15 L xs sc ar O x4 else
  if k = 16 then st16 L xs sc ar O x4 else
  if k = 17 then st17 L xs sc ar O x4 else
  if k = 18 then st18 L xs sc ar O x4 else
  if k = 19 then st19 L xs sc ar O x4 else
  if k = 20 then st20 L xs sc ar O x4 else
  if k = 21 then st21 L xs sc ar O x4 else
  if k = 22 then st22 L xs sc ar O x4 else
  if k = 23 then st23 L xs sc ar O x4 else
  if k = 24 then st24 L xs sc ar O x4 else
  if k = 25 then st25 L xs sc ar O x4 else
  if k = 26 then st26 L xs sc ar O x4 else
  if k = 27 then st27 L xs sc ar O x4 else
  if k = 28 then st28 L xs sc ar O x4 else
  if k = 29 then st29 L xs sc ar O x4 else
  if k = 30 then st30 L xs sc ar O x4 else
  if k = 31 then st31 L xs sc ar O x4 else
  if k = 32 then st32 L xs sc ar O x4 else
  if k = 33 then st33 L xs sc ar O x4 else
  if k = 34 then st34 L xs sc ar O x4 else
  if k = 35 then st35 L xs sc ar O x4 else
  if k = 36 then st36 L xs sc ar O x4 else
  if k = 37 then st37 L xs sc ar O x4 else
  if k = 38 then st38 L xs sc ar O x4 else
  if k = 39 then st39 L xs sc ar O x4 else
  some (sc, ar, O)
set_option maxHeartbeats 8000000 in
set_option maxRecDepth 100000 in
theorem law_loop {p : Program} {l : Launch} {e : Env} {s : State} {m : MethodId} {below : List Frame} {meth : Method} {c : Code} {dC : Nat → ClassId} {dI : Nat → Nat → Nat} {cc : Nat → ClassId} {ak : Nat → Nat} {A : Nat → Prop} {b L : Nat} {xs : Nat → Int32} (hAd : A = fun q => s.heap.size ≤ q) (C0 : CT p s m #[Value.ref b] meth c A dC dI cc ak cL_law 7 (some .boolean) RL) (hst : l.stackTraces = false) (hL : L ≤ 3072) (hX : va_X b L xs s s.heap) (hbl : b < s.heap.size) (hbA : ¬ A b) (aO oZ oM oU oF oS oR oA oK oC oB oD oT oX oY oV aZ_tape aU_prices aF_times aS_heard aS_unlike aR_waiting aA_before aA_seenHour aA_seenNumber aA_refused aK_before aK_seenHour aK_seenNumber aK_refused aC_values aC_stack aB_lean aB_deaf aB_kind aB_call aB_cost aB_joy aB_follows aB_code aB_ruleFrom aB_ruleTo aD_lean aD_deaf aD_kind aD_call aD_cost aD_joy aD_follows aD_code aD_ruleFrom aD_ruleTo aT_lean aT_call aX_lean aX_call aY_lean aY_call aV_lean aV_call : Nat) (aM : Nat → Nat) (Inv : (Nat → Int32) → (Nat → Nat → Int32) → Prop) (hstep : ∀ (sc : Nat → Int32) (ar : Nat → Nat → Int32) (O : Nat → Int64) (i : Nat), Inv sc ar → i + 6 ≤ L → ∃ out, lawSt L xs sc ar O (nI i) (xs i &&& 63) = some out ∧ Inv out.1 out.2.1) (C1 S1 : Nat) (hC1 : C1 ≤ 500000) (hS1 : S1 ≤ 7000000) : ∀ (n i : Nat) (sc : Nat → Int32) (ar : Nat → Nat → Int32) (O : Nat → Int64), Inv sc ar → i ≤ L → L - i < n → ∀ (H : Heap) (locs : List Loc), va_P (dC, dI) cLs (LW cc ak aO oZ oM oU oF oS oR oA oK oC oB oD oT oX oY oV aZ_tape aU_prices aF_times aS_heard aS_unlike aR_waiting aA_before aA_seenHour aA_seenNumber aA_refused aK_before aK_seenHour aK_seenNumber aK_refused aC_values aC_stack aB_lean aB_deaf aB_kind aB_call aB_cost aB_joy aB_follows aB_code aB_ruleFrom aB_ruleTo aD_lean aD_deaf aD_kind aD_call aD_cost aD_joy aD_follows aD_code aD_ruleFrom aD_ruleTo aT_lean aT_call aX_lean aX_call aY_lean aY_call aV_lean aV_call aM sc ar O) H → va_D A (LW cc ak aO oZ oM oU oF oS oR oA oK oC oB oD oT oX oY oV aZ_tape aU_prices aF_times aS_heard aS_unlike aR_waiting aA_before aA_seenHour aA_seenNumber aA_refused aK_before aK_seenHour aK_seenNumber aK_refused aC_values aC_stack aB_lean aB_deaf aB_kind aB_call aB_cost aB_joy aB_follows aB_code aB_ruleFrom aB_ruleTo aD_lean aD_deaf aD_kind aD_call aD_cost aD_joy aD_follows aD_code aD_ruleFrom aD_ruleTo aT_lean aT_call aX_lean aX_call aY_lean aY_call aV_lean aV_call aM sc ar O) → va_S A s.heap H locs → ∀ ls : Array Slot, lv_has ls 7 [(0, .ref b), (1, .ref oZ), (2, .ref oM), (3, .ref aO), (4, .int (nI i))] → W p l e room_1 s m #[Value.ref b] below meth c H locs (C1 + 6 * i) (S1 + 36 * i) (lw_Z below #[Value.ref b] s) (F0 m 23 ls []) := by
  obtain ⟨hx, hb, hml, hr, hlocks, hown, hG, hK, hA, hE⟩ := id C0
  intro n
  induction n with
  | zero => intro i sc ar O _ _ hn; omega
  | succ n ih =>
    intro i sc ar O hI hi hn H locs hP hD hS ls hl
    have k2260 : ∀ (sc2 : Nat → Int32) (ar2 : Nat → Nat → Int32) (O2 : Nat → Int64), Inv sc2 ar2 → i + 6 ≤ L → ∀ (H : Heap) (locs : List Loc) (ls : Array Slot), va_P (dC, dI) cLs (LW cc ak aO oZ oM oU oF oS oR oA oK oC oB oD oT oX oY oV aZ_tape aU_prices aF_times aS_heard aS_unlike aR_waiting aA_before aA_seenHour aA_seenNumber aA_refused aK_before aK_seenHour aK_seenNumber aK_refused aC_values aC_stack aB_lean aB_deaf aB_kind aB_call aB_cost aB_joy aB_follows aB_code aB_ruleFrom aB_ruleTo aD_lean aD_deaf aD_kind aD_call aD_cost aD_joy aD_follows aD_code aD_ruleFrom aD_ruleTo aT_lean aT_call aX_lean aX_call aY_lean aY_call aV_lean aV_call aM sc2 ar2 O2) H → va_D A (LW cc ak aO oZ oM oU oF oS oR oA oK oC oB oD oT oX oY oV aZ_tape aU_prices aF_times aS_heard aS_unlike aR_waiting aA_before aA_seenHour aA_seenNumber aA_refused aK_before aK_seenHour aK_seenNumber aK_refused aC_values aC_stack aB_lean aB_deaf aB_kind aB_call aB_cost aB_joy aB_follows aB_code aB_ruleFrom aB_ruleTo aD_lean aD_deaf aD_kind aD_call aD_cost aD_joy aD_follows aD_code aD_ruleFrom aD_ruleTo aT_lean aT_call aX_lean aX_call aY_lean aY_call aV_lean aV_call aM sc2 ar2 O2) → va_S A s.heap H locs → lv_has ls 7 [(0, .ref b), (1, .ref oZ), (2, .ref oM), (3, .ref aO), (4, .int (nI i))] → W p l e room_1 s m #[Value.ref b] below meth c H locs (C1 + 6 * (i + 6)) (S1 + 36 * (i + 6)) (lw_Z below #[Value.ref b] s) (F0 m 2260 ls []) := by
      intro sc2 ar2 O2 hI2 hi6 H locs ls hP hD hS hl
      refine lv_iinc (v := nI (i + 6)) (lv' := [(4, .int (nI (i + 6))), (0, .ref b), (1, .ref oZ), (2, .ref oM), (3, .ref aO)]) hx hb dL_law_2260 hl (k := 4) rfl (by rw [← nI_add]; rfl) (by decide) rfl (fun ls hl => ?_)
      refine lv_goto (tgt := 23) hx hb dL_law_2263 (by decide) ?_
      exact ih (i + 6) sc2 ar2 O2 hI2 hi6 (by omega) H locs hP hD hS ls (lv_sub hl [1, 2, 3, 4, 0] rfl)
    refine lv_iload hx hb dL_law_23 (lv_at hl 4 rfl) ?_
    refine lv_aload_n hx hb dL_law_25 rfl (lv_at hl 0 rfl) ?_
    refine va_slen hx hb hX hbl hbA hS dL_law_26 ?_
    refine lv_bipush (v := 6) hx hb dL_law_27 (by decide) ?_
    refine lv_isub hx hb dL_law_29 ?_
    refine lv_icmp_gt (tgt := 2266) hx hb dL_law_30 (by decide) (fun h1 => ?_) (fun h1 => ?_)
    · refine lv_iconst (v := 1) hx hb dL_law_2266 (by decide) ?_
      subst hAd
      refine va_forget (fun q hq => hS.2.2 q hq) ?_
      refine W.widen (k := 601024) (n := 7293034) (by omega) (by omega) ?_
      exact lw_ret hx hb hr hlocks dL_law_2267
    · have hi6 : i + 6 ≤ L := by
        rcases Nat.lt_or_ge L 6 with q | q
        · have z : nI L - nI 6 < 0 := pk_sneg (by decide) q
          have z2 : (0 : Int32) ≤ nI i := nI_pos' (by omega)
          exact absurd (Int32.lt_of_lt_of_le z z2) h1
        · have z : nI L - nI 6 = nI (L - 6) := pk_sub q
          have z3 : ¬ nI (L - 6) < nI i := by rw [← z]; exact h1
          rcases Nat.lt_or_ge (L - 6) i with q2 | q2
          · exact absurd (nI_lt q2 (by omega)) z3
          · omega
      refine lv_aload_n hx hb dL_law_33 rfl (lv_at hl 0 rfl) ?_
      refine lv_iload hx hb dL_law_34 (lv_at hl 4 rfl) ?_
      refine va_sld hx hb hX hbl hbA hS (vp_in_nI (by omega) (by omega)) dL_law_36 ?_
      refine lv_bipush (v := 63) hx hb dL_law_37 (by decide) ?_
      refine lv_iand hx hb dL_law_39 ?_
      rw [nI_clamp (show i < 2 ^ 31 by omega)]
      obtain ⟨out, hf, hI2⟩ := hstep sc ar O i hI hi6
      unfold lawSt at hf
      by_cases c0 : xs i &&& 63 = 0
      · have hf := ift c0 hf
        refine lv_tableIn (off := 176) (tgt := 216) hx hb dL_law_40 (by rw [c0]; decide) (by rw [c0]; decide) (by rw [c0]; rfl) (by decide) ?_
        exact wst0 C0 hst hX hbl hbA aO oZ oM oU oF oS oR oA oK oC oB oD oT oX oY oV aZ_tape aU_prices aF_times aS_heard aS_unlike aR_waiting aA_before aA_seenHour aA_seenNumber aA_refused aK_before aK_seenHour aK_seenNumber aK_refused aC_values aC_stack aB_lean aB_deaf aB_kind aB_call aB_cost aB_joy aB_follows aB_code aB_ruleFrom aB_ruleTo aD_lean aD_deaf aD_kind aD_call aD_cost aD_joy aD_follows aD_code aD_ruleFrom aD_ruleTo aT_lean aT_call aX_lean aX_call aY_lean aY_call aV_lean aV_call aM sc ar O (nI i) hf (by omega) (by omega) (show C1 + 6 * (i + 6) ≤ 601024 by omega) (show S1 + 36 * (i + 6) ≤ 7293034 by omega) hP hD hS hl (fun H locs ls hP hD hS hl => k2260 _ _ _ hI2 hi6 H locs ls hP hD hS hl)
      · have hf := iff_ c0 hf
        by_cases c1 : xs i &&& 63 = 1
        · have hf := ift c1 hf
          refine lv_tableIn (off := 249) (tgt := 289) hx hb dL_law_40 (by rw [c1]; decide) (by rw [c1]; decide) (by rw [c1]; rfl) (by decide) ?_
          exact wst1 C0 hst hX hbl hbA aO oZ oM oU oF oS oR oA oK oC oB oD oT oX oY oV aZ_tape aU_prices aF_times aS_heard aS_unlike aR_waiting aA_before aA_seenHour aA_seenNumber aA_refused aK_before aK_seenHour aK_seenNumber aK_refused aC_values aC_stack aB_lean aB_deaf aB_kind aB_call aB_cost aB_joy aB_follows aB_code aB_ruleFrom aB_ruleTo aD_lean aD_deaf aD_kind aD_call aD_cost aD_joy aD_follows aD_code aD_ruleFrom aD_ruleTo aT_lean aT_call aX_lean aX_call aY_lean aY_call aV_lean aV_call aM sc ar O (nI i) hf (by omega) (by omega) (show C1 + 6 * (i + 6) ≤ 601024 by omega) (show S1 + 36 * (i + 6) ≤ 7293034 by omega) hP hD hS hl (fun H locs ls hP hD hS hl => k2260 _ _ _ hI2 hi6 H locs ls hP hD hS hl)
        · have hf := iff_ c1 hf
          by_cases c2 : xs i &&& 63 = 2
          · have hf := ift c2 hf
            refine lv_tableIn (off := 305) (tgt := 345) hx hb dL_law_40 (by rw [c2]; decide) (by rw [c2]; decide) (by rw [c2]; rfl) (by decide) ?_
            exact wst2 C0 hst hX hbl hbA aO oZ oM oU oF oS oR oA oK oC oB oD oT oX oY oV aZ_tape aU_prices aF_times aS_heard aS_unlike aR_waiting aA_before aA_seenHour aA_seenNumber aA_refused aK_before aK_seenHour aK_seenNumber aK_refused aC_values aC_stack aB_lean aB_deaf aB_kind aB_call aB_cost aB_joy aB_follows aB_code aB_ruleFrom aB_ruleTo aD_lean aD_deaf aD_kind aD_call aD_cost aD_joy aD_follows aD_code aD_ruleFrom aD_ruleTo aT_lean aT_call aX_lean aX_call aY_lean aY_call aV_lean aV_call aM sc ar O (nI i) hf (by omega) (by omega) (show C1 + 6 * (i + 6) ≤ 601024 by omega) (show S1 + 36 * (i + 6) ≤ 7293034 by omega) hP hD hS hl (fun H locs ls hP hD hS hl => k2260 _ _ _ hI2 hi6 H locs ls hP hD hS hl)
          · have hf := iff_ c2 hf
            by_cases c3 : xs i &&& 63 = 3
            · have hf := ift c3 hf
              refine lv_tableIn (off := 318) (tgt := 358) hx hb dL_law_40 (by rw [c3]; decide) (by rw [c3]; decide) (by rw [c3]; rfl) (by decide) ?_
              exact wst3 C0 hst hX hbl hbA aO oZ oM oU oF oS oR oA oK oC oB oD oT oX oY oV aZ_tape aU_prices aF_times aS_heard aS_unlike aR_waiting aA_before aA_seenHour aA_seenNumber aA_refused aK_before aK_seenHour aK_seenNumber aK_refused aC_values aC_stack aB_lean aB_deaf aB_kind aB_call aB_cost aB_joy aB_follows aB_code aB_ruleFrom aB_ruleTo aD_lean aD_deaf aD_kind aD_call aD_cost aD_joy aD_follows aD_code aD_ruleFrom aD_ruleTo aT_lean aT_call aX_lean aX_call aY_lean aY_call aV_lean aV_call aM sc ar O (nI i) hf (by omega) (by omega) (show C1 + 6 * (i + 6) ≤ 601024 by omega) (show S1 + 36 * (i + 6) ≤ 7293034 by omega) hP hD hS hl (fun H locs ls hP hD hS hl => k2260 _ _ _ hI2 hi6 H locs ls hP hD hS hl)
            · have hf := iff_ c3 hf
              by_cases c4 : xs i &&& 63 = 4
              · have hf := ift c4 hf
                refine lv_tableIn (off := 374) (tgt := 414) hx hb dL_law_40 (by rw [c4]; decide) (by rw [c4]; decide) (by rw [c4]; rfl) (by decide) ?_
                exact wst4 C0 hst hX hbl hbA aO oZ oM oU oF oS oR oA oK oC oB oD oT oX oY oV aZ_tape aU_prices aF_times aS_heard aS_unlike aR_waiting aA_before aA_seenHour aA_seenNumber aA_refused aK_before aK_seenHour aK_seenNumber aK_refused aC_values aC_stack aB_lean aB_deaf aB_kind aB_call aB_cost aB_joy aB_follows aB_code aB_ruleFrom aB_ruleTo aD_lean aD_deaf aD_kind aD_call aD_cost aD_joy aD_follows aD_code aD_ruleFrom aD_ruleTo aT_lean aT_call aX_lean aX_call aY_lean aY_call aV_lean aV_call aM sc ar O (nI i) hf (by omega) (by omega) (show C1 + 6 * (i + 6) ≤ 601024 by omega) (show S1 + 36 * (i + 6) ≤ 7293034 by omega) hP hD hS hl (fun H locs ls hP hD hS hl => k2260 _ _ _ hI2 hi6 H locs ls hP hD hS hl)
              · have hf := iff_ c4 hf
                by_cases c5 : xs i &&& 63 = 5
                · have hf := ift c5 hf
                  refine lv_tableIn (off := 442) (tgt := 482) hx hb dL_law_40 (by rw [c5]; decide) (by rw [c5]; decide) (by rw [c5]; rfl) (by decide) ?_
                  exact wst5 C0 hst hX hbl hbA aO oZ oM oU oF oS oR oA oK oC oB oD oT oX oY oV aZ_tape aU_prices aF_times aS_heard aS_unlike aR_waiting aA_before aA_seenHour aA_seenNumber aA_refused aK_before aK_seenHour aK_seenNumber aK_refused aC_values aC_stack aB_lean aB_deaf aB_kind aB_call aB_cost aB_joy aB_follows aB_code aB_ruleFrom aB_ruleTo aD_lean aD_deaf aD_kind aD_call aD_cost aD_joy aD_follows aD_code aD_ruleFrom aD_ruleTo aT_lean aT_call aX_lean aX_call aY_lean aY_call aV_lean aV_call aM sc ar O (nI i) hf (by omega) (by omega) (show C1 + 6 * (i + 6) ≤ 601024 by omega) (show S1 + 36 * (i + 6) ≤ 7293034 by omega) hP hD hS hl (fun H locs ls hP hD hS hl => k2260 _ _ _ hI2 hi6 H locs ls hP hD hS hl)
                · have hf := iff_ c5 hf
                  by_cases c6 : xs i &&& 63 = 6
                  · have hf := ift c6 hf
                    refine lv_tableIn (off := 510) (tgt := 550) hx hb dL_law_40 (by rw [c6]; decide) (by rw [c6]; decide) (by rw [c6]; rfl) (by decide) ?_
                    exact wst6 C0 hst hX hbl hbA aO oZ oM oU oF oS oR oA oK oC oB oD oT oX oY oV aZ_tape aU_prices aF_times aS_heard aS_unlike aR_waiting aA_before aA_seenHour aA_seenNumber aA_refused aK_before aK_seenHour aK_seenNumber aK_refused aC_values aC_stack aB_lean aB_deaf aB_kind aB_call aB_cost aB_joy aB_follows aB_code aB_ruleFrom aB_ruleTo aD_lean aD_deaf aD_kind aD_call aD_cost aD_joy aD_follows aD_code aD_ruleFrom aD_ruleTo aT_lean aT_call aX_lean aX_call aY_lean aY_call aV_lean aV_call aM sc ar O (nI i) hf (by omega) (by omega) (show C1 + 6 * (i + 6) ≤ 601024 by omega) (show S1 + 36 * (i + 6) ≤ 7293034 by omega) hP hD hS hl (fun H locs ls hP hD hS hl => k2260 _ _ _ hI2 hi6 H locs ls hP hD hS hl)
                  · have hf := iff_ c6 hf
                    by_cases c7 : xs i &&& 63 = 7
                    · have hf := ift c7 hf
                      refine lv_tableIn (off := 535) (tgt := 575) hx hb dL_law_40 (by rw [c7]; decide) (by rw [c7]; decide) (by rw [c7]; rfl) (by decide) ?_
                      exact wst7 C0 hst hX hbl hbA aO oZ oM oU oF oS oR oA oK oC oB oD oT oX oY oV aZ_tape aU_prices aF_times aS_heard aS_unlike aR_waiting aA_before aA_seenHour aA_seenNumber aA_refused aK_before aK_seenHour aK_seenNumber aK_refused aC_values aC_stack aB_lean aB_deaf aB_kind aB_call aB_cost aB_joy aB_follows aB_code aB_ruleFrom aB_ruleTo aD_lean aD_deaf aD_kind aD_call aD_cost aD_joy aD_follows aD_code aD_ruleFrom aD_ruleTo aT_lean aT_call aX_lean aX_call aY_lean aY_call aV_lean aV_call aM sc ar O (nI i) hf (by omega) (by omega) (show C1 + 6 * (i + 6) ≤ 601024 by omega) (show S1 + 36 * (i + 6) ≤ 7293034 by omega) hP hD hS hl (fun H locs ls hP hD hS hl => k2260 _ _ _ hI2 hi6 H locs ls hP hD hS hl)
                    · have hf := iff_ c7 hf
                      by_cases c8 : xs i &&& 63 = 8
                      · have hf := ift c8 hf
                        refine lv_tableIn (off := 560) (tgt := 600) hx hb dL_law_40 (by rw [c8]; decide) (by rw [c8]; decide) (by rw [c8]; rfl) (by decide) ?_
                        exact wst8 C0 hst hX hbl hbA aO oZ oM oU oF oS oR oA oK oC oB oD oT oX oY oV aZ_tape aU_prices aF_times aS_heard aS_unlike aR_waiting aA_before aA_seenHour aA_seenNumber aA_refused aK_before aK_seenHour aK_seenNumber aK_refused aC_values aC_stack aB_lean aB_deaf aB_kind aB_call aB_cost aB_joy aB_follows aB_code aB_ruleFrom aB_ruleTo aD_lean aD_deaf aD_kind aD_call aD_cost aD_joy aD_follows aD_code aD_ruleFrom aD_ruleTo aT_lean aT_call aX_lean aX_call aY_lean aY_call aV_lean aV_call aM sc ar O (nI i) hf (by omega) (by omega) (show C1 + 6 * (i + 6) ≤ 601024 by omega) (show S1 + 36 * (i + 6) ≤ 7293034 by omega) hP hD hS hl (fun H locs ls hP hD hS hl => k2260 _ _ _ hI2 hi6 H locs ls hP hD hS hl)
                      · have hf := iff_ c8 hf
                        by_cases c9 : xs i &&& 63 = 9
                        · have hf := ift c9 hf
                          refine lv_tableIn (off := 585) (tgt := 625) hx hb dL_law_40 (by rw [c9]; decide) (by rw [c9]; decide) (by rw [c9]; rfl) (by decide) ?_
                          exact wst9 C0 hst hX hbl hbA aO oZ oM oU oF oS oR oA oK oC oB oD oT oX oY oV aZ_tape aU_prices aF_times aS_heard aS_unlike aR_waiting aA_before aA_seenHour aA_seenNumber aA_refused aK_before aK_seenHour aK_seenNumber aK_refused aC_values aC_stack aB_lean aB_deaf aB_kind aB_call aB_cost aB_joy aB_follows aB_code aB_ruleFrom aB_ruleTo aD_lean aD_deaf aD_kind aD_call aD_cost aD_joy aD_follows aD_code aD_ruleFrom aD_ruleTo aT_lean aT_call aX_lean aX_call aY_lean aY_call aV_lean aV_call aM sc ar O (nI i) hf (by omega) (by omega) (show C1 + 6 * (i + 6) ≤ 601024 by omega) (show S1 + 36 * (i + 6) ≤ 7293034 by omega) hP hD hS hl (fun H locs ls hP hD hS hl => k2260 _ _ _ hI2 hi6 H locs ls hP hD hS hl)
                        · have hf := iff_ c9 hf
                          by_cases c10 : xs i &&& 63 = 10
                          · have hf := ift c10 hf
                            refine lv_tableIn (off := 610) (tgt := 650) hx hb dL_law_40 (by rw [c10]; decide) (by rw [c10]; decide) (by rw [c10]; rfl) (by decide) ?_
                            exact wst10 C0 hst hX hbl hbA aO oZ oM oU oF oS oR oA oK oC oB oD oT oX oY oV aZ_tape aU_prices aF_times aS_heard aS_unlike aR_waiting aA_before aA_seenHour aA_seenNumber aA_refused aK_before aK_seenHour aK_seenNumber aK_refused aC_values aC_stack aB_lean aB_deaf aB_kind aB_call aB_cost aB_joy aB_follows aB_code aB_ruleFrom aB_ruleTo aD_lean aD_deaf aD_kind aD_call aD_cost aD_joy aD_follows aD_code aD_ruleFrom aD_ruleTo aT_lean aT_call aX_lean aX_call aY_lean aY_call aV_lean aV_call aM sc ar O (nI i) hf (by omega) (by omega) (show C1 + 6 * (i + 6) ≤ 601024 by omega) (show S1 + 36 * (i + 6) ≤ 7293034 by omega) hP hD hS hl (fun H locs ls hP hD hS hl => k2260 _ _ _ hI2 hi6 H locs ls hP hD hS hl)
                          · have hf := iff_ c10 hf
                            by_cases c11 : xs i &&& 63 = 11
                            · have hf := ift c11 hf
                              refine lv_tableIn (off := 678) (tgt := 718) hx hb dL_law_40 (by rw [c11]; decide) (by rw [c11]; decide) (by rw [c11]; rfl) (by decide) ?_
                              exact wst11 C0 hst hX hbl hbA aO oZ oM oU oF oS oR oA oK oC oB oD oT oX oY oV aZ_tape aU_prices aF_times aS_heard aS_unlike aR_waiting aA_before aA_seenHour aA_seenNumber aA_refused aK_before aK_seenHour aK_seenNumber aK_refused aC_values aC_stack aB_lean aB_deaf aB_kind aB_call aB_cost aB_joy aB_follows aB_code aB_ruleFrom aB_ruleTo aD_lean aD_deaf aD_kind aD_call aD_cost aD_joy aD_follows aD_code aD_ruleFrom aD_ruleTo aT_lean aT_call aX_lean aX_call aY_lean aY_call aV_lean aV_call aM sc ar O (nI i) hf (by omega) (by omega) (show C1 + 6 * (i + 6) ≤ 601024 by omega) (show S1 + 36 * (i + 6) ≤ 7293034 by omega) hP hD hS hl (fun H locs ls hP hD hS hl => k2260 _ _ _ hI2 hi6 H locs ls hP hD hS hl)
                            · have hf := iff_ c11 hf
                              by_cases c12 : xs i &&& 63 = 12
                              · have hf := ift c12 hf
                                refine lv_tableIn (off := 746) (tgt := 786) hx hb dL_law_40 (by rw [c12]; decide) (by rw [c12]; decide) (by rw [c12]; rfl) (by decide) ?_
                                exact wst12 C0 hst hX hbl hbA aO oZ oM oU oF oS oR oA oK oC oB oD oT oX oY oV aZ_tape aU_prices aF_times aS_heard aS_unlike aR_waiting aA_before aA_seenHour aA_seenNumber aA_refused aK_before aK_seenHour aK_seenNumber aK_refused aC_values aC_stack aB_lean aB_deaf aB_kind aB_call aB_cost aB_joy aB_follows aB_code aB_ruleFrom aB_ruleTo aD_lean aD_deaf aD_kind aD_call aD_cost aD_joy aD_follows aD_code aD_ruleFrom aD_ruleTo aT_lean aT_call aX_lean aX_call aY_lean aY_call aV_lean aV_call aM sc ar O (nI i) hf (by omega) (by omega) (show C1 + 6 * (i + 6) ≤ 601024 by omega) (show S1 + 36 * (i + 6) ≤ 7293034 by omega) hP hD hS hl (fun H locs ls hP hD hS hl => k2260 _ _ _ hI2 hi6 H locs ls hP hD hS hl)
                              · have hf := iff_ c12 hf
                                by_cases c13 : xs i &&& 63 = 13
                                · have hf := ift c13 hf
                                  refine lv_tableIn (off := 759) (tgt := 799) hx hb dL_law_40 (by rw [c13]; decide) (by rw [c13]; decide) (by rw [c13]; rfl) (by decide) ?_
                                  exact wst13 C0 hst hX hbl hbA aO oZ oM oU oF oS oR oA oK oC oB oD oT oX oY oV aZ_tape aU_prices aF_times aS_heard aS_unlike aR_waiting aA_before aA_seenHour aA_seenNumber aA_refused aK_before aK_seenHour aK_seenNumber aK_refused aC_values aC_stack aB_lean aB_deaf aB_kind aB_call aB_cost aB_joy aB_follows aB_code aB_ruleFrom aB_ruleTo aD_lean aD_deaf aD_kind aD_call aD_cost aD_joy aD_follows aD_code aD_ruleFrom aD_ruleTo aT_lean aT_call aX_lean aX_call aY_lean aY_call aV_lean aV_call aM sc ar O (nI i) hf (by omega) (by omega) (show C1 + 6 * (i + 6) ≤ 601024 by omega) (show S1 + 36 * (i + 6) ≤ 7293034 by omega) hP hD hS hl (fun H locs ls hP hD hS hl => k2260 _ _ _ hI2 hi6 H locs ls hP hD hS hl)
                                · have hf := iff_ c13 hf
                                  by_cases c14 : xs i &&& 63 = 14
                                  · have hf := ift c14 hf
                                    refine lv_tableIn (off := 815) (tgt := 855) hx hb dL_law_40 (by rw [c14]; decide) (by rw [c14]; decide) (by rw [c14]; rfl) (by decide) ?_
                                    exact wst14 C0 hst hX hbl hbA aO oZ oM oU oF oS oR oA oK oC oB oD oT oX oY oV aZ_tape aU_prices aF_times aS_heard aS_unlike aR_waiting aA_before aA_seenHour aA_seenNumber aA_refused aK_before aK_seenHour aK_seenNumber aK_refused aC_values aC_stack aB_lean aB_deaf aB_kind aB_call aB_cost aB_joy aB_follows aB_code aB_ruleFrom aB_ruleTo aD_lean aD_deaf aD_kind aD_call aD_cost aD_joy aD_follows aD_code aD_ruleFrom aD_ruleTo aT_lean aT_call aX_lean aX_call aY_lean aY_call aV_lean aV_call aM sc ar O (nI i) hf (by omega) (by omega) (show C1 + 6 * (i + 6) ≤ 601024 by omega) (show S1 + 36 * (i + 6) ≤ 7293034 by omega) hP hD hS hl (fun H locs ls hP hD hS hl => k2260 _ _ _ hI2 hi6 H locs ls hP hD hS hl)
                                  · have hf := iff_ c14 hf
                                    by_cases c15 : xs i &&& 63 = 15
                                    · have hf := ift c15 hf
                                      refine lv_tableIn (off := 871) (tgt := 911) hx hb dL_law_40 (by rw [c15]; decide) (by rw [c15]; decide) (by rw [c15]; rfl) (by decide) ?_
                                      exact wst15 C0 hst hX hbl hbA aO oZ oM oU oF oS oR oA oK oC oB oD oT oX oY oV aZ_tape aU_prices aF_times aS_heard aS_unlike aR_waiting aA_before aA_seenHour aA_seenNumber aA_refused aK_before aK_seenHour aK_seenNumber aK_refused aC_values aC_stack aB_lean aB_deaf aB_kind aB_call aB_cost aB_joy aB_follows aB_code aB_ruleFrom aB_ruleTo aD_lean aD_deaf aD_kind aD_call aD_cost aD_joy aD_follows aD_code aD_ruleFrom aD_ruleTo aT_lean aT_call aX_lean aX_call aY_lean aY_call aV_lean aV_call aM sc ar O (nI i) hf (by omega) (by omega) (show C1 + 6 * (i + 6) ≤ 601024 by omega) (show S1 + 36 * (i + 6) ≤ 7293034 by omega) hP hD hS hl (fun H locs ls hP hD hS hl => k2260 _ _ _ hI2 hi6 H locs ls hP hD hS hl)
                                    · have hf := iff_ c15 hf
                                      by_cases c16 : xs i &&& 63 = 16
                                      · have hf := ift c16 hf
                                        refine lv_tableIn (off := 939) (tgt := 979) hx hb dL_law_40 (by rw [c16]; decide) (by rw [c16]; decide) (by rw [c16]; rfl) (by decide) ?_
                                        exact wst16 C0 hst hX hbl hbA aO oZ oM oU oF oS oR oA oK oC oB oD oT oX oY oV aZ_tape aU_prices aF_times aS_heard aS_unlike aR_waiting aA_before aA_seenHour aA_seenNumber aA_refused aK_before aK_seenHour aK_seenNumber aK_refused aC_values aC_stack aB_lean aB_deaf aB_kind aB_call aB_cost aB_joy aB_follows aB_code aB_ruleFrom aB_ruleTo aD_lean aD_deaf aD_kind aD_call aD_cost aD_joy aD_follows aD_code aD_ruleFrom aD_ruleTo aT_lean aT_call aX_lean aX_call aY_lean aY_call aV_lean aV_call aM sc ar O (nI i) hf (by omega) (by omega) (show C1 + 6 * (i + 6) ≤ 601024 by omega) (show S1 + 36 * (i + 6) ≤ 7293034 by omega) hP hD hS hl (fun H locs ls hP hD hS hl => k2260 _ _ _ hI2 hi6 H locs ls hP hD hS hl)
                                      · have hf := iff_ c16 hf
                                        by_cases c17 : xs i &&& 63 = 17
                                        · have hf := ift c17 hf
                                          refine lv_tableIn (off := 995) (tgt := 1035) hx hb dL_law_40 (by rw [c17]; decide) (by rw [c17]; decide) (by rw [c17]; rfl) (by decide) ?_
                                          exact wst17 C0 hst hX hbl hbA aO oZ oM oU oF oS oR oA oK oC oB oD oT oX oY oV aZ_tape aU_prices aF_times aS_heard aS_unlike aR_waiting aA_before aA_seenHour aA_seenNumber aA_refused aK_before aK_seenHour aK_seenNumber aK_refused aC_values aC_stack aB_lean aB_deaf aB_kind aB_call aB_cost aB_joy aB_follows aB_code aB_ruleFrom aB_ruleTo aD_lean aD_deaf aD_kind aD_call aD_cost aD_joy aD_follows aD_code aD_ruleFrom aD_ruleTo aT_lean aT_call aX_lean aX_call aY_lean aY_call aV_lean aV_call aM sc ar O (nI i) hf (by omega) (by omega) (show C1 + 6 * (i + 6) ≤ 601024 by omega) (show S1 + 36 * (i + 6) ≤ 7293034 by omega) hP hD hS hl (fun H locs ls hP hD hS hl => k2260 _ _ _ hI2 hi6 H locs ls hP hD hS hl)
                                        · have hf := iff_ c17 hf
                                          by_cases c18 : xs i &&& 63 = 18
                                          · have hf := ift c18 hf
                                            refine lv_tableIn (off := 1063) (tgt := 1103) hx hb dL_law_40 (by rw [c18]; decide) (by rw [c18]; decide) (by rw [c18]; rfl) (by decide) ?_
                                            exact wst18 C0 hst hX hbl hbA aO oZ oM oU oF oS oR oA oK oC oB oD oT oX oY oV aZ_tape aU_prices aF_times aS_heard aS_unlike aR_waiting aA_before aA_seenHour aA_seenNumber aA_refused aK_before aK_seenHour aK_seenNumber aK_refused aC_values aC_stack aB_lean aB_deaf aB_kind aB_call aB_cost aB_joy aB_follows aB_code aB_ruleFrom aB_ruleTo aD_lean aD_deaf aD_kind aD_call aD_cost aD_joy aD_follows aD_code aD_ruleFrom aD_ruleTo aT_lean aT_call aX_lean aX_call aY_lean aY_call aV_lean aV_call aM sc ar O (nI i) hf (by omega) (by omega) (show C1 + 6 * (i + 6) ≤ 601024 by omega) (show S1 + 36 * (i + 6) ≤ 7293034 by omega) hP hD hS hl (fun H locs ls hP hD hS hl => k2260 _ _ _ hI2 hi6 H locs ls hP hD hS hl)
                                          · have hf := iff_ c18 hf
                                            by_cases c19 : xs i &&& 63 = 19
                                            · have hf := ift c19 hf
                                              refine lv_tableIn (off := 1119) (tgt := 1159) hx hb dL_law_40 (by rw [c19]; decide) (by rw [c19]; decide) (by rw [c19]; rfl) (by decide) ?_
                                              exact wst19 C0 hst hX hbl hbA aO oZ oM oU oF oS oR oA oK oC oB oD oT oX oY oV aZ_tape aU_prices aF_times aS_heard aS_unlike aR_waiting aA_before aA_seenHour aA_seenNumber aA_refused aK_before aK_seenHour aK_seenNumber aK_refused aC_values aC_stack aB_lean aB_deaf aB_kind aB_call aB_cost aB_joy aB_follows aB_code aB_ruleFrom aB_ruleTo aD_lean aD_deaf aD_kind aD_call aD_cost aD_joy aD_follows aD_code aD_ruleFrom aD_ruleTo aT_lean aT_call aX_lean aX_call aY_lean aY_call aV_lean aV_call aM sc ar O (nI i) hf (by omega) (by omega) (show C1 + 6 * (i + 6) ≤ 601024 by omega) (show S1 + 36 * (i + 6) ≤ 7293034 by omega) hP hD hS hl (fun H locs ls hP hD hS hl => k2260 _ _ _ hI2 hi6 H locs ls hP hD hS hl)
                                            · have hf := iff_ c19 hf
                                              by_cases c20 : xs i &&& 63 = 20
                                              · have hf := ift c20 hf
                                                refine lv_tableIn (off := 1187) (tgt := 1227) hx hb dL_law_40 (by rw [c20]; decide) (by rw [c20]; decide) (by rw [c20]; rfl) (by decide) ?_
                                                exact wst20 C0 hst hX hbl hbA aO oZ oM oU oF oS oR oA oK oC oB oD oT oX oY oV aZ_tape aU_prices aF_times aS_heard aS_unlike aR_waiting aA_before aA_seenHour aA_seenNumber aA_refused aK_before aK_seenHour aK_seenNumber aK_refused aC_values aC_stack aB_lean aB_deaf aB_kind aB_call aB_cost aB_joy aB_follows aB_code aB_ruleFrom aB_ruleTo aD_lean aD_deaf aD_kind aD_call aD_cost aD_joy aD_follows aD_code aD_ruleFrom aD_ruleTo aT_lean aT_call aX_lean aX_call aY_lean aY_call aV_lean aV_call aM sc ar O (nI i) hf (by omega) (by omega) (show C1 + 6 * (i + 6) ≤ 601024 by omega) (show S1 + 36 * (i + 6) ≤ 7293034 by omega) hP hD hS hl (fun H locs ls hP hD hS hl => k2260 _ _ _ hI2 hi6 H locs ls hP hD hS hl)
                                              · have hf := iff_ c20 hf
                                                by_cases c21 : xs i &&& 63 = 21
                                                · have hf := ift c21 hf
                                                  refine lv_tableIn (off := 1255) (tgt := 1295) hx hb dL_law_40 (by rw [c21]; decide) (by rw [c21]; decide) (by rw [c21]; rfl) (by decide) ?_
                                                  exact wst21 C0 hst hX hbl hbA aO oZ oM oU oF oS oR oA oK oC oB oD oT oX oY oV aZ_tape aU_prices aF_times aS_heard aS_unlike aR_waiting aA_before aA_seenHour aA_seenNumber aA_refused aK_before aK_seenHour aK_seenNumber aK_refused aC_values aC_stack aB_lean aB_deaf aB_kind aB_call aB_cost aB_joy aB_follows aB_code aB_ruleFrom aB_ruleTo aD_lean aD_deaf aD_kind aD_call aD_cost aD_joy aD_follows aD_code aD_ruleFrom aD_ruleTo aT_lean aT_call aX_lean aX_call aY_lean aY_call aV_lean aV_call aM sc ar O (nI i) hf (by omega) (by omega) (show C1 + 6 * (i + 6) ≤ 601024 by omega) (show S1 + 36 * (i + 6) ≤ 7293034 by omega) hP hD hS hl (fun H locs ls hP hD hS hl => k2260 _ _ _ hI2 hi6 H locs ls hP hD hS hl)
                                                · have hf := iff_ c21 hf
                                                  by_cases c22 : xs i &&& 63 = 22
                                                  · have hf := ift c22 hf
                                                    refine lv_tableIn (off := 1323) (tgt := 1363) hx hb dL_law_40 (by rw [c22]; decide) (by rw [c22]; decide) (by rw [c22]; rfl) (by decide) ?_
                                                    exact wst22 C0 hst hX hbl hbA aO oZ oM oU oF oS oR oA oK oC oB oD oT oX oY oV aZ_tape aU_prices aF_times aS_heard aS_unlike aR_waiting aA_before aA_seenHour aA_seenNumber aA_refused aK_before aK_seenHour aK_seenNumber aK_refused aC_values aC_stack aB_lean aB_deaf aB_kind aB_call aB_cost aB_joy aB_follows aB_code aB_ruleFrom aB_ruleTo aD_lean aD_deaf aD_kind aD_call aD_cost aD_joy aD_follows aD_code aD_ruleFrom aD_ruleTo aT_lean aT_call aX_lean aX_call aY_lean aY_call aV_lean aV_call aM sc ar O (nI i) hf (by omega) (by omega) (show C1 + 6 * (i + 6) ≤ 601024 by omega) (show S1 + 36 * (i + 6) ≤ 7293034 by omega) hP hD hS hl (fun H locs ls hP hD hS hl => k2260 _ _ _ hI2 hi6 H locs ls hP hD hS hl)
                                                  · have hf := iff_ c22 hf
                                                    by_cases c23 : xs i &&& 63 = 23
                                                    · have hf := ift c23 hf
                                                      refine lv_tableIn (off := 1379) (tgt := 1419) hx hb dL_law_40 (by rw [c23]; decide) (by rw [c23]; decide) (by rw [c23]; rfl) (by decide) ?_
                                                      exact wst23 C0 hst hX hbl hbA aO oZ oM oU oF oS oR oA oK oC oB oD oT oX oY oV aZ_tape aU_prices aF_times aS_heard aS_unlike aR_waiting aA_before aA_seenHour aA_seenNumber aA_refused aK_before aK_seenHour aK_seenNumber aK_refused aC_values aC_stack aB_lean aB_deaf aB_kind aB_call aB_cost aB_joy aB_follows aB_code aB_ruleFrom aB_ruleTo aD_lean aD_deaf aD_kind aD_call aD_cost aD_joy aD_follows aD_code aD_ruleFrom aD_ruleTo aT_lean aT_call aX_lean aX_call aY_lean aY_call aV_lean aV_call aM sc ar O (nI i) hf (by omega) (by omega) (show C1 + 6 * (i + 6) ≤ 601024 by omega) (show S1 + 36 * (i + 6) ≤ 7293034 by omega) hP hD hS hl (fun H locs ls hP hD hS hl => k2260 _ _ _ hI2 hi6 H locs ls hP hD hS hl)
                                                    · have hf := iff_ c23 hf
                                                      by_cases c24 : xs i &&& 63 = 24
                                                      · have hf := ift c24 hf
                                                        refine lv_tableIn (off := 1447) (tgt := 1487) hx hb dL_law_40 (by rw [c24]; decide) (by rw [c24]; decide) (by rw [c24]; rfl) (by decide) ?_
                                                        exact wst24 C0 hst hX hbl hbA aO oZ oM oU oF oS oR oA oK oC oB oD oT oX oY oV aZ_tape aU_prices aF_times aS_heard aS_unlike aR_waiting aA_before aA_seenHour aA_seenNumber aA_refused aK_before aK_seenHour aK_seenNumber aK_refused aC_values aC_stack aB_lean aB_deaf aB_kind aB_call aB_cost aB_joy aB_follows aB_code aB_ruleFrom aB_ruleTo aD_lean aD_deaf aD_kind aD_call aD_cost aD_joy aD_follows aD_code aD_ruleFrom aD_ruleTo aT_lean aT_call aX_lean aX_call aY_lean aY_call aV_lean aV_call aM sc ar O (nI i) hf (by omega) (by omega) (show C1 + 6 * (i + 6) ≤ 601024 by omega) (show S1 + 36 * (i + 6) ≤ 7293034 by omega) hP hD hS hl (fun H locs ls hP hD hS hl => k2260 _ _ _ hI2 hi6 H locs ls hP hD hS hl)
                                                      · have hf := iff_ c24 hf
                                                        by_cases c25 : xs i &&& 63 = 25
                                                        · have hf := ift c25 hf
                                                          refine lv_tableIn (off := 1503) (tgt := 1543) hx hb dL_law_40 (by rw [c25]; decide) (by rw [c25]; decide) (by rw [c25]; rfl) (by decide) ?_
                                                          exact wst25 C0 hst hX hbl hbA aO oZ oM oU oF oS oR oA oK oC oB oD oT oX oY oV aZ_tape aU_prices aF_times aS_heard aS_unlike aR_waiting aA_before aA_seenHour aA_seenNumber aA_refused aK_before aK_seenHour aK_seenNumber aK_refused aC_values aC_stack aB_lean aB_deaf aB_kind aB_call aB_cost aB_joy aB_follows aB_code aB_ruleFrom aB_ruleTo aD_lean aD_deaf aD_kind aD_call aD_cost aD_joy aD_follows aD_code aD_ruleFrom aD_ruleTo aT_lean aT_call aX_lean aX_call aY_lean aY_call aV_lean aV_call aM sc ar O (nI i) hf (by omega) (by omega) (show C1 + 6 * (i + 6) ≤ 601024 by omega) (show S1 + 36 * (i + 6) ≤ 7293034 by omega) hP hD hS hl (fun H locs ls hP hD hS hl => k2260 _ _ _ hI2 hi6 H locs ls hP hD hS hl)
                                                        · have hf := iff_ c25 hf
                                                          by_cases c26 : xs i &&& 63 = 26
                                                          · have hf := ift c26 hf
                                                            refine lv_tableIn (off := 1571) (tgt := 1611) hx hb dL_law_40 (by rw [c26]; decide) (by rw [c26]; decide) (by rw [c26]; rfl) (by decide) ?_
                                                            exact wst26 C0 hst hX hbl hbA aO oZ oM oU oF oS oR oA oK oC oB oD oT oX oY oV aZ_tape aU_prices aF_times aS_heard aS_unlike aR_waiting aA_before aA_seenHour aA_seenNumber aA_refused aK_before aK_seenHour aK_seenNumber aK_refused aC_values aC_stack aB_lean aB_deaf aB_kind aB_call aB_cost aB_joy aB_follows aB_code aB_ruleFrom aB_ruleTo aD_lean aD_deaf aD_kind aD_call aD_cost aD_joy aD_follows aD_code aD_ruleFrom aD_ruleTo aT_lean aT_call aX_lean aX_call aY_lean aY_call aV_lean aV_call aM sc ar O (nI i) hf (by omega) (by omega) (show C1 + 6 * (i + 6) ≤ 601024 by omega) (show S1 + 36 * (i + 6) ≤ 7293034 by omega) hP hD hS hl (fun H locs ls hP hD hS hl => k2260 _ _ _ hI2 hi6 H locs ls hP hD hS hl)
                                                          · have hf := iff_ c26 hf
                                                            by_cases c27 : xs i &&& 63 = 27
                                                            · have hf := ift c27 hf
                                                              refine lv_tableIn (off := 1627) (tgt := 1667) hx hb dL_law_40 (by rw [c27]; decide) (by rw [c27]; decide) (by rw [c27]; rfl) (by decide) ?_
                                                              exact wst27 C0 hst hX hbl hbA aO oZ oM oU oF oS oR oA oK oC oB oD oT oX oY oV aZ_tape aU_prices aF_times aS_heard aS_unlike aR_waiting aA_before aA_seenHour aA_seenNumber aA_refused aK_before aK_seenHour aK_seenNumber aK_refused aC_values aC_stack aB_lean aB_deaf aB_kind aB_call aB_cost aB_joy aB_follows aB_code aB_ruleFrom aB_ruleTo aD_lean aD_deaf aD_kind aD_call aD_cost aD_joy aD_follows aD_code aD_ruleFrom aD_ruleTo aT_lean aT_call aX_lean aX_call aY_lean aY_call aV_lean aV_call aM sc ar O (nI i) hf (by omega) (by omega) (show C1 + 6 * (i + 6) ≤ 601024 by omega) (show S1 + 36 * (i + 6) ≤ 7293034 by omega) hP hD hS hl (fun H locs ls hP hD hS hl => k2260 _ _ _ hI2 hi6 H locs ls hP hD hS hl)
                                                            · have hf := iff_ c27 hf
                                                              by_cases c28 : xs i &&& 63 = 28
                                                              · have hf := ift c28 hf
                                                                refine lv_tableIn (off := 1683) (tgt := 1723) hx hb dL_law_40 (by rw [c28]; decide) (by rw [c28]; decide) (by rw [c28]; rfl) (by decide) ?_
                                                                exact wst28 C0 hst hX hbl hbA aO oZ oM oU oF oS oR oA oK oC oB oD oT oX oY oV aZ_tape aU_prices aF_times aS_heard aS_unlike aR_waiting aA_before aA_seenHour aA_seenNumber aA_refused aK_before aK_seenHour aK_seenNumber aK_refused aC_values aC_stack aB_lean aB_deaf aB_kind aB_call aB_cost aB_joy aB_follows aB_code aB_ruleFrom aB_ruleTo aD_lean aD_deaf aD_kind aD_call aD_cost aD_joy aD_follows aD_code aD_ruleFrom aD_ruleTo aT_lean aT_call aX_lean aX_call aY_lean aY_call aV_lean aV_call aM sc ar O (nI i) hf (by omega) (by omega) (show C1 + 6 * (i + 6) ≤ 601024 by omega) (show S1 + 36 * (i + 6) ≤ 7293034 by omega) hP hD hS hl (fun H locs ls hP hD hS hl => k2260 _ _ _ hI2 hi6 H locs ls hP hD hS hl)
                                                              · have hf := iff_ c28 hf
                                                                by_cases c29 : xs i &&& 63 = 29
                                                                · have hf := ift c29 hf
                                                                  refine lv_tableIn (off := 1751) (tgt := 1791) hx hb dL_law_40 (by rw [c29]; decide) (by rw [c29]; decide) (by rw [c29]; rfl) (by decide) ?_
                                                                  exact wst29 C0 hst hX hbl hbA aO oZ oM oU oF oS oR oA oK oC oB oD oT oX oY oV aZ_tape aU_prices aF_times aS_heard aS_unlike aR_waiting aA_before aA_seenHour aA_seenNumber aA_refused aK_before aK_seenHour aK_seenNumber aK_refused aC_values aC_stack aB_lean aB_deaf aB_kind aB_call aB_cost aB_joy aB_follows aB_code aB_ruleFrom aB_ruleTo aD_lean aD_deaf aD_kind aD_call aD_cost aD_joy aD_follows aD_code aD_ruleFrom aD_ruleTo aT_lean aT_call aX_lean aX_call aY_lean aY_call aV_lean aV_call aM sc ar O (nI i) hf (by omega) (by omega) (show C1 + 6 * (i + 6) ≤ 601024 by omega) (show S1 + 36 * (i + 6) ≤ 7293034 by omega) hP hD hS hl (fun H locs ls hP hD hS hl => k2260 _ _ _ hI2 hi6 H locs ls hP hD hS hl)
                                                                · have hf := iff_ c29 hf
                                                                  by_cases c30 : xs i &&& 63 = 30
                                                                  · have hf := ift c30 hf
                                                                    refine lv_tableIn (off := 1807) (tgt := 1847) hx hb dL_law_40 (by rw [c30]; decide) (by rw [c30]; decide) (by rw [c30]; rfl) (by decide) ?_
                                                                    exact wst30 C0 hst hX hbl hbA aO oZ oM oU oF oS oR oA oK oC oB oD oT oX oY oV aZ_tape aU_prices aF_times aS_heard aS_unlike aR_waiting aA_before aA_seenHour aA_seenNumber aA_refused aK_before aK_seenHour aK_seenNumber aK_refused aC_values aC_stack aB_lean aB_deaf aB_kind aB_call aB_cost aB_joy aB_follows aB_code aB_ruleFrom aB_ruleTo aD_lean aD_deaf aD_kind aD_call aD_cost aD_joy aD_follows aD_code aD_ruleFrom aD_ruleTo aT_lean aT_call aX_lean aX_call aY_lean aY_call aV_lean aV_call aM sc ar O (nI i) hf (by omega) (by omega) (show C1 + 6 * (i + 6) ≤ 601024 by omega) (show S1 + 36 * (i + 6) ≤ 7293034 by omega) hP hD hS hl (fun H locs ls hP hD hS hl => k2260 _ _ _ hI2 hi6 H locs ls hP hD hS hl)
                                                                  · have hf := iff_ c30 hf
                                                                    by_cases c31 : xs i &&& 63 = 31
                                                                    · have hf := ift c31 hf
                                                                      refine lv_tableIn (off := 1863) (tgt := 1903) hx hb dL_law_40 (by rw [c31]; decide) (by rw [c31]; decide) (by rw [c31]; rfl) (by decide) ?_
                                                                      exact wst31 C0 hst hX hbl hbA aO oZ oM oU oF oS oR oA oK oC oB oD oT oX oY oV aZ_tape aU_prices aF_times aS_heard aS_unlike aR_waiting aA_before aA_seenHour aA_seenNumber aA_refused aK_before aK_seenHour aK_seenNumber aK_refused aC_values aC_stack aB_lean aB_deaf aB_kind aB_call aB_cost aB_joy aB_follows aB_code aB_ruleFrom aB_ruleTo aD_lean aD_deaf aD_kind aD_call aD_cost aD_joy aD_follows aD_code aD_ruleFrom aD_ruleTo aT_lean aT_call aX_lean aX_call aY_lean aY_call aV_lean aV_call aM sc ar O (nI i) hf (by omega) (by omega) (show C1 + 6 * (i + 6) ≤ 601024 by omega) (show S1 + 36 * (i + 6) ≤ 7293034 by omega) hP hD hS hl (fun H locs ls hP hD hS hl => k2260 _ _ _ hI2 hi6 H locs ls hP hD hS hl)
                                                                    · have hf := iff_ c31 hf
                                                                      by_cases c32 : xs i &&& 63 = 32
                                                                      · have hf := ift c32 hf
                                                                        refine lv_tableIn (off := 1876) (tgt := 1916) hx hb dL_law_40 (by rw [c32]; decide) (by rw [c32]; decide) (by rw [c32]; rfl) (by decide) ?_
                                                                        exact wst32 C0 hst hX hbl hbA aO oZ oM oU oF oS oR oA oK oC oB oD oT oX oY oV aZ_tape aU_prices aF_times aS_heard aS_unlike aR_waiting aA_before aA_seenHour aA_seenNumber aA_refused aK_before aK_seenHour aK_seenNumber aK_refused aC_values aC_stack aB_lean aB_deaf aB_kind aB_call aB_cost aB_joy aB_follows aB_code aB_ruleFrom aB_ruleTo aD_lean aD_deaf aD_kind aD_call aD_cost aD_joy aD_follows aD_code aD_ruleFrom aD_ruleTo aT_lean aT_call aX_lean aX_call aY_lean aY_call aV_lean aV_call aM sc ar O (nI i) hf (by omega) (by omega) (show C1 + 6 * (i + 6) ≤ 601024 by omega) (show S1 + 36 * (i + 6) ≤ 7293034 by omega) hP hD hS hl (fun H locs ls hP hD hS hl => k2260 _ _ _ hI2 hi6 H locs ls hP hD hS hl)
                                                                      · have hf := iff_ c32 hf
                                                                        by_cases c33 : xs i &&& 63 = 33
                                                                        · have hf := ift c33 hf
                                                                          refine lv_tableIn (off := 1913) (tgt := 1953) hx hb dL_law_40 (by rw [c33]; decide) (by rw [c33]; decide) (by rw [c33]; rfl) (by decide) ?_
                                                                          exact wst33 C0 hst hX hbl hbA aO oZ oM oU oF oS oR oA oK oC oB oD oT oX oY oV aZ_tape aU_prices aF_times aS_heard aS_unlike aR_waiting aA_before aA_seenHour aA_seenNumber aA_refused aK_before aK_seenHour aK_seenNumber aK_refused aC_values aC_stack aB_lean aB_deaf aB_kind aB_call aB_cost aB_joy aB_follows aB_code aB_ruleFrom aB_ruleTo aD_lean aD_deaf aD_kind aD_call aD_cost aD_joy aD_follows aD_code aD_ruleFrom aD_ruleTo aT_lean aT_call aX_lean aX_call aY_lean aY_call aV_lean aV_call aM sc ar O (nI i) hf (by omega) (by omega) (show C1 + 6 * (i + 6) ≤ 601024 by omega) (show S1 + 36 * (i + 6) ≤ 7293034 by omega) hP hD hS hl (fun H locs ls hP hD hS hl => k2260 _ _ _ hI2 hi6 H locs ls hP hD hS hl)
                                                                        · have hf := iff_ c33 hf
                                                                          by_cases c34 : xs i &&& 63 = 34
                                                                          · have hf := ift c34 hf
                                                                            refine lv_tableIn (off := 1969) (tgt := 2009) hx hb dL_law_40 (by rw [c34]; decide) (by rw [c34]; decide) (by rw [c34]; rfl) (by decide) ?_
                                                                            exact wst34 C0 hst hX hbl hbA aO oZ oM oU oF oS oR oA oK oC oB oD oT oX oY oV aZ_tape aU_prices aF_times aS_heard aS_unlike aR_waiting aA_before aA_seenHour aA_seenNumber aA_refused aK_before aK_seenHour aK_seenNumber aK_refused aC_values aC_stack aB_lean aB_deaf aB_kind aB_call aB_cost aB_joy aB_follows aB_code aB_ruleFrom aB_ruleTo aD_lean aD_deaf aD_kind aD_call aD_cost aD_joy aD_follows aD_code aD_ruleFrom aD_ruleTo aT_lean aT_call aX_lean aX_call aY_lean aY_call aV_lean aV_call aM sc ar O (nI i) hf (by omega) (by omega) (show C1 + 6 * (i + 6) ≤ 601024 by omega) (show S1 + 36 * (i + 6) ≤ 7293034 by omega) hP hD hS hl (fun H locs ls hP hD hS hl => k2260 _ _ _ hI2 hi6 H locs ls hP hD hS hl)
                                                                          · have hf := iff_ c34 hf
                                                                            by_cases c35 : xs i &&& 63 = 35
                                                                            · have hf := ift c35 hf
                                                                              refine lv_tableIn (off := 2025) (tgt := 2065) hx hb dL_law_40 (by rw [c35]; decide) (by rw [c35]; decide) (by rw [c35]; rfl) (by decide) ?_
                                                                              exact wst35 C0 hst hX hbl hbA aO oZ oM oU oF oS oR oA oK oC oB oD oT oX oY oV aZ_tape aU_prices aF_times aS_heard aS_unlike aR_waiting aA_before aA_seenHour aA_seenNumber aA_refused aK_before aK_seenHour aK_seenNumber aK_refused aC_values aC_stack aB_lean aB_deaf aB_kind aB_call aB_cost aB_joy aB_follows aB_code aB_ruleFrom aB_ruleTo aD_lean aD_deaf aD_kind aD_call aD_cost aD_joy aD_follows aD_code aD_ruleFrom aD_ruleTo aT_lean aT_call aX_lean aX_call aY_lean aY_call aV_lean aV_call aM sc ar O (nI i) hf (by omega) (by omega) (show C1 + 6 * (i + 6) ≤ 601024 by omega) (show S1 + 36 * (i + 6) ≤ 7293034 by omega) hP hD hS hl (fun H locs ls hP hD hS hl => k2260 _ _ _ hI2 hi6 H locs ls hP hD hS hl)
                                                                            · have hf := iff_ c35 hf
                                                                              by_cases c36 : xs i &&& 63 = 36
                                                                              · have hf := ift c36 hf
                                                                                refine lv_tableIn (off := 2036) (tgt := 2076) hx hb dL_law_40 (by rw [c36]; decide) (by rw [c36]; decide) (by rw [c36]; rfl) (by decide) ?_
                                                                                exact wst36 C0 hst hX hbl hbA aO oZ oM oU oF oS oR oA oK oC oB oD oT oX oY oV aZ_tape aU_prices aF_times aS_heard aS_unlike aR_waiting aA_before aA_seenHour aA_seenNumber aA_refused aK_before aK_seenHour aK_seenNumber aK_refused aC_values aC_stack aB_lean aB_deaf aB_kind aB_call aB_cost aB_joy aB_follows aB_code aB_ruleFrom aB_ruleTo aD_lean aD_deaf aD_kind aD_call aD_cost aD_joy aD_follows aD_code aD_ruleFrom aD_ruleTo aT_lean aT_call aX_lean aX_call aY_lean aY_call aV_lean aV_call aM sc ar O (nI i) hf (by omega) (by omega) (show C1 + 6 * (i + 6) ≤ 601024 by omega) (show S1 + 36 * (i + 6) ≤ 7293034 by omega) hP hD hS hl (fun H locs ls hP hD hS hl => k2260 _ _ _ hI2 hi6 H locs ls hP hD hS hl)
                                                                              · have hf := iff_ c36 hf
                                                                                by_cases c37 : xs i &&& 63 = 37
                                                                                · have hf := ift c37 hf
                                                                                  refine lv_tableIn (off := 2116) (tgt := 2156) hx hb dL_law_40 (by rw [c37]; decide) (by rw [c37]; decide) (by rw [c37]; rfl) (by decide) ?_
                                                                                  exact wst37 C0 hst hX hbl hbA aO oZ oM oU oF oS oR oA oK oC oB oD oT oX oY oV aZ_tape aU_prices aF_times aS_heard aS_unlike aR_waiting aA_before aA_seenHour aA_seenNumber aA_refused aK_before aK_seenHour aK_seenNumber aK_refused aC_values aC_stack aB_lean aB_deaf aB_kind aB_call aB_cost aB_joy aB_follows aB_code aB_ruleFrom aB_ruleTo aD_lean aD_deaf aD_kind aD_call aD_cost aD_joy aD_follows aD_code aD_ruleFrom aD_ruleTo aT_lean aT_call aX_lean aX_call aY_lean aY_call aV_lean aV_call aM sc ar O (nI i) hf (by omega) (by omega) (show C1 + 6 * (i + 6) ≤ 601024 by omega) (show S1 + 36 * (i + 6) ≤ 7293034 by omega) hP hD hS hl (fun H locs ls hP hD hS hl => k2260 _ _ _ hI2 hi6 H locs ls hP hD hS hl)
                                                                                · have hf := iff_ c37 hf
                                                                                  by_cases c38 : xs i &&& 63 = 38
                                                                                  · have hf := ift c38 hf
                                                                                    refine lv_tableIn (off := 2196) (tgt := 2236) hx hb dL_law_40 (by rw [c38]; decide) (by rw [c38]; decide) (by rw [c38]; rfl) (by decide) ?_
                                                                                    exact wst38 C0 hst hX hbl hbA aO oZ oM oU oF oS oR oA oK oC oB oD oT oX oY oV aZ_tape aU_prices aF_times aS_heard aS_unlike aR_waiting aA_before aA_seenHour aA_seenNumber aA_refused aK_before aK_seenHour aK_seenNumber aK_refused aC_values aC_stack aB_lean aB_deaf aB_kind aB_call aB_cost aB_joy aB_follows aB_code aB_ruleFrom aB_ruleTo aD_lean aD_deaf aD_kind aD_call aD_cost aD_joy aD_follows aD_code aD_ruleFrom aD_ruleTo aT_lean aT_call aX_lean aX_call aY_lean aY_call aV_lean aV_call aM sc ar O (nI i) hf (by omega) (by omega) (show C1 + 6 * (i + 6) ≤ 601024 by omega) (show S1 + 36 * (i + 6) ≤ 7293034 by omega) hP hD hS hl (fun H locs ls hP hD hS hl => k2260 _ _ _ hI2 hi6 H locs ls hP hD hS hl)
                                                                                  · have hf := iff_ c38 hf
                                                                                    by_cases c39 : xs i &&& 63 = 39
                                                                                    · have hf := ift c39 hf
                                                                                      refine lv_tableIn (off := 2207) (tgt := 2247) hx hb dL_law_40 (by rw [c39]; decide) (by rw [c39]; decide) (by rw [c39]; rfl) (by decide) ?_
                                                                                      exact wst39 C0 hst hX hbl hbA aO oZ oM oU oF oS oR oA oK oC oB oD oT oX oY oV aZ_tape aU_prices aF_times aS_heard aS_unlike aR_waiting aA_before aA_seenHour aA_seenNumber aA_refused aK_before aK_seenHour aK_seenNumber aK_refused aC_values aC_stack aB_lean aB_deaf aB_kind aB_call aB_cost aB_joy aB_follows aB_code aB_ruleFrom aB_ruleTo aD_lean aD_deaf aD_kind aD_call aD_cost aD_joy aD_follows aD_code aD_ruleFrom aD_ruleTo aT_lean aT_call aX_lean aX_call aY_lean aY_call aV_lean aV_call aM sc ar O (nI i) hf (by omega) (by omega) (show C1 + 6 * (i + 6) ≤ 601024 by omega) (show S1 + 36 * (i + 6) ≤ 7293034 by omega) hP hD hS hl (fun H locs ls hP hD hS hl => k2260 _ _ _ hI2 hi6 H locs ls hP hD hS hl)
                                                                                    · have hf := iff_ c39 hf
                                                                                      refine lv_tableOut (tgt := 2260) hx hb dL_law_40 (tb_out (fun k h1 h2 => ?_)) (by decide) ?_
                                                                                      · have hz : k = 0 ∨ k = 1 ∨ k = 2 ∨ k = 3 ∨ k = 4 ∨ k = 5 ∨ k = 6 ∨ k = 7 ∨ k = 8 ∨ k = 9 ∨ k = 10 ∨ k = 11 ∨ k = 12 ∨ k = 13 ∨ k = 14 ∨ k = 15 ∨ k = 16 ∨ k = 17 ∨ k = 18 ∨ k = 19 ∨ k = 20 ∨ k = 21 ∨ k = 22 ∨ k = 23 ∨ k = 24 ∨ k = 25 ∨ k = 26 ∨ k = 27 ∨ k = 28 ∨ k = 29 ∨ k = 30 ∨ k = 31 ∨ k = 32 ∨ k = 33 ∨ k = 34 ∨ k = 35 ∨ k = 36 ∨ k = 37 ∨ k = 38 ∨ k = 39 := by omega
                                                                                        rcases hz with rfl | rfl | rfl | rfl | rfl | rfl | rfl | rfl | rfl | rfl | rfl | rfl | rfl | rfl | rfl | rfl | rfl | rfl | rfl | rfl | rfl | rfl | rfl | rfl | rfl | rfl | rfl | rfl | rfl | rfl | rfl | rfl | rfl | rfl | rfl | rfl | rfl | rfl | rfl | rfl
                                                                                        · exact tb_ne c0 (by decide)
                                                                                        · exact tb_ne c1 (by decide)
                                                                                        · exact tb_ne c2 (by decide)
                                                                                        · exact tb_ne c3 (by decide)
                                                                                        · exact tb_ne c4 (by decide)
                                                                                        · exact tb_ne c5 (by decide)
                                                                                        · exact tb_ne c6 (by decide)
                                                                                        · exact tb_ne c7 (by decide)
                                                                                        · exact tb_ne c8 (by decide)
                                                                                        · exact tb_ne c9 (by decide)
                                                                                        · exact tb_ne c10 (by decide)
                                                                                        · exact tb_ne c11 (by decide)
                                                                                        · exact tb_ne c12 (by decide)
                                                                                        · exact tb_ne c13 (by decide)
                                                                                        · exact tb_ne c14 (by decide)
                                                                                        · exact tb_ne c15 (by decide)
                                                                                        · exact tb_ne c16 (by decide)
                                                                                        · exact tb_ne c17 (by decide)
                                                                                        · exact tb_ne c18 (by decide)
                                                                                        · exact tb_ne c19 (by decide)
                                                                                        · exact tb_ne c20 (by decide)
                                                                                        · exact tb_ne c21 (by decide)
                                                                                        · exact tb_ne c22 (by decide)
                                                                                        · exact tb_ne c23 (by decide)
                                                                                        · exact tb_ne c24 (by decide)
                                                                                        · exact tb_ne c25 (by decide)
                                                                                        · exact tb_ne c26 (by decide)
                                                                                        · exact tb_ne c27 (by decide)
                                                                                        · exact tb_ne c28 (by decide)
                                                                                        · exact tb_ne c29 (by decide)
                                                                                        · exact tb_ne c30 (by decide)
                                                                                        · exact tb_ne c31 (by decide)
                                                                                        · exact tb_ne c32 (by decide)
                                                                                        · exact tb_ne c33 (by decide)
                                                                                        · exact tb_ne c34 (by decide)
                                                                                        · exact tb_ne c35 (by decide)
                                                                                        · exact tb_ne c36 (by decide)
                                                                                        · exact tb_ne c37 (by decide)
                                                                                        · exact tb_ne c38 (by decide)
                                                                                        · exact tb_ne c39 (by decide)
                                                                                      · obtain rfl := Option.some.inj hf
                                                                                        refine W.widen (k := C1 + 6 * (i + 6)) (n := S1 + 36 * (i + 6)) (by omega) (by omega) ?_
                                                                                        exact k2260 _ _ _ hI2 hi6 _ _ _ hP hD hS hl
