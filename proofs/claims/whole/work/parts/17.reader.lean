abbrev rmX5_latestPlace : Room := { frames := 0, cells := 0, slots := 0, locals := 0 }
def fX5_latestPlace  (R_start : Int32)  : Option (Int32) :=
  some R_start
set_option maxHeartbeats 4000000 in
set_option maxRecDepth 100000 in
theorem bX5_latestPlace {p : Program} {l : Launch} {e : Env} {s : State} {m : MethodId} {args : Array Value} {below : List Frame} {meth : Method} {c : Code} {A : Nat → Prop} {dC : Nat → ClassId} {dI : Nat → Nat → Nat} {cc : Nat → ClassId} (C0 : CT p s m args meth c A dC dI cc cX5_latestPlace 1 (some .int) RX5) (oR aR_tape oD aR_waiting : Nat) (R_end : Int32) (R_place : Int32) (R_token : Int32) (R_start : Int32) (R_digits : Int32) (R_number : Int32) (R_fault : Int32) (R_clockIsTold : Int32) (R_waits : Int32) (R_depth : Int32) (R_nots : Int32) (R_partIsDue : Int32) (R_notMayStand : Int32)  {out : Int32} (hf : fX5_latestPlace R_start = some out) {H : Heap} {locs : List Loc} (hP : va_P (dC, dI) cLs [(oR, .inr (5, mkX5 aR_tape oD R_end R_place R_token R_start R_digits R_number R_fault R_clockIsTold aR_waiting R_waits R_depth R_nots R_partIsDue R_notMayStand))] H) (hD : va_D A [(oR, .inr (5, mkX5 aR_tape oD R_end R_place R_token R_start R_digits R_number R_fault R_clockIsTold aR_waiting R_waits R_depth R_nots R_partIsDue R_notMayStand))]) (hS : va_S A s.heap H locs) {ls : Array Slot} (hl : lv_has ls 1 [(0, .ref oR)]) : W p l e rmX5_latestPlace s m args below meth c H locs 0 0 (MQ below (QI dC dI cc out [(oR, .inr (5, mkX5 aR_tape oD R_end R_place R_token R_start R_digits R_number R_fault R_clockIsTold aR_waiting R_waits R_depth R_nots R_partIsDue R_notMayStand))] A) args s 0 0 A) (F0 m 0 ls []) := by
  obtain ⟨hx, hb, hml, hr, hlocks, hown, hG, hK, hA⟩ := id C0
  unfold fX5_latestPlace at hf
  refine lv_aload_n hx hb dX5_latestPlace_0 rfl (lv_at hl 0 rfl) ?_
  refine va_get (D := (dC, dI)) (ci := 5) (v := .int R_start) (C := RX5) (T := TX5) (N := 16) hx hb hG kinX5 hown hK hP 0 rfl rfl 5 (by decide) (hG _ kfX5_57) (fun _ h9 => h9) rfl dX5_latestPlace_1 ?_
  obtain rfl := Option.some.inj hf
  exact retI C0 hP hD hS rfl dX5_latestPlace_4
theorem mX5_latestPlace (l : Launch) (dC : Nat → ClassId) (dI : Nat → Nat → Nat) (cc : Nat → ClassId) (oR aR_tape oD aR_waiting : Nat) (sz : Nat) (R_end : Int32) (R_place : Int32) (R_token : Int32) (R_start : Int32) (R_digits : Int32) (R_number : Int32) (R_fault : Int32) (R_clockIsTold : Int32) (R_waits : Int32) (R_depth : Int32) (R_nots : Int32) (R_partIsDue : Int32) (R_notMayStand : Int32)  {out : Int32} (hf : fX5_latestPlace R_start = some out) : Met l yX5_latestPlace (Cond.code yX5_latestPlace cX5_latestPlace 1 (some .int) :: GW) rmX5_latestPlace (PI dC dI cc [.ref oR] [(oR, .inr (5, mkX5 aR_tape oD R_end R_place R_token R_start R_digits R_number R_fault R_clockIsTold aR_waiting R_waits R_depth R_nots R_partIsDue R_notMayStand))] sz) (QI dC dI cc out [(oR, .inr (5, mkX5 aR_tape oD R_end R_place R_token R_start R_digits R_number R_fault R_clockIsTold aR_waiting R_waits R_depth R_nots R_partIsDue R_notMayStand))] (va_A [(oR, .inr (5, mkX5 aR_tape oD R_end R_place R_token R_start R_digits R_number R_fault R_clockIsTold aR_waiting R_waits R_depth R_nots R_partIsDue R_notMayStand))] sz)) 0 0 (va_A [(oR, .inr (5, mkX5 aR_tape oD R_end R_place R_token R_start R_digits R_number R_fault R_clockIsTold aR_waiting R_waits R_depth R_nots R_partIsDue R_notMayStand))] sz) :=
  met_of (Q := fun A => QI dC dI cc out [(oR, .inr (5, mkX5 aR_tape oD R_end R_place R_token R_start R_digits R_number R_fault R_clockIsTold aR_waiting R_waits R_depth R_nots R_partIsDue R_notMayStand))] A) (by decide) rfl (Nat.le_of_ble_eq_true rfl) (fun p e s m below meth c A C0 hP hD hS ls hl => bX5_latestPlace C0 oR aR_tape oD aR_waiting R_end R_place R_token R_start R_digits R_number R_fault R_clockIsTold R_waits R_depth R_nots R_partIsDue R_notMayStand hf hP hD hS hl)
abbrev rmX5_ruleEnds : Room := { frames := 0, cells := 0, slots := 0, locals := 0 }
def fX5_ruleEnds  (R_token : Int32) (R_depth : Int32) (R_partIsDue : Int32)  : Option (Int32) :=
  if R_token = 3 then
    if R_partIsDue = 0 then
      if R_depth = 0 then
        some 1
      else
        some 0
    else
      some 0
  else
    some 0
set_option maxHeartbeats 4000000 in
set_option maxRecDepth 100000 in
theorem bX5_ruleEnds {p : Program} {l : Launch} {e : Env} {s : State} {m : MethodId} {args : Array Value} {below : List Frame} {meth : Method} {c : Code} {A : Nat → Prop} {dC : Nat → ClassId} {dI : Nat → Nat → Nat} {cc : Nat → ClassId} (C0 : CT p s m args meth c A dC dI cc cX5_ruleEnds 1 (some .boolean) RX5) (oR aR_tape oD aR_waiting : Nat) (R_end : Int32) (R_place : Int32) (R_token : Int32) (R_start : Int32) (R_digits : Int32) (R_number : Int32) (R_fault : Int32) (R_clockIsTold : Int32) (R_waits : Int32) (R_depth : Int32) (R_nots : Int32) (R_partIsDue : Int32) (R_notMayStand : Int32)  {out : Int32} (hf : fX5_ruleEnds R_token R_depth R_partIsDue = some out) {H : Heap} {locs : List Loc} (hP : va_P (dC, dI) cLs [(oR, .inr (5, mkX5 aR_tape oD R_end R_place R_token R_start R_digits R_number R_fault R_clockIsTold aR_waiting R_waits R_depth R_nots R_partIsDue R_notMayStand))] H) (hD : va_D A [(oR, .inr (5, mkX5 aR_tape oD R_end R_place R_token R_start R_digits R_number R_fault R_clockIsTold aR_waiting R_waits R_depth R_nots R_partIsDue R_notMayStand))]) (hS : va_S A s.heap H locs) {ls : Array Slot} (hl : lv_has ls 1 [(0, .ref oR)]) : W p l e rmX5_ruleEnds s m args below meth c H locs 0 0 (MQ below (QI dC dI cc out [(oR, .inr (5, mkX5 aR_tape oD R_end R_place R_token R_start R_digits R_number R_fault R_clockIsTold aR_waiting R_waits R_depth R_nots R_partIsDue R_notMayStand))] A) args s 0 0 A) (F0 m 0 ls []) := by
  obtain ⟨hx, hb, hml, hr, hlocks, hown, hG, hK, hA⟩ := id C0
  unfold fX5_ruleEnds at hf
  refine lv_aload_n hx hb dX5_ruleEnds_0 rfl (lv_at hl 0 rfl) ?_
  refine va_get (D := (dC, dI)) (ci := 5) (v := .int R_token) (C := RX5) (T := TX5) (N := 16) hx hb hG kinX5 hown hK hP 0 rfl rfl 4 (by decide) (hG _ kfX5_51) (fun _ h9 => h9) rfl dX5_ruleEnds_1 ?_
  refine lv_iconst (v := 3) hx hb dX5_ruleEnds_4 (by decide) ?_
  refine lv_icmp_ne (tgt := 26) hx hb dX5_ruleEnds_5 (by decide) (fun c1 => ?_) (fun c1 => ?_)
  · have hf := iff_ c1 hf
    refine lv_iconst (v := 0) hx hb dX5_ruleEnds_26 (by decide) ?_
    obtain rfl := Option.some.inj hf
    exact retZ C0 hP hD hS rfl rfl dX5_ruleEnds_27
  · have hf := ift c1 hf
    refine lv_aload_n hx hb dX5_ruleEnds_8 rfl (lv_at hl 0 rfl) ?_
    refine va_get (D := (dC, dI)) (ci := 5) (v := .int R_partIsDue) (C := RX5) (T := TX5) (N := 16) hx hb hG kinX5 hown hK hP 0 rfl rfl 14 (by decide) (hG _ kfX5_131) (fun _ h9 => h9) rfl dX5_ruleEnds_9 ?_
    refine lv_if_ne (tgt := 26) hx hb dX5_ruleEnds_12 (by decide) (fun c2 => ?_) (fun c2 => ?_)
    · have hf := iff_ c2 hf
      refine lv_iconst (v := 0) hx hb dX5_ruleEnds_26 (by decide) ?_
      obtain rfl := Option.some.inj hf
      exact retZ C0 hP hD hS rfl rfl dX5_ruleEnds_27
    · have hf := ift c2 hf
      refine lv_aload_n hx hb dX5_ruleEnds_15 rfl (lv_at hl 0 rfl) ?_
      refine va_get (D := (dC, dI)) (ci := 5) (v := .int R_depth) (C := RX5) (T := TX5) (N := 16) hx hb hG kinX5 hown hK hP 0 rfl rfl 12 (by decide) (hG _ kfX5_125) (fun _ h9 => h9) rfl dX5_ruleEnds_16 ?_
      refine lv_if_ne (tgt := 26) hx hb dX5_ruleEnds_19 (by decide) (fun c3 => ?_) (fun c3 => ?_)
      · have hf := iff_ c3 hf
        refine lv_iconst (v := 0) hx hb dX5_ruleEnds_26 (by decide) ?_
        obtain rfl := Option.some.inj hf
        exact retZ C0 hP hD hS rfl rfl dX5_ruleEnds_27
      · have hf := ift c3 hf
        refine lv_iconst (v := 1) hx hb dX5_ruleEnds_22 (by decide) ?_
        refine lv_goto (tgt := 27) hx hb dX5_ruleEnds_23 (by decide) ?_
        obtain rfl := Option.some.inj hf
        exact retZ C0 hP hD hS rfl rfl dX5_ruleEnds_27
theorem mX5_ruleEnds (l : Launch) (dC : Nat → ClassId) (dI : Nat → Nat → Nat) (cc : Nat → ClassId) (oR aR_tape oD aR_waiting : Nat) (sz : Nat) (R_end : Int32) (R_place : Int32) (R_token : Int32) (R_start : Int32) (R_digits : Int32) (R_number : Int32) (R_fault : Int32) (R_clockIsTold : Int32) (R_waits : Int32) (R_depth : Int32) (R_nots : Int32) (R_partIsDue : Int32) (R_notMayStand : Int32)  {out : Int32} (hf : fX5_ruleEnds R_token R_depth R_partIsDue = some out) : Met l yX5_ruleEnds (Cond.code yX5_ruleEnds cX5_ruleEnds 1 (some .boolean) :: GW) rmX5_ruleEnds (PI dC dI cc [.ref oR] [(oR, .inr (5, mkX5 aR_tape oD R_end R_place R_token R_start R_digits R_number R_fault R_clockIsTold aR_waiting R_waits R_depth R_nots R_partIsDue R_notMayStand))] sz) (QI dC dI cc out [(oR, .inr (5, mkX5 aR_tape oD R_end R_place R_token R_start R_digits R_number R_fault R_clockIsTold aR_waiting R_waits R_depth R_nots R_partIsDue R_notMayStand))] (va_A [(oR, .inr (5, mkX5 aR_tape oD R_end R_place R_token R_start R_digits R_number R_fault R_clockIsTold aR_waiting R_waits R_depth R_nots R_partIsDue R_notMayStand))] sz)) 0 0 (va_A [(oR, .inr (5, mkX5 aR_tape oD R_end R_place R_token R_start R_digits R_number R_fault R_clockIsTold aR_waiting R_waits R_depth R_nots R_partIsDue R_notMayStand))] sz) :=
  met_of (Q := fun A => QI dC dI cc out [(oR, .inr (5, mkX5 aR_tape oD R_end R_place R_token R_start R_digits R_number R_fault R_clockIsTold aR_waiting R_waits R_depth R_nots R_partIsDue R_notMayStand))] A) (by decide) rfl (Nat.le_of_ble_eq_true rfl) (fun p e s m below meth c A C0 hP hD hS ls hl => bX5_ruleEnds C0 oR aR_tape oD aR_waiting R_end R_place R_token R_start R_digits R_number R_fault R_clockIsTold R_waits R_depth R_nots R_partIsDue R_notMayStand hf hP hD hS hl)
abbrev rmX5_putCode : Room := { frames := 0, cells := 0, slots := 0, locals := 0 }
def fX5_putCode  (D_codeLength : Int32) (D_code : Nat → Int32) (p0 : Int32) : Option (Int32 × (Nat → Int32)) :=
  if D_codeLength < 0 then
    some (D_codeLength, D_code)
  else
    if 700 ≤ D_codeLength then
      some (D_codeLength, D_code)
    else
      ck (inb D_codeLength 700) <|
      some ((D_codeLength + (1 : Int32)), (upd D_code (D_codeLength : Int32).toNatClampNeg p0))
set_option maxHeartbeats 4000000 in
set_option maxRecDepth 100000 in
theorem bX5_putCode {p : Program} {l : Launch} {e : Env} {s : State} {m : MethodId} {args : Array Value} {below : List Frame} {meth : Method} {c : Code} {A : Nat → Prop} {dC : Nat → ClassId} {dI : Nat → Nat → Nat} {cc : Nat → ClassId} (C0 : CT p s m args meth c A dC dI cc cX5_putCode 3 none RX5) (oR aR_tape oD aR_waiting aD_lean aD_deaf aD_kind aD_call aD_cost aD_joy aD_follows aD_code aD_ruleFrom aD_ruleTo : Nat) (R_end : Int32) (R_place : Int32) (R_token : Int32) (R_start : Int32) (R_digits : Int32) (R_number : Int32) (R_fault : Int32) (R_clockIsTold : Int32) (R_waits : Int32) (R_depth : Int32) (R_nots : Int32) (R_partIsDue : Int32) (R_notMayStand : Int32) (D_oil : Int32) (D_weight : Int32) (D_treasury : Int32) (D_aldermen : Int32) (D_motions : Int32) (D_codeLength : Int32) (D_code : Nat → Int32) (p0 : Int32) {out : Int32 × (Nat → Int32)} (hf : fX5_putCode D_codeLength D_code p0 = some out) {H : Heap} {locs : List Loc} (hP : va_P (dC, dI) cLs [(oR, .inr (5, mkX5 aR_tape oD R_end R_place R_token R_start R_digits R_number R_fault R_clockIsTold aR_waiting R_waits R_depth R_nots R_partIsDue R_notMayStand)), (oD, .inr (1, mkX1 D_oil D_weight D_treasury D_aldermen aD_lean aD_deaf D_motions aD_kind aD_call aD_cost aD_joy aD_follows aD_code D_codeLength aD_ruleFrom aD_ruleTo)), (aD_code, .inl (cc 0, 700, .inl D_code))] H) (hD : va_D A [(oR, .inr (5, mkX5 aR_tape oD R_end R_place R_token R_start R_digits R_number R_fault R_clockIsTold aR_waiting R_waits R_depth R_nots R_partIsDue R_notMayStand)), (oD, .inr (1, mkX1 D_oil D_weight D_treasury D_aldermen aD_lean aD_deaf D_motions aD_kind aD_call aD_cost aD_joy aD_follows aD_code D_codeLength aD_ruleFrom aD_ruleTo)), (aD_code, .inl (cc 0, 700, .inl D_code))]) (hS : va_S A s.heap H locs) {ls : Array Slot} (hl : lv_has ls 3 [(0, .ref oR), (1, .int p0)]) : W p l e rmX5_putCode s m args below meth c H locs 0 0 (MQ below (QV dC dI cc [(oR, .inr (5, mkX5 aR_tape oD R_end R_place R_token R_start R_digits R_number R_fault R_clockIsTold aR_waiting R_waits R_depth R_nots R_partIsDue R_notMayStand)), (oD, .inr (1, mkX1 D_oil D_weight D_treasury D_aldermen aD_lean aD_deaf D_motions aD_kind aD_call aD_cost aD_joy aD_follows aD_code out.1 aD_ruleFrom aD_ruleTo)), (aD_code, .inl (cc 0, 700, .inl out.2))] A) args s 0 0 A) (F0 m 0 ls []) := by
  obtain ⟨hx, hb, hml, hr, hlocks, hown, hG, hK, hA⟩ := id C0
  unfold fX5_putCode at hf
  refine lv_aload_n hx hb dX5_putCode_0 rfl (lv_at hl 0 rfl) ?_
  refine va_get (D := (dC, dI)) (ci := 5) (v := .ref oD) (C := RX5) (T := TX5) (N := 16) hx hb hG kinX5 hown hK hP 0 rfl rfl 1 (by decide) (hG _ kfX5_19) (fun _ h9 => h9) rfl dX5_putCode_1 ?_
  refine va_get (D := (dC, dI)) (ci := 1) (v := .int D_codeLength) (C := RX1) (T := TX1) (N := 16) hx hb hG kinX1 hown hK hP 1 rfl rfl 13 (by decide) (hG _ kfX5_140) (fun _ h9 => h9) rfl dX5_putCode_4 ?_
  refine lv_istore_n (lv' := [(2, .int D_codeLength), (0, .ref oR), (1, .int p0)]) hx hb dX5_putCode_7 rfl hl (by decide) rfl (fun ls hl => ?_)
  refine lv_iload_n hx hb dX5_putCode_8 rfl (lv_at hl 0 rfl) ?_
  refine lv_if_lt (tgt := 44) hx hb dX5_putCode_9 (by decide) (fun c1 => ?_) (fun c1 => ?_)
  · have hf := ift c1 hf
    obtain rfl := Option.some.inj hf
    exact retV C0 hP hD hS dX5_putCode_44
  · have hf := iff_ c1 hf
    refine lv_iload_n hx hb dX5_putCode_12 rfl (lv_at hl 0 rfl) ?_
    refine lv_aload_n hx hb dX5_putCode_13 rfl (lv_at hl 1 rfl) ?_
    refine va_get (D := (dC, dI)) (ci := 5) (v := .ref oD) (C := RX5) (T := TX5) (N := 16) hx hb hG kinX5 hown hK hP 0 rfl rfl 1 (by decide) (hG _ kfX5_19) (fun _ h9 => h9) rfl dX5_putCode_14 ?_
    refine va_get (D := (dC, dI)) (ci := 1) (v := .ref aD_code) (C := RX1) (T := TX1) (N := 16) hx hb hG kinX1 hown hK hP 1 rfl rfl 12 (by decide) (hG _ kfX5_178) (fun _ h9 => h9) rfl dX5_putCode_17 ?_
    refine va_alen hx hb hK hP 2 0 rfl rfl (v := 700) rfl dX5_putCode_20 ?_
    refine lv_icmp_ge (tgt := 44) hx hb dX5_putCode_21 (by decide) (fun c2 => ?_) (fun c2 => ?_)
    · have hf := ift c2 hf
      obtain rfl := Option.some.inj hf
      exact retV C0 hP hD hS dX5_putCode_44
    · have hf := iff_ c2 hf
      refine lv_aload_n hx hb dX5_putCode_24 rfl (lv_at hl 1 rfl) ?_
      refine va_get (D := (dC, dI)) (ci := 5) (v := .ref oD) (C := RX5) (T := TX5) (N := 16) hx hb hG kinX5 hown hK hP 0 rfl rfl 1 (by decide) (hG _ kfX5_19) (fun _ h9 => h9) rfl dX5_putCode_25 ?_
      refine va_get (D := (dC, dI)) (ci := 1) (v := .ref aD_code) (C := RX1) (T := TX1) (N := 16) hx hb hG kinX1 hown hK hP 1 rfl rfl 12 (by decide) (hG _ kfX5_178) (fun _ h9 => h9) rfl dX5_putCode_28 ?_
      refine lv_iload_n hx hb dX5_putCode_31 rfl (lv_at hl 0 rfl) ?_
      refine lv_iload_n hx hb dX5_putCode_32 rfl (lv_at hl 2 rfl) ?_
      refine ck_el hf (fun g3 hf => ?_)
      refine va_iast hx hb hK hP hD hS 2 0 rfl rfl (inb_in g3) dX5_putCode_33 (fun H locs hP hD hS => ?_)
      have hP : va_P (dC, dI) cLs [(oR, .inr (5, mkX5 aR_tape oD R_end R_place R_token R_start R_digits R_number R_fault R_clockIsTold aR_waiting R_waits R_depth R_nots R_partIsDue R_notMayStand)), (oD, .inr (1, mkX1 D_oil D_weight D_treasury D_aldermen aD_lean aD_deaf D_motions aD_kind aD_call aD_cost aD_joy aD_follows aD_code D_codeLength aD_ruleFrom aD_ruleTo)), (aD_code, .inl (cc 0, 700, .inl (upd D_code (D_codeLength : Int32).toNatClampNeg p0)))] _ := hP
      have hD : va_D A [(oR, .inr (5, mkX5 aR_tape oD R_end R_place R_token R_start R_digits R_number R_fault R_clockIsTold aR_waiting R_waits R_depth R_nots R_partIsDue R_notMayStand)), (oD, .inr (1, mkX1 D_oil D_weight D_treasury D_aldermen aD_lean aD_deaf D_motions aD_kind aD_call aD_cost aD_joy aD_follows aD_code D_codeLength aD_ruleFrom aD_ruleTo)), (aD_code, .inl (cc 0, 700, .inl (upd D_code (D_codeLength : Int32).toNatClampNeg p0)))] := hD
      refine lv_aload_n hx hb dX5_putCode_34 rfl (lv_at hl 1 rfl) ?_
      refine va_get (D := (dC, dI)) (ci := 5) (v := .ref oD) (C := RX5) (T := TX5) (N := 16) hx hb hG kinX5 hown hK hP 0 rfl rfl 1 (by decide) (hG _ kfX5_19) (fun _ h9 => h9) rfl dX5_putCode_35 ?_
      refine lv_iload_n hx hb dX5_putCode_38 rfl (lv_at hl 0 rfl) ?_
      refine lv_iconst (v := 1) hx hb dX5_putCode_39 (by decide) ?_
      refine lv_iadd hx hb dX5_putCode_40 ?_
      refine va_put (D := (dC, dI)) (ci := 1) (v := .int (D_codeLength + (1 : Int32))) (ty := .int) (C := RX1) (T := TX1) (N := 16) hx hb hG kinX1 tyX1 tyX1_ok nmX1 hown hK hP hD hS 1 rfl rfl 13 (by decide) (hG _ kfX5_140) (fun _ h9 => h9) rfl (by decide +kernel) rfl rfl (Nat.le_of_ble_eq_true rfl) dX5_putCode_41 (fun H locs hP hD hS => ?_)
      have hP : va_P (dC, dI) cLs [(oR, .inr (5, mkX5 aR_tape oD R_end R_place R_token R_start R_digits R_number R_fault R_clockIsTold aR_waiting R_waits R_depth R_nots R_partIsDue R_notMayStand)), (oD, .inr (1, mkX1 D_oil D_weight D_treasury D_aldermen aD_lean aD_deaf D_motions aD_kind aD_call aD_cost aD_joy aD_follows aD_code (D_codeLength + (1 : Int32)) aD_ruleFrom aD_ruleTo)), (aD_code, .inl (cc 0, 700, .inl (upd D_code (D_codeLength : Int32).toNatClampNeg p0)))] _ := hP
      have hD : va_D A [(oR, .inr (5, mkX5 aR_tape oD R_end R_place R_token R_start R_digits R_number R_fault R_clockIsTold aR_waiting R_waits R_depth R_nots R_partIsDue R_notMayStand)), (oD, .inr (1, mkX1 D_oil D_weight D_treasury D_aldermen aD_lean aD_deaf D_motions aD_kind aD_call aD_cost aD_joy aD_follows aD_code (D_codeLength + (1 : Int32)) aD_ruleFrom aD_ruleTo)), (aD_code, .inl (cc 0, 700, .inl (upd D_code (D_codeLength : Int32).toNatClampNeg p0)))] := hD
      obtain rfl := Option.some.inj hf
      exact retV C0 hP hD hS dX5_putCode_44
theorem mX5_putCode (l : Launch) (dC : Nat → ClassId) (dI : Nat → Nat → Nat) (cc : Nat → ClassId) (oR aR_tape oD aR_waiting aD_lean aD_deaf aD_kind aD_call aD_cost aD_joy aD_follows aD_code aD_ruleFrom aD_ruleTo : Nat) (sz : Nat) (R_end : Int32) (R_place : Int32) (R_token : Int32) (R_start : Int32) (R_digits : Int32) (R_number : Int32) (R_fault : Int32) (R_clockIsTold : Int32) (R_waits : Int32) (R_depth : Int32) (R_nots : Int32) (R_partIsDue : Int32) (R_notMayStand : Int32) (D_oil : Int32) (D_weight : Int32) (D_treasury : Int32) (D_aldermen : Int32) (D_motions : Int32) (D_codeLength : Int32) (D_code : Nat → Int32) (p0 : Int32) {out : Int32 × (Nat → Int32)} (hf : fX5_putCode D_codeLength D_code p0 = some out) : Met l yX5_putCode (Cond.code yX5_putCode cX5_putCode 3 none :: GW) rmX5_putCode (PI dC dI cc [.ref oR, .int p0] [(oR, .inr (5, mkX5 aR_tape oD R_end R_place R_token R_start R_digits R_number R_fault R_clockIsTold aR_waiting R_waits R_depth R_nots R_partIsDue R_notMayStand)), (oD, .inr (1, mkX1 D_oil D_weight D_treasury D_aldermen aD_lean aD_deaf D_motions aD_kind aD_call aD_cost aD_joy aD_follows aD_code D_codeLength aD_ruleFrom aD_ruleTo)), (aD_code, .inl (cc 0, 700, .inl D_code))] sz) (QV dC dI cc [(oR, .inr (5, mkX5 aR_tape oD R_end R_place R_token R_start R_digits R_number R_fault R_clockIsTold aR_waiting R_waits R_depth R_nots R_partIsDue R_notMayStand)), (oD, .inr (1, mkX1 D_oil D_weight D_treasury D_aldermen aD_lean aD_deaf D_motions aD_kind aD_call aD_cost aD_joy aD_follows aD_code out.1 aD_ruleFrom aD_ruleTo)), (aD_code, .inl (cc 0, 700, .inl out.2))] (va_A [(oR, .inr (5, mkX5 aR_tape oD R_end R_place R_token R_start R_digits R_number R_fault R_clockIsTold aR_waiting R_waits R_depth R_nots R_partIsDue R_notMayStand)), (oD, .inr (1, mkX1 D_oil D_weight D_treasury D_aldermen aD_lean aD_deaf D_motions aD_kind aD_call aD_cost aD_joy aD_follows aD_code D_codeLength aD_ruleFrom aD_ruleTo)), (aD_code, .inl (cc 0, 700, .inl D_code))] sz)) 0 0 (va_A [(oR, .inr (5, mkX5 aR_tape oD R_end R_place R_token R_start R_digits R_number R_fault R_clockIsTold aR_waiting R_waits R_depth R_nots R_partIsDue R_notMayStand)), (oD, .inr (1, mkX1 D_oil D_weight D_treasury D_aldermen aD_lean aD_deaf D_motions aD_kind aD_call aD_cost aD_joy aD_follows aD_code D_codeLength aD_ruleFrom aD_ruleTo)), (aD_code, .inl (cc 0, 700, .inl D_code))] sz) :=
  met_of (Q := fun A => QV dC dI cc [(oR, .inr (5, mkX5 aR_tape oD R_end R_place R_token R_start R_digits R_number R_fault R_clockIsTold aR_waiting R_waits R_depth R_nots R_partIsDue R_notMayStand)), (oD, .inr (1, mkX1 D_oil D_weight D_treasury D_aldermen aD_lean aD_deaf D_motions aD_kind aD_call aD_cost aD_joy aD_follows aD_code out.1 aD_ruleFrom aD_ruleTo)), (aD_code, .inl (cc 0, 700, .inl out.2))] A) (by decide) rfl (Nat.le_of_ble_eq_true rfl) (fun p e s m below meth c A C0 hP hD hS ls hl => bX5_putCode C0 oR aR_tape oD aR_waiting aD_lean aD_deaf aD_kind aD_call aD_cost aD_joy aD_follows aD_code aD_ruleFrom aD_ruleTo R_end R_place R_token R_start R_digits R_number R_fault R_clockIsTold R_waits R_depth R_nots R_partIsDue R_notMayStand D_oil D_weight D_treasury D_aldermen D_motions D_codeLength D_code p0 hf hP hD hS hl)
abbrev rmX5_putWaiting : Room := { frames := 0, cells := 0, slots := 0, locals := 0 }
def fX5_putWaiting  (R_waits : Int32) (R_waiting : Nat → Int32) (p0 : Int32) : Option (Int32 × (Nat → Int32)) :=
  if R_waits < 0 then
    some (R_waits, R_waiting)
  else
    if 80 ≤ R_waits then
      some (R_waits, R_waiting)
    else
      ck (inb R_waits 80) <|
      some ((R_waits + (1 : Int32)), (upd R_waiting (R_waits : Int32).toNatClampNeg p0))
set_option maxHeartbeats 4000000 in
set_option maxRecDepth 100000 in
theorem bX5_putWaiting {p : Program} {l : Launch} {e : Env} {s : State} {m : MethodId} {args : Array Value} {below : List Frame} {meth : Method} {c : Code} {A : Nat → Prop} {dC : Nat → ClassId} {dI : Nat → Nat → Nat} {cc : Nat → ClassId} (C0 : CT p s m args meth c A dC dI cc cX5_putWaiting 2 none RX5) (oR aR_tape oD aR_waiting : Nat) (R_end : Int32) (R_place : Int32) (R_token : Int32) (R_start : Int32) (R_digits : Int32) (R_number : Int32) (R_fault : Int32) (R_clockIsTold : Int32) (R_waits : Int32) (R_depth : Int32) (R_nots : Int32) (R_partIsDue : Int32) (R_notMayStand : Int32) (R_waiting : Nat → Int32) (p0 : Int32) {out : Int32 × (Nat → Int32)} (hf : fX5_putWaiting R_waits R_waiting p0 = some out) {H : Heap} {locs : List Loc} (hP : va_P (dC, dI) cLs [(oR, .inr (5, mkX5 aR_tape oD R_end R_place R_token R_start R_digits R_number R_fault R_clockIsTold aR_waiting R_waits R_depth R_nots R_partIsDue R_notMayStand)), (aR_waiting, .inl (cc 0, 80, .inl R_waiting))] H) (hD : va_D A [(oR, .inr (5, mkX5 aR_tape oD R_end R_place R_token R_start R_digits R_number R_fault R_clockIsTold aR_waiting R_waits R_depth R_nots R_partIsDue R_notMayStand)), (aR_waiting, .inl (cc 0, 80, .inl R_waiting))]) (hS : va_S A s.heap H locs) {ls : Array Slot} (hl : lv_has ls 2 [(0, .ref oR), (1, .int p0)]) : W p l e rmX5_putWaiting s m args below meth c H locs 0 0 (MQ below (QV dC dI cc [(oR, .inr (5, mkX5 aR_tape oD R_end R_place R_token R_start R_digits R_number R_fault R_clockIsTold aR_waiting out.1 R_depth R_nots R_partIsDue R_notMayStand)), (aR_waiting, .inl (cc 0, 80, .inl out.2))] A) args s 0 0 A) (F0 m 0 ls []) := by
  obtain ⟨hx, hb, hml, hr, hlocks, hown, hG, hK, hA⟩ := id C0
  unfold fX5_putWaiting at hf
  refine lv_aload_n hx hb dX5_putWaiting_0 rfl (lv_at hl 0 rfl) ?_
  refine va_get (D := (dC, dI)) (ci := 5) (v := .int R_waits) (C := RX5) (T := TX5) (N := 16) hx hb hG kinX5 hown hK hP 0 rfl rfl 11 (by decide) (hG _ kfX5_122) (fun _ h9 => h9) rfl dX5_putWaiting_1 ?_
  refine lv_if_lt (tgt := 39) hx hb dX5_putWaiting_4 (by decide) (fun c1 => ?_) (fun c1 => ?_)
  · have hf := ift c1 hf
    obtain rfl := Option.some.inj hf
    exact retV C0 hP hD hS dX5_putWaiting_39
  · have hf := iff_ c1 hf
    refine lv_aload_n hx hb dX5_putWaiting_7 rfl (lv_at hl 0 rfl) ?_
    refine va_get (D := (dC, dI)) (ci := 5) (v := .int R_waits) (C := RX5) (T := TX5) (N := 16) hx hb hG kinX5 hown hK hP 0 rfl rfl 11 (by decide) (hG _ kfX5_122) (fun _ h9 => h9) rfl dX5_putWaiting_8 ?_
    refine lv_aload_n hx hb dX5_putWaiting_11 rfl (lv_at hl 0 rfl) ?_
    refine va_get (D := (dC, dI)) (ci := 5) (v := .ref aR_waiting) (C := RX5) (T := TX5) (N := 16) hx hb hG kinX5 hown hK hP 0 rfl rfl 10 (by decide) (hG _ kfX5_9) (fun _ h9 => h9) rfl dX5_putWaiting_12 ?_
    refine va_alen hx hb hK hP 1 0 rfl rfl (v := 80) rfl dX5_putWaiting_15 ?_
    refine lv_icmp_ge (tgt := 39) hx hb dX5_putWaiting_16 (by decide) (fun c2 => ?_) (fun c2 => ?_)
    · have hf := ift c2 hf
      obtain rfl := Option.some.inj hf
      exact retV C0 hP hD hS dX5_putWaiting_39
    · have hf := iff_ c2 hf
      refine lv_aload_n hx hb dX5_putWaiting_19 rfl (lv_at hl 0 rfl) ?_
      refine va_get (D := (dC, dI)) (ci := 5) (v := .ref aR_waiting) (C := RX5) (T := TX5) (N := 16) hx hb hG kinX5 hown hK hP 0 rfl rfl 10 (by decide) (hG _ kfX5_9) (fun _ h9 => h9) rfl dX5_putWaiting_20 ?_
      refine lv_aload_n hx hb dX5_putWaiting_23 rfl (lv_at hl 0 rfl) ?_
      refine va_get (D := (dC, dI)) (ci := 5) (v := .int R_waits) (C := RX5) (T := TX5) (N := 16) hx hb hG kinX5 hown hK hP 0 rfl rfl 11 (by decide) (hG _ kfX5_122) (fun _ h9 => h9) rfl dX5_putWaiting_24 ?_
      refine lv_iload_n hx hb dX5_putWaiting_27 rfl (lv_at hl 1 rfl) ?_
      refine ck_el hf (fun g3 hf => ?_)
      refine va_iast hx hb hK hP hD hS 1 0 rfl rfl (inb_in g3) dX5_putWaiting_28 (fun H locs hP hD hS => ?_)
      have hP : va_P (dC, dI) cLs [(oR, .inr (5, mkX5 aR_tape oD R_end R_place R_token R_start R_digits R_number R_fault R_clockIsTold aR_waiting R_waits R_depth R_nots R_partIsDue R_notMayStand)), (aR_waiting, .inl (cc 0, 80, .inl (upd R_waiting (R_waits : Int32).toNatClampNeg p0)))] _ := hP
      have hD : va_D A [(oR, .inr (5, mkX5 aR_tape oD R_end R_place R_token R_start R_digits R_number R_fault R_clockIsTold aR_waiting R_waits R_depth R_nots R_partIsDue R_notMayStand)), (aR_waiting, .inl (cc 0, 80, .inl (upd R_waiting (R_waits : Int32).toNatClampNeg p0)))] := hD
      refine lv_aload_n hx hb dX5_putWaiting_29 rfl (lv_at hl 0 rfl) ?_
      refine lv_dup hx hb dX5_putWaiting_30 rfl ?_
      refine va_get (D := (dC, dI)) (ci := 5) (v := .int R_waits) (C := RX5) (T := TX5) (N := 16) hx hb hG kinX5 hown hK hP 0 rfl rfl 11 (by decide) (hG _ kfX5_122) (fun _ h9 => h9) rfl dX5_putWaiting_31 ?_
      refine lv_iconst (v := 1) hx hb dX5_putWaiting_34 (by decide) ?_
      refine lv_iadd hx hb dX5_putWaiting_35 ?_
      refine va_put (D := (dC, dI)) (ci := 5) (v := .int (R_waits + (1 : Int32))) (ty := .int) (C := RX5) (T := TX5) (N := 16) hx hb hG kinX5 tyX5 tyX5_ok nmX5 hown hK hP hD hS 0 rfl rfl 11 (by decide) (hG _ kfX5_122) (fun _ h9 => h9) rfl (by decide +kernel) rfl rfl (Nat.le_of_ble_eq_true rfl) dX5_putWaiting_36 (fun H locs hP hD hS => ?_)
      have hP : va_P (dC, dI) cLs [(oR, .inr (5, mkX5 aR_tape oD R_end R_place R_token R_start R_digits R_number R_fault R_clockIsTold aR_waiting (R_waits + (1 : Int32)) R_depth R_nots R_partIsDue R_notMayStand)), (aR_waiting, .inl (cc 0, 80, .inl (upd R_waiting (R_waits : Int32).toNatClampNeg p0)))] _ := hP
      have hD : va_D A [(oR, .inr (5, mkX5 aR_tape oD R_end R_place R_token R_start R_digits R_number R_fault R_clockIsTold aR_waiting (R_waits + (1 : Int32)) R_depth R_nots R_partIsDue R_notMayStand)), (aR_waiting, .inl (cc 0, 80, .inl (upd R_waiting (R_waits : Int32).toNatClampNeg p0)))] := hD
      obtain rfl := Option.some.inj hf
      exact retV C0 hP hD hS dX5_putWaiting_39
theorem mX5_putWaiting (l : Launch) (dC : Nat → ClassId) (dI : Nat → Nat → Nat) (cc : Nat → ClassId) (oR aR_tape oD aR_waiting : Nat) (sz : Nat) (R_end : Int32) (R_place : Int32) (R_token : Int32) (R_start : Int32) (R_digits : Int32) (R_number : Int32) (R_fault : Int32) (R_clockIsTold : Int32) (R_waits : Int32) (R_depth : Int32) (R_nots : Int32) (R_partIsDue : Int32) (R_notMayStand : Int32) (R_waiting : Nat → Int32) (p0 : Int32) {out : Int32 × (Nat → Int32)} (hf : fX5_putWaiting R_waits R_waiting p0 = some out) : Met l yX5_putWaiting (Cond.code yX5_putWaiting cX5_putWaiting 2 none :: GW) rmX5_putWaiting (PI dC dI cc [.ref oR, .int p0] [(oR, .inr (5, mkX5 aR_tape oD R_end R_place R_token R_start R_digits R_number R_fault R_clockIsTold aR_waiting R_waits R_depth R_nots R_partIsDue R_notMayStand)), (aR_waiting, .inl (cc 0, 80, .inl R_waiting))] sz) (QV dC dI cc [(oR, .inr (5, mkX5 aR_tape oD R_end R_place R_token R_start R_digits R_number R_fault R_clockIsTold aR_waiting out.1 R_depth R_nots R_partIsDue R_notMayStand)), (aR_waiting, .inl (cc 0, 80, .inl out.2))] (va_A [(oR, .inr (5, mkX5 aR_tape oD R_end R_place R_token R_start R_digits R_number R_fault R_clockIsTold aR_waiting R_waits R_depth R_nots R_partIsDue R_notMayStand)), (aR_waiting, .inl (cc 0, 80, .inl R_waiting))] sz)) 0 0 (va_A [(oR, .inr (5, mkX5 aR_tape oD R_end R_place R_token R_start R_digits R_number R_fault R_clockIsTold aR_waiting R_waits R_depth R_nots R_partIsDue R_notMayStand)), (aR_waiting, .inl (cc 0, 80, .inl R_waiting))] sz) :=
  met_of (Q := fun A => QV dC dI cc [(oR, .inr (5, mkX5 aR_tape oD R_end R_place R_token R_start R_digits R_number R_fault R_clockIsTold aR_waiting out.1 R_depth R_nots R_partIsDue R_notMayStand)), (aR_waiting, .inl (cc 0, 80, .inl out.2))] A) (by decide) rfl (Nat.le_of_ble_eq_true rfl) (fun p e s m below meth c A C0 hP hD hS ls hl => bX5_putWaiting C0 oR aR_tape oD aR_waiting R_end R_place R_token R_start R_digits R_number R_fault R_clockIsTold R_waits R_depth R_nots R_partIsDue R_notMayStand R_waiting p0 hf hP hD hS hl)
abbrev rmX5_readNot : Room := { frames := 1, cells := 0, slots := 0, locals := 21 }
def fX5_readNot  (R_fault : Int32) (R_waits : Int32) (R_nots : Int32) (R_waiting : Nat → Int32)  : Option (Int32 × Int32 × Int32 × (Nat → Int32)) :=
  if R_nots < 6 then
    (fX5_putWaiting R_waits R_waiting (-7)).bind fun v3 =>
    some (R_fault, v3.1, (R_nots + (1 : Int32)), v3.2)
  else
    some (2, R_waits, R_nots, R_waiting)
set_option maxHeartbeats 4000000 in
set_option maxRecDepth 100000 in
theorem bX5_readNot {p : Program} {l : Launch} {e : Env} {s : State} {m : MethodId} {args : Array Value} {below : List Frame} {meth : Method} {c : Code} {A : Nat → Prop} {dC : Nat → ClassId} {dI : Nat → Nat → Nat} {cc : Nat → ClassId} (C0 : CT p s m args meth c A dC dI cc cX5_readNot 1 none RX5) (oR aR_tape oD aR_waiting : Nat) (R_end : Int32) (R_place : Int32) (R_token : Int32) (R_start : Int32) (R_digits : Int32) (R_number : Int32) (R_fault : Int32) (R_clockIsTold : Int32) (R_waits : Int32) (R_depth : Int32) (R_nots : Int32) (R_partIsDue : Int32) (R_notMayStand : Int32) (R_waiting : Nat → Int32)  {out : Int32 × Int32 × Int32 × (Nat → Int32)} (hf : fX5_readNot R_fault R_waits R_nots R_waiting = some out) {H : Heap} {locs : List Loc} (hP : va_P (dC, dI) cLs [(oR, .inr (5, mkX5 aR_tape oD R_end R_place R_token R_start R_digits R_number R_fault R_clockIsTold aR_waiting R_waits R_depth R_nots R_partIsDue R_notMayStand)), (aR_waiting, .inl (cc 0, 80, .inl R_waiting))] H) (hD : va_D A [(oR, .inr (5, mkX5 aR_tape oD R_end R_place R_token R_start R_digits R_number R_fault R_clockIsTold aR_waiting R_waits R_depth R_nots R_partIsDue R_notMayStand)), (aR_waiting, .inl (cc 0, 80, .inl R_waiting))]) (hS : va_S A s.heap H locs) {ls : Array Slot} (hl : lv_has ls 1 [(0, .ref oR)]) : W p l e rmX5_readNot s m args below meth c H locs 0 0 (MQ below (QV dC dI cc [(oR, .inr (5, mkX5 aR_tape oD R_end R_place R_token R_start R_digits R_number out.1 R_clockIsTold aR_waiting out.2.1 R_depth out.2.2.1 R_partIsDue R_notMayStand)), (aR_waiting, .inl (cc 0, 80, .inl out.2.2.2))] A) args s 0 0 A) (F0 m 0 ls []) := by
  obtain ⟨hx, hb, hml, hr, hlocks, hown, hG, hK, hA⟩ := id C0
  unfold fX5_readNot at hf
  refine lv_aload_n hx hb dX5_readNot_0 rfl (lv_at hl 0 rfl) ?_
  refine va_get (D := (dC, dI)) (ci := 5) (v := .int R_nots) (C := RX5) (T := TX5) (N := 16) hx hb hG kinX5 hown hK hP 0 rfl rfl 13 (by decide) (hG _ kfX5_128) (fun _ h9 => h9) rfl dX5_readNot_1 ?_
  refine lv_bipush (v := 6) hx hb dX5_readNot_4 (by decide) ?_
  refine lv_icmp_lt (tgt := 15) hx hb dX5_readNot_6 (by decide) (fun c1 => ?_) (fun c1 => ?_)
  · have hf := ift c1 hf
    refine lv_aload_n hx hb dX5_readNot_15 rfl (lv_at hl 0 rfl) ?_
    refine lv_dup hx hb dX5_readNot_16 rfl ?_
    refine va_get (D := (dC, dI)) (ci := 5) (v := .int R_nots) (C := RX5) (T := TX5) (N := 16) hx hb hG kinX5 hown hK hP 0 rfl rfl 13 (by decide) (hG _ kfX5_128) (fun _ h9 => h9) rfl dX5_readNot_17 ?_
    refine lv_iconst (v := 1) hx hb dX5_readNot_20 (by decide) ?_
    refine lv_iadd hx hb dX5_readNot_21 ?_
    refine va_put (D := (dC, dI)) (ci := 5) (v := .int (R_nots + (1 : Int32))) (ty := .int) (C := RX5) (T := TX5) (N := 16) hx hb hG kinX5 tyX5 tyX5_ok nmX5 hown hK hP hD hS 0 rfl rfl 13 (by decide) (hG _ kfX5_128) (fun _ h9 => h9) rfl (by decide +kernel) rfl rfl (Nat.le_of_ble_eq_true rfl) dX5_readNot_22 (fun H locs hP hD hS => ?_)
    have hP : va_P (dC, dI) cLs [(oR, .inr (5, mkX5 aR_tape oD R_end R_place R_token R_start R_digits R_number R_fault R_clockIsTold aR_waiting R_waits R_depth (R_nots + (1 : Int32)) R_partIsDue R_notMayStand)), (aR_waiting, .inl (cc 0, 80, .inl R_waiting))] _ := hP
    have hD : va_D A [(oR, .inr (5, mkX5 aR_tape oD R_end R_place R_token R_start R_digits R_number R_fault R_clockIsTold aR_waiting R_waits R_depth (R_nots + (1 : Int32)) R_partIsDue R_notMayStand)), (aR_waiting, .inl (cc 0, 80, .inl R_waiting))] := hD
    refine lv_aload_n hx hb dX5_readNot_25 rfl (lv_at hl 0 rfl) ?_
    refine lv_bipush (v := (-7)) hx hb dX5_readNot_26 (by decide) ?_
    refine bd_el hf (fun v3 hv3 hf => ?_)
    refine callVv (As := [.int (-7)]) (rest := []) (wr := []) (wn := [(oR, .inr (5, mkX5 aR_tape oD R_end R_place R_token R_start R_digits R_number R_fault R_clockIsTold aR_waiting v3.1 R_depth (R_nots + (1 : Int32)) R_partIsDue R_notMayStand)), (aR_waiting, .inl (cc 0, 80, .inl v3.2))]) C0 kvX5_putWaiting kmX5_162 hP hD hS (mX5_putWaiting l dC dI cc oR aR_tape oD aR_waiting _ R_end R_place R_token R_start R_digits R_number R_fault R_clockIsTold R_waits R_depth (R_nots + (1 : Int32)) R_partIsDue R_notMayStand R_waiting (-7) hv3) ⟨rfl, rfl⟩ ⟨Nat.le_of_ble_eq_true rfl, Nat.le_of_ble_eq_true rfl⟩ [0, 1] [] [0, 1] rfl rfl rfl rfl (ci := 5) rfl rfl 0 rfl rfl hl.1 rfl (Nat.le_of_ble_eq_true rfl) ⟨Nat.zero_le _, Nat.zero_le _⟩ dX5_readNot_28 (fun H locs hP hD hS => ?_)
    obtain rfl := Option.some.inj hf
    exact retV C0 hP hD hS dX5_readNot_31
  · have hf := iff_ c1 hf
    refine lv_aload_n hx hb dX5_readNot_9 rfl (lv_at hl 0 rfl) ?_
    refine lv_iconst (v := 2) hx hb dX5_readNot_10 (by decide) ?_
    refine va_put (D := (dC, dI)) (ci := 5) (v := .int 2) (ty := .int) (C := RX5) (T := TX5) (N := 16) hx hb hG kinX5 tyX5 tyX5_ok nmX5 hown hK hP hD hS 0 rfl rfl 8 (by decide) (hG _ kfX5_36) (fun _ h9 => h9) rfl (by decide +kernel) rfl rfl (Nat.le_of_ble_eq_true rfl) dX5_readNot_11 (fun H locs hP hD hS => ?_)
    have hP : va_P (dC, dI) cLs [(oR, .inr (5, mkX5 aR_tape oD R_end R_place R_token R_start R_digits R_number 2 R_clockIsTold aR_waiting R_waits R_depth R_nots R_partIsDue R_notMayStand)), (aR_waiting, .inl (cc 0, 80, .inl R_waiting))] _ := hP
    have hD : va_D A [(oR, .inr (5, mkX5 aR_tape oD R_end R_place R_token R_start R_digits R_number 2 R_clockIsTold aR_waiting R_waits R_depth R_nots R_partIsDue R_notMayStand)), (aR_waiting, .inl (cc 0, 80, .inl R_waiting))] := hD
    obtain rfl := Option.some.inj hf
    exact retV C0 hP hD hS dX5_readNot_14
theorem mX5_readNot (l : Launch) (dC : Nat → ClassId) (dI : Nat → Nat → Nat) (cc : Nat → ClassId) (oR aR_tape oD aR_waiting : Nat) (sz : Nat) (R_end : Int32) (R_place : Int32) (R_token : Int32) (R_start : Int32) (R_digits : Int32) (R_number : Int32) (R_fault : Int32) (R_clockIsTold : Int32) (R_waits : Int32) (R_depth : Int32) (R_nots : Int32) (R_partIsDue : Int32) (R_notMayStand : Int32) (R_waiting : Nat → Int32)  {out : Int32 × Int32 × Int32 × (Nat → Int32)} (hf : fX5_readNot R_fault R_waits R_nots R_waiting = some out) : Met l yX5_readNot (Cond.code yX5_readNot cX5_readNot 1 none :: GW) rmX5_readNot (PI dC dI cc [.ref oR] [(oR, .inr (5, mkX5 aR_tape oD R_end R_place R_token R_start R_digits R_number R_fault R_clockIsTold aR_waiting R_waits R_depth R_nots R_partIsDue R_notMayStand)), (aR_waiting, .inl (cc 0, 80, .inl R_waiting))] sz) (QV dC dI cc [(oR, .inr (5, mkX5 aR_tape oD R_end R_place R_token R_start R_digits R_number out.1 R_clockIsTold aR_waiting out.2.1 R_depth out.2.2.1 R_partIsDue R_notMayStand)), (aR_waiting, .inl (cc 0, 80, .inl out.2.2.2))] (va_A [(oR, .inr (5, mkX5 aR_tape oD R_end R_place R_token R_start R_digits R_number R_fault R_clockIsTold aR_waiting R_waits R_depth R_nots R_partIsDue R_notMayStand)), (aR_waiting, .inl (cc 0, 80, .inl R_waiting))] sz)) 0 0 (va_A [(oR, .inr (5, mkX5 aR_tape oD R_end R_place R_token R_start R_digits R_number R_fault R_clockIsTold aR_waiting R_waits R_depth R_nots R_partIsDue R_notMayStand)), (aR_waiting, .inl (cc 0, 80, .inl R_waiting))] sz) :=
  met_of (Q := fun A => QV dC dI cc [(oR, .inr (5, mkX5 aR_tape oD R_end R_place R_token R_start R_digits R_number out.1 R_clockIsTold aR_waiting out.2.1 R_depth out.2.2.1 R_partIsDue R_notMayStand)), (aR_waiting, .inl (cc 0, 80, .inl out.2.2.2))] A) (by decide) rfl (Nat.le_of_ble_eq_true rfl) (fun p e s m below meth c A C0 hP hD hS ls hl => bX5_readNot C0 oR aR_tape oD aR_waiting R_end R_place R_token R_start R_digits R_number R_fault R_clockIsTold R_waits R_depth R_nots R_partIsDue R_notMayStand R_waiting hf hP hD hS hl)
abbrev rmX5_readValue : Room := { frames := 1, cells := 0, slots := 0, locals := 22 }
def jX5_readValue_23   (R_token : Int32) (R_fault : Int32) (R_partIsDue : Int32) (D_codeLength : Int32) (D_code : Nat → Int32) (x2 : Int32) (s0 : Int32) : Option (Int32 × Int32 × Int32 × (Nat → Int32)) :=
  if R_token < x2 then
    some (3, R_partIsDue, D_codeLength, D_code)
  else
    if R_token < s0 then
      (fX5_putCode D_codeLength D_code ((x2 - R_token) - (1 : Int32))).bind fun v6 =>
      some (R_fault, 0, v6.1, v6.2)
    else
      some (3, R_partIsDue, D_codeLength, D_code)
set_option maxHeartbeats 4000000 in
set_option maxRecDepth 100000 in
theorem wjX5_readValue_23 {p : Program} {l : Launch} {e : Env} {s : State} {m : MethodId} {args : Array Value} {below : List Frame} {meth : Method} {c : Code} {A : Nat → Prop} {dC : Nat → ClassId} {dI : Nat → Nat → Nat} {cc : Nat → ClassId} (C0 : CT p s m args meth c A dC dI cc cX5_readValue 4 none RX5) (oR aR_tape oD aR_waiting aD_lean aD_deaf aD_kind aD_call aD_cost aD_joy aD_follows aD_code aD_ruleFrom aD_ruleTo : Nat) (R_end : Int32) (R_place : Int32) (R_token : Int32) (R_start : Int32) (R_digits : Int32) (R_number : Int32) (R_fault : Int32) (R_clockIsTold : Int32) (R_waits : Int32) (R_depth : Int32) (R_nots : Int32) (R_partIsDue : Int32) (R_notMayStand : Int32) (D_oil : Int32) (D_weight : Int32) (D_treasury : Int32) (D_aldermen : Int32) (D_motions : Int32) (D_codeLength : Int32) (D_code : Nat → Int32) (x2 : Int32) {out : Int32 × Int32 × Int32 × (Nat → Int32)}   (s0 : Int32) (hf : jX5_readValue_23  R_token R_fault R_partIsDue D_codeLength D_code x2 s0 = some out) (H : Heap) (locs : List Loc) (hP : va_P (dC, dI) cLs [(oR, .inr (5, mkX5 aR_tape oD R_end R_place R_token R_start R_digits R_number R_fault R_clockIsTold aR_waiting R_waits R_depth R_nots R_partIsDue R_notMayStand)), (oD, .inr (1, mkX1 D_oil D_weight D_treasury D_aldermen aD_lean aD_deaf D_motions aD_kind aD_call aD_cost aD_joy aD_follows aD_code D_codeLength aD_ruleFrom aD_ruleTo)), (aD_code, .inl (cc 0, 700, .inl D_code))] H) (hD : va_D A [(oR, .inr (5, mkX5 aR_tape oD R_end R_place R_token R_start R_digits R_number R_fault R_clockIsTold aR_waiting R_waits R_depth R_nots R_partIsDue R_notMayStand)), (oD, .inr (1, mkX1 D_oil D_weight D_treasury D_aldermen aD_lean aD_deaf D_motions aD_kind aD_call aD_cost aD_joy aD_follows aD_code D_codeLength aD_ruleFrom aD_ruleTo)), (aD_code, .inl (cc 0, 700, .inl D_code))]) (hS : va_S A s.heap H locs) (ls : Array Slot) (hl : lv_has ls 4 [(0, .ref oR), (2, .int x2)]) : W p l e rmX5_readValue s m args below meth c H locs 0 0 (MQ below (QV dC dI cc [(oR, .inr (5, mkX5 aR_tape oD R_end R_place R_token R_start R_digits R_number out.1 R_clockIsTold aR_waiting R_waits R_depth R_nots out.2.1 R_notMayStand)), (oD, .inr (1, mkX1 D_oil D_weight D_treasury D_aldermen aD_lean aD_deaf D_motions aD_kind aD_call aD_cost aD_joy aD_follows aD_code out.2.2.1 aD_ruleFrom aD_ruleTo)), (aD_code, .inl (cc 0, 700, .inl out.2.2.2))] A) args s 0 0 A) (F0 m 23 ls [.int s0]) := by
  obtain ⟨hx, hb, hml, hr, hlocks, hown, hG, hK, hA⟩ := id C0
  unfold jX5_readValue_23 at hf
  refine lv_istore_n (lv' := [(3, .int s0), (0, .ref oR), (2, .int x2)]) hx hb dX5_readValue_23 rfl hl (by decide) rfl (fun ls hl => ?_)
  refine lv_aload_n hx hb dX5_readValue_24 rfl (lv_at hl 1 rfl) ?_
  refine va_get (D := (dC, dI)) (ci := 5) (v := .int R_token) (C := RX5) (T := TX5) (N := 16) hx hb hG kinX5 hown hK hP 0 rfl rfl 4 (by decide) (hG _ kfX5_51) (fun _ h9 => h9) rfl dX5_readValue_25 ?_
  refine lv_iload_n hx hb dX5_readValue_28 rfl (lv_at hl 2 rfl) ?_
  refine lv_icmp_lt (tgt := 40) hx hb dX5_readValue_29 (by decide) (fun c3 => ?_) (fun c3 => ?_)
  · have hf := ift c3 hf
    refine lv_aload_n hx hb dX5_readValue_40 rfl (lv_at hl 1 rfl) ?_
    refine lv_iconst (v := 3) hx hb dX5_readValue_41 (by decide) ?_
    refine va_put (D := (dC, dI)) (ci := 5) (v := .int 3) (ty := .int) (C := RX5) (T := TX5) (N := 16) hx hb hG kinX5 tyX5 tyX5_ok nmX5 hown hK hP hD hS 0 rfl rfl 8 (by decide) (hG _ kfX5_36) (fun _ h9 => h9) rfl (by decide +kernel) rfl rfl (Nat.le_of_ble_eq_true rfl) dX5_readValue_42 (fun H locs hP hD hS => ?_)
    have hP : va_P (dC, dI) cLs [(oR, .inr (5, mkX5 aR_tape oD R_end R_place R_token R_start R_digits R_number 3 R_clockIsTold aR_waiting R_waits R_depth R_nots R_partIsDue R_notMayStand)), (oD, .inr (1, mkX1 D_oil D_weight D_treasury D_aldermen aD_lean aD_deaf D_motions aD_kind aD_call aD_cost aD_joy aD_follows aD_code D_codeLength aD_ruleFrom aD_ruleTo)), (aD_code, .inl (cc 0, 700, .inl D_code))] _ := hP
    have hD : va_D A [(oR, .inr (5, mkX5 aR_tape oD R_end R_place R_token R_start R_digits R_number 3 R_clockIsTold aR_waiting R_waits R_depth R_nots R_partIsDue R_notMayStand)), (oD, .inr (1, mkX1 D_oil D_weight D_treasury D_aldermen aD_lean aD_deaf D_motions aD_kind aD_call aD_cost aD_joy aD_follows aD_code D_codeLength aD_ruleFrom aD_ruleTo)), (aD_code, .inl (cc 0, 700, .inl D_code))] := hD
    obtain rfl := Option.some.inj hf
    exact retV C0 hP hD hS dX5_readValue_45
  · have hf := iff_ c3 hf
    refine lv_aload_n hx hb dX5_readValue_32 rfl (lv_at hl 1 rfl) ?_
    refine va_get (D := (dC, dI)) (ci := 5) (v := .int R_token) (C := RX5) (T := TX5) (N := 16) hx hb hG kinX5 hown hK hP 0 rfl rfl 4 (by decide) (hG _ kfX5_51) (fun _ h9 => h9) rfl dX5_readValue_33 ?_
    refine lv_iload_n hx hb dX5_readValue_36 rfl (lv_at hl 0 rfl) ?_
    refine lv_icmp_lt (tgt := 46) hx hb dX5_readValue_37 (by decide) (fun c4 => ?_) (fun c4 => ?_)
    · have hf := ift c4 hf
      refine lv_aload_n hx hb dX5_readValue_46 rfl (lv_at hl 1 rfl) ?_
      refine lv_iload_n hx hb dX5_readValue_47 rfl (lv_at hl 2 rfl) ?_
      refine lv_aload_n hx hb dX5_readValue_48 rfl (lv_at hl 1 rfl) ?_
      refine va_get (D := (dC, dI)) (ci := 5) (v := .int R_token) (C := RX5) (T := TX5) (N := 16) hx hb hG kinX5 hown hK hP 0 rfl rfl 4 (by decide) (hG _ kfX5_51) (fun _ h9 => h9) rfl dX5_readValue_49 ?_
      refine lv_isub hx hb dX5_readValue_52 ?_
      refine lv_iconst (v := 1) hx hb dX5_readValue_53 (by decide) ?_
      refine lv_isub hx hb dX5_readValue_54 ?_
      refine bd_el hf (fun v6 hv6 hf => ?_)
      refine callVv (As := [.int ((x2 - R_token) - (1 : Int32))]) (rest := []) (wr := []) (wn := [(oR, .inr (5, mkX5 aR_tape oD R_end R_place R_token R_start R_digits R_number R_fault R_clockIsTold aR_waiting R_waits R_depth R_nots R_partIsDue R_notMayStand)), (oD, .inr (1, mkX1 D_oil D_weight D_treasury D_aldermen aD_lean aD_deaf D_motions aD_kind aD_call aD_cost aD_joy aD_follows aD_code v6.1 aD_ruleFrom aD_ruleTo)), (aD_code, .inl (cc 0, 700, .inl v6.2))]) C0 kvX5_putCode kmX5_159 hP hD hS (mX5_putCode l dC dI cc oR aR_tape oD aR_waiting aD_lean aD_deaf aD_kind aD_call aD_cost aD_joy aD_follows aD_code aD_ruleFrom aD_ruleTo _ R_end R_place R_token R_start R_digits R_number R_fault R_clockIsTold R_waits R_depth R_nots R_partIsDue R_notMayStand D_oil D_weight D_treasury D_aldermen D_motions D_codeLength D_code ((x2 - R_token) - (1 : Int32)) hv6) ⟨rfl, rfl⟩ ⟨Nat.le_of_ble_eq_true rfl, Nat.le_of_ble_eq_true rfl⟩ [0, 1, 2] [] [0, 1, 2] rfl rfl rfl rfl (ci := 5) rfl rfl 0 rfl rfl hl.1 rfl (Nat.le_of_ble_eq_true rfl) ⟨Nat.zero_le _, Nat.zero_le _⟩ dX5_readValue_55 (fun H locs hP hD hS => ?_)
      refine lv_aload_n hx hb dX5_readValue_58 rfl (lv_at hl 1 rfl) ?_
      refine lv_iconst (v := 0) hx hb dX5_readValue_59 (by decide) ?_
      refine va_put (D := (dC, dI)) (ci := 5) (v := .int 0) (ty := .boolean) (C := RX5) (T := TX5) (N := 16) hx hb hG kinX5 tyX5 tyX5_ok nmX5 hown hK hP hD hS 0 rfl rfl 14 (by decide) (hG _ kfX5_131) (fun _ h9 => h9) rfl (by decide +kernel) rfl rfl (Nat.le_of_ble_eq_true rfl) dX5_readValue_60 (fun H locs hP hD hS => ?_)
      have hP : va_P (dC, dI) cLs [(oR, .inr (5, mkX5 aR_tape oD R_end R_place R_token R_start R_digits R_number R_fault R_clockIsTold aR_waiting R_waits R_depth R_nots 0 R_notMayStand)), (oD, .inr (1, mkX1 D_oil D_weight D_treasury D_aldermen aD_lean aD_deaf D_motions aD_kind aD_call aD_cost aD_joy aD_follows aD_code v6.1 aD_ruleFrom aD_ruleTo)), (aD_code, .inl (cc 0, 700, .inl v6.2))] _ := hP
      have hD : va_D A [(oR, .inr (5, mkX5 aR_tape oD R_end R_place R_token R_start R_digits R_number R_fault R_clockIsTold aR_waiting R_waits R_depth R_nots 0 R_notMayStand)), (oD, .inr (1, mkX1 D_oil D_weight D_treasury D_aldermen aD_lean aD_deaf D_motions aD_kind aD_call aD_cost aD_joy aD_follows aD_code v6.1 aD_ruleFrom aD_ruleTo)), (aD_code, .inl (cc 0, 700, .inl v6.2))] := hD
      obtain rfl := Option.some.inj hf
      exact retV C0 hP hD hS dX5_readValue_63
    · have hf := iff_ c4 hf
      refine lv_aload_n hx hb dX5_readValue_40 rfl (lv_at hl 1 rfl) ?_
      refine lv_iconst (v := 3) hx hb dX5_readValue_41 (by decide) ?_
      refine va_put (D := (dC, dI)) (ci := 5) (v := .int 3) (ty := .int) (C := RX5) (T := TX5) (N := 16) hx hb hG kinX5 tyX5 tyX5_ok nmX5 hown hK hP hD hS 0 rfl rfl 8 (by decide) (hG _ kfX5_36) (fun _ h9 => h9) rfl (by decide +kernel) rfl rfl (Nat.le_of_ble_eq_true rfl) dX5_readValue_42 (fun H locs hP hD hS => ?_)
      have hP : va_P (dC, dI) cLs [(oR, .inr (5, mkX5 aR_tape oD R_end R_place R_token R_start R_digits R_number 3 R_clockIsTold aR_waiting R_waits R_depth R_nots R_partIsDue R_notMayStand)), (oD, .inr (1, mkX1 D_oil D_weight D_treasury D_aldermen aD_lean aD_deaf D_motions aD_kind aD_call aD_cost aD_joy aD_follows aD_code D_codeLength aD_ruleFrom aD_ruleTo)), (aD_code, .inl (cc 0, 700, .inl D_code))] _ := hP
      have hD : va_D A [(oR, .inr (5, mkX5 aR_tape oD R_end R_place R_token R_start R_digits R_number 3 R_clockIsTold aR_waiting R_waits R_depth R_nots R_partIsDue R_notMayStand)), (oD, .inr (1, mkX1 D_oil D_weight D_treasury D_aldermen aD_lean aD_deaf D_motions aD_kind aD_call aD_cost aD_joy aD_follows aD_code D_codeLength aD_ruleFrom aD_ruleTo)), (aD_code, .inl (cc 0, 700, .inl D_code))] := hD
      obtain rfl := Option.some.inj hf
      exact retV C0 hP hD hS dX5_readValue_45
def jX5_readValue_11   (R_token : Int32) (R_fault : Int32) (R_partIsDue : Int32) (D_codeLength : Int32) (D_code : Nat → Int32) (x1 : Int32) (s0 : Int32) : Option (Int32 × Int32 × Int32 × (Nat → Int32)) :=
  if x1 = 0 then
    jX5_readValue_23 R_token R_fault R_partIsDue D_codeLength D_code s0 28
  else
    jX5_readValue_23 R_token R_fault R_partIsDue D_codeLength D_code s0 34
set_option maxHeartbeats 4000000 in
set_option maxRecDepth 100000 in
theorem wjX5_readValue_11 {p : Program} {l : Launch} {e : Env} {s : State} {m : MethodId} {args : Array Value} {below : List Frame} {meth : Method} {c : Code} {A : Nat → Prop} {dC : Nat → ClassId} {dI : Nat → Nat → Nat} {cc : Nat → ClassId} (C0 : CT p s m args meth c A dC dI cc cX5_readValue 4 none RX5) (oR aR_tape oD aR_waiting aD_lean aD_deaf aD_kind aD_call aD_cost aD_joy aD_follows aD_code aD_ruleFrom aD_ruleTo : Nat) (R_end : Int32) (R_place : Int32) (R_token : Int32) (R_start : Int32) (R_digits : Int32) (R_number : Int32) (R_fault : Int32) (R_clockIsTold : Int32) (R_waits : Int32) (R_depth : Int32) (R_nots : Int32) (R_partIsDue : Int32) (R_notMayStand : Int32) (D_oil : Int32) (D_weight : Int32) (D_treasury : Int32) (D_aldermen : Int32) (D_motions : Int32) (D_codeLength : Int32) (D_code : Nat → Int32) (x1 : Int32) {out : Int32 × Int32 × Int32 × (Nat → Int32)}   (s0 : Int32) (hf : jX5_readValue_11  R_token R_fault R_partIsDue D_codeLength D_code x1 s0 = some out) (H : Heap) (locs : List Loc) (hP : va_P (dC, dI) cLs [(oR, .inr (5, mkX5 aR_tape oD R_end R_place R_token R_start R_digits R_number R_fault R_clockIsTold aR_waiting R_waits R_depth R_nots R_partIsDue R_notMayStand)), (oD, .inr (1, mkX1 D_oil D_weight D_treasury D_aldermen aD_lean aD_deaf D_motions aD_kind aD_call aD_cost aD_joy aD_follows aD_code D_codeLength aD_ruleFrom aD_ruleTo)), (aD_code, .inl (cc 0, 700, .inl D_code))] H) (hD : va_D A [(oR, .inr (5, mkX5 aR_tape oD R_end R_place R_token R_start R_digits R_number R_fault R_clockIsTold aR_waiting R_waits R_depth R_nots R_partIsDue R_notMayStand)), (oD, .inr (1, mkX1 D_oil D_weight D_treasury D_aldermen aD_lean aD_deaf D_motions aD_kind aD_call aD_cost aD_joy aD_follows aD_code D_codeLength aD_ruleFrom aD_ruleTo)), (aD_code, .inl (cc 0, 700, .inl D_code))]) (hS : va_S A s.heap H locs) (ls : Array Slot) (hl : lv_has ls 4 [(0, .ref oR), (1, .int x1)]) : W p l e rmX5_readValue s m args below meth c H locs 0 0 (MQ below (QV dC dI cc [(oR, .inr (5, mkX5 aR_tape oD R_end R_place R_token R_start R_digits R_number out.1 R_clockIsTold aR_waiting R_waits R_depth R_nots out.2.1 R_notMayStand)), (oD, .inr (1, mkX1 D_oil D_weight D_treasury D_aldermen aD_lean aD_deaf D_motions aD_kind aD_call aD_cost aD_joy aD_follows aD_code out.2.2.1 aD_ruleFrom aD_ruleTo)), (aD_code, .inl (cc 0, 700, .inl out.2.2.2))] A) args s 0 0 A) (F0 m 11 ls [.int s0]) := by
  obtain ⟨hx, hb, hml, hr, hlocks, hown, hG, hK, hA⟩ := id C0
  unfold jX5_readValue_11 at hf
  refine lv_istore_n (lv' := [(2, .int s0), (0, .ref oR), (1, .int x1)]) hx hb dX5_readValue_11 rfl hl (by decide) rfl (fun ls hl => ?_)
  refine lv_iload_n hx hb dX5_readValue_12 rfl (lv_at hl 2 rfl) ?_
  refine lv_if_ne (tgt := 21) hx hb dX5_readValue_13 (by decide) (fun c2 => ?_) (fun c2 => ?_)
  · have hf := iff_ c2 hf
    refine lv_bipush (v := 34) hx hb dX5_readValue_21 (by decide) ?_
    exact wjX5_readValue_23 C0 oR aR_tape oD aR_waiting aD_lean aD_deaf aD_kind aD_call aD_cost aD_joy aD_follows aD_code aD_ruleFrom aD_ruleTo R_end R_place R_token R_start R_digits R_number R_fault R_clockIsTold R_waits R_depth R_nots R_partIsDue R_notMayStand D_oil D_weight D_treasury D_aldermen D_motions D_codeLength D_code s0   34 hf _ _ hP hD hS _ (lv_sub hl [1, 0] rfl)
  · have hf := ift c2 hf
    refine lv_bipush (v := 28) hx hb dX5_readValue_16 (by decide) ?_
    refine lv_goto (tgt := 23) hx hb dX5_readValue_18 (by decide) ?_
    exact wjX5_readValue_23 C0 oR aR_tape oD aR_waiting aD_lean aD_deaf aD_kind aD_call aD_cost aD_joy aD_follows aD_code aD_ruleFrom aD_ruleTo R_end R_place R_token R_start R_digits R_number R_fault R_clockIsTold R_waits R_depth R_nots R_partIsDue R_notMayStand D_oil D_weight D_treasury D_aldermen D_motions D_codeLength D_code s0   28 hf _ _ hP hD hS _ (lv_sub hl [1, 0] rfl)
def fX5_readValue  (R_token : Int32) (R_fault : Int32) (R_partIsDue : Int32) (D_codeLength : Int32) (D_code : Nat → Int32) (p0 : Int32) : Option (Int32 × Int32 × Int32 × (Nat → Int32)) :=
  if p0 = 0 then
    jX5_readValue_11 R_token R_fault R_partIsDue D_codeLength D_code p0 24
  else
    jX5_readValue_11 R_token R_fault R_partIsDue D_codeLength D_code p0 28
set_option maxHeartbeats 4000000 in
set_option maxRecDepth 100000 in
theorem bX5_readValue {p : Program} {l : Launch} {e : Env} {s : State} {m : MethodId} {args : Array Value} {below : List Frame} {meth : Method} {c : Code} {A : Nat → Prop} {dC : Nat → ClassId} {dI : Nat → Nat → Nat} {cc : Nat → ClassId} (C0 : CT p s m args meth c A dC dI cc cX5_readValue 4 none RX5) (oR aR_tape oD aR_waiting aD_lean aD_deaf aD_kind aD_call aD_cost aD_joy aD_follows aD_code aD_ruleFrom aD_ruleTo : Nat) (R_end : Int32) (R_place : Int32) (R_token : Int32) (R_start : Int32) (R_digits : Int32) (R_number : Int32) (R_fault : Int32) (R_clockIsTold : Int32) (R_waits : Int32) (R_depth : Int32) (R_nots : Int32) (R_partIsDue : Int32) (R_notMayStand : Int32) (D_oil : Int32) (D_weight : Int32) (D_treasury : Int32) (D_aldermen : Int32) (D_motions : Int32) (D_codeLength : Int32) (D_code : Nat → Int32) (p0 : Int32) {out : Int32 × Int32 × Int32 × (Nat → Int32)} (hf : fX5_readValue R_token R_fault R_partIsDue D_codeLength D_code p0 = some out) {H : Heap} {locs : List Loc} (hP : va_P (dC, dI) cLs [(oR, .inr (5, mkX5 aR_tape oD R_end R_place R_token R_start R_digits R_number R_fault R_clockIsTold aR_waiting R_waits R_depth R_nots R_partIsDue R_notMayStand)), (oD, .inr (1, mkX1 D_oil D_weight D_treasury D_aldermen aD_lean aD_deaf D_motions aD_kind aD_call aD_cost aD_joy aD_follows aD_code D_codeLength aD_ruleFrom aD_ruleTo)), (aD_code, .inl (cc 0, 700, .inl D_code))] H) (hD : va_D A [(oR, .inr (5, mkX5 aR_tape oD R_end R_place R_token R_start R_digits R_number R_fault R_clockIsTold aR_waiting R_waits R_depth R_nots R_partIsDue R_notMayStand)), (oD, .inr (1, mkX1 D_oil D_weight D_treasury D_aldermen aD_lean aD_deaf D_motions aD_kind aD_call aD_cost aD_joy aD_follows aD_code D_codeLength aD_ruleFrom aD_ruleTo)), (aD_code, .inl (cc 0, 700, .inl D_code))]) (hS : va_S A s.heap H locs) {ls : Array Slot} (hl : lv_has ls 4 [(0, .ref oR), (1, .int p0)]) : W p l e rmX5_readValue s m args below meth c H locs 0 0 (MQ below (QV dC dI cc [(oR, .inr (5, mkX5 aR_tape oD R_end R_place R_token R_start R_digits R_number out.1 R_clockIsTold aR_waiting R_waits R_depth R_nots out.2.1 R_notMayStand)), (oD, .inr (1, mkX1 D_oil D_weight D_treasury D_aldermen aD_lean aD_deaf D_motions aD_kind aD_call aD_cost aD_joy aD_follows aD_code out.2.2.1 aD_ruleFrom aD_ruleTo)), (aD_code, .inl (cc 0, 700, .inl out.2.2.2))] A) args s 0 0 A) (F0 m 0 ls []) := by
  obtain ⟨hx, hb, hml, hr, hlocks, hown, hG, hK, hA⟩ := id C0
  unfold fX5_readValue at hf
  refine lv_iload_n hx hb dX5_readValue_0 rfl (lv_at hl 1 rfl) ?_
  refine lv_if_ne (tgt := 9) hx hb dX5_readValue_1 (by decide) (fun c1 => ?_) (fun c1 => ?_)
  · have hf := iff_ c1 hf
    refine lv_bipush (v := 28) hx hb dX5_readValue_9 (by decide) ?_
    exact wjX5_readValue_11 C0 oR aR_tape oD aR_waiting aD_lean aD_deaf aD_kind aD_call aD_cost aD_joy aD_follows aD_code aD_ruleFrom aD_ruleTo R_end R_place R_token R_start R_digits R_number R_fault R_clockIsTold R_waits R_depth R_nots R_partIsDue R_notMayStand D_oil D_weight D_treasury D_aldermen D_motions D_codeLength D_code p0   28 hf _ _ hP hD hS _ (lv_sub hl [0, 1] rfl)
  · have hf := ift c1 hf
    refine lv_bipush (v := 24) hx hb dX5_readValue_4 (by decide) ?_
    refine lv_goto (tgt := 11) hx hb dX5_readValue_6 (by decide) ?_
    exact wjX5_readValue_11 C0 oR aR_tape oD aR_waiting aD_lean aD_deaf aD_kind aD_call aD_cost aD_joy aD_follows aD_code aD_ruleFrom aD_ruleTo R_end R_place R_token R_start R_digits R_number R_fault R_clockIsTold R_waits R_depth R_nots R_partIsDue R_notMayStand D_oil D_weight D_treasury D_aldermen D_motions D_codeLength D_code p0   24 hf _ _ hP hD hS _ (lv_sub hl [0, 1] rfl)
theorem mX5_readValue (l : Launch) (dC : Nat → ClassId) (dI : Nat → Nat → Nat) (cc : Nat → ClassId) (oR aR_tape oD aR_waiting aD_lean aD_deaf aD_kind aD_call aD_cost aD_joy aD_follows aD_code aD_ruleFrom aD_ruleTo : Nat) (sz : Nat) (R_end : Int32) (R_place : Int32) (R_token : Int32) (R_start : Int32) (R_digits : Int32) (R_number : Int32) (R_fault : Int32) (R_clockIsTold : Int32) (R_waits : Int32) (R_depth : Int32) (R_nots : Int32) (R_partIsDue : Int32) (R_notMayStand : Int32) (D_oil : Int32) (D_weight : Int32) (D_treasury : Int32) (D_aldermen : Int32) (D_motions : Int32) (D_codeLength : Int32) (D_code : Nat → Int32) (p0 : Int32) {out : Int32 × Int32 × Int32 × (Nat → Int32)} (hf : fX5_readValue R_token R_fault R_partIsDue D_codeLength D_code p0 = some out) : Met l yX5_readValue (Cond.code yX5_readValue cX5_readValue 4 none :: GW) rmX5_readValue (PI dC dI cc [.ref oR, .int p0] [(oR, .inr (5, mkX5 aR_tape oD R_end R_place R_token R_start R_digits R_number R_fault R_clockIsTold aR_waiting R_waits R_depth R_nots R_partIsDue R_notMayStand)), (oD, .inr (1, mkX1 D_oil D_weight D_treasury D_aldermen aD_lean aD_deaf D_motions aD_kind aD_call aD_cost aD_joy aD_follows aD_code D_codeLength aD_ruleFrom aD_ruleTo)), (aD_code, .inl (cc 0, 700, .inl D_code))] sz) (QV dC dI cc [(oR, .inr (5, mkX5 aR_tape oD R_end R_place R_token R_start R_digits R_number out.1 R_clockIsTold aR_waiting R_waits R_depth R_nots out.2.1 R_notMayStand)), (oD, .inr (1, mkX1 D_oil D_weight D_treasury D_aldermen aD_lean aD_deaf D_motions aD_kind aD_call aD_cost aD_joy aD_follows aD_code out.2.2.1 aD_ruleFrom aD_ruleTo)), (aD_code, .inl (cc 0, 700, .inl out.2.2.2))] (va_A [(oR, .inr (5, mkX5 aR_tape oD R_end R_place R_token R_start R_digits R_number R_fault R_clockIsTold aR_waiting R_waits R_depth R_nots R_partIsDue R_notMayStand)), (oD, .inr (1, mkX1 D_oil D_weight D_treasury D_aldermen aD_lean aD_deaf D_motions aD_kind aD_call aD_cost aD_joy aD_follows aD_code D_codeLength aD_ruleFrom aD_ruleTo)), (aD_code, .inl (cc 0, 700, .inl D_code))] sz)) 0 0 (va_A [(oR, .inr (5, mkX5 aR_tape oD R_end R_place R_token R_start R_digits R_number R_fault R_clockIsTold aR_waiting R_waits R_depth R_nots R_partIsDue R_notMayStand)), (oD, .inr (1, mkX1 D_oil D_weight D_treasury D_aldermen aD_lean aD_deaf D_motions aD_kind aD_call aD_cost aD_joy aD_follows aD_code D_codeLength aD_ruleFrom aD_ruleTo)), (aD_code, .inl (cc 0, 700, .inl D_code))] sz) :=
  met_of (Q := fun A => QV dC dI cc [(oR, .inr (5, mkX5 aR_tape oD R_end R_place R_token R_start R_digits R_number out.1 R_clockIsTold aR_waiting R_waits R_depth R_nots out.2.1 R_notMayStand)), (oD, .inr (1, mkX1 D_oil D_weight D_treasury D_aldermen aD_lean aD_deaf D_motions aD_kind aD_call aD_cost aD_joy aD_follows aD_code out.2.2.1 aD_ruleFrom aD_ruleTo)), (aD_code, .inl (cc 0, 700, .inl out.2.2.2))] A) (by decide) rfl (Nat.le_of_ble_eq_true rfl) (fun p e s m below meth c A C0 hP hD hS ls hl => bX5_readValue C0 oR aR_tape oD aR_waiting aD_lean aD_deaf aD_kind aD_call aD_cost aD_joy aD_follows aD_code aD_ruleFrom aD_ruleTo R_end R_place R_token R_start R_digits R_number R_fault R_clockIsTold R_waits R_depth R_nots R_partIsDue R_notMayStand D_oil D_weight D_treasury D_aldermen D_motions D_codeLength D_code p0 hf hP hD hS hl)
abbrev rmX5_readPart : Room := { frames := 2, cells := 0, slots := 0, locals := 45 }
def jX5_readPart_76   (R_token : Int32) (R_number : Int32) (R_fault : Int32) (R_waits : Int32) (R_depth : Int32) (R_nots : Int32) (R_partIsDue : Int32) (R_notMayStand : Int32) (R_waiting : Nat → Int32) (D_codeLength : Int32) (D_code : Nat → Int32) (x1 : Int32)  : Option (Int32 × Int32 × Int32 × Int32 × Int32 × Int32 × (Nat → Int32) × Int32 × (Nat → Int32)) :=
  if R_token = 2 then
    (fX5_putCode D_codeLength D_code R_number).bind fun v18 =>
    some (R_fault, R_waits, R_depth, R_nots, 0, R_notMayStand, R_waiting, v18.1, v18.2)
  else
    if R_token = 4 then
      (fX5_putWaiting R_waits R_waiting 0).bind fun v16 =>
      some (R_fault, v16.1, (R_depth + (1 : Int32)), 0, R_partIsDue, 1, v16.2, D_codeLength, D_code)
    else
      if R_token = 23 then
        if R_notMayStand = 0 then
          (fX5_readValue R_token R_fault R_partIsDue D_codeLength D_code x1).bind fun v12 =>
          some (v12.1, R_waits, R_depth, R_nots, v12.2.1, R_notMayStand, R_waiting, v12.2.2.1, v12.2.2.2)
        else
          (fX5_readNot R_fault R_waits R_nots R_waiting).bind fun v14 =>
          some (v14.1, v14.2.1, R_depth, v14.2.2.1, R_partIsDue, R_notMayStand, v14.2.2.2, D_codeLength, D_code)
      else
        (fX5_readValue R_token R_fault R_partIsDue D_codeLength D_code x1).bind fun v9 =>
        some (v9.1, R_waits, R_depth, R_nots, v9.2.1, R_notMayStand, R_waiting, v9.2.2.1, v9.2.2.2)
set_option maxHeartbeats 4000000 in
set_option maxRecDepth 100000 in
theorem wjX5_readPart_76 {p : Program} {l : Launch} {e : Env} {s : State} {m : MethodId} {args : Array Value} {below : List Frame} {meth : Method} {c : Code} {A : Nat → Prop} {dC : Nat → ClassId} {dI : Nat → Nat → Nat} {cc : Nat → ClassId} (C0 : CT p s m args meth c A dC dI cc cX5_readPart 3 none RX5) (oR aR_tape oD aR_waiting aD_lean aD_deaf aD_kind aD_call aD_cost aD_joy aD_follows aD_code aD_ruleFrom aD_ruleTo : Nat) (R_end : Int32) (R_place : Int32) (R_token : Int32) (R_start : Int32) (R_digits : Int32) (R_number : Int32) (R_fault : Int32) (R_clockIsTold : Int32) (R_waits : Int32) (R_depth : Int32) (R_nots : Int32) (R_partIsDue : Int32) (R_notMayStand : Int32) (R_waiting : Nat → Int32) (D_oil : Int32) (D_weight : Int32) (D_treasury : Int32) (D_aldermen : Int32) (D_motions : Int32) (D_codeLength : Int32) (D_code : Nat → Int32) (x1 : Int32) {out : Int32 × Int32 × Int32 × Int32 × Int32 × Int32 × (Nat → Int32) × Int32 × (Nat → Int32)}    (hf : jX5_readPart_76  R_token R_number R_fault R_waits R_depth R_nots R_partIsDue R_notMayStand R_waiting D_codeLength D_code x1  = some out) (H : Heap) (locs : List Loc) (hP : va_P (dC, dI) cLs [(oR, .inr (5, mkX5 aR_tape oD R_end R_place R_token R_start R_digits R_number R_fault R_clockIsTold aR_waiting R_waits R_depth R_nots R_partIsDue R_notMayStand)), (oD, .inr (1, mkX1 D_oil D_weight D_treasury D_aldermen aD_lean aD_deaf D_motions aD_kind aD_call aD_cost aD_joy aD_follows aD_code D_codeLength aD_ruleFrom aD_ruleTo)), (aR_waiting, .inl (cc 0, 80, .inl R_waiting)), (aD_code, .inl (cc 0, 700, .inl D_code))] H) (hD : va_D A [(oR, .inr (5, mkX5 aR_tape oD R_end R_place R_token R_start R_digits R_number R_fault R_clockIsTold aR_waiting R_waits R_depth R_nots R_partIsDue R_notMayStand)), (oD, .inr (1, mkX1 D_oil D_weight D_treasury D_aldermen aD_lean aD_deaf D_motions aD_kind aD_call aD_cost aD_joy aD_follows aD_code D_codeLength aD_ruleFrom aD_ruleTo)), (aR_waiting, .inl (cc 0, 80, .inl R_waiting)), (aD_code, .inl (cc 0, 700, .inl D_code))]) (hS : va_S A s.heap H locs) (ls : Array Slot) (hl : lv_has ls 3 [(0, .ref oR), (1, .int x1)]) : W p l e rmX5_readPart s m args below meth c H locs 0 0 (MQ below (QV dC dI cc [(oR, .inr (5, mkX5 aR_tape oD R_end R_place R_token R_start R_digits R_number out.1 R_clockIsTold aR_waiting out.2.1 out.2.2.1 out.2.2.2.1 out.2.2.2.2.1 out.2.2.2.2.2.1)), (oD, .inr (1, mkX1 D_oil D_weight D_treasury D_aldermen aD_lean aD_deaf D_motions aD_kind aD_call aD_cost aD_joy aD_follows aD_code out.2.2.2.2.2.2.2.1 aD_ruleFrom aD_ruleTo)), (aR_waiting, .inl (cc 0, 80, .inl out.2.2.2.2.2.2.1)), (aD_code, .inl (cc 0, 700, .inl out.2.2.2.2.2.2.2.2))] A) args s 0 0 A) (F0 m 76 ls []) := by
  obtain ⟨hx, hb, hml, hr, hlocks, hown, hG, hK, hA⟩ := id C0
  unfold jX5_readPart_76 at hf
  refine lv_aload_n hx hb dX5_readPart_76 rfl (lv_at hl 0 rfl) ?_
  refine va_get (D := (dC, dI)) (ci := 5) (v := .int R_token) (C := RX5) (T := TX5) (N := 16) hx hb hG kinX5 hown hK hP 0 rfl rfl 4 (by decide) (hG _ kfX5_51) (fun _ h9 => h9) rfl dX5_readPart_77 ?_
  refine lv_iconst (v := 2) hx hb dX5_readPart_80 (by decide) ?_
  refine lv_icmp_ne (tgt := 100) hx hb dX5_readPart_81 (by decide) (fun c5 => ?_) (fun c5 => ?_)
  · have hf := iff_ c5 hf
    refine lv_aload_n hx hb dX5_readPart_100 rfl (lv_at hl 0 rfl) ?_
    refine va_get (D := (dC, dI)) (ci := 5) (v := .int R_token) (C := RX5) (T := TX5) (N := 16) hx hb hG kinX5 hown hK hP 0 rfl rfl 4 (by decide) (hG _ kfX5_51) (fun _ h9 => h9) rfl dX5_readPart_101 ?_
    refine lv_iconst (v := 4) hx hb dX5_readPart_104 (by decide) ?_
    refine lv_icmp_ne (tgt := 136) hx hb dX5_readPart_105 (by decide) (fun c6 => ?_) (fun c6 => ?_)
    · have hf := iff_ c6 hf
      refine lv_aload_n hx hb dX5_readPart_136 rfl (lv_at hl 0 rfl) ?_
      refine va_get (D := (dC, dI)) (ci := 5) (v := .int R_token) (C := RX5) (T := TX5) (N := 16) hx hb hG kinX5 hown hK hP 0 rfl rfl 4 (by decide) (hG _ kfX5_51) (fun _ h9 => h9) rfl dX5_readPart_137 ?_
      refine lv_bipush (v := 23) hx hb dX5_readPart_140 (by decide) ?_
      refine lv_icmp_ne (tgt := 159) hx hb dX5_readPart_142 (by decide) (fun c7 => ?_) (fun c7 => ?_)
      · have hf := iff_ c7 hf
        refine lv_aload_n hx hb dX5_readPart_159 rfl (lv_at hl 0 rfl) ?_
        refine lv_iload_n hx hb dX5_readPart_160 rfl (lv_at hl 1 rfl) ?_
        refine bd_el hf (fun v9 hv9 hf => ?_)
        refine callVv (As := [.int x1]) (rest := []) (wr := [(aR_waiting, .inl (cc 0, 80, .inl R_waiting))]) (wn := [(oR, .inr (5, mkX5 aR_tape oD R_end R_place R_token R_start R_digits R_number v9.1 R_clockIsTold aR_waiting R_waits R_depth R_nots v9.2.1 R_notMayStand)), (oD, .inr (1, mkX1 D_oil D_weight D_treasury D_aldermen aD_lean aD_deaf D_motions aD_kind aD_call aD_cost aD_joy aD_follows aD_code v9.2.2.1 aD_ruleFrom aD_ruleTo)), (aR_waiting, .inl (cc 0, 80, .inl R_waiting)), (aD_code, .inl (cc 0, 700, .inl v9.2.2.2))]) C0 kvX5_readValue kmX5_168 hP hD hS (mX5_readValue l dC dI cc oR aR_tape oD aR_waiting aD_lean aD_deaf aD_kind aD_call aD_cost aD_joy aD_follows aD_code aD_ruleFrom aD_ruleTo _ R_end R_place R_token R_start R_digits R_number R_fault R_clockIsTold R_waits R_depth R_nots R_partIsDue R_notMayStand D_oil D_weight D_treasury D_aldermen D_motions D_codeLength D_code x1 hv9) ⟨rfl, rfl⟩ ⟨Nat.le_of_ble_eq_true rfl, Nat.le_of_ble_eq_true rfl⟩ [0, 1, 3] [2] [1, 2, 0, 3] rfl rfl rfl rfl (ci := 5) rfl rfl 0 rfl rfl hl.1 rfl (Nat.le_of_ble_eq_true rfl) ⟨Nat.zero_le _, Nat.zero_le _⟩ dX5_readPart_161 (fun H locs hP hD hS => ?_)
        obtain rfl := Option.some.inj hf
        exact retV C0 hP hD hS dX5_readPart_164
      · have hf := ift c7 hf
        refine lv_aload_n hx hb dX5_readPart_145 rfl (lv_at hl 0 rfl) ?_
        refine va_get (D := (dC, dI)) (ci := 5) (v := .int R_notMayStand) (C := RX5) (T := TX5) (N := 16) hx hb hG kinX5 hown hK hP 0 rfl rfl 15 (by decide) (hG _ kfX5_134) (fun _ h9 => h9) rfl dX5_readPart_146 ?_
        refine lv_if_eq (tgt := 159) hx hb dX5_readPart_149 (by decide) (fun c10 => ?_) (fun c10 => ?_)
        · have hf := ift c10 hf
          refine lv_aload_n hx hb dX5_readPart_159 rfl (lv_at hl 0 rfl) ?_
          refine lv_iload_n hx hb dX5_readPart_160 rfl (lv_at hl 1 rfl) ?_
          refine bd_el hf (fun v12 hv12 hf => ?_)
          refine callVv (As := [.int x1]) (rest := []) (wr := [(aR_waiting, .inl (cc 0, 80, .inl R_waiting))]) (wn := [(oR, .inr (5, mkX5 aR_tape oD R_end R_place R_token R_start R_digits R_number v12.1 R_clockIsTold aR_waiting R_waits R_depth R_nots v12.2.1 R_notMayStand)), (oD, .inr (1, mkX1 D_oil D_weight D_treasury D_aldermen aD_lean aD_deaf D_motions aD_kind aD_call aD_cost aD_joy aD_follows aD_code v12.2.2.1 aD_ruleFrom aD_ruleTo)), (aR_waiting, .inl (cc 0, 80, .inl R_waiting)), (aD_code, .inl (cc 0, 700, .inl v12.2.2.2))]) C0 kvX5_readValue kmX5_168 hP hD hS (mX5_readValue l dC dI cc oR aR_tape oD aR_waiting aD_lean aD_deaf aD_kind aD_call aD_cost aD_joy aD_follows aD_code aD_ruleFrom aD_ruleTo _ R_end R_place R_token R_start R_digits R_number R_fault R_clockIsTold R_waits R_depth R_nots R_partIsDue R_notMayStand D_oil D_weight D_treasury D_aldermen D_motions D_codeLength D_code x1 hv12) ⟨rfl, rfl⟩ ⟨Nat.le_of_ble_eq_true rfl, Nat.le_of_ble_eq_true rfl⟩ [0, 1, 3] [2] [1, 2, 0, 3] rfl rfl rfl rfl (ci := 5) rfl rfl 0 rfl rfl hl.1 rfl (Nat.le_of_ble_eq_true rfl) ⟨Nat.zero_le _, Nat.zero_le _⟩ dX5_readPart_161 (fun H locs hP hD hS => ?_)
          obtain rfl := Option.some.inj hf
          exact retV C0 hP hD hS dX5_readPart_164
        · have hf := iff_ c10 hf
          refine lv_aload_n hx hb dX5_readPart_152 rfl (lv_at hl 0 rfl) ?_
          refine bd_el hf (fun v14 hv14 hf => ?_)
          refine callVv (As := []) (rest := []) (wr := [(oD, .inr (1, mkX1 D_oil D_weight D_treasury D_aldermen aD_lean aD_deaf D_motions aD_kind aD_call aD_cost aD_joy aD_follows aD_code D_codeLength aD_ruleFrom aD_ruleTo)), (aD_code, .inl (cc 0, 700, .inl D_code))]) (wn := [(oR, .inr (5, mkX5 aR_tape oD R_end R_place R_token R_start R_digits R_number v14.1 R_clockIsTold aR_waiting v14.2.1 R_depth v14.2.2.1 R_partIsDue R_notMayStand)), (oD, .inr (1, mkX1 D_oil D_weight D_treasury D_aldermen aD_lean aD_deaf D_motions aD_kind aD_call aD_cost aD_joy aD_follows aD_code D_codeLength aD_ruleFrom aD_ruleTo)), (aR_waiting, .inl (cc 0, 80, .inl v14.2.2.2)), (aD_code, .inl (cc 0, 700, .inl D_code))]) C0 kvX5_readNot kmX5_165 hP hD hS (mX5_readNot l dC dI cc oR aR_tape oD aR_waiting _ R_end R_place R_token R_start R_digits R_number R_fault R_clockIsTold R_waits R_depth R_nots R_partIsDue R_notMayStand R_waiting hv14) ⟨rfl, rfl⟩ ⟨Nat.le_of_ble_eq_true rfl, Nat.le_of_ble_eq_true rfl⟩ [0, 2] [1, 3] [2, 0, 3, 1] rfl rfl rfl rfl (ci := 5) rfl rfl 0 rfl rfl hl.1 rfl (Nat.le_of_ble_eq_true rfl) ⟨Nat.zero_le _, Nat.zero_le _⟩ dX5_readPart_153 (fun H locs hP hD hS => ?_)
          refine lv_goto (tgt := 164) hx hb dX5_readPart_156 (by decide) ?_
          obtain rfl := Option.some.inj hf
          exact retV C0 hP hD hS dX5_readPart_164
    · have hf := ift c6 hf
      refine lv_aload_n hx hb dX5_readPart_108 rfl (lv_at hl 0 rfl) ?_
      refine lv_iconst (v := 0) hx hb dX5_readPart_109 (by decide) ?_
      refine bd_el hf (fun v16 hv16 hf => ?_)
      refine callVv (As := [.int 0]) (rest := []) (wr := [(oD, .inr (1, mkX1 D_oil D_weight D_treasury D_aldermen aD_lean aD_deaf D_motions aD_kind aD_call aD_cost aD_joy aD_follows aD_code D_codeLength aD_ruleFrom aD_ruleTo)), (aD_code, .inl (cc 0, 700, .inl D_code))]) (wn := [(oR, .inr (5, mkX5 aR_tape oD R_end R_place R_token R_start R_digits R_number R_fault R_clockIsTold aR_waiting v16.1 R_depth R_nots R_partIsDue R_notMayStand)), (oD, .inr (1, mkX1 D_oil D_weight D_treasury D_aldermen aD_lean aD_deaf D_motions aD_kind aD_call aD_cost aD_joy aD_follows aD_code D_codeLength aD_ruleFrom aD_ruleTo)), (aR_waiting, .inl (cc 0, 80, .inl v16.2)), (aD_code, .inl (cc 0, 700, .inl D_code))]) C0 kvX5_putWaiting kmX5_162 hP hD hS (mX5_putWaiting l dC dI cc oR aR_tape oD aR_waiting _ R_end R_place R_token R_start R_digits R_number R_fault R_clockIsTold R_waits R_depth R_nots R_partIsDue R_notMayStand R_waiting 0 hv16) ⟨rfl, rfl⟩ ⟨Nat.le_of_ble_eq_true rfl, Nat.le_of_ble_eq_true rfl⟩ [0, 2] [1, 3] [2, 0, 3, 1] rfl rfl rfl rfl (ci := 5) rfl rfl 0 rfl rfl hl.1 rfl (Nat.le_of_ble_eq_true rfl) ⟨Nat.zero_le _, Nat.zero_le _⟩ dX5_readPart_110 (fun H locs hP hD hS => ?_)
      refine lv_aload_n hx hb dX5_readPart_113 rfl (lv_at hl 0 rfl) ?_
      refine lv_dup hx hb dX5_readPart_114 rfl ?_
      refine va_get (D := (dC, dI)) (ci := 5) (v := .int R_depth) (C := RX5) (T := TX5) (N := 16) hx hb hG kinX5 hown hK hP 0 rfl rfl 12 (by decide) (hG _ kfX5_125) (fun _ h9 => h9) rfl dX5_readPart_115 ?_
      refine lv_iconst (v := 1) hx hb dX5_readPart_118 (by decide) ?_
      refine lv_iadd hx hb dX5_readPart_119 ?_
      refine va_put (D := (dC, dI)) (ci := 5) (v := .int (R_depth + (1 : Int32))) (ty := .int) (C := RX5) (T := TX5) (N := 16) hx hb hG kinX5 tyX5 tyX5_ok nmX5 hown hK hP hD hS 0 rfl rfl 12 (by decide) (hG _ kfX5_125) (fun _ h9 => h9) rfl (by decide +kernel) rfl rfl (Nat.le_of_ble_eq_true rfl) dX5_readPart_120 (fun H locs hP hD hS => ?_)
      have hP : va_P (dC, dI) cLs [(oR, .inr (5, mkX5 aR_tape oD R_end R_place R_token R_start R_digits R_number R_fault R_clockIsTold aR_waiting v16.1 (R_depth + (1 : Int32)) R_nots R_partIsDue R_notMayStand)), (oD, .inr (1, mkX1 D_oil D_weight D_treasury D_aldermen aD_lean aD_deaf D_motions aD_kind aD_call aD_cost aD_joy aD_follows aD_code D_codeLength aD_ruleFrom aD_ruleTo)), (aR_waiting, .inl (cc 0, 80, .inl v16.2)), (aD_code, .inl (cc 0, 700, .inl D_code))] _ := hP
      have hD : va_D A [(oR, .inr (5, mkX5 aR_tape oD R_end R_place R_token R_start R_digits R_number R_fault R_clockIsTold aR_waiting v16.1 (R_depth + (1 : Int32)) R_nots R_partIsDue R_notMayStand)), (oD, .inr (1, mkX1 D_oil D_weight D_treasury D_aldermen aD_lean aD_deaf D_motions aD_kind aD_call aD_cost aD_joy aD_follows aD_code D_codeLength aD_ruleFrom aD_ruleTo)), (aR_waiting, .inl (cc 0, 80, .inl v16.2)), (aD_code, .inl (cc 0, 700, .inl D_code))] := hD
      refine lv_aload_n hx hb dX5_readPart_123 rfl (lv_at hl 0 rfl) ?_
      refine lv_iconst (v := 0) hx hb dX5_readPart_124 (by decide) ?_
      refine va_put (D := (dC, dI)) (ci := 5) (v := .int 0) (ty := .int) (C := RX5) (T := TX5) (N := 16) hx hb hG kinX5 tyX5 tyX5_ok nmX5 hown hK hP hD hS 0 rfl rfl 13 (by decide) (hG _ kfX5_128) (fun _ h9 => h9) rfl (by decide +kernel) rfl rfl (Nat.le_of_ble_eq_true rfl) dX5_readPart_125 (fun H locs hP hD hS => ?_)
      have hP : va_P (dC, dI) cLs [(oR, .inr (5, mkX5 aR_tape oD R_end R_place R_token R_start R_digits R_number R_fault R_clockIsTold aR_waiting v16.1 (R_depth + (1 : Int32)) 0 R_partIsDue R_notMayStand)), (oD, .inr (1, mkX1 D_oil D_weight D_treasury D_aldermen aD_lean aD_deaf D_motions aD_kind aD_call aD_cost aD_joy aD_follows aD_code D_codeLength aD_ruleFrom aD_ruleTo)), (aR_waiting, .inl (cc 0, 80, .inl v16.2)), (aD_code, .inl (cc 0, 700, .inl D_code))] _ := hP
      have hD : va_D A [(oR, .inr (5, mkX5 aR_tape oD R_end R_place R_token R_start R_digits R_number R_fault R_clockIsTold aR_waiting v16.1 (R_depth + (1 : Int32)) 0 R_partIsDue R_notMayStand)), (oD, .inr (1, mkX1 D_oil D_weight D_treasury D_aldermen aD_lean aD_deaf D_motions aD_kind aD_call aD_cost aD_joy aD_follows aD_code D_codeLength aD_ruleFrom aD_ruleTo)), (aR_waiting, .inl (cc 0, 80, .inl v16.2)), (aD_code, .inl (cc 0, 700, .inl D_code))] := hD
      refine lv_aload_n hx hb dX5_readPart_128 rfl (lv_at hl 0 rfl) ?_
      refine lv_iconst (v := 1) hx hb dX5_readPart_129 (by decide) ?_
      refine va_put (D := (dC, dI)) (ci := 5) (v := .int 1) (ty := .boolean) (C := RX5) (T := TX5) (N := 16) hx hb hG kinX5 tyX5 tyX5_ok nmX5 hown hK hP hD hS 0 rfl rfl 15 (by decide) (hG _ kfX5_134) (fun _ h9 => h9) rfl (by decide +kernel) rfl rfl (Nat.le_of_ble_eq_true rfl) dX5_readPart_130 (fun H locs hP hD hS => ?_)
      have hP : va_P (dC, dI) cLs [(oR, .inr (5, mkX5 aR_tape oD R_end R_place R_token R_start R_digits R_number R_fault R_clockIsTold aR_waiting v16.1 (R_depth + (1 : Int32)) 0 R_partIsDue 1)), (oD, .inr (1, mkX1 D_oil D_weight D_treasury D_aldermen aD_lean aD_deaf D_motions aD_kind aD_call aD_cost aD_joy aD_follows aD_code D_codeLength aD_ruleFrom aD_ruleTo)), (aR_waiting, .inl (cc 0, 80, .inl v16.2)), (aD_code, .inl (cc 0, 700, .inl D_code))] _ := hP
      have hD : va_D A [(oR, .inr (5, mkX5 aR_tape oD R_end R_place R_token R_start R_digits R_number R_fault R_clockIsTold aR_waiting v16.1 (R_depth + (1 : Int32)) 0 R_partIsDue 1)), (oD, .inr (1, mkX1 D_oil D_weight D_treasury D_aldermen aD_lean aD_deaf D_motions aD_kind aD_call aD_cost aD_joy aD_follows aD_code D_codeLength aD_ruleFrom aD_ruleTo)), (aR_waiting, .inl (cc 0, 80, .inl v16.2)), (aD_code, .inl (cc 0, 700, .inl D_code))] := hD
      refine lv_goto (tgt := 164) hx hb dX5_readPart_133 (by decide) ?_
      obtain rfl := Option.some.inj hf
      exact retV C0 hP hD hS dX5_readPart_164
  · have hf := ift c5 hf
    refine lv_aload_n hx hb dX5_readPart_84 rfl (lv_at hl 0 rfl) ?_
    refine lv_aload_n hx hb dX5_readPart_85 rfl (lv_at hl 0 rfl) ?_
    refine va_get (D := (dC, dI)) (ci := 5) (v := .int R_number) (C := RX5) (T := TX5) (N := 16) hx hb hG kinX5 hown hK hP 0 rfl rfl 7 (by decide) (hG _ kfX5_115) (fun _ h9 => h9) rfl dX5_readPart_86 ?_
    refine bd_el hf (fun v18 hv18 hf => ?_)
    refine callVv (As := [.int R_number]) (rest := []) (wr := [(aR_waiting, .inl (cc 0, 80, .inl R_waiting))]) (wn := [(oR, .inr (5, mkX5 aR_tape oD R_end R_place R_token R_start R_digits R_number R_fault R_clockIsTold aR_waiting R_waits R_depth R_nots R_partIsDue R_notMayStand)), (oD, .inr (1, mkX1 D_oil D_weight D_treasury D_aldermen aD_lean aD_deaf D_motions aD_kind aD_call aD_cost aD_joy aD_follows aD_code v18.1 aD_ruleFrom aD_ruleTo)), (aR_waiting, .inl (cc 0, 80, .inl R_waiting)), (aD_code, .inl (cc 0, 700, .inl v18.2))]) C0 kvX5_putCode kmX5_159 hP hD hS (mX5_putCode l dC dI cc oR aR_tape oD aR_waiting aD_lean aD_deaf aD_kind aD_call aD_cost aD_joy aD_follows aD_code aD_ruleFrom aD_ruleTo _ R_end R_place R_token R_start R_digits R_number R_fault R_clockIsTold R_waits R_depth R_nots R_partIsDue R_notMayStand D_oil D_weight D_treasury D_aldermen D_motions D_codeLength D_code R_number hv18) ⟨rfl, rfl⟩ ⟨Nat.le_of_ble_eq_true rfl, Nat.le_of_ble_eq_true rfl⟩ [0, 1, 3] [2] [1, 2, 0, 3] rfl rfl rfl rfl (ci := 5) rfl rfl 0 rfl rfl hl.1 rfl (Nat.le_of_ble_eq_true rfl) ⟨Nat.zero_le _, Nat.zero_le _⟩ dX5_readPart_89 (fun H locs hP hD hS => ?_)
    refine lv_aload_n hx hb dX5_readPart_92 rfl (lv_at hl 0 rfl) ?_
    refine lv_iconst (v := 0) hx hb dX5_readPart_93 (by decide) ?_
    refine va_put (D := (dC, dI)) (ci := 5) (v := .int 0) (ty := .boolean) (C := RX5) (T := TX5) (N := 16) hx hb hG kinX5 tyX5 tyX5_ok nmX5 hown hK hP hD hS 0 rfl rfl 14 (by decide) (hG _ kfX5_131) (fun _ h9 => h9) rfl (by decide +kernel) rfl rfl (Nat.le_of_ble_eq_true rfl) dX5_readPart_94 (fun H locs hP hD hS => ?_)
    have hP : va_P (dC, dI) cLs [(oR, .inr (5, mkX5 aR_tape oD R_end R_place R_token R_start R_digits R_number R_fault R_clockIsTold aR_waiting R_waits R_depth R_nots 0 R_notMayStand)), (oD, .inr (1, mkX1 D_oil D_weight D_treasury D_aldermen aD_lean aD_deaf D_motions aD_kind aD_call aD_cost aD_joy aD_follows aD_code v18.1 aD_ruleFrom aD_ruleTo)), (aR_waiting, .inl (cc 0, 80, .inl R_waiting)), (aD_code, .inl (cc 0, 700, .inl v18.2))] _ := hP
    have hD : va_D A [(oR, .inr (5, mkX5 aR_tape oD R_end R_place R_token R_start R_digits R_number R_fault R_clockIsTold aR_waiting R_waits R_depth R_nots 0 R_notMayStand)), (oD, .inr (1, mkX1 D_oil D_weight D_treasury D_aldermen aD_lean aD_deaf D_motions aD_kind aD_call aD_cost aD_joy aD_follows aD_code v18.1 aD_ruleFrom aD_ruleTo)), (aR_waiting, .inl (cc 0, 80, .inl R_waiting)), (aD_code, .inl (cc 0, 700, .inl v18.2))] := hD
    refine lv_goto (tgt := 164) hx hb dX5_readPart_97 (by decide) ?_
    obtain rfl := Option.some.inj hf
    exact retV C0 hP hD hS dX5_readPart_164
def jX5_readPart_43   (R_token : Int32) (R_digits : Int32) (R_number : Int32) (R_fault : Int32) (R_waits : Int32) (R_depth : Int32) (R_nots : Int32) (R_partIsDue : Int32) (R_notMayStand : Int32) (R_waiting : Nat → Int32) (D_codeLength : Int32) (D_code : Nat → Int32) (x1 : Int32)  : Option (Int32 × Int32 × Int32 × Int32 × Int32 × Int32 × (Nat → Int32) × Int32 × (Nat → Int32)) :=
  if 6 ≤ R_depth then
    some (2, R_waits, R_depth, R_nots, R_partIsDue, R_notMayStand, R_waiting, D_codeLength, D_code)
  else
    if R_token = 2 then
      if R_digits ≤ 4 then
        jX5_readPart_76 R_token R_number R_fault R_waits R_depth R_nots R_partIsDue R_notMayStand R_waiting D_codeLength D_code x1
      else
        some (2, R_waits, R_depth, R_nots, R_partIsDue, R_notMayStand, R_waiting, D_codeLength, D_code)
    else
      jX5_readPart_76 R_token R_number R_fault R_waits R_depth R_nots R_partIsDue R_notMayStand R_waiting D_codeLength D_code x1
set_option maxHeartbeats 4000000 in
set_option maxRecDepth 100000 in
theorem wjX5_readPart_43 {p : Program} {l : Launch} {e : Env} {s : State} {m : MethodId} {args : Array Value} {below : List Frame} {meth : Method} {c : Code} {A : Nat → Prop} {dC : Nat → ClassId} {dI : Nat → Nat → Nat} {cc : Nat → ClassId} (C0 : CT p s m args meth c A dC dI cc cX5_readPart 3 none RX5) (oR aR_tape oD aR_waiting aD_lean aD_deaf aD_kind aD_call aD_cost aD_joy aD_follows aD_code aD_ruleFrom aD_ruleTo : Nat) (R_end : Int32) (R_place : Int32) (R_token : Int32) (R_start : Int32) (R_digits : Int32) (R_number : Int32) (R_fault : Int32) (R_clockIsTold : Int32) (R_waits : Int32) (R_depth : Int32) (R_nots : Int32) (R_partIsDue : Int32) (R_notMayStand : Int32) (R_waiting : Nat → Int32) (D_oil : Int32) (D_weight : Int32) (D_treasury : Int32) (D_aldermen : Int32) (D_motions : Int32) (D_codeLength : Int32) (D_code : Nat → Int32) (x1 : Int32) {out : Int32 × Int32 × Int32 × Int32 × Int32 × Int32 × (Nat → Int32) × Int32 × (Nat → Int32)}    (hf : jX5_readPart_43  R_token R_digits R_number R_fault R_waits R_depth R_nots R_partIsDue R_notMayStand R_waiting D_codeLength D_code x1  = some out) (H : Heap) (locs : List Loc) (hP : va_P (dC, dI) cLs [(oR, .inr (5, mkX5 aR_tape oD R_end R_place R_token R_start R_digits R_number R_fault R_clockIsTold aR_waiting R_waits R_depth R_nots R_partIsDue R_notMayStand)), (oD, .inr (1, mkX1 D_oil D_weight D_treasury D_aldermen aD_lean aD_deaf D_motions aD_kind aD_call aD_cost aD_joy aD_follows aD_code D_codeLength aD_ruleFrom aD_ruleTo)), (aR_waiting, .inl (cc 0, 80, .inl R_waiting)), (aD_code, .inl (cc 0, 700, .inl D_code))] H) (hD : va_D A [(oR, .inr (5, mkX5 aR_tape oD R_end R_place R_token R_start R_digits R_number R_fault R_clockIsTold aR_waiting R_waits R_depth R_nots R_partIsDue R_notMayStand)), (oD, .inr (1, mkX1 D_oil D_weight D_treasury D_aldermen aD_lean aD_deaf D_motions aD_kind aD_call aD_cost aD_joy aD_follows aD_code D_codeLength aD_ruleFrom aD_ruleTo)), (aR_waiting, .inl (cc 0, 80, .inl R_waiting)), (aD_code, .inl (cc 0, 700, .inl D_code))]) (hS : va_S A s.heap H locs) (ls : Array Slot) (hl : lv_has ls 3 [(0, .ref oR), (1, .int x1)]) : W p l e rmX5_readPart s m args below meth c H locs 0 0 (MQ below (QV dC dI cc [(oR, .inr (5, mkX5 aR_tape oD R_end R_place R_token R_start R_digits R_number out.1 R_clockIsTold aR_waiting out.2.1 out.2.2.1 out.2.2.2.1 out.2.2.2.2.1 out.2.2.2.2.2.1)), (oD, .inr (1, mkX1 D_oil D_weight D_treasury D_aldermen aD_lean aD_deaf D_motions aD_kind aD_call aD_cost aD_joy aD_follows aD_code out.2.2.2.2.2.2.2.1 aD_ruleFrom aD_ruleTo)), (aR_waiting, .inl (cc 0, 80, .inl out.2.2.2.2.2.2.1)), (aD_code, .inl (cc 0, 700, .inl out.2.2.2.2.2.2.2.2))] A) args s 0 0 A) (F0 m 43 ls []) := by
  obtain ⟨hx, hb, hml, hr, hlocks, hown, hG, hK, hA⟩ := id C0
  unfold jX5_readPart_43 at hf
  refine lv_aload_n hx hb dX5_readPart_43 rfl (lv_at hl 0 rfl) ?_
  refine va_get (D := (dC, dI)) (ci := 5) (v := .int R_depth) (C := RX5) (T := TX5) (N := 16) hx hb hG kinX5 hown hK hP 0 rfl rfl 12 (by decide) (hG _ kfX5_125) (fun _ h9 => h9) rfl dX5_readPart_44 ?_
  refine lv_bipush (v := 6) hx hb dX5_readPart_47 (by decide) ?_
  refine lv_icmp_ge (tgt := 68) hx hb dX5_readPart_49 (by decide) (fun c3 => ?_) (fun c3 => ?_)
  · have hf := ift c3 hf
    refine lv_aload_n hx hb dX5_readPart_68 rfl (lv_at hl 0 rfl) ?_
    refine lv_iconst (v := 2) hx hb dX5_readPart_69 (by decide) ?_
    refine va_put (D := (dC, dI)) (ci := 5) (v := .int 2) (ty := .int) (C := RX5) (T := TX5) (N := 16) hx hb hG kinX5 tyX5 tyX5_ok nmX5 hown hK hP hD hS 0 rfl rfl 8 (by decide) (hG _ kfX5_36) (fun _ h9 => h9) rfl (by decide +kernel) rfl rfl (Nat.le_of_ble_eq_true rfl) dX5_readPart_70 (fun H locs hP hD hS => ?_)
    have hP : va_P (dC, dI) cLs [(oR, .inr (5, mkX5 aR_tape oD R_end R_place R_token R_start R_digits R_number 2 R_clockIsTold aR_waiting R_waits R_depth R_nots R_partIsDue R_notMayStand)), (oD, .inr (1, mkX1 D_oil D_weight D_treasury D_aldermen aD_lean aD_deaf D_motions aD_kind aD_call aD_cost aD_joy aD_follows aD_code D_codeLength aD_ruleFrom aD_ruleTo)), (aR_waiting, .inl (cc 0, 80, .inl R_waiting)), (aD_code, .inl (cc 0, 700, .inl D_code))] _ := hP
    have hD : va_D A [(oR, .inr (5, mkX5 aR_tape oD R_end R_place R_token R_start R_digits R_number 2 R_clockIsTold aR_waiting R_waits R_depth R_nots R_partIsDue R_notMayStand)), (oD, .inr (1, mkX1 D_oil D_weight D_treasury D_aldermen aD_lean aD_deaf D_motions aD_kind aD_call aD_cost aD_joy aD_follows aD_code D_codeLength aD_ruleFrom aD_ruleTo)), (aR_waiting, .inl (cc 0, 80, .inl R_waiting)), (aD_code, .inl (cc 0, 700, .inl D_code))] := hD
    refine lv_goto (tgt := 164) hx hb dX5_readPart_73 (by decide) ?_
    obtain rfl := Option.some.inj hf
    exact retV C0 hP hD hS dX5_readPart_164
  · have hf := iff_ c3 hf
    refine lv_aload_n hx hb dX5_readPart_52 rfl (lv_at hl 0 rfl) ?_
    refine va_get (D := (dC, dI)) (ci := 5) (v := .int R_token) (C := RX5) (T := TX5) (N := 16) hx hb hG kinX5 hown hK hP 0 rfl rfl 4 (by decide) (hG _ kfX5_51) (fun _ h9 => h9) rfl dX5_readPart_53 ?_
    refine lv_iconst (v := 2) hx hb dX5_readPart_56 (by decide) ?_
    refine lv_icmp_ne (tgt := 76) hx hb dX5_readPart_57 (by decide) (fun c4 => ?_) (fun c4 => ?_)
    · have hf := iff_ c4 hf
      exact wjX5_readPart_76 C0 oR aR_tape oD aR_waiting aD_lean aD_deaf aD_kind aD_call aD_cost aD_joy aD_follows aD_code aD_ruleFrom aD_ruleTo R_end R_place R_token R_start R_digits R_number R_fault R_clockIsTold R_waits R_depth R_nots R_partIsDue R_notMayStand R_waiting D_oil D_weight D_treasury D_aldermen D_motions D_codeLength D_code x1    hf _ _ hP hD hS _ (lv_sub hl [0, 1] rfl)
    · have hf := ift c4 hf
      refine lv_aload_n hx hb dX5_readPart_60 rfl (lv_at hl 0 rfl) ?_
      refine va_get (D := (dC, dI)) (ci := 5) (v := .int R_digits) (C := RX5) (T := TX5) (N := 16) hx hb hG kinX5 hown hK hP 0 rfl rfl 6 (by decide) (hG _ kfX5_112) (fun _ h9 => h9) rfl dX5_readPart_61 ?_
      refine lv_iconst (v := 4) hx hb dX5_readPart_64 (by decide) ?_
      refine lv_icmp_le (tgt := 76) hx hb dX5_readPart_65 (by decide) (fun c19 => ?_) (fun c19 => ?_)
      · have hf := ift c19 hf
        exact wjX5_readPart_76 C0 oR aR_tape oD aR_waiting aD_lean aD_deaf aD_kind aD_call aD_cost aD_joy aD_follows aD_code aD_ruleFrom aD_ruleTo R_end R_place R_token R_start R_digits R_number R_fault R_clockIsTold R_waits R_depth R_nots R_partIsDue R_notMayStand R_waiting D_oil D_weight D_treasury D_aldermen D_motions D_codeLength D_code x1    hf _ _ hP hD hS _ (lv_sub hl [0, 1] rfl)
      · have hf := iff_ c19 hf
        refine lv_aload_n hx hb dX5_readPart_68 rfl (lv_at hl 0 rfl) ?_
        refine lv_iconst (v := 2) hx hb dX5_readPart_69 (by decide) ?_
        refine va_put (D := (dC, dI)) (ci := 5) (v := .int 2) (ty := .int) (C := RX5) (T := TX5) (N := 16) hx hb hG kinX5 tyX5 tyX5_ok nmX5 hown hK hP hD hS 0 rfl rfl 8 (by decide) (hG _ kfX5_36) (fun _ h9 => h9) rfl (by decide +kernel) rfl rfl (Nat.le_of_ble_eq_true rfl) dX5_readPart_70 (fun H locs hP hD hS => ?_)
        have hP : va_P (dC, dI) cLs [(oR, .inr (5, mkX5 aR_tape oD R_end R_place R_token R_start R_digits R_number 2 R_clockIsTold aR_waiting R_waits R_depth R_nots R_partIsDue R_notMayStand)), (oD, .inr (1, mkX1 D_oil D_weight D_treasury D_aldermen aD_lean aD_deaf D_motions aD_kind aD_call aD_cost aD_joy aD_follows aD_code D_codeLength aD_ruleFrom aD_ruleTo)), (aR_waiting, .inl (cc 0, 80, .inl R_waiting)), (aD_code, .inl (cc 0, 700, .inl D_code))] _ := hP
        have hD : va_D A [(oR, .inr (5, mkX5 aR_tape oD R_end R_place R_token R_start R_digits R_number 2 R_clockIsTold aR_waiting R_waits R_depth R_nots R_partIsDue R_notMayStand)), (oD, .inr (1, mkX1 D_oil D_weight D_treasury D_aldermen aD_lean aD_deaf D_motions aD_kind aD_call aD_cost aD_joy aD_follows aD_code D_codeLength aD_ruleFrom aD_ruleTo)), (aR_waiting, .inl (cc 0, 80, .inl R_waiting)), (aD_code, .inl (cc 0, 700, .inl D_code))] := hD
        refine lv_goto (tgt := 164) hx hb dX5_readPart_73 (by decide) ?_
        obtain rfl := Option.some.inj hf
        exact retV C0 hP hD hS dX5_readPart_164
def jX5_readPart_14   (R_token : Int32) (R_digits : Int32) (R_number : Int32) (R_fault : Int32) (R_waits : Int32) (R_depth : Int32) (R_nots : Int32) (R_partIsDue : Int32) (R_notMayStand : Int32) (R_waiting : Nat → Int32) (D_codeLength : Int32) (D_code : Nat → Int32) (x1 : Int32) (s0 : Int32) : Option (Int32 × Int32 × Int32 × Int32 × Int32 × Int32 × (Nat → Int32) × Int32 × (Nat → Int32)) :=
  if R_token = 2 then
    jX5_readPart_43 R_token R_digits R_number R_fault R_waits R_depth R_nots R_partIsDue R_notMayStand R_waiting D_codeLength D_code x1
  else
    if R_token = 4 then
      jX5_readPart_43 R_token R_digits R_number R_fault R_waits R_depth R_nots R_partIsDue R_notMayStand R_waiting D_codeLength D_code x1
    else
      if s0 = 0 then
        some (1, R_waits, R_depth, R_nots, R_partIsDue, R_notMayStand, R_waiting, D_codeLength, D_code)
      else
        jX5_readPart_43 R_token R_digits R_number R_fault R_waits R_depth R_nots R_partIsDue R_notMayStand R_waiting D_codeLength D_code x1
set_option maxHeartbeats 4000000 in
set_option maxRecDepth 100000 in
theorem wjX5_readPart_14 {p : Program} {l : Launch} {e : Env} {s : State} {m : MethodId} {args : Array Value} {below : List Frame} {meth : Method} {c : Code} {A : Nat → Prop} {dC : Nat → ClassId} {dI : Nat → Nat → Nat} {cc : Nat → ClassId} (C0 : CT p s m args meth c A dC dI cc cX5_readPart 3 none RX5) (oR aR_tape oD aR_waiting aD_lean aD_deaf aD_kind aD_call aD_cost aD_joy aD_follows aD_code aD_ruleFrom aD_ruleTo : Nat) (R_end : Int32) (R_place : Int32) (R_token : Int32) (R_start : Int32) (R_digits : Int32) (R_number : Int32) (R_fault : Int32) (R_clockIsTold : Int32) (R_waits : Int32) (R_depth : Int32) (R_nots : Int32) (R_partIsDue : Int32) (R_notMayStand : Int32) (R_waiting : Nat → Int32) (D_oil : Int32) (D_weight : Int32) (D_treasury : Int32) (D_aldermen : Int32) (D_motions : Int32) (D_codeLength : Int32) (D_code : Nat → Int32) (x1 : Int32) {out : Int32 × Int32 × Int32 × Int32 × Int32 × Int32 × (Nat → Int32) × Int32 × (Nat → Int32)}   (s0 : Int32) (hf : jX5_readPart_14  R_token R_digits R_number R_fault R_waits R_depth R_nots R_partIsDue R_notMayStand R_waiting D_codeLength D_code x1 s0 = some out) (H : Heap) (locs : List Loc) (hP : va_P (dC, dI) cLs [(oR, .inr (5, mkX5 aR_tape oD R_end R_place R_token R_start R_digits R_number R_fault R_clockIsTold aR_waiting R_waits R_depth R_nots R_partIsDue R_notMayStand)), (oD, .inr (1, mkX1 D_oil D_weight D_treasury D_aldermen aD_lean aD_deaf D_motions aD_kind aD_call aD_cost aD_joy aD_follows aD_code D_codeLength aD_ruleFrom aD_ruleTo)), (aR_waiting, .inl (cc 0, 80, .inl R_waiting)), (aD_code, .inl (cc 0, 700, .inl D_code))] H) (hD : va_D A [(oR, .inr (5, mkX5 aR_tape oD R_end R_place R_token R_start R_digits R_number R_fault R_clockIsTold aR_waiting R_waits R_depth R_nots R_partIsDue R_notMayStand)), (oD, .inr (1, mkX1 D_oil D_weight D_treasury D_aldermen aD_lean aD_deaf D_motions aD_kind aD_call aD_cost aD_joy aD_follows aD_code D_codeLength aD_ruleFrom aD_ruleTo)), (aR_waiting, .inl (cc 0, 80, .inl R_waiting)), (aD_code, .inl (cc 0, 700, .inl D_code))]) (hS : va_S A s.heap H locs) (ls : Array Slot) (hl : lv_has ls 3 [(0, .ref oR), (1, .int x1)]) : W p l e rmX5_readPart s m args below meth c H locs 0 0 (MQ below (QV dC dI cc [(oR, .inr (5, mkX5 aR_tape oD R_end R_place R_token R_start R_digits R_number out.1 R_clockIsTold aR_waiting out.2.1 out.2.2.1 out.2.2.2.1 out.2.2.2.2.1 out.2.2.2.2.2.1)), (oD, .inr (1, mkX1 D_oil D_weight D_treasury D_aldermen aD_lean aD_deaf D_motions aD_kind aD_call aD_cost aD_joy aD_follows aD_code out.2.2.2.2.2.2.2.1 aD_ruleFrom aD_ruleTo)), (aR_waiting, .inl (cc 0, 80, .inl out.2.2.2.2.2.2.1)), (aD_code, .inl (cc 0, 700, .inl out.2.2.2.2.2.2.2.2))] A) args s 0 0 A) (F0 m 14 ls [.int s0]) := by
  obtain ⟨hx, hb, hml, hr, hlocks, hown, hG, hK, hA⟩ := id C0
  unfold jX5_readPart_14 at hf
  refine lv_istore_n (lv' := [(2, .int s0), (0, .ref oR), (1, .int x1)]) hx hb dX5_readPart_14 rfl hl (by decide) rfl (fun ls hl => ?_)
  refine lv_aload_n hx hb dX5_readPart_15 rfl (lv_at hl 1 rfl) ?_
  refine va_get (D := (dC, dI)) (ci := 5) (v := .int R_token) (C := RX5) (T := TX5) (N := 16) hx hb hG kinX5 hown hK hP 0 rfl rfl 4 (by decide) (hG _ kfX5_51) (fun _ h9 => h9) rfl dX5_readPart_16 ?_
  refine lv_iconst (v := 2) hx hb dX5_readPart_19 (by decide) ?_
  refine lv_icmp_eq (tgt := 43) hx hb dX5_readPart_20 (by decide) (fun c2 => ?_) (fun c2 => ?_)
  · have hf := ift c2 hf
    exact wjX5_readPart_43 C0 oR aR_tape oD aR_waiting aD_lean aD_deaf aD_kind aD_call aD_cost aD_joy aD_follows aD_code aD_ruleFrom aD_ruleTo R_end R_place R_token R_start R_digits R_number R_fault R_clockIsTold R_waits R_depth R_nots R_partIsDue R_notMayStand R_waiting D_oil D_weight D_treasury D_aldermen D_motions D_codeLength D_code x1    hf _ _ hP hD hS _ (lv_sub hl [1, 2] rfl)
  · have hf := iff_ c2 hf
    refine lv_aload_n hx hb dX5_readPart_23 rfl (lv_at hl 1 rfl) ?_
    refine va_get (D := (dC, dI)) (ci := 5) (v := .int R_token) (C := RX5) (T := TX5) (N := 16) hx hb hG kinX5 hown hK hP 0 rfl rfl 4 (by decide) (hG _ kfX5_51) (fun _ h9 => h9) rfl dX5_readPart_24 ?_
    refine lv_iconst (v := 4) hx hb dX5_readPart_27 (by decide) ?_
    refine lv_icmp_eq (tgt := 43) hx hb dX5_readPart_28 (by decide) (fun c20 => ?_) (fun c20 => ?_)
    · have hf := ift c20 hf
      exact wjX5_readPart_43 C0 oR aR_tape oD aR_waiting aD_lean aD_deaf aD_kind aD_call aD_cost aD_joy aD_follows aD_code aD_ruleFrom aD_ruleTo R_end R_place R_token R_start R_digits R_number R_fault R_clockIsTold R_waits R_depth R_nots R_partIsDue R_notMayStand R_waiting D_oil D_weight D_treasury D_aldermen D_motions D_codeLength D_code x1    hf _ _ hP hD hS _ (lv_sub hl [1, 2] rfl)
    · have hf := iff_ c20 hf
      refine lv_iload_n hx hb dX5_readPart_31 rfl (lv_at hl 0 rfl) ?_
      refine lv_if_ne (tgt := 43) hx hb dX5_readPart_32 (by decide) (fun c21 => ?_) (fun c21 => ?_)
      · have hf := iff_ c21 hf
        exact wjX5_readPart_43 C0 oR aR_tape oD aR_waiting aD_lean aD_deaf aD_kind aD_call aD_cost aD_joy aD_follows aD_code aD_ruleFrom aD_ruleTo R_end R_place R_token R_start R_digits R_number R_fault R_clockIsTold R_waits R_depth R_nots R_partIsDue R_notMayStand R_waiting D_oil D_weight D_treasury D_aldermen D_motions D_codeLength D_code x1    hf _ _ hP hD hS _ (lv_sub hl [1, 2] rfl)
      · have hf := ift c21 hf
        refine lv_aload_n hx hb dX5_readPart_35 rfl (lv_at hl 1 rfl) ?_
        refine lv_iconst (v := 1) hx hb dX5_readPart_36 (by decide) ?_
        refine va_put (D := (dC, dI)) (ci := 5) (v := .int 1) (ty := .int) (C := RX5) (T := TX5) (N := 16) hx hb hG kinX5 tyX5 tyX5_ok nmX5 hown hK hP hD hS 0 rfl rfl 8 (by decide) (hG _ kfX5_36) (fun _ h9 => h9) rfl (by decide +kernel) rfl rfl (Nat.le_of_ble_eq_true rfl) dX5_readPart_37 (fun H locs hP hD hS => ?_)
        have hP : va_P (dC, dI) cLs [(oR, .inr (5, mkX5 aR_tape oD R_end R_place R_token R_start R_digits R_number 1 R_clockIsTold aR_waiting R_waits R_depth R_nots R_partIsDue R_notMayStand)), (oD, .inr (1, mkX1 D_oil D_weight D_treasury D_aldermen aD_lean aD_deaf D_motions aD_kind aD_call aD_cost aD_joy aD_follows aD_code D_codeLength aD_ruleFrom aD_ruleTo)), (aR_waiting, .inl (cc 0, 80, .inl R_waiting)), (aD_code, .inl (cc 0, 700, .inl D_code))] _ := hP
        have hD : va_D A [(oR, .inr (5, mkX5 aR_tape oD R_end R_place R_token R_start R_digits R_number 1 R_clockIsTold aR_waiting R_waits R_depth R_nots R_partIsDue R_notMayStand)), (oD, .inr (1, mkX1 D_oil D_weight D_treasury D_aldermen aD_lean aD_deaf D_motions aD_kind aD_call aD_cost aD_joy aD_follows aD_code D_codeLength aD_ruleFrom aD_ruleTo)), (aR_waiting, .inl (cc 0, 80, .inl R_waiting)), (aD_code, .inl (cc 0, 700, .inl D_code))] := hD
        refine lv_goto (tgt := 164) hx hb dX5_readPart_40 (by decide) ?_
        obtain rfl := Option.some.inj hf
        exact retV C0 hP hD hS dX5_readPart_164
def fX5_readPart  (R_token : Int32) (R_digits : Int32) (R_number : Int32) (R_fault : Int32) (R_waits : Int32) (R_depth : Int32) (R_nots : Int32) (R_partIsDue : Int32) (R_notMayStand : Int32) (R_waiting : Nat → Int32) (D_codeLength : Int32) (D_code : Nat → Int32) (p0 : Int32) : Option (Int32 × Int32 × Int32 × Int32 × Int32 × Int32 × (Nat → Int32) × Int32 × (Nat → Int32)) :=
  if R_token < 12 then
    jX5_readPart_14 R_token R_digits R_number R_fault R_waits R_depth R_nots R_partIsDue R_notMayStand R_waiting D_codeLength D_code p0 0
  else
    jX5_readPart_14 R_token R_digits R_number R_fault R_waits R_depth R_nots R_partIsDue R_notMayStand R_waiting D_codeLength D_code p0 1
set_option maxHeartbeats 4000000 in
set_option maxRecDepth 100000 in
theorem bX5_readPart {p : Program} {l : Launch} {e : Env} {s : State} {m : MethodId} {args : Array Value} {below : List Frame} {meth : Method} {c : Code} {A : Nat → Prop} {dC : Nat → ClassId} {dI : Nat → Nat → Nat} {cc : Nat → ClassId} (C0 : CT p s m args meth c A dC dI cc cX5_readPart 3 none RX5) (oR aR_tape oD aR_waiting aD_lean aD_deaf aD_kind aD_call aD_cost aD_joy aD_follows aD_code aD_ruleFrom aD_ruleTo : Nat) (R_end : Int32) (R_place : Int32) (R_token : Int32) (R_start : Int32) (R_digits : Int32) (R_number : Int32) (R_fault : Int32) (R_clockIsTold : Int32) (R_waits : Int32) (R_depth : Int32) (R_nots : Int32) (R_partIsDue : Int32) (R_notMayStand : Int32) (R_waiting : Nat → Int32) (D_oil : Int32) (D_weight : Int32) (D_treasury : Int32) (D_aldermen : Int32) (D_motions : Int32) (D_codeLength : Int32) (D_code : Nat → Int32) (p0 : Int32) {out : Int32 × Int32 × Int32 × Int32 × Int32 × Int32 × (Nat → Int32) × Int32 × (Nat → Int32)} (hf : fX5_readPart R_token R_digits R_number R_fault R_waits R_depth R_nots R_partIsDue R_notMayStand R_waiting D_codeLength D_code p0 = some out) {H : Heap} {locs : List Loc} (hP : va_P (dC, dI) cLs [(oR, .inr (5, mkX5 aR_tape oD R_end R_place R_token R_start R_digits R_number R_fault R_clockIsTold aR_waiting R_waits R_depth R_nots R_partIsDue R_notMayStand)), (oD, .inr (1, mkX1 D_oil D_weight D_treasury D_aldermen aD_lean aD_deaf D_motions aD_kind aD_call aD_cost aD_joy aD_follows aD_code D_codeLength aD_ruleFrom aD_ruleTo)), (aR_waiting, .inl (cc 0, 80, .inl R_waiting)), (aD_code, .inl (cc 0, 700, .inl D_code))] H) (hD : va_D A [(oR, .inr (5, mkX5 aR_tape oD R_end R_place R_token R_start R_digits R_number R_fault R_clockIsTold aR_waiting R_waits R_depth R_nots R_partIsDue R_notMayStand)), (oD, .inr (1, mkX1 D_oil D_weight D_treasury D_aldermen aD_lean aD_deaf D_motions aD_kind aD_call aD_cost aD_joy aD_follows aD_code D_codeLength aD_ruleFrom aD_ruleTo)), (aR_waiting, .inl (cc 0, 80, .inl R_waiting)), (aD_code, .inl (cc 0, 700, .inl D_code))]) (hS : va_S A s.heap H locs) {ls : Array Slot} (hl : lv_has ls 3 [(0, .ref oR), (1, .int p0)]) : W p l e rmX5_readPart s m args below meth c H locs 0 0 (MQ below (QV dC dI cc [(oR, .inr (5, mkX5 aR_tape oD R_end R_place R_token R_start R_digits R_number out.1 R_clockIsTold aR_waiting out.2.1 out.2.2.1 out.2.2.2.1 out.2.2.2.2.1 out.2.2.2.2.2.1)), (oD, .inr (1, mkX1 D_oil D_weight D_treasury D_aldermen aD_lean aD_deaf D_motions aD_kind aD_call aD_cost aD_joy aD_follows aD_code out.2.2.2.2.2.2.2.1 aD_ruleFrom aD_ruleTo)), (aR_waiting, .inl (cc 0, 80, .inl out.2.2.2.2.2.2.1)), (aD_code, .inl (cc 0, 700, .inl out.2.2.2.2.2.2.2.2))] A) args s 0 0 A) (F0 m 0 ls []) := by
  obtain ⟨hx, hb, hml, hr, hlocks, hown, hG, hK, hA⟩ := id C0
  unfold fX5_readPart at hf
  refine lv_aload_n hx hb dX5_readPart_0 rfl (lv_at hl 0 rfl) ?_
  refine va_get (D := (dC, dI)) (ci := 5) (v := .int R_token) (C := RX5) (T := TX5) (N := 16) hx hb hG kinX5 hown hK hP 0 rfl rfl 4 (by decide) (hG _ kfX5_51) (fun _ h9 => h9) rfl dX5_readPart_1 ?_
  refine lv_bipush (v := 12) hx hb dX5_readPart_4 (by decide) ?_
  refine lv_icmp_lt (tgt := 13) hx hb dX5_readPart_6 (by decide) (fun c1 => ?_) (fun c1 => ?_)
  · have hf := ift c1 hf
    refine lv_iconst (v := 0) hx hb dX5_readPart_13 (by decide) ?_
    exact wjX5_readPart_14 C0 oR aR_tape oD aR_waiting aD_lean aD_deaf aD_kind aD_call aD_cost aD_joy aD_follows aD_code aD_ruleFrom aD_ruleTo R_end R_place R_token R_start R_digits R_number R_fault R_clockIsTold R_waits R_depth R_nots R_partIsDue R_notMayStand R_waiting D_oil D_weight D_treasury D_aldermen D_motions D_codeLength D_code p0   0 hf _ _ hP hD hS _ (lv_sub hl [0, 1] rfl)
  · have hf := iff_ c1 hf
    refine lv_iconst (v := 1) hx hb dX5_readPart_9 (by decide) ?_
    refine lv_goto (tgt := 14) hx hb dX5_readPart_10 (by decide) ?_
    exact wjX5_readPart_14 C0 oR aR_tape oD aR_waiting aD_lean aD_deaf aD_kind aD_call aD_cost aD_joy aD_follows aD_code aD_ruleFrom aD_ruleTo R_end R_place R_token R_start R_digits R_number R_fault R_clockIsTold R_waits R_depth R_nots R_partIsDue R_notMayStand R_waiting D_oil D_weight D_treasury D_aldermen D_motions D_codeLength D_code p0   1 hf _ _ hP hD hS _ (lv_sub hl [0, 1] rfl)
theorem mX5_readPart (l : Launch) (dC : Nat → ClassId) (dI : Nat → Nat → Nat) (cc : Nat → ClassId) (oR aR_tape oD aR_waiting aD_lean aD_deaf aD_kind aD_call aD_cost aD_joy aD_follows aD_code aD_ruleFrom aD_ruleTo : Nat) (sz : Nat) (R_end : Int32) (R_place : Int32) (R_token : Int32) (R_start : Int32) (R_digits : Int32) (R_number : Int32) (R_fault : Int32) (R_clockIsTold : Int32) (R_waits : Int32) (R_depth : Int32) (R_nots : Int32) (R_partIsDue : Int32) (R_notMayStand : Int32) (R_waiting : Nat → Int32) (D_oil : Int32) (D_weight : Int32) (D_treasury : Int32) (D_aldermen : Int32) (D_motions : Int32) (D_codeLength : Int32) (D_code : Nat → Int32) (p0 : Int32) {out : Int32 × Int32 × Int32 × Int32 × Int32 × Int32 × (Nat → Int32) × Int32 × (Nat → Int32)} (hf : fX5_readPart R_token R_digits R_number R_fault R_waits R_depth R_nots R_partIsDue R_notMayStand R_waiting D_codeLength D_code p0 = some out) : Met l yX5_readPart (Cond.code yX5_readPart cX5_readPart 3 none :: GW) rmX5_readPart (PI dC dI cc [.ref oR, .int p0] [(oR, .inr (5, mkX5 aR_tape oD R_end R_place R_token R_start R_digits R_number R_fault R_clockIsTold aR_waiting R_waits R_depth R_nots R_partIsDue R_notMayStand)), (oD, .inr (1, mkX1 D_oil D_weight D_treasury D_aldermen aD_lean aD_deaf D_motions aD_kind aD_call aD_cost aD_joy aD_follows aD_code D_codeLength aD_ruleFrom aD_ruleTo)), (aR_waiting, .inl (cc 0, 80, .inl R_waiting)), (aD_code, .inl (cc 0, 700, .inl D_code))] sz) (QV dC dI cc [(oR, .inr (5, mkX5 aR_tape oD R_end R_place R_token R_start R_digits R_number out.1 R_clockIsTold aR_waiting out.2.1 out.2.2.1 out.2.2.2.1 out.2.2.2.2.1 out.2.2.2.2.2.1)), (oD, .inr (1, mkX1 D_oil D_weight D_treasury D_aldermen aD_lean aD_deaf D_motions aD_kind aD_call aD_cost aD_joy aD_follows aD_code out.2.2.2.2.2.2.2.1 aD_ruleFrom aD_ruleTo)), (aR_waiting, .inl (cc 0, 80, .inl out.2.2.2.2.2.2.1)), (aD_code, .inl (cc 0, 700, .inl out.2.2.2.2.2.2.2.2))] (va_A [(oR, .inr (5, mkX5 aR_tape oD R_end R_place R_token R_start R_digits R_number R_fault R_clockIsTold aR_waiting R_waits R_depth R_nots R_partIsDue R_notMayStand)), (oD, .inr (1, mkX1 D_oil D_weight D_treasury D_aldermen aD_lean aD_deaf D_motions aD_kind aD_call aD_cost aD_joy aD_follows aD_code D_codeLength aD_ruleFrom aD_ruleTo)), (aR_waiting, .inl (cc 0, 80, .inl R_waiting)), (aD_code, .inl (cc 0, 700, .inl D_code))] sz)) 0 0 (va_A [(oR, .inr (5, mkX5 aR_tape oD R_end R_place R_token R_start R_digits R_number R_fault R_clockIsTold aR_waiting R_waits R_depth R_nots R_partIsDue R_notMayStand)), (oD, .inr (1, mkX1 D_oil D_weight D_treasury D_aldermen aD_lean aD_deaf D_motions aD_kind aD_call aD_cost aD_joy aD_follows aD_code D_codeLength aD_ruleFrom aD_ruleTo)), (aR_waiting, .inl (cc 0, 80, .inl R_waiting)), (aD_code, .inl (cc 0, 700, .inl D_code))] sz) :=
  met_of (Q := fun A => QV dC dI cc [(oR, .inr (5, mkX5 aR_tape oD R_end R_place R_token R_start R_digits R_number out.1 R_clockIsTold aR_waiting out.2.1 out.2.2.1 out.2.2.2.1 out.2.2.2.2.1 out.2.2.2.2.2.1)), (oD, .inr (1, mkX1 D_oil D_weight D_treasury D_aldermen aD_lean aD_deaf D_motions aD_kind aD_call aD_cost aD_joy aD_follows aD_code out.2.2.2.2.2.2.2.1 aD_ruleFrom aD_ruleTo)), (aR_waiting, .inl (cc 0, 80, .inl out.2.2.2.2.2.2.1)), (aD_code, .inl (cc 0, 700, .inl out.2.2.2.2.2.2.2.2))] A) (by decide) rfl (Nat.le_of_ble_eq_true rfl) (fun p e s m below meth c A C0 hP hD hS ls hl => bX5_readPart C0 oR aR_tape oD aR_waiting aD_lean aD_deaf aD_kind aD_call aD_cost aD_joy aD_follows aD_code aD_ruleFrom aD_ruleTo R_end R_place R_token R_start R_digits R_number R_fault R_clockIsTold R_waits R_depth R_nots R_partIsDue R_notMayStand R_waiting D_oil D_weight D_treasury D_aldermen D_motions D_codeLength D_code p0 hf hP hD hS hl)
abbrev rmX5_operatorOf : Room := { frames := 0, cells := 0, slots := 0, locals := 0 }
def fX5_operatorOf   (p0 : Int32) : Option (Int32) :=
  if p0 = 6 then
    some (-12)
  else
  if p0 = 7 then
    some (-13)
  else
  if p0 = 8 then
    some (-14)
  else
  if p0 = 9 then
    some (-15)
  else
  if p0 = 10 then
    some (-10)
  else
  if p0 = 11 then
    some (-11)
  else
  if p0 = 12 then
    some 0
  else
  if p0 = 13 then
    some 0
  else
  if p0 = 14 then
    some 0
  else
  if p0 = 15 then
    some 0
  else
  if p0 = 16 then
    some 0
  else
  if p0 = 17 then
    some 0
  else
  if p0 = 18 then
    some 0
  else
  if p0 = 19 then
    some 0
  else
  if p0 = 20 then
    some 0
  else
  if p0 = 21 then
    some (-8)
  else
  if p0 = 22 then
    some (-9)
  else
  some 0
set_option maxHeartbeats 4000000 in
set_option maxRecDepth 100000 in
theorem bX5_operatorOf {p : Program} {l : Launch} {e : Env} {s : State} {m : MethodId} {args : Array Value} {below : List Frame} {meth : Method} {c : Code} {A : Nat → Prop} {dC : Nat → ClassId} {dI : Nat → Nat → Nat} {cc : Nat → ClassId} (C0 : CT p s m args meth c A dC dI cc cX5_operatorOf 1 (some .int) RX5)   (p0 : Int32) {out : Int32} (hf : fX5_operatorOf p0 = some out) {H : Heap} {locs : List Loc} (hP : va_P (dC, dI) cLs [] H) (hD : va_D A []) (hS : va_S A s.heap H locs) {ls : Array Slot} (hl : lv_has ls 1 [(0, .int p0)]) : W p l e rmX5_operatorOf s m args below meth c H locs 0 0 (MQ below (QI dC dI cc out [] A) args s 0 0 A) (F0 m 0 ls []) := by
  obtain ⟨hx, hb, hml, hr, hlocks, hown, hG, hK, hA⟩ := id C0
  unfold fX5_operatorOf at hf
  refine lv_iload_n hx hb dX5_operatorOf_0 rfl (lv_at hl 0 rfl) ?_
  by_cases c1 : p0 = 6
  · have hf := ift c1 hf
    refine lv_tableIn (off := 95) (tgt := 96) hx hb dX5_operatorOf_1 (by rw [c1]; decide) (by rw [c1]; decide) (by rw [c1]; rfl) (by decide) ?_
    refine lv_bipush (v := (-12)) hx hb dX5_operatorOf_96 (by decide) ?_
    obtain rfl := Option.some.inj hf
    exact retI C0 hP hD hS rfl dX5_operatorOf_98
  · have hf := iff_ c1 hf
    by_cases c2 : p0 = 7
    · have hf := ift c2 hf
      refine lv_tableIn (off := 98) (tgt := 99) hx hb dX5_operatorOf_1 (by rw [c2]; decide) (by rw [c2]; decide) (by rw [c2]; rfl) (by decide) ?_
      refine lv_bipush (v := (-13)) hx hb dX5_operatorOf_99 (by decide) ?_
      obtain rfl := Option.some.inj hf
      exact retI C0 hP hD hS rfl dX5_operatorOf_101
    · have hf := iff_ c2 hf
      by_cases c3 : p0 = 8
      · have hf := ift c3 hf
        refine lv_tableIn (off := 101) (tgt := 102) hx hb dX5_operatorOf_1 (by rw [c3]; decide) (by rw [c3]; decide) (by rw [c3]; rfl) (by decide) ?_
        refine lv_bipush (v := (-14)) hx hb dX5_operatorOf_102 (by decide) ?_
        obtain rfl := Option.some.inj hf
        exact retI C0 hP hD hS rfl dX5_operatorOf_104
      · have hf := iff_ c3 hf
        by_cases c4 : p0 = 9
        · have hf := ift c4 hf
          refine lv_tableIn (off := 104) (tgt := 105) hx hb dX5_operatorOf_1 (by rw [c4]; decide) (by rw [c4]; decide) (by rw [c4]; rfl) (by decide) ?_
          refine lv_bipush (v := (-15)) hx hb dX5_operatorOf_105 (by decide) ?_
          obtain rfl := Option.some.inj hf
          exact retI C0 hP hD hS rfl dX5_operatorOf_107
        · have hf := iff_ c4 hf
          by_cases c5 : p0 = 10
          · have hf := ift c5 hf
            refine lv_tableIn (off := 89) (tgt := 90) hx hb dX5_operatorOf_1 (by rw [c5]; decide) (by rw [c5]; decide) (by rw [c5]; rfl) (by decide) ?_
            refine lv_bipush (v := (-10)) hx hb dX5_operatorOf_90 (by decide) ?_
            obtain rfl := Option.some.inj hf
            exact retI C0 hP hD hS rfl dX5_operatorOf_92
          · have hf := iff_ c5 hf
            by_cases c6 : p0 = 11
            · have hf := ift c6 hf
              refine lv_tableIn (off := 92) (tgt := 93) hx hb dX5_operatorOf_1 (by rw [c6]; decide) (by rw [c6]; decide) (by rw [c6]; rfl) (by decide) ?_
              refine lv_bipush (v := (-11)) hx hb dX5_operatorOf_93 (by decide) ?_
              obtain rfl := Option.some.inj hf
              exact retI C0 hP hD hS rfl dX5_operatorOf_95
            · have hf := iff_ c6 hf
              by_cases c7 : p0 = 12
              · have hf := ift c7 hf
                refine lv_tableIn (off := 107) (tgt := 108) hx hb dX5_operatorOf_1 (by rw [c7]; decide) (by rw [c7]; decide) (by rw [c7]; rfl) (by decide) ?_
                refine lv_iconst (v := 0) hx hb dX5_operatorOf_108 (by decide) ?_
                obtain rfl := Option.some.inj hf
                exact retI C0 hP hD hS rfl dX5_operatorOf_109
              · have hf := iff_ c7 hf
                by_cases c8 : p0 = 13
                · have hf := ift c8 hf
                  refine lv_tableIn (off := 107) (tgt := 108) hx hb dX5_operatorOf_1 (by rw [c8]; decide) (by rw [c8]; decide) (by rw [c8]; rfl) (by decide) ?_
                  refine lv_iconst (v := 0) hx hb dX5_operatorOf_108 (by decide) ?_
                  obtain rfl := Option.some.inj hf
                  exact retI C0 hP hD hS rfl dX5_operatorOf_109
                · have hf := iff_ c8 hf
                  by_cases c9 : p0 = 14
                  · have hf := ift c9 hf
                    refine lv_tableIn (off := 107) (tgt := 108) hx hb dX5_operatorOf_1 (by rw [c9]; decide) (by rw [c9]; decide) (by rw [c9]; rfl) (by decide) ?_
                    refine lv_iconst (v := 0) hx hb dX5_operatorOf_108 (by decide) ?_
                    obtain rfl := Option.some.inj hf
                    exact retI C0 hP hD hS rfl dX5_operatorOf_109
                  · have hf := iff_ c9 hf
                    by_cases c10 : p0 = 15
                    · have hf := ift c10 hf
                      refine lv_tableIn (off := 107) (tgt := 108) hx hb dX5_operatorOf_1 (by rw [c10]; decide) (by rw [c10]; decide) (by rw [c10]; rfl) (by decide) ?_
                      refine lv_iconst (v := 0) hx hb dX5_operatorOf_108 (by decide) ?_
                      obtain rfl := Option.some.inj hf
                      exact retI C0 hP hD hS rfl dX5_operatorOf_109
                    · have hf := iff_ c10 hf
                      by_cases c11 : p0 = 16
                      · have hf := ift c11 hf
                        refine lv_tableIn (off := 107) (tgt := 108) hx hb dX5_operatorOf_1 (by rw [c11]; decide) (by rw [c11]; decide) (by rw [c11]; rfl) (by decide) ?_
                        refine lv_iconst (v := 0) hx hb dX5_operatorOf_108 (by decide) ?_
                        obtain rfl := Option.some.inj hf
                        exact retI C0 hP hD hS rfl dX5_operatorOf_109
                      · have hf := iff_ c11 hf
                        by_cases c12 : p0 = 17
                        · have hf := ift c12 hf
                          refine lv_tableIn (off := 107) (tgt := 108) hx hb dX5_operatorOf_1 (by rw [c12]; decide) (by rw [c12]; decide) (by rw [c12]; rfl) (by decide) ?_
                          refine lv_iconst (v := 0) hx hb dX5_operatorOf_108 (by decide) ?_
                          obtain rfl := Option.some.inj hf
                          exact retI C0 hP hD hS rfl dX5_operatorOf_109
                        · have hf := iff_ c12 hf
                          by_cases c13 : p0 = 18
                          · have hf := ift c13 hf
                            refine lv_tableIn (off := 107) (tgt := 108) hx hb dX5_operatorOf_1 (by rw [c13]; decide) (by rw [c13]; decide) (by rw [c13]; rfl) (by decide) ?_
                            refine lv_iconst (v := 0) hx hb dX5_operatorOf_108 (by decide) ?_
                            obtain rfl := Option.some.inj hf
                            exact retI C0 hP hD hS rfl dX5_operatorOf_109
                          · have hf := iff_ c13 hf
                            by_cases c14 : p0 = 19
                            · have hf := ift c14 hf
                              refine lv_tableIn (off := 107) (tgt := 108) hx hb dX5_operatorOf_1 (by rw [c14]; decide) (by rw [c14]; decide) (by rw [c14]; rfl) (by decide) ?_
                              refine lv_iconst (v := 0) hx hb dX5_operatorOf_108 (by decide) ?_
                              obtain rfl := Option.some.inj hf
                              exact retI C0 hP hD hS rfl dX5_operatorOf_109
                            · have hf := iff_ c14 hf
                              by_cases c15 : p0 = 20
                              · have hf := ift c15 hf
                                refine lv_tableIn (off := 107) (tgt := 108) hx hb dX5_operatorOf_1 (by rw [c15]; decide) (by rw [c15]; decide) (by rw [c15]; rfl) (by decide) ?_
                                refine lv_iconst (v := 0) hx hb dX5_operatorOf_108 (by decide) ?_
                                obtain rfl := Option.some.inj hf
                                exact retI C0 hP hD hS rfl dX5_operatorOf_109
                              · have hf := iff_ c15 hf
                                by_cases c16 : p0 = 21
                                · have hf := ift c16 hf
                                  refine lv_tableIn (off := 83) (tgt := 84) hx hb dX5_operatorOf_1 (by rw [c16]; decide) (by rw [c16]; decide) (by rw [c16]; rfl) (by decide) ?_
                                  refine lv_bipush (v := (-8)) hx hb dX5_operatorOf_84 (by decide) ?_
                                  obtain rfl := Option.some.inj hf
                                  exact retI C0 hP hD hS rfl dX5_operatorOf_86
                                · have hf := iff_ c16 hf
                                  by_cases c17 : p0 = 22
                                  · have hf := ift c17 hf
                                    refine lv_tableIn (off := 86) (tgt := 87) hx hb dX5_operatorOf_1 (by rw [c17]; decide) (by rw [c17]; decide) (by rw [c17]; rfl) (by decide) ?_
                                    refine lv_bipush (v := (-9)) hx hb dX5_operatorOf_87 (by decide) ?_
                                    obtain rfl := Option.some.inj hf
                                    exact retI C0 hP hD hS rfl dX5_operatorOf_89
                                  · have hf := iff_ c17 hf
                                    refine lv_tableOut (tgt := 108) hx hb dX5_operatorOf_1 (tb_out (fun k h1 h2 => ?_)) (by decide) ?_
                                    · have hz : k = 6 ∨ k = 7 ∨ k = 8 ∨ k = 9 ∨ k = 10 ∨ k = 11 ∨ k = 12 ∨ k = 13 ∨ k = 14 ∨ k = 15 ∨ k = 16 ∨ k = 17 ∨ k = 18 ∨ k = 19 ∨ k = 20 ∨ k = 21 ∨ k = 22 := by omega
                                      rcases hz with rfl | rfl | rfl | rfl | rfl | rfl | rfl | rfl | rfl | rfl | rfl | rfl | rfl | rfl | rfl | rfl | rfl
                                      · exact tb_ne c1 (by decide)
                                      · exact tb_ne c2 (by decide)
                                      · exact tb_ne c3 (by decide)
                                      · exact tb_ne c4 (by decide)
                                      · exact tb_ne c5 (by decide)
                                      · exact tb_ne c6 (by decide)
                                      · exact tb_ne c7 (by decide)
                                      · exact tb_ne c8 (by decide)
                                      · exact tb_ne c9 (by decide)
                                      · exact tb_ne c10 (by decide)
                                      · exact tb_ne c11 (by decide)
                                      · exact tb_ne c12 (by decide)
                                      · exact tb_ne c13 (by decide)
                                      · exact tb_ne c14 (by decide)
                                      · exact tb_ne c15 (by decide)
                                      · exact tb_ne c16 (by decide)
                                      · exact tb_ne c17 (by decide)
                                    refine lv_iconst (v := 0) hx hb dX5_operatorOf_108 (by decide) ?_
                                    obtain rfl := Option.some.inj hf
                                    exact retI C0 hP hD hS rfl dX5_operatorOf_109
theorem mX5_operatorOf (l : Launch) (dC : Nat → ClassId) (dI : Nat → Nat → Nat) (cc : Nat → ClassId)  (sz : Nat)  (p0 : Int32) {out : Int32} (hf : fX5_operatorOf p0 = some out) : Met l yX5_operatorOf (Cond.code yX5_operatorOf cX5_operatorOf 1 (some .int) :: GW) rmX5_operatorOf (PI dC dI cc [.int p0] [] sz) (QI dC dI cc out [] (va_A [] sz)) 0 0 (va_A [] sz) :=
  met_of (Q := fun A => QI dC dI cc out [] A) (by decide) rfl (Nat.le_of_ble_eq_true rfl) (fun p e s m below meth c A C0 hP hD hS ls hl => bX5_operatorOf C0 p0 hf hP hD hS hl)
abbrev rmX5_strengthOf : Room := { frames := 0, cells := 0, slots := 0, locals := 0 }
def fX5_strengthOf   (p0 : Int32) : Option (Int32) :=
  if p0 = (-15) then
    some 6
  else
  if p0 = (-14) then
    some 6
  else
  if p0 = (-13) then
    some 5
  else
  if p0 = (-12) then
    some 5
  else
  if p0 = (-11) then
    some 4
  else
  if p0 = (-10) then
    some 4
  else
  if p0 = (-9) then
    some 2
  else
  if p0 = (-8) then
    some 1
  else
  if p0 = (-7) then
    some 3
  else
  some 0
set_option maxHeartbeats 4000000 in
set_option maxRecDepth 100000 in
theorem bX5_strengthOf {p : Program} {l : Launch} {e : Env} {s : State} {m : MethodId} {args : Array Value} {below : List Frame} {meth : Method} {c : Code} {A : Nat → Prop} {dC : Nat → ClassId} {dI : Nat → Nat → Nat} {cc : Nat → ClassId} (C0 : CT p s m args meth c A dC dI cc cX5_strengthOf 1 (some .int) RX5)   (p0 : Int32) {out : Int32} (hf : fX5_strengthOf p0 = some out) {H : Heap} {locs : List Loc} (hP : va_P (dC, dI) cLs [] H) (hD : va_D A []) (hS : va_S A s.heap H locs) {ls : Array Slot} (hl : lv_has ls 1 [(0, .int p0)]) : W p l e rmX5_strengthOf s m args below meth c H locs 0 0 (MQ below (QI dC dI cc out [] A) args s 0 0 A) (F0 m 0 ls []) := by
  obtain ⟨hx, hb, hml, hr, hlocks, hown, hG, hK, hA⟩ := id C0
  unfold fX5_strengthOf at hf
  refine lv_iload_n hx hb dX5_strengthOf_0 rfl (lv_at hl 0 rfl) ?_
  by_cases c1 : p0 = (-15)
  · have hf := ift c1 hf
    refine lv_tableIn (off := 68) (tgt := 69) hx hb dX5_strengthOf_1 (by rw [c1]; decide) (by rw [c1]; decide) (by rw [c1]; rfl) (by decide) ?_
    refine lv_bipush (v := 6) hx hb dX5_strengthOf_69 (by decide) ?_
    obtain rfl := Option.some.inj hf
    exact retI C0 hP hD hS rfl dX5_strengthOf_71
  · have hf := iff_ c1 hf
    by_cases c2 : p0 = (-14)
    · have hf := ift c2 hf
      refine lv_tableIn (off := 65) (tgt := 66) hx hb dX5_strengthOf_1 (by rw [c2]; decide) (by rw [c2]; decide) (by rw [c2]; rfl) (by decide) ?_
      refine lv_bipush (v := 6) hx hb dX5_strengthOf_66 (by decide) ?_
      obtain rfl := Option.some.inj hf
      exact retI C0 hP hD hS rfl dX5_strengthOf_68
    · have hf := iff_ c2 hf
      by_cases c3 : p0 = (-13)
      · have hf := ift c3 hf
        refine lv_tableIn (off := 63) (tgt := 64) hx hb dX5_strengthOf_1 (by rw [c3]; decide) (by rw [c3]; decide) (by rw [c3]; rfl) (by decide) ?_
        refine lv_iconst (v := 5) hx hb dX5_strengthOf_64 (by decide) ?_
        obtain rfl := Option.some.inj hf
        exact retI C0 hP hD hS rfl dX5_strengthOf_65
      · have hf := iff_ c3 hf
        by_cases c4 : p0 = (-12)
        · have hf := ift c4 hf
          refine lv_tableIn (off := 61) (tgt := 62) hx hb dX5_strengthOf_1 (by rw [c4]; decide) (by rw [c4]; decide) (by rw [c4]; rfl) (by decide) ?_
          refine lv_iconst (v := 5) hx hb dX5_strengthOf_62 (by decide) ?_
          obtain rfl := Option.some.inj hf
          exact retI C0 hP hD hS rfl dX5_strengthOf_63
        · have hf := iff_ c4 hf
          by_cases c5 : p0 = (-11)
          · have hf := ift c5 hf
            refine lv_tableIn (off := 59) (tgt := 60) hx hb dX5_strengthOf_1 (by rw [c5]; decide) (by rw [c5]; decide) (by rw [c5]; rfl) (by decide) ?_
            refine lv_iconst (v := 4) hx hb dX5_strengthOf_60 (by decide) ?_
            obtain rfl := Option.some.inj hf
            exact retI C0 hP hD hS rfl dX5_strengthOf_61
          · have hf := iff_ c5 hf
            by_cases c6 : p0 = (-10)
            · have hf := ift c6 hf
              refine lv_tableIn (off := 57) (tgt := 58) hx hb dX5_strengthOf_1 (by rw [c6]; decide) (by rw [c6]; decide) (by rw [c6]; rfl) (by decide) ?_
              refine lv_iconst (v := 4) hx hb dX5_strengthOf_58 (by decide) ?_
              obtain rfl := Option.some.inj hf
              exact retI C0 hP hD hS rfl dX5_strengthOf_59
            · have hf := iff_ c6 hf
              by_cases c7 : p0 = (-9)
              · have hf := ift c7 hf
                refine lv_tableIn (off := 53) (tgt := 54) hx hb dX5_strengthOf_1 (by rw [c7]; decide) (by rw [c7]; decide) (by rw [c7]; rfl) (by decide) ?_
                refine lv_iconst (v := 2) hx hb dX5_strengthOf_54 (by decide) ?_
                obtain rfl := Option.some.inj hf
                exact retI C0 hP hD hS rfl dX5_strengthOf_55
              · have hf := iff_ c7 hf
                by_cases c8 : p0 = (-8)
                · have hf := ift c8 hf
                  refine lv_tableIn (off := 51) (tgt := 52) hx hb dX5_strengthOf_1 (by rw [c8]; decide) (by rw [c8]; decide) (by rw [c8]; rfl) (by decide) ?_
                  refine lv_iconst (v := 1) hx hb dX5_strengthOf_52 (by decide) ?_
                  obtain rfl := Option.some.inj hf
                  exact retI C0 hP hD hS rfl dX5_strengthOf_53
                · have hf := iff_ c8 hf
                  by_cases c9 : p0 = (-7)
                  · have hf := ift c9 hf
                    refine lv_tableIn (off := 55) (tgt := 56) hx hb dX5_strengthOf_1 (by rw [c9]; decide) (by rw [c9]; decide) (by rw [c9]; rfl) (by decide) ?_
                    refine lv_iconst (v := 3) hx hb dX5_strengthOf_56 (by decide) ?_
                    obtain rfl := Option.some.inj hf
                    exact retI C0 hP hD hS rfl dX5_strengthOf_57
                  · have hf := iff_ c9 hf
                    refine lv_tableOut (tgt := 72) hx hb dX5_strengthOf_1 (tb_out (fun k h1 h2 => ?_)) (by decide) ?_
                    · have hz : k = (-15) ∨ k = (-14) ∨ k = (-13) ∨ k = (-12) ∨ k = (-11) ∨ k = (-10) ∨ k = (-9) ∨ k = (-8) ∨ k = (-7) := by omega
                      rcases hz with rfl | rfl | rfl | rfl | rfl | rfl | rfl | rfl | rfl
                      · exact tb_ne c1 (by decide)
                      · exact tb_ne c2 (by decide)
                      · exact tb_ne c3 (by decide)
                      · exact tb_ne c4 (by decide)
                      · exact tb_ne c5 (by decide)
                      · exact tb_ne c6 (by decide)
                      · exact tb_ne c7 (by decide)
                      · exact tb_ne c8 (by decide)
                      · exact tb_ne c9 (by decide)
                    refine lv_iconst (v := 0) hx hb dX5_strengthOf_72 (by decide) ?_
                    obtain rfl := Option.some.inj hf
                    exact retI C0 hP hD hS rfl dX5_strengthOf_73
theorem mX5_strengthOf (l : Launch) (dC : Nat → ClassId) (dI : Nat → Nat → Nat) (cc : Nat → ClassId)  (sz : Nat)  (p0 : Int32) {out : Int32} (hf : fX5_strengthOf p0 = some out) : Met l yX5_strengthOf (Cond.code yX5_strengthOf cX5_strengthOf 1 (some .int) :: GW) rmX5_strengthOf (PI dC dI cc [.int p0] [] sz) (QI dC dI cc out [] (va_A [] sz)) 0 0 (va_A [] sz) :=
  met_of (Q := fun A => QI dC dI cc out [] A) (by decide) rfl (Nat.le_of_ble_eq_true rfl) (fun p e s m below meth c A C0 hP hD hS ls hl => bX5_strengthOf C0 p0 hf hP hD hS hl)
abbrev rmX5_doWaiting : Room := { frames := 1, cells := 0, slots := 0, locals := 22 }
def lX5_doWaiting_5 (ke5_58 : Int32 → Int32 → (Nat → Int32) → Option (Int32 × Int32 × (Nat → Int32)))  (R_waiting : Nat → Int32) (x1 : Int32) : Nat → Int32 → Int32 → (Nat → Int32) → Int32 → Option (Int32 × Int32 × (Nat → Int32))
  | 0, _, _, _, _ => none
  | n+1, R_waits, D_codeLength, D_code, x2 =>
    if x2 ≤ 0 then
      ke5_58 R_waits D_codeLength D_code
    else
      if 80 < x2 then
        ke5_58 R_waits D_codeLength D_code
      else
        ck (inb (x2 - (1 : Int32)) 80) <|
        (fX5_strengthOf (R_waiting ((x2 - (1 : Int32)) : Int32).toNatClampNeg)).bind fun v5 =>
        if v5 < x1 then
          ke5_58 R_waits D_codeLength D_code
        else
          ck (inb (x2 - (1 : Int32)) 80) <|
          (fX5_putCode D_codeLength D_code (R_waiting ((x2 - (1 : Int32)) : Int32).toNatClampNeg)).bind fun v9 =>
          lX5_doWaiting_5 ke5_58 R_waiting x1 n (x2 - (1 : Int32)) v9.1 v9.2 (x2 + (-1))
set_option maxHeartbeats 4000000 in
set_option maxRecDepth 100000 in
theorem wlX5_doWaiting_5 {p : Program} {l : Launch} {e : Env} {s : State} {m : MethodId} {args : Array Value} {below : List Frame} {meth : Method} {c : Code} {A : Nat → Prop} {dC : Nat → ClassId} {dI : Nat → Nat → Nat} {cc : Nat → ClassId} (C0 : CT p s m args meth c A dC dI cc cX5_doWaiting 3 none RX5) (oR aR_tape oD aR_waiting aD_lean aD_deaf aD_kind aD_call aD_cost aD_joy aD_follows aD_code aD_ruleFrom aD_ruleTo : Nat) (R_end : Int32) (R_place : Int32) (R_token : Int32) (R_start : Int32) (R_digits : Int32) (R_number : Int32) (R_fault : Int32) (R_clockIsTold : Int32) (R_depth : Int32) (R_nots : Int32) (R_partIsDue : Int32) (R_notMayStand : Int32) (R_waiting : Nat → Int32) (D_oil : Int32) (D_weight : Int32) (D_treasury : Int32) (D_aldermen : Int32) (D_motions : Int32) (x1 : Int32) {out : Int32 × Int32 × (Nat → Int32)} (ke5_58 : Int32 → Int32 → (Nat → Int32) → Option (Int32 × Int32 × (Nat → Int32))) (hke5_58 : ∀ (R_waits' : Int32) (D_codeLength' : Int32) (D_code' : Nat → Int32), ke5_58 R_waits' D_codeLength' D_code' = some out → ∀ (H : Heap) (locs : List Loc), va_P (dC, dI) cLs [(oR, .inr (5, mkX5 aR_tape oD R_end R_place R_token R_start R_digits R_number R_fault R_clockIsTold aR_waiting R_waits' R_depth R_nots R_partIsDue R_notMayStand)), (oD, .inr (1, mkX1 D_oil D_weight D_treasury D_aldermen aD_lean aD_deaf D_motions aD_kind aD_call aD_cost aD_joy aD_follows aD_code D_codeLength' aD_ruleFrom aD_ruleTo)), (aR_waiting, .inl (cc 0, 80, .inl R_waiting)), (aD_code, .inl (cc 0, 700, .inl D_code'))] H → va_D A [(oR, .inr (5, mkX5 aR_tape oD R_end R_place R_token R_start R_digits R_number R_fault R_clockIsTold aR_waiting R_waits' R_depth R_nots R_partIsDue R_notMayStand)), (oD, .inr (1, mkX1 D_oil D_weight D_treasury D_aldermen aD_lean aD_deaf D_motions aD_kind aD_call aD_cost aD_joy aD_follows aD_code D_codeLength' aD_ruleFrom aD_ruleTo)), (aR_waiting, .inl (cc 0, 80, .inl R_waiting)), (aD_code, .inl (cc 0, 700, .inl D_code'))] → va_S A s.heap H locs → ∀ ls : Array Slot, lv_has ls 3 [] → W p l e rmX5_doWaiting s m args below meth c H locs 0 0 (MQ below (QV dC dI cc [(oR, .inr (5, mkX5 aR_tape oD R_end R_place R_token R_start R_digits R_number R_fault R_clockIsTold aR_waiting out.1 R_depth R_nots R_partIsDue R_notMayStand)), (oD, .inr (1, mkX1 D_oil D_weight D_treasury D_aldermen aD_lean aD_deaf D_motions aD_kind aD_call aD_cost aD_joy aD_follows aD_code out.2.1 aD_ruleFrom aD_ruleTo)), (aR_waiting, .inl (cc 0, 80, .inl R_waiting)), (aD_code, .inl (cc 0, 700, .inl out.2.2))] A) args s 0 0 A) (F0 m 58 ls [])) : ∀ (n : Nat) (R_waits : Int32) (D_codeLength : Int32) (D_code : Nat → Int32) (x2 : Int32) (hf : lX5_doWaiting_5 ke5_58 R_waiting x1 n R_waits D_codeLength D_code x2 = some out) (H : Heap) (locs : List Loc) (hP : va_P (dC, dI) cLs [(oR, .inr (5, mkX5 aR_tape oD R_end R_place R_token R_start R_digits R_number R_fault R_clockIsTold aR_waiting R_waits R_depth R_nots R_partIsDue R_notMayStand)), (oD, .inr (1, mkX1 D_oil D_weight D_treasury D_aldermen aD_lean aD_deaf D_motions aD_kind aD_call aD_cost aD_joy aD_follows aD_code D_codeLength aD_ruleFrom aD_ruleTo)), (aR_waiting, .inl (cc 0, 80, .inl R_waiting)), (aD_code, .inl (cc 0, 700, .inl D_code))] H) (hD : va_D A [(oR, .inr (5, mkX5 aR_tape oD R_end R_place R_token R_start R_digits R_number R_fault R_clockIsTold aR_waiting R_waits R_depth R_nots R_partIsDue R_notMayStand)), (oD, .inr (1, mkX1 D_oil D_weight D_treasury D_aldermen aD_lean aD_deaf D_motions aD_kind aD_call aD_cost aD_joy aD_follows aD_code D_codeLength aD_ruleFrom aD_ruleTo)), (aR_waiting, .inl (cc 0, 80, .inl R_waiting)), (aD_code, .inl (cc 0, 700, .inl D_code))]) (hS : va_S A s.heap H locs) (ls : Array Slot) (hl : lv_has ls 3 [(0, .ref oR), (1, .int x1), (2, .int x2)]), W p l e rmX5_doWaiting s m args below meth c H locs 0 0 (MQ below (QV dC dI cc [(oR, .inr (5, mkX5 aR_tape oD R_end R_place R_token R_start R_digits R_number R_fault R_clockIsTold aR_waiting out.1 R_depth R_nots R_partIsDue R_notMayStand)), (oD, .inr (1, mkX1 D_oil D_weight D_treasury D_aldermen aD_lean aD_deaf D_motions aD_kind aD_call aD_cost aD_joy aD_follows aD_code out.2.1 aD_ruleFrom aD_ruleTo)), (aR_waiting, .inl (cc 0, 80, .inl R_waiting)), (aD_code, .inl (cc 0, 700, .inl out.2.2))] A) args s 0 0 A) (F0 m 5 ls []) := by
  obtain ⟨hx, hb, hml, hr, hlocks, hown, hG, hK, hA⟩ := id C0
  intro n
  induction n with
  | zero => intro R_waits D_codeLength D_code x2 hf; cases hf
  | succ n ih =>
    intro R_waits D_codeLength D_code x2 hf H locs hP hD hS ls hl
    unfold lX5_doWaiting_5 at hf
    refine lv_iload_n hx hb dX5_doWaiting_5 rfl (lv_at hl 2 rfl) ?_
    refine lv_if_le (tgt := 58) hx hb dX5_doWaiting_6 (by decide) (fun c1 => ?_) (fun c1 => ?_)
    · have hf := ift c1 hf
      exact hke5_58 R_waits D_codeLength D_code hf _ _ hP hD hS _ (lv_sub hl [] rfl)
    · have hf := iff_ c1 hf
      refine lv_iload_n hx hb dX5_doWaiting_9 rfl (lv_at hl 2 rfl) ?_
      refine lv_aload_n hx hb dX5_doWaiting_10 rfl (lv_at hl 0 rfl) ?_
      refine va_get (D := (dC, dI)) (ci := 5) (v := .ref aR_waiting) (C := RX5) (T := TX5) (N := 16) hx hb hG kinX5 hown hK hP 0 rfl rfl 10 (by decide) (hG _ kfX5_9) (fun _ h9 => h9) rfl dX5_doWaiting_11 ?_
      refine va_alen hx hb hK hP 2 0 rfl rfl (v := 80) rfl dX5_doWaiting_14 ?_
      refine lv_icmp_gt (tgt := 58) hx hb dX5_doWaiting_15 (by decide) (fun c2 => ?_) (fun c2 => ?_)
      · have hf := ift c2 hf
        exact hke5_58 R_waits D_codeLength D_code hf _ _ hP hD hS _ (lv_sub hl [] rfl)
      · have hf := iff_ c2 hf
        refine lv_aload_n hx hb dX5_doWaiting_18 rfl (lv_at hl 0 rfl) ?_
        refine va_get (D := (dC, dI)) (ci := 5) (v := .ref aR_waiting) (C := RX5) (T := TX5) (N := 16) hx hb hG kinX5 hown hK hP 0 rfl rfl 10 (by decide) (hG _ kfX5_9) (fun _ h9 => h9) rfl dX5_doWaiting_19 ?_
        refine lv_iload_n hx hb dX5_doWaiting_22 rfl (lv_at hl 2 rfl) ?_
        refine lv_iconst (v := 1) hx hb dX5_doWaiting_23 (by decide) ?_
        refine lv_isub hx hb dX5_doWaiting_24 ?_
        refine ck_el hf (fun g3 hf => ?_)
        refine va_iald hx hb hK hP 2 0 rfl rfl (inb_in g3) dX5_doWaiting_25 ?_
        refine bd_el hf (fun v5 hv5 hf => ?_)
        refine callSi (As := [.int (R_waiting ((x2 - (1 : Int32)) : Int32).toNatClampNeg)]) (rest := []) (wr := [(oR, .inr (5, mkX5 aR_tape oD R_end R_place R_token R_start R_digits R_number R_fault R_clockIsTold aR_waiting R_waits R_depth R_nots R_partIsDue R_notMayStand)), (oD, .inr (1, mkX1 D_oil D_weight D_treasury D_aldermen aD_lean aD_deaf D_motions aD_kind aD_call aD_cost aD_joy aD_follows aD_code D_codeLength aD_ruleFrom aD_ruleTo)), (aR_waiting, .inl (cc 0, 80, .inl R_waiting)), (aD_code, .inl (cc 0, 700, .inl D_code))]) (wn := [(oR, .inr (5, mkX5 aR_tape oD R_end R_place R_token R_start R_digits R_number R_fault R_clockIsTold aR_waiting R_waits R_depth R_nots R_partIsDue R_notMayStand)), (oD, .inr (1, mkX1 D_oil D_weight D_treasury D_aldermen aD_lean aD_deaf D_motions aD_kind aD_call aD_cost aD_joy aD_follows aD_code D_codeLength aD_ruleFrom aD_ruleTo)), (aR_waiting, .inl (cc 0, 80, .inl R_waiting)), (aD_code, .inl (cc 0, 700, .inl D_code))]) C0 ksX5_strengthOf kmX5_175 hP hD hS (mX5_strengthOf l dC dI cc  _ (R_waiting ((x2 - (1 : Int32)) : Int32).toNatClampNeg) hv5) ⟨rfl, rfl⟩ ⟨Nat.le_of_ble_eq_true rfl, Nat.le_of_ble_eq_true rfl⟩ [] [0, 1, 2, 3] [0, 1, 2, 3] rfl rfl rfl rfl rfl hl.1 rfl (Nat.le_of_ble_eq_true rfl) ⟨Nat.zero_le _, Nat.zero_le _⟩ dX5_doWaiting_26 (fun H locs hP hD hS => ?_)
        refine lv_iload_n hx hb dX5_doWaiting_29 rfl (lv_at hl 1 rfl) ?_
        refine lv_icmp_lt (tgt := 58) hx hb dX5_doWaiting_30 (by decide) (fun c6 => ?_) (fun c6 => ?_)
        · have hf := ift c6 hf
          exact hke5_58 R_waits D_codeLength D_code hf _ _ hP hD hS _ (lv_sub hl [] rfl)
        · have hf := iff_ c6 hf
          refine lv_aload_n hx hb dX5_doWaiting_33 rfl (lv_at hl 0 rfl) ?_
          refine lv_aload_n hx hb dX5_doWaiting_34 rfl (lv_at hl 0 rfl) ?_
          refine va_get (D := (dC, dI)) (ci := 5) (v := .ref aR_waiting) (C := RX5) (T := TX5) (N := 16) hx hb hG kinX5 hown hK hP 0 rfl rfl 10 (by decide) (hG _ kfX5_9) (fun _ h9 => h9) rfl dX5_doWaiting_35 ?_
          refine lv_iload_n hx hb dX5_doWaiting_38 rfl (lv_at hl 2 rfl) ?_
          refine lv_iconst (v := 1) hx hb dX5_doWaiting_39 (by decide) ?_
          refine lv_isub hx hb dX5_doWaiting_40 ?_
          refine ck_el hf (fun g7 hf => ?_)
          refine va_iald hx hb hK hP 2 0 rfl rfl (inb_in g7) dX5_doWaiting_41 ?_
          refine bd_el hf (fun v9 hv9 hf => ?_)
          refine callVv (As := [.int (R_waiting ((x2 - (1 : Int32)) : Int32).toNatClampNeg)]) (rest := []) (wr := [(aR_waiting, .inl (cc 0, 80, .inl R_waiting))]) (wn := [(oR, .inr (5, mkX5 aR_tape oD R_end R_place R_token R_start R_digits R_number R_fault R_clockIsTold aR_waiting R_waits R_depth R_nots R_partIsDue R_notMayStand)), (oD, .inr (1, mkX1 D_oil D_weight D_treasury D_aldermen aD_lean aD_deaf D_motions aD_kind aD_call aD_cost aD_joy aD_follows aD_code v9.1 aD_ruleFrom aD_ruleTo)), (aR_waiting, .inl (cc 0, 80, .inl R_waiting)), (aD_code, .inl (cc 0, 700, .inl v9.2))]) C0 kvX5_putCode kmX5_159 hP hD hS (mX5_putCode l dC dI cc oR aR_tape oD aR_waiting aD_lean aD_deaf aD_kind aD_call aD_cost aD_joy aD_follows aD_code aD_ruleFrom aD_ruleTo _ R_end R_place R_token R_start R_digits R_number R_fault R_clockIsTold R_waits R_depth R_nots R_partIsDue R_notMayStand D_oil D_weight D_treasury D_aldermen D_motions D_codeLength D_code (R_waiting ((x2 - (1 : Int32)) : Int32).toNatClampNeg) hv9) ⟨rfl, rfl⟩ ⟨Nat.le_of_ble_eq_true rfl, Nat.le_of_ble_eq_true rfl⟩ [0, 1, 3] [2] [1, 2, 0, 3] rfl rfl rfl rfl (ci := 5) rfl rfl 0 rfl rfl hl.1 rfl (Nat.le_of_ble_eq_true rfl) ⟨Nat.zero_le _, Nat.zero_le _⟩ dX5_doWaiting_42 (fun H locs hP hD hS => ?_)
          refine lv_aload_n hx hb dX5_doWaiting_45 rfl (lv_at hl 0 rfl) ?_
          refine lv_iload_n hx hb dX5_doWaiting_46 rfl (lv_at hl 2 rfl) ?_
          refine lv_iconst (v := 1) hx hb dX5_doWaiting_47 (by decide) ?_
          refine lv_isub hx hb dX5_doWaiting_48 ?_
          refine va_put (D := (dC, dI)) (ci := 5) (v := .int (x2 - (1 : Int32))) (ty := .int) (C := RX5) (T := TX5) (N := 16) hx hb hG kinX5 tyX5 tyX5_ok nmX5 hown hK hP hD hS 0 rfl rfl 11 (by decide) (hG _ kfX5_122) (fun _ h9 => h9) rfl (by decide +kernel) rfl rfl (Nat.le_of_ble_eq_true rfl) dX5_doWaiting_49 (fun H locs hP hD hS => ?_)
          have hP : va_P (dC, dI) cLs [(oR, .inr (5, mkX5 aR_tape oD R_end R_place R_token R_start R_digits R_number R_fault R_clockIsTold aR_waiting (x2 - (1 : Int32)) R_depth R_nots R_partIsDue R_notMayStand)), (oD, .inr (1, mkX1 D_oil D_weight D_treasury D_aldermen aD_lean aD_deaf D_motions aD_kind aD_call aD_cost aD_joy aD_follows aD_code v9.1 aD_ruleFrom aD_ruleTo)), (aR_waiting, .inl (cc 0, 80, .inl R_waiting)), (aD_code, .inl (cc 0, 700, .inl v9.2))] _ := hP
          have hD : va_D A [(oR, .inr (5, mkX5 aR_tape oD R_end R_place R_token R_start R_digits R_number R_fault R_clockIsTold aR_waiting (x2 - (1 : Int32)) R_depth R_nots R_partIsDue R_notMayStand)), (oD, .inr (1, mkX1 D_oil D_weight D_treasury D_aldermen aD_lean aD_deaf D_motions aD_kind aD_call aD_cost aD_joy aD_follows aD_code v9.1 aD_ruleFrom aD_ruleTo)), (aR_waiting, .inl (cc 0, 80, .inl R_waiting)), (aD_code, .inl (cc 0, 700, .inl v9.2))] := hD
          refine lv_iinc (v := (x2 + (-1))) (lv' := [(2, .int (x2 + (-1))), (0, .ref oR), (1, .int x1)]) hx hb dX5_doWaiting_52 hl (k := 2) rfl rfl (by decide) rfl (fun ls hl => ?_)
          refine lv_goto (tgt := 5) hx hb dX5_doWaiting_55 (by decide) ?_
          exact ih (x2 - (1 : Int32)) v9.1 v9.2 (x2 + (-1)) hf _ _ hP hD hS _ (lv_sub hl [1, 2, 0] rfl)
def fX5_doWaiting  (R_waits : Int32) (R_waiting : Nat → Int32) (D_codeLength : Int32) (D_code : Nat → Int32) (p0 : Int32) : Option (Int32 × Int32 × (Nat → Int32)) :=
  lX5_doWaiting_5 (fun (R_waits_10 : Int32) (D_codeLength_11 : Int32) (D_code_12 : Nat → Int32) =>
    some (R_waits_10, D_codeLength_11, D_code_12)) R_waiting p0 FU R_waits D_codeLength D_code R_waits
set_option maxHeartbeats 4000000 in
set_option maxRecDepth 100000 in
theorem bX5_doWaiting {p : Program} {l : Launch} {e : Env} {s : State} {m : MethodId} {args : Array Value} {below : List Frame} {meth : Method} {c : Code} {A : Nat → Prop} {dC : Nat → ClassId} {dI : Nat → Nat → Nat} {cc : Nat → ClassId} (C0 : CT p s m args meth c A dC dI cc cX5_doWaiting 3 none RX5) (oR aR_tape oD aR_waiting aD_lean aD_deaf aD_kind aD_call aD_cost aD_joy aD_follows aD_code aD_ruleFrom aD_ruleTo : Nat) (R_end : Int32) (R_place : Int32) (R_token : Int32) (R_start : Int32) (R_digits : Int32) (R_number : Int32) (R_fault : Int32) (R_clockIsTold : Int32) (R_waits : Int32) (R_depth : Int32) (R_nots : Int32) (R_partIsDue : Int32) (R_notMayStand : Int32) (R_waiting : Nat → Int32) (D_oil : Int32) (D_weight : Int32) (D_treasury : Int32) (D_aldermen : Int32) (D_motions : Int32) (D_codeLength : Int32) (D_code : Nat → Int32) (p0 : Int32) {out : Int32 × Int32 × (Nat → Int32)} (hf : fX5_doWaiting R_waits R_waiting D_codeLength D_code p0 = some out) {H : Heap} {locs : List Loc} (hP : va_P (dC, dI) cLs [(oR, .inr (5, mkX5 aR_tape oD R_end R_place R_token R_start R_digits R_number R_fault R_clockIsTold aR_waiting R_waits R_depth R_nots R_partIsDue R_notMayStand)), (oD, .inr (1, mkX1 D_oil D_weight D_treasury D_aldermen aD_lean aD_deaf D_motions aD_kind aD_call aD_cost aD_joy aD_follows aD_code D_codeLength aD_ruleFrom aD_ruleTo)), (aR_waiting, .inl (cc 0, 80, .inl R_waiting)), (aD_code, .inl (cc 0, 700, .inl D_code))] H) (hD : va_D A [(oR, .inr (5, mkX5 aR_tape oD R_end R_place R_token R_start R_digits R_number R_fault R_clockIsTold aR_waiting R_waits R_depth R_nots R_partIsDue R_notMayStand)), (oD, .inr (1, mkX1 D_oil D_weight D_treasury D_aldermen aD_lean aD_deaf D_motions aD_kind aD_call aD_cost aD_joy aD_follows aD_code D_codeLength aD_ruleFrom aD_ruleTo)), (aR_waiting, .inl (cc 0, 80, .inl R_waiting)), (aD_code, .inl (cc 0, 700, .inl D_code))]) (hS : va_S A s.heap H locs) {ls : Array Slot} (hl : lv_has ls 3 [(0, .ref oR), (1, .int p0)]) : W p l e rmX5_doWaiting s m args below meth c H locs 0 0 (MQ below (QV dC dI cc [(oR, .inr (5, mkX5 aR_tape oD R_end R_place R_token R_start R_digits R_number R_fault R_clockIsTold aR_waiting out.1 R_depth R_nots R_partIsDue R_notMayStand)), (oD, .inr (1, mkX1 D_oil D_weight D_treasury D_aldermen aD_lean aD_deaf D_motions aD_kind aD_call aD_cost aD_joy aD_follows aD_code out.2.1 aD_ruleFrom aD_ruleTo)), (aR_waiting, .inl (cc 0, 80, .inl R_waiting)), (aD_code, .inl (cc 0, 700, .inl out.2.2))] A) args s 0 0 A) (F0 m 0 ls []) := by
  obtain ⟨hx, hb, hml, hr, hlocks, hown, hG, hK, hA⟩ := id C0
  unfold fX5_doWaiting at hf
  refine lv_aload_n hx hb dX5_doWaiting_0 rfl (lv_at hl 0 rfl) ?_
  refine va_get (D := (dC, dI)) (ci := 5) (v := .int R_waits) (C := RX5) (T := TX5) (N := 16) hx hb hG kinX5 hown hK hP 0 rfl rfl 11 (by decide) (hG _ kfX5_122) (fun _ h9 => h9) rfl dX5_doWaiting_1 ?_
  refine lv_istore_n (lv' := [(2, .int R_waits), (0, .ref oR), (1, .int p0)]) hx hb dX5_doWaiting_4 rfl hl (by decide) rfl (fun ls hl => ?_)
  refine wlX5_doWaiting_5 C0 oR aR_tape oD aR_waiting aD_lean aD_deaf aD_kind aD_call aD_cost aD_joy aD_follows aD_code aD_ruleFrom aD_ruleTo R_end R_place R_token R_start R_digits R_number R_fault R_clockIsTold R_depth R_nots R_partIsDue R_notMayStand R_waiting D_oil D_weight D_treasury D_aldermen D_motions p0 _ ?_ FU R_waits D_codeLength D_code R_waits hf _ _ hP hD hS _ (lv_sub hl [1, 2, 0] rfl)
  · intro R_waits_10 D_codeLength_11 D_code_12 hf H locs hP hD hS ls hl
    obtain rfl := Option.some.inj hf
    exact retV C0 hP hD hS dX5_doWaiting_58
theorem mX5_doWaiting (l : Launch) (dC : Nat → ClassId) (dI : Nat → Nat → Nat) (cc : Nat → ClassId) (oR aR_tape oD aR_waiting aD_lean aD_deaf aD_kind aD_call aD_cost aD_joy aD_follows aD_code aD_ruleFrom aD_ruleTo : Nat) (sz : Nat) (R_end : Int32) (R_place : Int32) (R_token : Int32) (R_start : Int32) (R_digits : Int32) (R_number : Int32) (R_fault : Int32) (R_clockIsTold : Int32) (R_waits : Int32) (R_depth : Int32) (R_nots : Int32) (R_partIsDue : Int32) (R_notMayStand : Int32) (R_waiting : Nat → Int32) (D_oil : Int32) (D_weight : Int32) (D_treasury : Int32) (D_aldermen : Int32) (D_motions : Int32) (D_codeLength : Int32) (D_code : Nat → Int32) (p0 : Int32) {out : Int32 × Int32 × (Nat → Int32)} (hf : fX5_doWaiting R_waits R_waiting D_codeLength D_code p0 = some out) : Met l yX5_doWaiting (Cond.code yX5_doWaiting cX5_doWaiting 3 none :: GW) rmX5_doWaiting (PI dC dI cc [.ref oR, .int p0] [(oR, .inr (5, mkX5 aR_tape oD R_end R_place R_token R_start R_digits R_number R_fault R_clockIsTold aR_waiting R_waits R_depth R_nots R_partIsDue R_notMayStand)), (oD, .inr (1, mkX1 D_oil D_weight D_treasury D_aldermen aD_lean aD_deaf D_motions aD_kind aD_call aD_cost aD_joy aD_follows aD_code D_codeLength aD_ruleFrom aD_ruleTo)), (aR_waiting, .inl (cc 0, 80, .inl R_waiting)), (aD_code, .inl (cc 0, 700, .inl D_code))] sz) (QV dC dI cc [(oR, .inr (5, mkX5 aR_tape oD R_end R_place R_token R_start R_digits R_number R_fault R_clockIsTold aR_waiting out.1 R_depth R_nots R_partIsDue R_notMayStand)), (oD, .inr (1, mkX1 D_oil D_weight D_treasury D_aldermen aD_lean aD_deaf D_motions aD_kind aD_call aD_cost aD_joy aD_follows aD_code out.2.1 aD_ruleFrom aD_ruleTo)), (aR_waiting, .inl (cc 0, 80, .inl R_waiting)), (aD_code, .inl (cc 0, 700, .inl out.2.2))] (va_A [(oR, .inr (5, mkX5 aR_tape oD R_end R_place R_token R_start R_digits R_number R_fault R_clockIsTold aR_waiting R_waits R_depth R_nots R_partIsDue R_notMayStand)), (oD, .inr (1, mkX1 D_oil D_weight D_treasury D_aldermen aD_lean aD_deaf D_motions aD_kind aD_call aD_cost aD_joy aD_follows aD_code D_codeLength aD_ruleFrom aD_ruleTo)), (aR_waiting, .inl (cc 0, 80, .inl R_waiting)), (aD_code, .inl (cc 0, 700, .inl D_code))] sz)) 0 0 (va_A [(oR, .inr (5, mkX5 aR_tape oD R_end R_place R_token R_start R_digits R_number R_fault R_clockIsTold aR_waiting R_waits R_depth R_nots R_partIsDue R_notMayStand)), (oD, .inr (1, mkX1 D_oil D_weight D_treasury D_aldermen aD_lean aD_deaf D_motions aD_kind aD_call aD_cost aD_joy aD_follows aD_code D_codeLength aD_ruleFrom aD_ruleTo)), (aR_waiting, .inl (cc 0, 80, .inl R_waiting)), (aD_code, .inl (cc 0, 700, .inl D_code))] sz) :=
  met_of (Q := fun A => QV dC dI cc [(oR, .inr (5, mkX5 aR_tape oD R_end R_place R_token R_start R_digits R_number R_fault R_clockIsTold aR_waiting out.1 R_depth R_nots R_partIsDue R_notMayStand)), (oD, .inr (1, mkX1 D_oil D_weight D_treasury D_aldermen aD_lean aD_deaf D_motions aD_kind aD_call aD_cost aD_joy aD_follows aD_code out.2.1 aD_ruleFrom aD_ruleTo)), (aR_waiting, .inl (cc 0, 80, .inl R_waiting)), (aD_code, .inl (cc 0, 700, .inl out.2.2))] A) (by decide) rfl (Nat.le_of_ble_eq_true rfl) (fun p e s m below meth c A C0 hP hD hS ls hl => bX5_doWaiting C0 oR aR_tape oD aR_waiting aD_lean aD_deaf aD_kind aD_call aD_cost aD_joy aD_follows aD_code aD_ruleFrom aD_ruleTo R_end R_place R_token R_start R_digits R_number R_fault R_clockIsTold R_waits R_depth R_nots R_partIsDue R_notMayStand R_waiting D_oil D_weight D_treasury D_aldermen D_motions D_codeLength D_code p0 hf hP hD hS hl)
abbrev rmX5_readBehindPart : Room := { frames := 2, cells := 0, slots := 0, locals := 44 }
def jX5_readBehindPart_140   (R_fault : Int32) (R_waits : Int32) (R_depth : Int32) (R_nots : Int32) (R_partIsDue : Int32) (R_notMayStand : Int32) (R_waiting : Nat → Int32) (D_codeLength : Int32) (D_code : Nat → Int32) (x1 : Int32)  : Option (Int32 × Int32 × Int32 × Int32 × Int32 × Int32 × (Nat → Int32) × Int32 × (Nat → Int32)) :=
  (fX5_putWaiting R_waits R_waiting x1).bind fun v13 =>
  if x1 = (-8) then
    some (R_fault, v13.1, R_depth, 0, 1, 1, v13.2, D_codeLength, D_code)
  else
    if x1 = (-9) then
      some (R_fault, v13.1, R_depth, 0, 1, 1, v13.2, D_codeLength, D_code)
    else
      some (R_fault, v13.1, R_depth, 0, 1, 0, v13.2, D_codeLength, D_code)
set_option maxHeartbeats 4000000 in
set_option maxRecDepth 100000 in
theorem wjX5_readBehindPart_140 {p : Program} {l : Launch} {e : Env} {s : State} {m : MethodId} {args : Array Value} {below : List Frame} {meth : Method} {c : Code} {A : Nat → Prop} {dC : Nat → ClassId} {dI : Nat → Nat → Nat} {cc : Nat → ClassId} (C0 : CT p s m args meth c A dC dI cc cX5_readBehindPart 3 none RX5) (oR aR_tape oD aR_waiting aD_lean aD_deaf aD_kind aD_call aD_cost aD_joy aD_follows aD_code aD_ruleFrom aD_ruleTo : Nat) (R_end : Int32) (R_place : Int32) (R_token : Int32) (R_start : Int32) (R_digits : Int32) (R_number : Int32) (R_fault : Int32) (R_clockIsTold : Int32) (R_waits : Int32) (R_depth : Int32) (R_nots : Int32) (R_partIsDue : Int32) (R_notMayStand : Int32) (R_waiting : Nat → Int32) (D_oil : Int32) (D_weight : Int32) (D_treasury : Int32) (D_aldermen : Int32) (D_motions : Int32) (D_codeLength : Int32) (D_code : Nat → Int32) (x1 : Int32) {out : Int32 × Int32 × Int32 × Int32 × Int32 × Int32 × (Nat → Int32) × Int32 × (Nat → Int32)}    (hf : jX5_readBehindPart_140  R_fault R_waits R_depth R_nots R_partIsDue R_notMayStand R_waiting D_codeLength D_code x1  = some out) (H : Heap) (locs : List Loc) (hP : va_P (dC, dI) cLs [(oR, .inr (5, mkX5 aR_tape oD R_end R_place R_token R_start R_digits R_number R_fault R_clockIsTold aR_waiting R_waits R_depth R_nots R_partIsDue R_notMayStand)), (oD, .inr (1, mkX1 D_oil D_weight D_treasury D_aldermen aD_lean aD_deaf D_motions aD_kind aD_call aD_cost aD_joy aD_follows aD_code D_codeLength aD_ruleFrom aD_ruleTo)), (aR_waiting, .inl (cc 0, 80, .inl R_waiting)), (aD_code, .inl (cc 0, 700, .inl D_code))] H) (hD : va_D A [(oR, .inr (5, mkX5 aR_tape oD R_end R_place R_token R_start R_digits R_number R_fault R_clockIsTold aR_waiting R_waits R_depth R_nots R_partIsDue R_notMayStand)), (oD, .inr (1, mkX1 D_oil D_weight D_treasury D_aldermen aD_lean aD_deaf D_motions aD_kind aD_call aD_cost aD_joy aD_follows aD_code D_codeLength aD_ruleFrom aD_ruleTo)), (aR_waiting, .inl (cc 0, 80, .inl R_waiting)), (aD_code, .inl (cc 0, 700, .inl D_code))]) (hS : va_S A s.heap H locs) (ls : Array Slot) (hl : lv_has ls 3 [(0, .ref oR), (1, .int x1)]) : W p l e rmX5_readBehindPart s m args below meth c H locs 0 0 (MQ below (QV dC dI cc [(oR, .inr (5, mkX5 aR_tape oD R_end R_place R_token R_start R_digits R_number out.1 R_clockIsTold aR_waiting out.2.1 out.2.2.1 out.2.2.2.1 out.2.2.2.2.1 out.2.2.2.2.2.1)), (oD, .inr (1, mkX1 D_oil D_weight D_treasury D_aldermen aD_lean aD_deaf D_motions aD_kind aD_call aD_cost aD_joy aD_follows aD_code out.2.2.2.2.2.2.2.1 aD_ruleFrom aD_ruleTo)), (aR_waiting, .inl (cc 0, 80, .inl out.2.2.2.2.2.2.1)), (aD_code, .inl (cc 0, 700, .inl out.2.2.2.2.2.2.2.2))] A) args s 0 0 A) (F0 m 140 ls []) := by
  obtain ⟨hx, hb, hml, hr, hlocks, hown, hG, hK, hA⟩ := id C0
  unfold jX5_readBehindPart_140 at hf
  refine lv_aload_n hx hb dX5_readBehindPart_140 rfl (lv_at hl 0 rfl) ?_
  refine lv_iload_n hx hb dX5_readBehindPart_141 rfl (lv_at hl 1 rfl) ?_
  refine bd_el hf (fun v13 hv13 hf => ?_)
  refine callVv (As := [.int x1]) (rest := []) (wr := [(oD, .inr (1, mkX1 D_oil D_weight D_treasury D_aldermen aD_lean aD_deaf D_motions aD_kind aD_call aD_cost aD_joy aD_follows aD_code D_codeLength aD_ruleFrom aD_ruleTo)), (aD_code, .inl (cc 0, 700, .inl D_code))]) (wn := [(oR, .inr (5, mkX5 aR_tape oD R_end R_place R_token R_start R_digits R_number R_fault R_clockIsTold aR_waiting v13.1 R_depth R_nots R_partIsDue R_notMayStand)), (oD, .inr (1, mkX1 D_oil D_weight D_treasury D_aldermen aD_lean aD_deaf D_motions aD_kind aD_call aD_cost aD_joy aD_follows aD_code D_codeLength aD_ruleFrom aD_ruleTo)), (aR_waiting, .inl (cc 0, 80, .inl v13.2)), (aD_code, .inl (cc 0, 700, .inl D_code))]) C0 kvX5_putWaiting kmX5_162 hP hD hS (mX5_putWaiting l dC dI cc oR aR_tape oD aR_waiting _ R_end R_place R_token R_start R_digits R_number R_fault R_clockIsTold R_waits R_depth R_nots R_partIsDue R_notMayStand R_waiting x1 hv13) ⟨rfl, rfl⟩ ⟨Nat.le_of_ble_eq_true rfl, Nat.le_of_ble_eq_true rfl⟩ [0, 2] [1, 3] [2, 0, 3, 1] rfl rfl rfl rfl (ci := 5) rfl rfl 0 rfl rfl hl.1 rfl (Nat.le_of_ble_eq_true rfl) ⟨Nat.zero_le _, Nat.zero_le _⟩ dX5_readBehindPart_142 (fun H locs hP hD hS => ?_)
  refine lv_aload_n hx hb dX5_readBehindPart_145 rfl (lv_at hl 0 rfl) ?_
  refine lv_iconst (v := 1) hx hb dX5_readBehindPart_146 (by decide) ?_
  refine va_put (D := (dC, dI)) (ci := 5) (v := .int 1) (ty := .boolean) (C := RX5) (T := TX5) (N := 16) hx hb hG kinX5 tyX5 tyX5_ok nmX5 hown hK hP hD hS 0 rfl rfl 14 (by decide) (hG _ kfX5_131) (fun _ h9 => h9) rfl (by decide +kernel) rfl rfl (Nat.le_of_ble_eq_true rfl) dX5_readBehindPart_147 (fun H locs hP hD hS => ?_)
  have hP : va_P (dC, dI) cLs [(oR, .inr (5, mkX5 aR_tape oD R_end R_place R_token R_start R_digits R_number R_fault R_clockIsTold aR_waiting v13.1 R_depth R_nots 1 R_notMayStand)), (oD, .inr (1, mkX1 D_oil D_weight D_treasury D_aldermen aD_lean aD_deaf D_motions aD_kind aD_call aD_cost aD_joy aD_follows aD_code D_codeLength aD_ruleFrom aD_ruleTo)), (aR_waiting, .inl (cc 0, 80, .inl v13.2)), (aD_code, .inl (cc 0, 700, .inl D_code))] _ := hP
  have hD : va_D A [(oR, .inr (5, mkX5 aR_tape oD R_end R_place R_token R_start R_digits R_number R_fault R_clockIsTold aR_waiting v13.1 R_depth R_nots 1 R_notMayStand)), (oD, .inr (1, mkX1 D_oil D_weight D_treasury D_aldermen aD_lean aD_deaf D_motions aD_kind aD_call aD_cost aD_joy aD_follows aD_code D_codeLength aD_ruleFrom aD_ruleTo)), (aR_waiting, .inl (cc 0, 80, .inl v13.2)), (aD_code, .inl (cc 0, 700, .inl D_code))] := hD
  refine lv_aload_n hx hb dX5_readBehindPart_150 rfl (lv_at hl 0 rfl) ?_
  refine lv_iload_n hx hb dX5_readBehindPart_151 rfl (lv_at hl 1 rfl) ?_
  refine lv_bipush (v := (-8)) hx hb dX5_readBehindPart_152 (by decide) ?_
  refine lv_icmp_eq (tgt := 163) hx hb dX5_readBehindPart_154 (by decide) (fun c14 => ?_) (fun c14 => ?_)
  · have hf := ift c14 hf
    refine lv_iconst (v := 1) hx hb dX5_readBehindPart_163 (by decide) ?_
    refine lv_goto (tgt := 168) hx hb dX5_readBehindPart_164 (by decide) ?_
    refine va_put (D := (dC, dI)) (ci := 5) (v := .int 1) (ty := .boolean) (C := RX5) (T := TX5) (N := 16) hx hb hG kinX5 tyX5 tyX5_ok nmX5 hown hK hP hD hS 0 rfl rfl 15 (by decide) (hG _ kfX5_134) (fun _ h9 => h9) rfl (by decide +kernel) rfl rfl (Nat.le_of_ble_eq_true rfl) dX5_readBehindPart_168 (fun H locs hP hD hS => ?_)
    have hP : va_P (dC, dI) cLs [(oR, .inr (5, mkX5 aR_tape oD R_end R_place R_token R_start R_digits R_number R_fault R_clockIsTold aR_waiting v13.1 R_depth R_nots 1 1)), (oD, .inr (1, mkX1 D_oil D_weight D_treasury D_aldermen aD_lean aD_deaf D_motions aD_kind aD_call aD_cost aD_joy aD_follows aD_code D_codeLength aD_ruleFrom aD_ruleTo)), (aR_waiting, .inl (cc 0, 80, .inl v13.2)), (aD_code, .inl (cc 0, 700, .inl D_code))] _ := hP
    have hD : va_D A [(oR, .inr (5, mkX5 aR_tape oD R_end R_place R_token R_start R_digits R_number R_fault R_clockIsTold aR_waiting v13.1 R_depth R_nots 1 1)), (oD, .inr (1, mkX1 D_oil D_weight D_treasury D_aldermen aD_lean aD_deaf D_motions aD_kind aD_call aD_cost aD_joy aD_follows aD_code D_codeLength aD_ruleFrom aD_ruleTo)), (aR_waiting, .inl (cc 0, 80, .inl v13.2)), (aD_code, .inl (cc 0, 700, .inl D_code))] := hD
    refine lv_aload_n hx hb dX5_readBehindPart_171 rfl (lv_at hl 0 rfl) ?_
    refine lv_iconst (v := 0) hx hb dX5_readBehindPart_172 (by decide) ?_
    refine va_put (D := (dC, dI)) (ci := 5) (v := .int 0) (ty := .int) (C := RX5) (T := TX5) (N := 16) hx hb hG kinX5 tyX5 tyX5_ok nmX5 hown hK hP hD hS 0 rfl rfl 13 (by decide) (hG _ kfX5_128) (fun _ h9 => h9) rfl (by decide +kernel) rfl rfl (Nat.le_of_ble_eq_true rfl) dX5_readBehindPart_173 (fun H locs hP hD hS => ?_)
    have hP : va_P (dC, dI) cLs [(oR, .inr (5, mkX5 aR_tape oD R_end R_place R_token R_start R_digits R_number R_fault R_clockIsTold aR_waiting v13.1 R_depth 0 1 1)), (oD, .inr (1, mkX1 D_oil D_weight D_treasury D_aldermen aD_lean aD_deaf D_motions aD_kind aD_call aD_cost aD_joy aD_follows aD_code D_codeLength aD_ruleFrom aD_ruleTo)), (aR_waiting, .inl (cc 0, 80, .inl v13.2)), (aD_code, .inl (cc 0, 700, .inl D_code))] _ := hP
    have hD : va_D A [(oR, .inr (5, mkX5 aR_tape oD R_end R_place R_token R_start R_digits R_number R_fault R_clockIsTold aR_waiting v13.1 R_depth 0 1 1)), (oD, .inr (1, mkX1 D_oil D_weight D_treasury D_aldermen aD_lean aD_deaf D_motions aD_kind aD_call aD_cost aD_joy aD_follows aD_code D_codeLength aD_ruleFrom aD_ruleTo)), (aR_waiting, .inl (cc 0, 80, .inl v13.2)), (aD_code, .inl (cc 0, 700, .inl D_code))] := hD
    obtain rfl := Option.some.inj hf
    exact retV C0 hP hD hS dX5_readBehindPart_176
  · have hf := iff_ c14 hf
    refine lv_iload_n hx hb dX5_readBehindPart_157 rfl (lv_at hl 1 rfl) ?_
    refine lv_bipush (v := (-9)) hx hb dX5_readBehindPart_158 (by decide) ?_
    refine lv_icmp_ne (tgt := 167) hx hb dX5_readBehindPart_160 (by decide) (fun c15 => ?_) (fun c15 => ?_)
    · have hf := iff_ c15 hf
      refine lv_iconst (v := 0) hx hb dX5_readBehindPart_167 (by decide) ?_
      refine va_put (D := (dC, dI)) (ci := 5) (v := .int 0) (ty := .boolean) (C := RX5) (T := TX5) (N := 16) hx hb hG kinX5 tyX5 tyX5_ok nmX5 hown hK hP hD hS 0 rfl rfl 15 (by decide) (hG _ kfX5_134) (fun _ h9 => h9) rfl (by decide +kernel) rfl rfl (Nat.le_of_ble_eq_true rfl) dX5_readBehindPart_168 (fun H locs hP hD hS => ?_)
      have hP : va_P (dC, dI) cLs [(oR, .inr (5, mkX5 aR_tape oD R_end R_place R_token R_start R_digits R_number R_fault R_clockIsTold aR_waiting v13.1 R_depth R_nots 1 0)), (oD, .inr (1, mkX1 D_oil D_weight D_treasury D_aldermen aD_lean aD_deaf D_motions aD_kind aD_call aD_cost aD_joy aD_follows aD_code D_codeLength aD_ruleFrom aD_ruleTo)), (aR_waiting, .inl (cc 0, 80, .inl v13.2)), (aD_code, .inl (cc 0, 700, .inl D_code))] _ := hP
      have hD : va_D A [(oR, .inr (5, mkX5 aR_tape oD R_end R_place R_token R_start R_digits R_number R_fault R_clockIsTold aR_waiting v13.1 R_depth R_nots 1 0)), (oD, .inr (1, mkX1 D_oil D_weight D_treasury D_aldermen aD_lean aD_deaf D_motions aD_kind aD_call aD_cost aD_joy aD_follows aD_code D_codeLength aD_ruleFrom aD_ruleTo)), (aR_waiting, .inl (cc 0, 80, .inl v13.2)), (aD_code, .inl (cc 0, 700, .inl D_code))] := hD
      refine lv_aload_n hx hb dX5_readBehindPart_171 rfl (lv_at hl 0 rfl) ?_
      refine lv_iconst (v := 0) hx hb dX5_readBehindPart_172 (by decide) ?_
      refine va_put (D := (dC, dI)) (ci := 5) (v := .int 0) (ty := .int) (C := RX5) (T := TX5) (N := 16) hx hb hG kinX5 tyX5 tyX5_ok nmX5 hown hK hP hD hS 0 rfl rfl 13 (by decide) (hG _ kfX5_128) (fun _ h9 => h9) rfl (by decide +kernel) rfl rfl (Nat.le_of_ble_eq_true rfl) dX5_readBehindPart_173 (fun H locs hP hD hS => ?_)
      have hP : va_P (dC, dI) cLs [(oR, .inr (5, mkX5 aR_tape oD R_end R_place R_token R_start R_digits R_number R_fault R_clockIsTold aR_waiting v13.1 R_depth 0 1 0)), (oD, .inr (1, mkX1 D_oil D_weight D_treasury D_aldermen aD_lean aD_deaf D_motions aD_kind aD_call aD_cost aD_joy aD_follows aD_code D_codeLength aD_ruleFrom aD_ruleTo)), (aR_waiting, .inl (cc 0, 80, .inl v13.2)), (aD_code, .inl (cc 0, 700, .inl D_code))] _ := hP
      have hD : va_D A [(oR, .inr (5, mkX5 aR_tape oD R_end R_place R_token R_start R_digits R_number R_fault R_clockIsTold aR_waiting v13.1 R_depth 0 1 0)), (oD, .inr (1, mkX1 D_oil D_weight D_treasury D_aldermen aD_lean aD_deaf D_motions aD_kind aD_call aD_cost aD_joy aD_follows aD_code D_codeLength aD_ruleFrom aD_ruleTo)), (aR_waiting, .inl (cc 0, 80, .inl v13.2)), (aD_code, .inl (cc 0, 700, .inl D_code))] := hD
      obtain rfl := Option.some.inj hf
      exact retV C0 hP hD hS dX5_readBehindPart_176
    · have hf := ift c15 hf
      refine lv_iconst (v := 1) hx hb dX5_readBehindPart_163 (by decide) ?_
      refine lv_goto (tgt := 168) hx hb dX5_readBehindPart_164 (by decide) ?_
      refine va_put (D := (dC, dI)) (ci := 5) (v := .int 1) (ty := .boolean) (C := RX5) (T := TX5) (N := 16) hx hb hG kinX5 tyX5 tyX5_ok nmX5 hown hK hP hD hS 0 rfl rfl 15 (by decide) (hG _ kfX5_134) (fun _ h9 => h9) rfl (by decide +kernel) rfl rfl (Nat.le_of_ble_eq_true rfl) dX5_readBehindPart_168 (fun H locs hP hD hS => ?_)
      have hP : va_P (dC, dI) cLs [(oR, .inr (5, mkX5 aR_tape oD R_end R_place R_token R_start R_digits R_number R_fault R_clockIsTold aR_waiting v13.1 R_depth R_nots 1 1)), (oD, .inr (1, mkX1 D_oil D_weight D_treasury D_aldermen aD_lean aD_deaf D_motions aD_kind aD_call aD_cost aD_joy aD_follows aD_code D_codeLength aD_ruleFrom aD_ruleTo)), (aR_waiting, .inl (cc 0, 80, .inl v13.2)), (aD_code, .inl (cc 0, 700, .inl D_code))] _ := hP
      have hD : va_D A [(oR, .inr (5, mkX5 aR_tape oD R_end R_place R_token R_start R_digits R_number R_fault R_clockIsTold aR_waiting v13.1 R_depth R_nots 1 1)), (oD, .inr (1, mkX1 D_oil D_weight D_treasury D_aldermen aD_lean aD_deaf D_motions aD_kind aD_call aD_cost aD_joy aD_follows aD_code D_codeLength aD_ruleFrom aD_ruleTo)), (aR_waiting, .inl (cc 0, 80, .inl v13.2)), (aD_code, .inl (cc 0, 700, .inl D_code))] := hD
      refine lv_aload_n hx hb dX5_readBehindPart_171 rfl (lv_at hl 0 rfl) ?_
      refine lv_iconst (v := 0) hx hb dX5_readBehindPart_172 (by decide) ?_
      refine va_put (D := (dC, dI)) (ci := 5) (v := .int 0) (ty := .int) (C := RX5) (T := TX5) (N := 16) hx hb hG kinX5 tyX5 tyX5_ok nmX5 hown hK hP hD hS 0 rfl rfl 13 (by decide) (hG _ kfX5_128) (fun _ h9 => h9) rfl (by decide +kernel) rfl rfl (Nat.le_of_ble_eq_true rfl) dX5_readBehindPart_173 (fun H locs hP hD hS => ?_)
      have hP : va_P (dC, dI) cLs [(oR, .inr (5, mkX5 aR_tape oD R_end R_place R_token R_start R_digits R_number R_fault R_clockIsTold aR_waiting v13.1 R_depth 0 1 1)), (oD, .inr (1, mkX1 D_oil D_weight D_treasury D_aldermen aD_lean aD_deaf D_motions aD_kind aD_call aD_cost aD_joy aD_follows aD_code D_codeLength aD_ruleFrom aD_ruleTo)), (aR_waiting, .inl (cc 0, 80, .inl v13.2)), (aD_code, .inl (cc 0, 700, .inl D_code))] _ := hP
      have hD : va_D A [(oR, .inr (5, mkX5 aR_tape oD R_end R_place R_token R_start R_digits R_number R_fault R_clockIsTold aR_waiting v13.1 R_depth 0 1 1)), (oD, .inr (1, mkX1 D_oil D_weight D_treasury D_aldermen aD_lean aD_deaf D_motions aD_kind aD_call aD_cost aD_joy aD_follows aD_code D_codeLength aD_ruleFrom aD_ruleTo)), (aR_waiting, .inl (cc 0, 80, .inl v13.2)), (aD_code, .inl (cc 0, 700, .inl D_code))] := hD
      obtain rfl := Option.some.inj hf
      exact retV C0 hP hD hS dX5_readBehindPart_176
def jX5_readBehindPart_99   (R_fault : Int32) (R_waits : Int32) (R_depth : Int32) (R_nots : Int32) (R_partIsDue : Int32) (R_notMayStand : Int32) (R_waiting : Nat → Int32) (D_codeLength : Int32) (D_code : Nat → Int32) (x1 : Int32) (x2 : Int32) (s1 : Int32) : Option (Int32 × Int32 × Int32 × Int32 × Int32 × Int32 × (Nat → Int32) × Int32 × (Nat → Int32)) :=
  (fX5_doWaiting R_waits R_waiting D_codeLength D_code s1).bind fun v10 =>
  if x2 = 0 then
    jX5_readBehindPart_140 R_fault v10.1 R_depth R_nots R_partIsDue R_notMayStand R_waiting v10.2.1 v10.2.2 x1
  else
    if v10.1 ≤ 0 then
      jX5_readBehindPart_140 R_fault v10.1 R_depth R_nots R_partIsDue R_notMayStand R_waiting v10.2.1 v10.2.2 x1
    else
      ck (inb (v10.1 - (1 : Int32)) 80) <|
      (fX5_strengthOf (R_waiting ((v10.1 - (1 : Int32)) : Int32).toNatClampNeg)).bind fun v19 =>
      (fX5_strengthOf x1).bind fun v21 =>
      if v19 = v21 then
        some (1, v10.1, R_depth, R_nots, R_partIsDue, R_notMayStand, R_waiting, v10.2.1, v10.2.2)
      else
        jX5_readBehindPart_140 R_fault v10.1 R_depth R_nots R_partIsDue R_notMayStand R_waiting v10.2.1 v10.2.2 x1
set_option maxHeartbeats 4000000 in
set_option maxRecDepth 100000 in
theorem wjX5_readBehindPart_99 {p : Program} {l : Launch} {e : Env} {s : State} {m : MethodId} {args : Array Value} {below : List Frame} {meth : Method} {c : Code} {A : Nat → Prop} {dC : Nat → ClassId} {dI : Nat → Nat → Nat} {cc : Nat → ClassId} (C0 : CT p s m args meth c A dC dI cc cX5_readBehindPart 3 none RX5) (oR aR_tape oD aR_waiting aD_lean aD_deaf aD_kind aD_call aD_cost aD_joy aD_follows aD_code aD_ruleFrom aD_ruleTo : Nat) (R_end : Int32) (R_place : Int32) (R_token : Int32) (R_start : Int32) (R_digits : Int32) (R_number : Int32) (R_fault : Int32) (R_clockIsTold : Int32) (R_waits : Int32) (R_depth : Int32) (R_nots : Int32) (R_partIsDue : Int32) (R_notMayStand : Int32) (R_waiting : Nat → Int32) (D_oil : Int32) (D_weight : Int32) (D_treasury : Int32) (D_aldermen : Int32) (D_motions : Int32) (D_codeLength : Int32) (D_code : Nat → Int32) (x1 : Int32) (x2 : Int32) {out : Int32 × Int32 × Int32 × Int32 × Int32 × Int32 × (Nat → Int32) × Int32 × (Nat → Int32)}   (s1 : Int32) (hf : jX5_readBehindPart_99  R_fault R_waits R_depth R_nots R_partIsDue R_notMayStand R_waiting D_codeLength D_code x1 x2 s1 = some out) (H : Heap) (locs : List Loc) (hP : va_P (dC, dI) cLs [(oR, .inr (5, mkX5 aR_tape oD R_end R_place R_token R_start R_digits R_number R_fault R_clockIsTold aR_waiting R_waits R_depth R_nots R_partIsDue R_notMayStand)), (oD, .inr (1, mkX1 D_oil D_weight D_treasury D_aldermen aD_lean aD_deaf D_motions aD_kind aD_call aD_cost aD_joy aD_follows aD_code D_codeLength aD_ruleFrom aD_ruleTo)), (aR_waiting, .inl (cc 0, 80, .inl R_waiting)), (aD_code, .inl (cc 0, 700, .inl D_code))] H) (hD : va_D A [(oR, .inr (5, mkX5 aR_tape oD R_end R_place R_token R_start R_digits R_number R_fault R_clockIsTold aR_waiting R_waits R_depth R_nots R_partIsDue R_notMayStand)), (oD, .inr (1, mkX1 D_oil D_weight D_treasury D_aldermen aD_lean aD_deaf D_motions aD_kind aD_call aD_cost aD_joy aD_follows aD_code D_codeLength aD_ruleFrom aD_ruleTo)), (aR_waiting, .inl (cc 0, 80, .inl R_waiting)), (aD_code, .inl (cc 0, 700, .inl D_code))]) (hS : va_S A s.heap H locs) (ls : Array Slot) (hl : lv_has ls 3 [(0, .ref oR), (1, .int x1), (2, .int x2)]) : W p l e rmX5_readBehindPart s m args below meth c H locs 0 0 (MQ below (QV dC dI cc [(oR, .inr (5, mkX5 aR_tape oD R_end R_place R_token R_start R_digits R_number out.1 R_clockIsTold aR_waiting out.2.1 out.2.2.1 out.2.2.2.1 out.2.2.2.2.1 out.2.2.2.2.2.1)), (oD, .inr (1, mkX1 D_oil D_weight D_treasury D_aldermen aD_lean aD_deaf D_motions aD_kind aD_call aD_cost aD_joy aD_follows aD_code out.2.2.2.2.2.2.2.1 aD_ruleFrom aD_ruleTo)), (aR_waiting, .inl (cc 0, 80, .inl out.2.2.2.2.2.2.1)), (aD_code, .inl (cc 0, 700, .inl out.2.2.2.2.2.2.2.2))] A) args s 0 0 A) (F0 m 99 ls [.int s1, .ref oR]) := by
  obtain ⟨hx, hb, hml, hr, hlocks, hown, hG, hK, hA⟩ := id C0
  unfold jX5_readBehindPart_99 at hf
  refine bd_el hf (fun v10 hv10 hf => ?_)
  refine callVv (As := [.int s1]) (rest := []) (wr := []) (wn := [(oR, .inr (5, mkX5 aR_tape oD R_end R_place R_token R_start R_digits R_number R_fault R_clockIsTold aR_waiting v10.1 R_depth R_nots R_partIsDue R_notMayStand)), (oD, .inr (1, mkX1 D_oil D_weight D_treasury D_aldermen aD_lean aD_deaf D_motions aD_kind aD_call aD_cost aD_joy aD_follows aD_code v10.2.1 aD_ruleFrom aD_ruleTo)), (aR_waiting, .inl (cc 0, 80, .inl R_waiting)), (aD_code, .inl (cc 0, 700, .inl v10.2.2))]) C0 kvX5_doWaiting kmX5_153 hP hD hS (mX5_doWaiting l dC dI cc oR aR_tape oD aR_waiting aD_lean aD_deaf aD_kind aD_call aD_cost aD_joy aD_follows aD_code aD_ruleFrom aD_ruleTo _ R_end R_place R_token R_start R_digits R_number R_fault R_clockIsTold R_waits R_depth R_nots R_partIsDue R_notMayStand R_waiting D_oil D_weight D_treasury D_aldermen D_motions D_codeLength D_code s1 hv10) ⟨rfl, rfl⟩ ⟨Nat.le_of_ble_eq_true rfl, Nat.le_of_ble_eq_true rfl⟩ [0, 1, 2, 3] [] [0, 1, 2, 3] rfl rfl rfl rfl (ci := 5) rfl rfl 0 rfl rfl hl.1 rfl (Nat.le_of_ble_eq_true rfl) ⟨Nat.zero_le _, Nat.zero_le _⟩ dX5_readBehindPart_99 (fun H locs hP hD hS => ?_)
  refine lv_iload_n hx hb dX5_readBehindPart_102 rfl (lv_at hl 2 rfl) ?_
  refine lv_if_eq (tgt := 140) hx hb dX5_readBehindPart_103 (by decide) (fun c11 => ?_) (fun c11 => ?_)
  · have hf := ift c11 hf
    exact wjX5_readBehindPart_140 C0 oR aR_tape oD aR_waiting aD_lean aD_deaf aD_kind aD_call aD_cost aD_joy aD_follows aD_code aD_ruleFrom aD_ruleTo R_end R_place R_token R_start R_digits R_number R_fault R_clockIsTold v10.1 R_depth R_nots R_partIsDue R_notMayStand R_waiting D_oil D_weight D_treasury D_aldermen D_motions v10.2.1 v10.2.2 x1    hf _ _ hP hD hS _ (lv_sub hl [0, 1] rfl)
  · have hf := iff_ c11 hf
    refine lv_aload_n hx hb dX5_readBehindPart_106 rfl (lv_at hl 0 rfl) ?_
    refine va_get (D := (dC, dI)) (ci := 5) (v := .int v10.1) (C := RX5) (T := TX5) (N := 16) hx hb hG kinX5 hown hK hP 0 rfl rfl 11 (by decide) (hG _ kfX5_122) (fun _ h9 => h9) rfl dX5_readBehindPart_107 ?_
    refine lv_if_le (tgt := 140) hx hb dX5_readBehindPart_110 (by decide) (fun c16 => ?_) (fun c16 => ?_)
    · have hf := ift c16 hf
      exact wjX5_readBehindPart_140 C0 oR aR_tape oD aR_waiting aD_lean aD_deaf aD_kind aD_call aD_cost aD_joy aD_follows aD_code aD_ruleFrom aD_ruleTo R_end R_place R_token R_start R_digits R_number R_fault R_clockIsTold v10.1 R_depth R_nots R_partIsDue R_notMayStand R_waiting D_oil D_weight D_treasury D_aldermen D_motions v10.2.1 v10.2.2 x1    hf _ _ hP hD hS _ (lv_sub hl [0, 1] rfl)
    · have hf := iff_ c16 hf
      refine lv_aload_n hx hb dX5_readBehindPart_113 rfl (lv_at hl 0 rfl) ?_
      refine va_get (D := (dC, dI)) (ci := 5) (v := .ref aR_waiting) (C := RX5) (T := TX5) (N := 16) hx hb hG kinX5 hown hK hP 0 rfl rfl 10 (by decide) (hG _ kfX5_9) (fun _ h9 => h9) rfl dX5_readBehindPart_114 ?_
      refine lv_aload_n hx hb dX5_readBehindPart_117 rfl (lv_at hl 0 rfl) ?_
      refine va_get (D := (dC, dI)) (ci := 5) (v := .int v10.1) (C := RX5) (T := TX5) (N := 16) hx hb hG kinX5 hown hK hP 0 rfl rfl 11 (by decide) (hG _ kfX5_122) (fun _ h9 => h9) rfl dX5_readBehindPart_118 ?_
      refine lv_iconst (v := 1) hx hb dX5_readBehindPart_121 (by decide) ?_
      refine lv_isub hx hb dX5_readBehindPart_122 ?_
      refine ck_el hf (fun g17 hf => ?_)
      refine va_iald hx hb hK hP 2 0 rfl rfl (inb_in g17) dX5_readBehindPart_123 ?_
      refine bd_el hf (fun v19 hv19 hf => ?_)
      refine callSi (As := [.int (R_waiting ((v10.1 - (1 : Int32)) : Int32).toNatClampNeg)]) (rest := []) (wr := [(oR, .inr (5, mkX5 aR_tape oD R_end R_place R_token R_start R_digits R_number R_fault R_clockIsTold aR_waiting v10.1 R_depth R_nots R_partIsDue R_notMayStand)), (oD, .inr (1, mkX1 D_oil D_weight D_treasury D_aldermen aD_lean aD_deaf D_motions aD_kind aD_call aD_cost aD_joy aD_follows aD_code v10.2.1 aD_ruleFrom aD_ruleTo)), (aR_waiting, .inl (cc 0, 80, .inl R_waiting)), (aD_code, .inl (cc 0, 700, .inl v10.2.2))]) (wn := [(oR, .inr (5, mkX5 aR_tape oD R_end R_place R_token R_start R_digits R_number R_fault R_clockIsTold aR_waiting v10.1 R_depth R_nots R_partIsDue R_notMayStand)), (oD, .inr (1, mkX1 D_oil D_weight D_treasury D_aldermen aD_lean aD_deaf D_motions aD_kind aD_call aD_cost aD_joy aD_follows aD_code v10.2.1 aD_ruleFrom aD_ruleTo)), (aR_waiting, .inl (cc 0, 80, .inl R_waiting)), (aD_code, .inl (cc 0, 700, .inl v10.2.2))]) C0 ksX5_strengthOf kmX5_175 hP hD hS (mX5_strengthOf l dC dI cc  _ (R_waiting ((v10.1 - (1 : Int32)) : Int32).toNatClampNeg) hv19) ⟨rfl, rfl⟩ ⟨Nat.le_of_ble_eq_true rfl, Nat.le_of_ble_eq_true rfl⟩ [] [0, 1, 2, 3] [0, 1, 2, 3] rfl rfl rfl rfl rfl hl.1 rfl (Nat.le_of_ble_eq_true rfl) ⟨Nat.zero_le _, Nat.zero_le _⟩ dX5_readBehindPart_124 (fun H locs hP hD hS => ?_)
      refine lv_iload_n hx hb dX5_readBehindPart_127 rfl (lv_at hl 1 rfl) ?_
      refine bd_el hf (fun v21 hv21 hf => ?_)
      refine callSi (As := [.int x1]) (rest := [.int v19]) (wr := [(oR, .inr (5, mkX5 aR_tape oD R_end R_place R_token R_start R_digits R_number R_fault R_clockIsTold aR_waiting v10.1 R_depth R_nots R_partIsDue R_notMayStand)), (oD, .inr (1, mkX1 D_oil D_weight D_treasury D_aldermen aD_lean aD_deaf D_motions aD_kind aD_call aD_cost aD_joy aD_follows aD_code v10.2.1 aD_ruleFrom aD_ruleTo)), (aR_waiting, .inl (cc 0, 80, .inl R_waiting)), (aD_code, .inl (cc 0, 700, .inl v10.2.2))]) (wn := [(oR, .inr (5, mkX5 aR_tape oD R_end R_place R_token R_start R_digits R_number R_fault R_clockIsTold aR_waiting v10.1 R_depth R_nots R_partIsDue R_notMayStand)), (oD, .inr (1, mkX1 D_oil D_weight D_treasury D_aldermen aD_lean aD_deaf D_motions aD_kind aD_call aD_cost aD_joy aD_follows aD_code v10.2.1 aD_ruleFrom aD_ruleTo)), (aR_waiting, .inl (cc 0, 80, .inl R_waiting)), (aD_code, .inl (cc 0, 700, .inl v10.2.2))]) C0 ksX5_strengthOf kmX5_175 hP hD hS (mX5_strengthOf l dC dI cc  _ x1 hv21) ⟨rfl, rfl⟩ ⟨Nat.le_of_ble_eq_true rfl, Nat.le_of_ble_eq_true rfl⟩ [] [0, 1, 2, 3] [0, 1, 2, 3] rfl rfl rfl rfl rfl hl.1 rfl (Nat.le_of_ble_eq_true rfl) ⟨Nat.zero_le _, Nat.zero_le _⟩ dX5_readBehindPart_128 (fun H locs hP hD hS => ?_)
      refine lv_icmp_ne (tgt := 140) hx hb dX5_readBehindPart_131 (by decide) (fun c22 => ?_) (fun c22 => ?_)
      · have hf := iff_ c22 hf
        exact wjX5_readBehindPart_140 C0 oR aR_tape oD aR_waiting aD_lean aD_deaf aD_kind aD_call aD_cost aD_joy aD_follows aD_code aD_ruleFrom aD_ruleTo R_end R_place R_token R_start R_digits R_number R_fault R_clockIsTold v10.1 R_depth R_nots R_partIsDue R_notMayStand R_waiting D_oil D_weight D_treasury D_aldermen D_motions v10.2.1 v10.2.2 x1    hf _ _ hP hD hS _ (lv_sub hl [0, 1] rfl)
      · have hf := ift c22 hf
        refine lv_aload_n hx hb dX5_readBehindPart_134 rfl (lv_at hl 0 rfl) ?_
        refine lv_iconst (v := 1) hx hb dX5_readBehindPart_135 (by decide) ?_
        refine va_put (D := (dC, dI)) (ci := 5) (v := .int 1) (ty := .int) (C := RX5) (T := TX5) (N := 16) hx hb hG kinX5 tyX5 tyX5_ok nmX5 hown hK hP hD hS 0 rfl rfl 8 (by decide) (hG _ kfX5_36) (fun _ h9 => h9) rfl (by decide +kernel) rfl rfl (Nat.le_of_ble_eq_true rfl) dX5_readBehindPart_136 (fun H locs hP hD hS => ?_)
        have hP : va_P (dC, dI) cLs [(oR, .inr (5, mkX5 aR_tape oD R_end R_place R_token R_start R_digits R_number 1 R_clockIsTold aR_waiting v10.1 R_depth R_nots R_partIsDue R_notMayStand)), (oD, .inr (1, mkX1 D_oil D_weight D_treasury D_aldermen aD_lean aD_deaf D_motions aD_kind aD_call aD_cost aD_joy aD_follows aD_code v10.2.1 aD_ruleFrom aD_ruleTo)), (aR_waiting, .inl (cc 0, 80, .inl R_waiting)), (aD_code, .inl (cc 0, 700, .inl v10.2.2))] _ := hP
        have hD : va_D A [(oR, .inr (5, mkX5 aR_tape oD R_end R_place R_token R_start R_digits R_number 1 R_clockIsTold aR_waiting v10.1 R_depth R_nots R_partIsDue R_notMayStand)), (oD, .inr (1, mkX1 D_oil D_weight D_treasury D_aldermen aD_lean aD_deaf D_motions aD_kind aD_call aD_cost aD_joy aD_follows aD_code v10.2.1 aD_ruleFrom aD_ruleTo)), (aR_waiting, .inl (cc 0, 80, .inl R_waiting)), (aD_code, .inl (cc 0, 700, .inl v10.2.2))] := hD
        obtain rfl := Option.some.inj hf
        exact retV C0 hP hD hS dX5_readBehindPart_139
def jX5_readBehindPart_80   (R_fault : Int32) (R_waits : Int32) (R_depth : Int32) (R_nots : Int32) (R_partIsDue : Int32) (R_notMayStand : Int32) (R_waiting : Nat → Int32) (D_codeLength : Int32) (D_code : Nat → Int32) (x1 : Int32) (s0 : Int32) : Option (Int32 × Int32 × Int32 × Int32 × Int32 × Int32 × (Nat → Int32) × Int32 × (Nat → Int32)) :=
  if s0 = 0 then
    (fX5_strengthOf x1).bind fun v8 =>
    jX5_readBehindPart_99 R_fault R_waits R_depth R_nots R_partIsDue R_notMayStand R_waiting D_codeLength D_code x1 s0 v8
  else
    (fX5_strengthOf x1).bind fun v24 =>
    jX5_readBehindPart_99 R_fault R_waits R_depth R_nots R_partIsDue R_notMayStand R_waiting D_codeLength D_code x1 s0 (v24 + (1 : Int32))
set_option maxHeartbeats 4000000 in
set_option maxRecDepth 100000 in
theorem wjX5_readBehindPart_80 {p : Program} {l : Launch} {e : Env} {s : State} {m : MethodId} {args : Array Value} {below : List Frame} {meth : Method} {c : Code} {A : Nat → Prop} {dC : Nat → ClassId} {dI : Nat → Nat → Nat} {cc : Nat → ClassId} (C0 : CT p s m args meth c A dC dI cc cX5_readBehindPart 3 none RX5) (oR aR_tape oD aR_waiting aD_lean aD_deaf aD_kind aD_call aD_cost aD_joy aD_follows aD_code aD_ruleFrom aD_ruleTo : Nat) (R_end : Int32) (R_place : Int32) (R_token : Int32) (R_start : Int32) (R_digits : Int32) (R_number : Int32) (R_fault : Int32) (R_clockIsTold : Int32) (R_waits : Int32) (R_depth : Int32) (R_nots : Int32) (R_partIsDue : Int32) (R_notMayStand : Int32) (R_waiting : Nat → Int32) (D_oil : Int32) (D_weight : Int32) (D_treasury : Int32) (D_aldermen : Int32) (D_motions : Int32) (D_codeLength : Int32) (D_code : Nat → Int32) (x1 : Int32) {out : Int32 × Int32 × Int32 × Int32 × Int32 × Int32 × (Nat → Int32) × Int32 × (Nat → Int32)}   (s0 : Int32) (hf : jX5_readBehindPart_80  R_fault R_waits R_depth R_nots R_partIsDue R_notMayStand R_waiting D_codeLength D_code x1 s0 = some out) (H : Heap) (locs : List Loc) (hP : va_P (dC, dI) cLs [(oR, .inr (5, mkX5 aR_tape oD R_end R_place R_token R_start R_digits R_number R_fault R_clockIsTold aR_waiting R_waits R_depth R_nots R_partIsDue R_notMayStand)), (oD, .inr (1, mkX1 D_oil D_weight D_treasury D_aldermen aD_lean aD_deaf D_motions aD_kind aD_call aD_cost aD_joy aD_follows aD_code D_codeLength aD_ruleFrom aD_ruleTo)), (aR_waiting, .inl (cc 0, 80, .inl R_waiting)), (aD_code, .inl (cc 0, 700, .inl D_code))] H) (hD : va_D A [(oR, .inr (5, mkX5 aR_tape oD R_end R_place R_token R_start R_digits R_number R_fault R_clockIsTold aR_waiting R_waits R_depth R_nots R_partIsDue R_notMayStand)), (oD, .inr (1, mkX1 D_oil D_weight D_treasury D_aldermen aD_lean aD_deaf D_motions aD_kind aD_call aD_cost aD_joy aD_follows aD_code D_codeLength aD_ruleFrom aD_ruleTo)), (aR_waiting, .inl (cc 0, 80, .inl R_waiting)), (aD_code, .inl (cc 0, 700, .inl D_code))]) (hS : va_S A s.heap H locs) (ls : Array Slot) (hl : lv_has ls 3 [(0, .ref oR), (1, .int x1)]) : W p l e rmX5_readBehindPart s m args below meth c H locs 0 0 (MQ below (QV dC dI cc [(oR, .inr (5, mkX5 aR_tape oD R_end R_place R_token R_start R_digits R_number out.1 R_clockIsTold aR_waiting out.2.1 out.2.2.1 out.2.2.2.1 out.2.2.2.2.1 out.2.2.2.2.2.1)), (oD, .inr (1, mkX1 D_oil D_weight D_treasury D_aldermen aD_lean aD_deaf D_motions aD_kind aD_call aD_cost aD_joy aD_follows aD_code out.2.2.2.2.2.2.2.1 aD_ruleFrom aD_ruleTo)), (aR_waiting, .inl (cc 0, 80, .inl out.2.2.2.2.2.2.1)), (aD_code, .inl (cc 0, 700, .inl out.2.2.2.2.2.2.2.2))] A) args s 0 0 A) (F0 m 80 ls [.int s0]) := by
  obtain ⟨hx, hb, hml, hr, hlocks, hown, hG, hK, hA⟩ := id C0
  unfold jX5_readBehindPart_80 at hf
  refine lv_istore_n (lv' := [(2, .int s0), (0, .ref oR), (1, .int x1)]) hx hb dX5_readBehindPart_80 rfl hl (by decide) rfl (fun ls hl => ?_)
  refine lv_aload_n hx hb dX5_readBehindPart_81 rfl (lv_at hl 1 rfl) ?_
  refine lv_iload_n hx hb dX5_readBehindPart_82 rfl (lv_at hl 0 rfl) ?_
  refine lv_if_eq (tgt := 95) hx hb dX5_readBehindPart_83 (by decide) (fun c6 => ?_) (fun c6 => ?_)
  · have hf := ift c6 hf
    refine lv_iload_n hx hb dX5_readBehindPart_95 rfl (lv_at hl 2 rfl) ?_
    refine bd_el hf (fun v8 hv8 hf => ?_)
    refine callSi (As := [.int x1]) (rest := [.ref oR]) (wr := [(oR, .inr (5, mkX5 aR_tape oD R_end R_place R_token R_start R_digits R_number R_fault R_clockIsTold aR_waiting R_waits R_depth R_nots R_partIsDue R_notMayStand)), (oD, .inr (1, mkX1 D_oil D_weight D_treasury D_aldermen aD_lean aD_deaf D_motions aD_kind aD_call aD_cost aD_joy aD_follows aD_code D_codeLength aD_ruleFrom aD_ruleTo)), (aR_waiting, .inl (cc 0, 80, .inl R_waiting)), (aD_code, .inl (cc 0, 700, .inl D_code))]) (wn := [(oR, .inr (5, mkX5 aR_tape oD R_end R_place R_token R_start R_digits R_number R_fault R_clockIsTold aR_waiting R_waits R_depth R_nots R_partIsDue R_notMayStand)), (oD, .inr (1, mkX1 D_oil D_weight D_treasury D_aldermen aD_lean aD_deaf D_motions aD_kind aD_call aD_cost aD_joy aD_follows aD_code D_codeLength aD_ruleFrom aD_ruleTo)), (aR_waiting, .inl (cc 0, 80, .inl R_waiting)), (aD_code, .inl (cc 0, 700, .inl D_code))]) C0 ksX5_strengthOf kmX5_175 hP hD hS (mX5_strengthOf l dC dI cc  _ x1 hv8) ⟨rfl, rfl⟩ ⟨Nat.le_of_ble_eq_true rfl, Nat.le_of_ble_eq_true rfl⟩ [] [0, 1, 2, 3] [0, 1, 2, 3] rfl rfl rfl rfl rfl hl.1 rfl (Nat.le_of_ble_eq_true rfl) ⟨Nat.zero_le _, Nat.zero_le _⟩ dX5_readBehindPart_96 (fun H locs hP hD hS => ?_)
    exact wjX5_readBehindPart_99 C0 oR aR_tape oD aR_waiting aD_lean aD_deaf aD_kind aD_call aD_cost aD_joy aD_follows aD_code aD_ruleFrom aD_ruleTo R_end R_place R_token R_start R_digits R_number R_fault R_clockIsTold R_waits R_depth R_nots R_partIsDue R_notMayStand R_waiting D_oil D_weight D_treasury D_aldermen D_motions D_codeLength D_code x1 s0   v8 hf _ _ hP hD hS _ (lv_sub hl [1, 2, 0] rfl)
  · have hf := iff_ c6 hf
    refine lv_iload_n hx hb dX5_readBehindPart_86 rfl (lv_at hl 2 rfl) ?_
    refine bd_el hf (fun v24 hv24 hf => ?_)
    refine callSi (As := [.int x1]) (rest := [.ref oR]) (wr := [(oR, .inr (5, mkX5 aR_tape oD R_end R_place R_token R_start R_digits R_number R_fault R_clockIsTold aR_waiting R_waits R_depth R_nots R_partIsDue R_notMayStand)), (oD, .inr (1, mkX1 D_oil D_weight D_treasury D_aldermen aD_lean aD_deaf D_motions aD_kind aD_call aD_cost aD_joy aD_follows aD_code D_codeLength aD_ruleFrom aD_ruleTo)), (aR_waiting, .inl (cc 0, 80, .inl R_waiting)), (aD_code, .inl (cc 0, 700, .inl D_code))]) (wn := [(oR, .inr (5, mkX5 aR_tape oD R_end R_place R_token R_start R_digits R_number R_fault R_clockIsTold aR_waiting R_waits R_depth R_nots R_partIsDue R_notMayStand)), (oD, .inr (1, mkX1 D_oil D_weight D_treasury D_aldermen aD_lean aD_deaf D_motions aD_kind aD_call aD_cost aD_joy aD_follows aD_code D_codeLength aD_ruleFrom aD_ruleTo)), (aR_waiting, .inl (cc 0, 80, .inl R_waiting)), (aD_code, .inl (cc 0, 700, .inl D_code))]) C0 ksX5_strengthOf kmX5_175 hP hD hS (mX5_strengthOf l dC dI cc  _ x1 hv24) ⟨rfl, rfl⟩ ⟨Nat.le_of_ble_eq_true rfl, Nat.le_of_ble_eq_true rfl⟩ [] [0, 1, 2, 3] [0, 1, 2, 3] rfl rfl rfl rfl rfl hl.1 rfl (Nat.le_of_ble_eq_true rfl) ⟨Nat.zero_le _, Nat.zero_le _⟩ dX5_readBehindPart_87 (fun H locs hP hD hS => ?_)
    refine lv_iconst (v := 1) hx hb dX5_readBehindPart_90 (by decide) ?_
    refine lv_iadd hx hb dX5_readBehindPart_91 ?_
    refine lv_goto (tgt := 99) hx hb dX5_readBehindPart_92 (by decide) ?_
    exact wjX5_readBehindPart_99 C0 oR aR_tape oD aR_waiting aD_lean aD_deaf aD_kind aD_call aD_cost aD_joy aD_follows aD_code aD_ruleFrom aD_ruleTo R_end R_place R_token R_start R_digits R_number R_fault R_clockIsTold R_waits R_depth R_nots R_partIsDue R_notMayStand R_waiting D_oil D_weight D_treasury D_aldermen D_motions D_codeLength D_code x1 s0   (v24 + (1 : Int32)) hf _ _ hP hD hS _ (lv_sub hl [1, 2, 0] rfl)
def jX5_readBehindPart_75   (R_fault : Int32) (R_waits : Int32) (R_depth : Int32) (R_nots : Int32) (R_partIsDue : Int32) (R_notMayStand : Int32) (R_waiting : Nat → Int32) (D_codeLength : Int32) (D_code : Nat → Int32) (x1 : Int32)  : Option (Int32 × Int32 × Int32 × Int32 × Int32 × Int32 × (Nat → Int32) × Int32 × (Nat → Int32)) :=
  jX5_readBehindPart_80 R_fault R_waits R_depth R_nots R_partIsDue R_notMayStand R_waiting D_codeLength D_code x1 1
set_option maxHeartbeats 4000000 in
set_option maxRecDepth 100000 in
theorem wjX5_readBehindPart_75 {p : Program} {l : Launch} {e : Env} {s : State} {m : MethodId} {args : Array Value} {below : List Frame} {meth : Method} {c : Code} {A : Nat → Prop} {dC : Nat → ClassId} {dI : Nat → Nat → Nat} {cc : Nat → ClassId} (C0 : CT p s m args meth c A dC dI cc cX5_readBehindPart 3 none RX5) (oR aR_tape oD aR_waiting aD_lean aD_deaf aD_kind aD_call aD_cost aD_joy aD_follows aD_code aD_ruleFrom aD_ruleTo : Nat) (R_end : Int32) (R_place : Int32) (R_token : Int32) (R_start : Int32) (R_digits : Int32) (R_number : Int32) (R_fault : Int32) (R_clockIsTold : Int32) (R_waits : Int32) (R_depth : Int32) (R_nots : Int32) (R_partIsDue : Int32) (R_notMayStand : Int32) (R_waiting : Nat → Int32) (D_oil : Int32) (D_weight : Int32) (D_treasury : Int32) (D_aldermen : Int32) (D_motions : Int32) (D_codeLength : Int32) (D_code : Nat → Int32) (x1 : Int32) {out : Int32 × Int32 × Int32 × Int32 × Int32 × Int32 × (Nat → Int32) × Int32 × (Nat → Int32)}    (hf : jX5_readBehindPart_75  R_fault R_waits R_depth R_nots R_partIsDue R_notMayStand R_waiting D_codeLength D_code x1  = some out) (H : Heap) (locs : List Loc) (hP : va_P (dC, dI) cLs [(oR, .inr (5, mkX5 aR_tape oD R_end R_place R_token R_start R_digits R_number R_fault R_clockIsTold aR_waiting R_waits R_depth R_nots R_partIsDue R_notMayStand)), (oD, .inr (1, mkX1 D_oil D_weight D_treasury D_aldermen aD_lean aD_deaf D_motions aD_kind aD_call aD_cost aD_joy aD_follows aD_code D_codeLength aD_ruleFrom aD_ruleTo)), (aR_waiting, .inl (cc 0, 80, .inl R_waiting)), (aD_code, .inl (cc 0, 700, .inl D_code))] H) (hD : va_D A [(oR, .inr (5, mkX5 aR_tape oD R_end R_place R_token R_start R_digits R_number R_fault R_clockIsTold aR_waiting R_waits R_depth R_nots R_partIsDue R_notMayStand)), (oD, .inr (1, mkX1 D_oil D_weight D_treasury D_aldermen aD_lean aD_deaf D_motions aD_kind aD_call aD_cost aD_joy aD_follows aD_code D_codeLength aD_ruleFrom aD_ruleTo)), (aR_waiting, .inl (cc 0, 80, .inl R_waiting)), (aD_code, .inl (cc 0, 700, .inl D_code))]) (hS : va_S A s.heap H locs) (ls : Array Slot) (hl : lv_has ls 3 [(0, .ref oR), (1, .int x1)]) : W p l e rmX5_readBehindPart s m args below meth c H locs 0 0 (MQ below (QV dC dI cc [(oR, .inr (5, mkX5 aR_tape oD R_end R_place R_token R_start R_digits R_number out.1 R_clockIsTold aR_waiting out.2.1 out.2.2.1 out.2.2.2.1 out.2.2.2.2.1 out.2.2.2.2.2.1)), (oD, .inr (1, mkX1 D_oil D_weight D_treasury D_aldermen aD_lean aD_deaf D_motions aD_kind aD_call aD_cost aD_joy aD_follows aD_code out.2.2.2.2.2.2.2.1 aD_ruleFrom aD_ruleTo)), (aR_waiting, .inl (cc 0, 80, .inl out.2.2.2.2.2.2.1)), (aD_code, .inl (cc 0, 700, .inl out.2.2.2.2.2.2.2.2))] A) args s 0 0 A) (F0 m 75 ls []) := by
  obtain ⟨hx, hb, hml, hr, hlocks, hown, hG, hK, hA⟩ := id C0
  unfold jX5_readBehindPart_75 at hf
  refine lv_iconst (v := 1) hx hb dX5_readBehindPart_75 (by decide) ?_
  refine lv_goto (tgt := 80) hx hb dX5_readBehindPart_76 (by decide) ?_
  exact wjX5_readBehindPart_80 C0 oR aR_tape oD aR_waiting aD_lean aD_deaf aD_kind aD_call aD_cost aD_joy aD_follows aD_code aD_ruleFrom aD_ruleTo R_end R_place R_token R_start R_digits R_number R_fault R_clockIsTold R_waits R_depth R_nots R_partIsDue R_notMayStand R_waiting D_oil D_weight D_treasury D_aldermen D_motions D_codeLength D_code x1   1 hf _ _ hP hD hS _ (lv_sub hl [0, 1] rfl)
def jX5_readBehindPart_33   (R_fault : Int32) (R_waits : Int32) (R_depth : Int32) (R_nots : Int32) (R_partIsDue : Int32) (R_notMayStand : Int32) (R_waiting : Nat → Int32) (D_codeLength : Int32) (D_code : Nat → Int32) (x1 : Int32)  : Option (Int32 × Int32 × Int32 × Int32 × Int32 × Int32 × (Nat → Int32) × Int32 × (Nat → Int32)) :=
  if x1 = 0 then
    (fX5_doWaiting R_waits R_waiting D_codeLength D_code 1).bind fun v27 =>
    some (R_fault, (v27.1 - (1 : Int32)), (R_depth - (1 : Int32)), R_nots, R_partIsDue, R_notMayStand, R_waiting, v27.2.1, v27.2.2)
  else
    if x1 = (-10) then
      jX5_readBehindPart_75 R_fault R_waits R_depth R_nots R_partIsDue R_notMayStand R_waiting D_codeLength D_code x1
    else
      if x1 = (-11) then
        jX5_readBehindPart_75 R_fault R_waits R_depth R_nots R_partIsDue R_notMayStand R_waiting D_codeLength D_code x1
      else
        jX5_readBehindPart_80 R_fault R_waits R_depth R_nots R_partIsDue R_notMayStand R_waiting D_codeLength D_code x1 0
set_option maxHeartbeats 4000000 in
set_option maxRecDepth 100000 in
theorem wjX5_readBehindPart_33 {p : Program} {l : Launch} {e : Env} {s : State} {m : MethodId} {args : Array Value} {below : List Frame} {meth : Method} {c : Code} {A : Nat → Prop} {dC : Nat → ClassId} {dI : Nat → Nat → Nat} {cc : Nat → ClassId} (C0 : CT p s m args meth c A dC dI cc cX5_readBehindPart 3 none RX5) (oR aR_tape oD aR_waiting aD_lean aD_deaf aD_kind aD_call aD_cost aD_joy aD_follows aD_code aD_ruleFrom aD_ruleTo : Nat) (R_end : Int32) (R_place : Int32) (R_token : Int32) (R_start : Int32) (R_digits : Int32) (R_number : Int32) (R_fault : Int32) (R_clockIsTold : Int32) (R_waits : Int32) (R_depth : Int32) (R_nots : Int32) (R_partIsDue : Int32) (R_notMayStand : Int32) (R_waiting : Nat → Int32) (D_oil : Int32) (D_weight : Int32) (D_treasury : Int32) (D_aldermen : Int32) (D_motions : Int32) (D_codeLength : Int32) (D_code : Nat → Int32) (x1 : Int32) {out : Int32 × Int32 × Int32 × Int32 × Int32 × Int32 × (Nat → Int32) × Int32 × (Nat → Int32)}    (hf : jX5_readBehindPart_33  R_fault R_waits R_depth R_nots R_partIsDue R_notMayStand R_waiting D_codeLength D_code x1  = some out) (H : Heap) (locs : List Loc) (hP : va_P (dC, dI) cLs [(oR, .inr (5, mkX5 aR_tape oD R_end R_place R_token R_start R_digits R_number R_fault R_clockIsTold aR_waiting R_waits R_depth R_nots R_partIsDue R_notMayStand)), (oD, .inr (1, mkX1 D_oil D_weight D_treasury D_aldermen aD_lean aD_deaf D_motions aD_kind aD_call aD_cost aD_joy aD_follows aD_code D_codeLength aD_ruleFrom aD_ruleTo)), (aR_waiting, .inl (cc 0, 80, .inl R_waiting)), (aD_code, .inl (cc 0, 700, .inl D_code))] H) (hD : va_D A [(oR, .inr (5, mkX5 aR_tape oD R_end R_place R_token R_start R_digits R_number R_fault R_clockIsTold aR_waiting R_waits R_depth R_nots R_partIsDue R_notMayStand)), (oD, .inr (1, mkX1 D_oil D_weight D_treasury D_aldermen aD_lean aD_deaf D_motions aD_kind aD_call aD_cost aD_joy aD_follows aD_code D_codeLength aD_ruleFrom aD_ruleTo)), (aR_waiting, .inl (cc 0, 80, .inl R_waiting)), (aD_code, .inl (cc 0, 700, .inl D_code))]) (hS : va_S A s.heap H locs) (ls : Array Slot) (hl : lv_has ls 3 [(0, .ref oR), (1, .int x1)]) : W p l e rmX5_readBehindPart s m args below meth c H locs 0 0 (MQ below (QV dC dI cc [(oR, .inr (5, mkX5 aR_tape oD R_end R_place R_token R_start R_digits R_number out.1 R_clockIsTold aR_waiting out.2.1 out.2.2.1 out.2.2.2.1 out.2.2.2.2.1 out.2.2.2.2.2.1)), (oD, .inr (1, mkX1 D_oil D_weight D_treasury D_aldermen aD_lean aD_deaf D_motions aD_kind aD_call aD_cost aD_joy aD_follows aD_code out.2.2.2.2.2.2.2.1 aD_ruleFrom aD_ruleTo)), (aR_waiting, .inl (cc 0, 80, .inl out.2.2.2.2.2.2.1)), (aD_code, .inl (cc 0, 700, .inl out.2.2.2.2.2.2.2.2))] A) args s 0 0 A) (F0 m 33 ls []) := by
  obtain ⟨hx, hb, hml, hr, hlocks, hown, hG, hK, hA⟩ := id C0
  unfold jX5_readBehindPart_33 at hf
  refine lv_iload_n hx hb dX5_readBehindPart_33 rfl (lv_at hl 1 rfl) ?_
  refine lv_if_ne (tgt := 63) hx hb dX5_readBehindPart_34 (by decide) (fun c4 => ?_) (fun c4 => ?_)
  · have hf := iff_ c4 hf
    refine lv_iload_n hx hb dX5_readBehindPart_63 rfl (lv_at hl 1 rfl) ?_
    refine lv_bipush (v := (-10)) hx hb dX5_readBehindPart_64 (by decide) ?_
    refine lv_icmp_eq (tgt := 75) hx hb dX5_readBehindPart_66 (by decide) (fun c5 => ?_) (fun c5 => ?_)
    · have hf := ift c5 hf
      exact wjX5_readBehindPart_75 C0 oR aR_tape oD aR_waiting aD_lean aD_deaf aD_kind aD_call aD_cost aD_joy aD_follows aD_code aD_ruleFrom aD_ruleTo R_end R_place R_token R_start R_digits R_number R_fault R_clockIsTold R_waits R_depth R_nots R_partIsDue R_notMayStand R_waiting D_oil D_weight D_treasury D_aldermen D_motions D_codeLength D_code x1    hf _ _ hP hD hS _ (lv_sub hl [0, 1] rfl)
    · have hf := iff_ c5 hf
      refine lv_iload_n hx hb dX5_readBehindPart_69 rfl (lv_at hl 1 rfl) ?_
      refine lv_bipush (v := (-11)) hx hb dX5_readBehindPart_70 (by decide) ?_
      refine lv_icmp_ne (tgt := 79) hx hb dX5_readBehindPart_72 (by decide) (fun c25 => ?_) (fun c25 => ?_)
      · have hf := iff_ c25 hf
        refine lv_iconst (v := 0) hx hb dX5_readBehindPart_79 (by decide) ?_
        exact wjX5_readBehindPart_80 C0 oR aR_tape oD aR_waiting aD_lean aD_deaf aD_kind aD_call aD_cost aD_joy aD_follows aD_code aD_ruleFrom aD_ruleTo R_end R_place R_token R_start R_digits R_number R_fault R_clockIsTold R_waits R_depth R_nots R_partIsDue R_notMayStand R_waiting D_oil D_weight D_treasury D_aldermen D_motions D_codeLength D_code x1   0 hf _ _ hP hD hS _ (lv_sub hl [0, 1] rfl)
      · have hf := ift c25 hf
        exact wjX5_readBehindPart_75 C0 oR aR_tape oD aR_waiting aD_lean aD_deaf aD_kind aD_call aD_cost aD_joy aD_follows aD_code aD_ruleFrom aD_ruleTo R_end R_place R_token R_start R_digits R_number R_fault R_clockIsTold R_waits R_depth R_nots R_partIsDue R_notMayStand R_waiting D_oil D_weight D_treasury D_aldermen D_motions D_codeLength D_code x1    hf _ _ hP hD hS _ (lv_sub hl [0, 1] rfl)
  · have hf := ift c4 hf
    refine lv_aload_n hx hb dX5_readBehindPart_37 rfl (lv_at hl 0 rfl) ?_
    refine lv_iconst (v := 1) hx hb dX5_readBehindPart_38 (by decide) ?_
    refine bd_el hf (fun v27 hv27 hf => ?_)
    refine callVv (As := [.int 1]) (rest := []) (wr := []) (wn := [(oR, .inr (5, mkX5 aR_tape oD R_end R_place R_token R_start R_digits R_number R_fault R_clockIsTold aR_waiting v27.1 R_depth R_nots R_partIsDue R_notMayStand)), (oD, .inr (1, mkX1 D_oil D_weight D_treasury D_aldermen aD_lean aD_deaf D_motions aD_kind aD_call aD_cost aD_joy aD_follows aD_code v27.2.1 aD_ruleFrom aD_ruleTo)), (aR_waiting, .inl (cc 0, 80, .inl R_waiting)), (aD_code, .inl (cc 0, 700, .inl v27.2.2))]) C0 kvX5_doWaiting kmX5_153 hP hD hS (mX5_doWaiting l dC dI cc oR aR_tape oD aR_waiting aD_lean aD_deaf aD_kind aD_call aD_cost aD_joy aD_follows aD_code aD_ruleFrom aD_ruleTo _ R_end R_place R_token R_start R_digits R_number R_fault R_clockIsTold R_waits R_depth R_nots R_partIsDue R_notMayStand R_waiting D_oil D_weight D_treasury D_aldermen D_motions D_codeLength D_code 1 hv27) ⟨rfl, rfl⟩ ⟨Nat.le_of_ble_eq_true rfl, Nat.le_of_ble_eq_true rfl⟩ [0, 1, 2, 3] [] [0, 1, 2, 3] rfl rfl rfl rfl (ci := 5) rfl rfl 0 rfl rfl hl.1 rfl (Nat.le_of_ble_eq_true rfl) ⟨Nat.zero_le _, Nat.zero_le _⟩ dX5_readBehindPart_39 (fun H locs hP hD hS => ?_)
    refine lv_aload_n hx hb dX5_readBehindPart_42 rfl (lv_at hl 0 rfl) ?_
    refine lv_dup hx hb dX5_readBehindPart_43 rfl ?_
    refine va_get (D := (dC, dI)) (ci := 5) (v := .int v27.1) (C := RX5) (T := TX5) (N := 16) hx hb hG kinX5 hown hK hP 0 rfl rfl 11 (by decide) (hG _ kfX5_122) (fun _ h9 => h9) rfl dX5_readBehindPart_44 ?_
    refine lv_iconst (v := 1) hx hb dX5_readBehindPart_47 (by decide) ?_
    refine lv_isub hx hb dX5_readBehindPart_48 ?_
    refine va_put (D := (dC, dI)) (ci := 5) (v := .int (v27.1 - (1 : Int32))) (ty := .int) (C := RX5) (T := TX5) (N := 16) hx hb hG kinX5 tyX5 tyX5_ok nmX5 hown hK hP hD hS 0 rfl rfl 11 (by decide) (hG _ kfX5_122) (fun _ h9 => h9) rfl (by decide +kernel) rfl rfl (Nat.le_of_ble_eq_true rfl) dX5_readBehindPart_49 (fun H locs hP hD hS => ?_)
    have hP : va_P (dC, dI) cLs [(oR, .inr (5, mkX5 aR_tape oD R_end R_place R_token R_start R_digits R_number R_fault R_clockIsTold aR_waiting (v27.1 - (1 : Int32)) R_depth R_nots R_partIsDue R_notMayStand)), (oD, .inr (1, mkX1 D_oil D_weight D_treasury D_aldermen aD_lean aD_deaf D_motions aD_kind aD_call aD_cost aD_joy aD_follows aD_code v27.2.1 aD_ruleFrom aD_ruleTo)), (aR_waiting, .inl (cc 0, 80, .inl R_waiting)), (aD_code, .inl (cc 0, 700, .inl v27.2.2))] _ := hP
    have hD : va_D A [(oR, .inr (5, mkX5 aR_tape oD R_end R_place R_token R_start R_digits R_number R_fault R_clockIsTold aR_waiting (v27.1 - (1 : Int32)) R_depth R_nots R_partIsDue R_notMayStand)), (oD, .inr (1, mkX1 D_oil D_weight D_treasury D_aldermen aD_lean aD_deaf D_motions aD_kind aD_call aD_cost aD_joy aD_follows aD_code v27.2.1 aD_ruleFrom aD_ruleTo)), (aR_waiting, .inl (cc 0, 80, .inl R_waiting)), (aD_code, .inl (cc 0, 700, .inl v27.2.2))] := hD
    refine lv_aload_n hx hb dX5_readBehindPart_52 rfl (lv_at hl 0 rfl) ?_
    refine lv_dup hx hb dX5_readBehindPart_53 rfl ?_
    refine va_get (D := (dC, dI)) (ci := 5) (v := .int R_depth) (C := RX5) (T := TX5) (N := 16) hx hb hG kinX5 hown hK hP 0 rfl rfl 12 (by decide) (hG _ kfX5_125) (fun _ h9 => h9) rfl dX5_readBehindPart_54 ?_
    refine lv_iconst (v := 1) hx hb dX5_readBehindPart_57 (by decide) ?_
    refine lv_isub hx hb dX5_readBehindPart_58 ?_
    refine va_put (D := (dC, dI)) (ci := 5) (v := .int (R_depth - (1 : Int32))) (ty := .int) (C := RX5) (T := TX5) (N := 16) hx hb hG kinX5 tyX5 tyX5_ok nmX5 hown hK hP hD hS 0 rfl rfl 12 (by decide) (hG _ kfX5_125) (fun _ h9 => h9) rfl (by decide +kernel) rfl rfl (Nat.le_of_ble_eq_true rfl) dX5_readBehindPart_59 (fun H locs hP hD hS => ?_)
    have hP : va_P (dC, dI) cLs [(oR, .inr (5, mkX5 aR_tape oD R_end R_place R_token R_start R_digits R_number R_fault R_clockIsTold aR_waiting (v27.1 - (1 : Int32)) (R_depth - (1 : Int32)) R_nots R_partIsDue R_notMayStand)), (oD, .inr (1, mkX1 D_oil D_weight D_treasury D_aldermen aD_lean aD_deaf D_motions aD_kind aD_call aD_cost aD_joy aD_follows aD_code v27.2.1 aD_ruleFrom aD_ruleTo)), (aR_waiting, .inl (cc 0, 80, .inl R_waiting)), (aD_code, .inl (cc 0, 700, .inl v27.2.2))] _ := hP
    have hD : va_D A [(oR, .inr (5, mkX5 aR_tape oD R_end R_place R_token R_start R_digits R_number R_fault R_clockIsTold aR_waiting (v27.1 - (1 : Int32)) (R_depth - (1 : Int32)) R_nots R_partIsDue R_notMayStand)), (oD, .inr (1, mkX1 D_oil D_weight D_treasury D_aldermen aD_lean aD_deaf D_motions aD_kind aD_call aD_cost aD_joy aD_follows aD_code v27.2.1 aD_ruleFrom aD_ruleTo)), (aR_waiting, .inl (cc 0, 80, .inl R_waiting)), (aD_code, .inl (cc 0, 700, .inl v27.2.2))] := hD
    obtain rfl := Option.some.inj hf
    exact retV C0 hP hD hS dX5_readBehindPart_62
def fX5_readBehindPart  (R_token : Int32) (R_fault : Int32) (R_waits : Int32) (R_depth : Int32) (R_nots : Int32) (R_partIsDue : Int32) (R_notMayStand : Int32) (R_waiting : Nat → Int32) (D_codeLength : Int32) (D_code : Nat → Int32)  : Option (Int32 × Int32 × Int32 × Int32 × Int32 × Int32 × (Nat → Int32) × Int32 × (Nat → Int32)) :=
  (fX5_operatorOf R_token).bind fun v2 =>
  if v2 = 0 then
    if R_token = 5 then
      if R_depth = 0 then
        some (1, R_waits, R_depth, R_nots, R_partIsDue, R_notMayStand, R_waiting, D_codeLength, D_code)
      else
        jX5_readBehindPart_33 R_fault R_waits R_depth R_nots R_partIsDue R_notMayStand R_waiting D_codeLength D_code v2
    else
      some (1, R_waits, R_depth, R_nots, R_partIsDue, R_notMayStand, R_waiting, D_codeLength, D_code)
  else
    jX5_readBehindPart_33 R_fault R_waits R_depth R_nots R_partIsDue R_notMayStand R_waiting D_codeLength D_code v2
set_option maxHeartbeats 4000000 in
set_option maxRecDepth 100000 in
theorem bX5_readBehindPart {p : Program} {l : Launch} {e : Env} {s : State} {m : MethodId} {args : Array Value} {below : List Frame} {meth : Method} {c : Code} {A : Nat → Prop} {dC : Nat → ClassId} {dI : Nat → Nat → Nat} {cc : Nat → ClassId} (C0 : CT p s m args meth c A dC dI cc cX5_readBehindPart 3 none RX5) (oR aR_tape oD aR_waiting aD_lean aD_deaf aD_kind aD_call aD_cost aD_joy aD_follows aD_code aD_ruleFrom aD_ruleTo : Nat) (R_end : Int32) (R_place : Int32) (R_token : Int32) (R_start : Int32) (R_digits : Int32) (R_number : Int32) (R_fault : Int32) (R_clockIsTold : Int32) (R_waits : Int32) (R_depth : Int32) (R_nots : Int32) (R_partIsDue : Int32) (R_notMayStand : Int32) (R_waiting : Nat → Int32) (D_oil : Int32) (D_weight : Int32) (D_treasury : Int32) (D_aldermen : Int32) (D_motions : Int32) (D_codeLength : Int32) (D_code : Nat → Int32)  {out : Int32 × Int32 × Int32 × Int32 × Int32 × Int32 × (Nat → Int32) × Int32 × (Nat → Int32)} (hf : fX5_readBehindPart R_token R_fault R_waits R_depth R_nots R_partIsDue R_notMayStand R_waiting D_codeLength D_code = some out) {H : Heap} {locs : List Loc} (hP : va_P (dC, dI) cLs [(oR, .inr (5, mkX5 aR_tape oD R_end R_place R_token R_start R_digits R_number R_fault R_clockIsTold aR_waiting R_waits R_depth R_nots R_partIsDue R_notMayStand)), (oD, .inr (1, mkX1 D_oil D_weight D_treasury D_aldermen aD_lean aD_deaf D_motions aD_kind aD_call aD_cost aD_joy aD_follows aD_code D_codeLength aD_ruleFrom aD_ruleTo)), (aR_waiting, .inl (cc 0, 80, .inl R_waiting)), (aD_code, .inl (cc 0, 700, .inl D_code))] H) (hD : va_D A [(oR, .inr (5, mkX5 aR_tape oD R_end R_place R_token R_start R_digits R_number R_fault R_clockIsTold aR_waiting R_waits R_depth R_nots R_partIsDue R_notMayStand)), (oD, .inr (1, mkX1 D_oil D_weight D_treasury D_aldermen aD_lean aD_deaf D_motions aD_kind aD_call aD_cost aD_joy aD_follows aD_code D_codeLength aD_ruleFrom aD_ruleTo)), (aR_waiting, .inl (cc 0, 80, .inl R_waiting)), (aD_code, .inl (cc 0, 700, .inl D_code))]) (hS : va_S A s.heap H locs) {ls : Array Slot} (hl : lv_has ls 3 [(0, .ref oR)]) : W p l e rmX5_readBehindPart s m args below meth c H locs 0 0 (MQ below (QV dC dI cc [(oR, .inr (5, mkX5 aR_tape oD R_end R_place R_token R_start R_digits R_number out.1 R_clockIsTold aR_waiting out.2.1 out.2.2.1 out.2.2.2.1 out.2.2.2.2.1 out.2.2.2.2.2.1)), (oD, .inr (1, mkX1 D_oil D_weight D_treasury D_aldermen aD_lean aD_deaf D_motions aD_kind aD_call aD_cost aD_joy aD_follows aD_code out.2.2.2.2.2.2.2.1 aD_ruleFrom aD_ruleTo)), (aR_waiting, .inl (cc 0, 80, .inl out.2.2.2.2.2.2.1)), (aD_code, .inl (cc 0, 700, .inl out.2.2.2.2.2.2.2.2))] A) args s 0 0 A) (F0 m 0 ls []) := by
  obtain ⟨hx, hb, hml, hr, hlocks, hown, hG, hK, hA⟩ := id C0
  unfold fX5_readBehindPart at hf
  refine lv_aload_n hx hb dX5_readBehindPart_0 rfl (lv_at hl 0 rfl) ?_
  refine va_get (D := (dC, dI)) (ci := 5) (v := .int R_token) (C := RX5) (T := TX5) (N := 16) hx hb hG kinX5 hown hK hP 0 rfl rfl 4 (by decide) (hG _ kfX5_51) (fun _ h9 => h9) rfl dX5_readBehindPart_1 ?_
  refine bd_el hf (fun v2 hv2 hf => ?_)
  refine callSi (As := [.int R_token]) (rest := []) (wr := [(oR, .inr (5, mkX5 aR_tape oD R_end R_place R_token R_start R_digits R_number R_fault R_clockIsTold aR_waiting R_waits R_depth R_nots R_partIsDue R_notMayStand)), (oD, .inr (1, mkX1 D_oil D_weight D_treasury D_aldermen aD_lean aD_deaf D_motions aD_kind aD_call aD_cost aD_joy aD_follows aD_code D_codeLength aD_ruleFrom aD_ruleTo)), (aR_waiting, .inl (cc 0, 80, .inl R_waiting)), (aD_code, .inl (cc 0, 700, .inl D_code))]) (wn := [(oR, .inr (5, mkX5 aR_tape oD R_end R_place R_token R_start R_digits R_number R_fault R_clockIsTold aR_waiting R_waits R_depth R_nots R_partIsDue R_notMayStand)), (oD, .inr (1, mkX1 D_oil D_weight D_treasury D_aldermen aD_lean aD_deaf D_motions aD_kind aD_call aD_cost aD_joy aD_follows aD_code D_codeLength aD_ruleFrom aD_ruleTo)), (aR_waiting, .inl (cc 0, 80, .inl R_waiting)), (aD_code, .inl (cc 0, 700, .inl D_code))]) C0 ksX5_operatorOf kmX5_171 hP hD hS (mX5_operatorOf l dC dI cc  _ R_token hv2) ⟨rfl, rfl⟩ ⟨Nat.le_of_ble_eq_true rfl, Nat.le_of_ble_eq_true rfl⟩ [] [0, 1, 2, 3] [0, 1, 2, 3] rfl rfl rfl rfl rfl hl.1 rfl (Nat.le_of_ble_eq_true rfl) ⟨Nat.zero_le _, Nat.zero_le _⟩ dX5_readBehindPart_4 (fun H locs hP hD hS => ?_)
  refine lv_istore_n (lv' := [(1, .int v2), (0, .ref oR)]) hx hb dX5_readBehindPart_7 rfl hl (by decide) rfl (fun ls hl => ?_)
  refine lv_iload_n hx hb dX5_readBehindPart_8 rfl (lv_at hl 0 rfl) ?_
  refine lv_if_ne (tgt := 33) hx hb dX5_readBehindPart_9 (by decide) (fun c3 => ?_) (fun c3 => ?_)
  · have hf := iff_ c3 hf
    exact wjX5_readBehindPart_33 C0 oR aR_tape oD aR_waiting aD_lean aD_deaf aD_kind aD_call aD_cost aD_joy aD_follows aD_code aD_ruleFrom aD_ruleTo R_end R_place R_token R_start R_digits R_number R_fault R_clockIsTold R_waits R_depth R_nots R_partIsDue R_notMayStand R_waiting D_oil D_weight D_treasury D_aldermen D_motions D_codeLength D_code v2    hf _ _ hP hD hS _ (lv_sub hl [1, 0] rfl)
  · have hf := ift c3 hf
    refine lv_aload_n hx hb dX5_readBehindPart_12 rfl (lv_at hl 1 rfl) ?_
    refine va_get (D := (dC, dI)) (ci := 5) (v := .int R_token) (C := RX5) (T := TX5) (N := 16) hx hb hG kinX5 hown hK hP 0 rfl rfl 4 (by decide) (hG _ kfX5_51) (fun _ h9 => h9) rfl dX5_readBehindPart_13 ?_
    refine lv_iconst (v := 5) hx hb dX5_readBehindPart_16 (by decide) ?_
    refine lv_icmp_ne (tgt := 27) hx hb dX5_readBehindPart_17 (by decide) (fun c28 => ?_) (fun c28 => ?_)
    · have hf := iff_ c28 hf
      refine lv_aload_n hx hb dX5_readBehindPart_27 rfl (lv_at hl 1 rfl) ?_
      refine lv_iconst (v := 1) hx hb dX5_readBehindPart_28 (by decide) ?_
      refine va_put (D := (dC, dI)) (ci := 5) (v := .int 1) (ty := .int) (C := RX5) (T := TX5) (N := 16) hx hb hG kinX5 tyX5 tyX5_ok nmX5 hown hK hP hD hS 0 rfl rfl 8 (by decide) (hG _ kfX5_36) (fun _ h9 => h9) rfl (by decide +kernel) rfl rfl (Nat.le_of_ble_eq_true rfl) dX5_readBehindPart_29 (fun H locs hP hD hS => ?_)
      have hP : va_P (dC, dI) cLs [(oR, .inr (5, mkX5 aR_tape oD R_end R_place R_token R_start R_digits R_number 1 R_clockIsTold aR_waiting R_waits R_depth R_nots R_partIsDue R_notMayStand)), (oD, .inr (1, mkX1 D_oil D_weight D_treasury D_aldermen aD_lean aD_deaf D_motions aD_kind aD_call aD_cost aD_joy aD_follows aD_code D_codeLength aD_ruleFrom aD_ruleTo)), (aR_waiting, .inl (cc 0, 80, .inl R_waiting)), (aD_code, .inl (cc 0, 700, .inl D_code))] _ := hP
      have hD : va_D A [(oR, .inr (5, mkX5 aR_tape oD R_end R_place R_token R_start R_digits R_number 1 R_clockIsTold aR_waiting R_waits R_depth R_nots R_partIsDue R_notMayStand)), (oD, .inr (1, mkX1 D_oil D_weight D_treasury D_aldermen aD_lean aD_deaf D_motions aD_kind aD_call aD_cost aD_joy aD_follows aD_code D_codeLength aD_ruleFrom aD_ruleTo)), (aR_waiting, .inl (cc 0, 80, .inl R_waiting)), (aD_code, .inl (cc 0, 700, .inl D_code))] := hD
      obtain rfl := Option.some.inj hf
      exact retV C0 hP hD hS dX5_readBehindPart_32
    · have hf := ift c28 hf
      refine lv_aload_n hx hb dX5_readBehindPart_20 rfl (lv_at hl 1 rfl) ?_
      refine va_get (D := (dC, dI)) (ci := 5) (v := .int R_depth) (C := RX5) (T := TX5) (N := 16) hx hb hG kinX5 hown hK hP 0 rfl rfl 12 (by decide) (hG _ kfX5_125) (fun _ h9 => h9) rfl dX5_readBehindPart_21 ?_
      refine lv_if_ne (tgt := 33) hx hb dX5_readBehindPart_24 (by decide) (fun c29 => ?_) (fun c29 => ?_)
      · have hf := iff_ c29 hf
        exact wjX5_readBehindPart_33 C0 oR aR_tape oD aR_waiting aD_lean aD_deaf aD_kind aD_call aD_cost aD_joy aD_follows aD_code aD_ruleFrom aD_ruleTo R_end R_place R_token R_start R_digits R_number R_fault R_clockIsTold R_waits R_depth R_nots R_partIsDue R_notMayStand R_waiting D_oil D_weight D_treasury D_aldermen D_motions D_codeLength D_code v2    hf _ _ hP hD hS _ (lv_sub hl [1, 0] rfl)
      · have hf := ift c29 hf
        refine lv_aload_n hx hb dX5_readBehindPart_27 rfl (lv_at hl 1 rfl) ?_
        refine lv_iconst (v := 1) hx hb dX5_readBehindPart_28 (by decide) ?_
        refine va_put (D := (dC, dI)) (ci := 5) (v := .int 1) (ty := .int) (C := RX5) (T := TX5) (N := 16) hx hb hG kinX5 tyX5 tyX5_ok nmX5 hown hK hP hD hS 0 rfl rfl 8 (by decide) (hG _ kfX5_36) (fun _ h9 => h9) rfl (by decide +kernel) rfl rfl (Nat.le_of_ble_eq_true rfl) dX5_readBehindPart_29 (fun H locs hP hD hS => ?_)
        have hP : va_P (dC, dI) cLs [(oR, .inr (5, mkX5 aR_tape oD R_end R_place R_token R_start R_digits R_number 1 R_clockIsTold aR_waiting R_waits R_depth R_nots R_partIsDue R_notMayStand)), (oD, .inr (1, mkX1 D_oil D_weight D_treasury D_aldermen aD_lean aD_deaf D_motions aD_kind aD_call aD_cost aD_joy aD_follows aD_code D_codeLength aD_ruleFrom aD_ruleTo)), (aR_waiting, .inl (cc 0, 80, .inl R_waiting)), (aD_code, .inl (cc 0, 700, .inl D_code))] _ := hP
        have hD : va_D A [(oR, .inr (5, mkX5 aR_tape oD R_end R_place R_token R_start R_digits R_number 1 R_clockIsTold aR_waiting R_waits R_depth R_nots R_partIsDue R_notMayStand)), (oD, .inr (1, mkX1 D_oil D_weight D_treasury D_aldermen aD_lean aD_deaf D_motions aD_kind aD_call aD_cost aD_joy aD_follows aD_code D_codeLength aD_ruleFrom aD_ruleTo)), (aR_waiting, .inl (cc 0, 80, .inl R_waiting)), (aD_code, .inl (cc 0, 700, .inl D_code))] := hD
        obtain rfl := Option.some.inj hf
        exact retV C0 hP hD hS dX5_readBehindPart_32
theorem mX5_readBehindPart (l : Launch) (dC : Nat → ClassId) (dI : Nat → Nat → Nat) (cc : Nat → ClassId) (oR aR_tape oD aR_waiting aD_lean aD_deaf aD_kind aD_call aD_cost aD_joy aD_follows aD_code aD_ruleFrom aD_ruleTo : Nat) (sz : Nat) (R_end : Int32) (R_place : Int32) (R_token : Int32) (R_start : Int32) (R_digits : Int32) (R_number : Int32) (R_fault : Int32) (R_clockIsTold : Int32) (R_waits : Int32) (R_depth : Int32) (R_nots : Int32) (R_partIsDue : Int32) (R_notMayStand : Int32) (R_waiting : Nat → Int32) (D_oil : Int32) (D_weight : Int32) (D_treasury : Int32) (D_aldermen : Int32) (D_motions : Int32) (D_codeLength : Int32) (D_code : Nat → Int32)  {out : Int32 × Int32 × Int32 × Int32 × Int32 × Int32 × (Nat → Int32) × Int32 × (Nat → Int32)} (hf : fX5_readBehindPart R_token R_fault R_waits R_depth R_nots R_partIsDue R_notMayStand R_waiting D_codeLength D_code = some out) : Met l yX5_readBehindPart (Cond.code yX5_readBehindPart cX5_readBehindPart 3 none :: GW) rmX5_readBehindPart (PI dC dI cc [.ref oR] [(oR, .inr (5, mkX5 aR_tape oD R_end R_place R_token R_start R_digits R_number R_fault R_clockIsTold aR_waiting R_waits R_depth R_nots R_partIsDue R_notMayStand)), (oD, .inr (1, mkX1 D_oil D_weight D_treasury D_aldermen aD_lean aD_deaf D_motions aD_kind aD_call aD_cost aD_joy aD_follows aD_code D_codeLength aD_ruleFrom aD_ruleTo)), (aR_waiting, .inl (cc 0, 80, .inl R_waiting)), (aD_code, .inl (cc 0, 700, .inl D_code))] sz) (QV dC dI cc [(oR, .inr (5, mkX5 aR_tape oD R_end R_place R_token R_start R_digits R_number out.1 R_clockIsTold aR_waiting out.2.1 out.2.2.1 out.2.2.2.1 out.2.2.2.2.1 out.2.2.2.2.2.1)), (oD, .inr (1, mkX1 D_oil D_weight D_treasury D_aldermen aD_lean aD_deaf D_motions aD_kind aD_call aD_cost aD_joy aD_follows aD_code out.2.2.2.2.2.2.2.1 aD_ruleFrom aD_ruleTo)), (aR_waiting, .inl (cc 0, 80, .inl out.2.2.2.2.2.2.1)), (aD_code, .inl (cc 0, 700, .inl out.2.2.2.2.2.2.2.2))] (va_A [(oR, .inr (5, mkX5 aR_tape oD R_end R_place R_token R_start R_digits R_number R_fault R_clockIsTold aR_waiting R_waits R_depth R_nots R_partIsDue R_notMayStand)), (oD, .inr (1, mkX1 D_oil D_weight D_treasury D_aldermen aD_lean aD_deaf D_motions aD_kind aD_call aD_cost aD_joy aD_follows aD_code D_codeLength aD_ruleFrom aD_ruleTo)), (aR_waiting, .inl (cc 0, 80, .inl R_waiting)), (aD_code, .inl (cc 0, 700, .inl D_code))] sz)) 0 0 (va_A [(oR, .inr (5, mkX5 aR_tape oD R_end R_place R_token R_start R_digits R_number R_fault R_clockIsTold aR_waiting R_waits R_depth R_nots R_partIsDue R_notMayStand)), (oD, .inr (1, mkX1 D_oil D_weight D_treasury D_aldermen aD_lean aD_deaf D_motions aD_kind aD_call aD_cost aD_joy aD_follows aD_code D_codeLength aD_ruleFrom aD_ruleTo)), (aR_waiting, .inl (cc 0, 80, .inl R_waiting)), (aD_code, .inl (cc 0, 700, .inl D_code))] sz) :=
  met_of (Q := fun A => QV dC dI cc [(oR, .inr (5, mkX5 aR_tape oD R_end R_place R_token R_start R_digits R_number out.1 R_clockIsTold aR_waiting out.2.1 out.2.2.1 out.2.2.2.1 out.2.2.2.2.1 out.2.2.2.2.2.1)), (oD, .inr (1, mkX1 D_oil D_weight D_treasury D_aldermen aD_lean aD_deaf D_motions aD_kind aD_call aD_cost aD_joy aD_follows aD_code out.2.2.2.2.2.2.2.1 aD_ruleFrom aD_ruleTo)), (aR_waiting, .inl (cc 0, 80, .inl out.2.2.2.2.2.2.1)), (aD_code, .inl (cc 0, 700, .inl out.2.2.2.2.2.2.2.2))] A) (by decide) rfl (Nat.le_of_ble_eq_true rfl) (fun p e s m below meth c A C0 hP hD hS ls hl => bX5_readBehindPart C0 oR aR_tape oD aR_waiting aD_lean aD_deaf aD_kind aD_call aD_cost aD_joy aD_follows aD_code aD_ruleFrom aD_ruleTo R_end R_place R_token R_start R_digits R_number R_fault R_clockIsTold R_waits R_depth R_nots R_partIsDue R_notMayStand R_waiting D_oil D_weight D_treasury D_aldermen D_motions D_codeLength D_code hf hP hD hS hl)
abbrev rmX5_readDigits : Room := { frames := 0, cells := 0, slots := 0, locals := 0 }
def lX5_readDigits_5 (ke5_94 : Int32 → Int32 → Option (Int32 × Int32 × Int32 × Int32))  (R_end : Int32) (R_start : Int32) (R_tape : Nat → Int32) : Nat → Int32 → Int32 → Option (Int32 × Int32 × Int32 × Int32)
  | 0, _, _ => none
  | n+1, R_place, R_number =>
    if R_end ≤ R_place then
      ke5_94 R_place R_number
    else
      ck (inb R_place 700) <|
      if (R_tape (R_place : Int32).toNatClampNeg) < 48 then
        ke5_94 R_place R_number
      else
        ck (inb R_place 700) <|
        if 57 < (R_tape (R_place : Int32).toNatClampNeg) then
          ke5_94 R_place R_number
        else
          if 4 ≤ (R_place - R_start) then
            lX5_readDigits_5 ke5_94 R_end R_start R_tape n (R_place + (1 : Int32)) R_number
          else
            ck (inb R_place 700) <|
            lX5_readDigits_5 ke5_94 R_end R_start R_tape n (R_place + (1 : Int32)) ((((10 : Int32) * R_number) + (R_tape (R_place : Int32).toNatClampNeg)) - (48 : Int32))
set_option maxHeartbeats 4000000 in
set_option maxRecDepth 100000 in
theorem wlX5_readDigits_5 {p : Program} {l : Launch} {e : Env} {s : State} {m : MethodId} {args : Array Value} {below : List Frame} {meth : Method} {c : Code} {A : Nat → Prop} {dC : Nat → ClassId} {dI : Nat → Nat → Nat} {cc : Nat → ClassId} (C0 : CT p s m args meth c A dC dI cc cX5_readDigits 1 none RX5) (oR aR_tape oD aR_waiting : Nat) (R_end : Int32) (R_token : Int32) (R_start : Int32) (R_digits : Int32) (R_fault : Int32) (R_clockIsTold : Int32) (R_waits : Int32) (R_depth : Int32) (R_nots : Int32) (R_partIsDue : Int32) (R_notMayStand : Int32) (R_tape : Nat → Int32)  {out : Int32 × Int32 × Int32 × Int32} (ke5_94 : Int32 → Int32 → Option (Int32 × Int32 × Int32 × Int32)) (hke5_94 : ∀ (R_place' : Int32) (R_number' : Int32), ke5_94 R_place' R_number' = some out → ∀ (H : Heap) (locs : List Loc), va_P (dC, dI) cLs [(oR, .inr (5, mkX5 aR_tape oD R_end R_place' R_token R_start R_digits R_number' R_fault R_clockIsTold aR_waiting R_waits R_depth R_nots R_partIsDue R_notMayStand)), (aR_tape, .inl (cc 1, 700, .inl R_tape))] H → va_D A [(oR, .inr (5, mkX5 aR_tape oD R_end R_place' R_token R_start R_digits R_number' R_fault R_clockIsTold aR_waiting R_waits R_depth R_nots R_partIsDue R_notMayStand)), (aR_tape, .inl (cc 1, 700, .inl R_tape))] → va_S A s.heap H locs → ∀ ls : Array Slot, lv_has ls 1 [(0, .ref oR)] → W p l e rmX5_readDigits s m args below meth c H locs 0 0 (MQ below (QV dC dI cc [(oR, .inr (5, mkX5 aR_tape oD R_end out.1 out.2.1 R_start out.2.2.1 out.2.2.2 R_fault R_clockIsTold aR_waiting R_waits R_depth R_nots R_partIsDue R_notMayStand)), (aR_tape, .inl (cc 1, 700, .inl R_tape))] A) args s 0 0 A) (F0 m 94 ls [])) : ∀ (n : Nat) (R_place : Int32) (R_number : Int32) (hf : lX5_readDigits_5 ke5_94 R_end R_start R_tape n R_place R_number = some out) (H : Heap) (locs : List Loc) (hP : va_P (dC, dI) cLs [(oR, .inr (5, mkX5 aR_tape oD R_end R_place R_token R_start R_digits R_number R_fault R_clockIsTold aR_waiting R_waits R_depth R_nots R_partIsDue R_notMayStand)), (aR_tape, .inl (cc 1, 700, .inl R_tape))] H) (hD : va_D A [(oR, .inr (5, mkX5 aR_tape oD R_end R_place R_token R_start R_digits R_number R_fault R_clockIsTold aR_waiting R_waits R_depth R_nots R_partIsDue R_notMayStand)), (aR_tape, .inl (cc 1, 700, .inl R_tape))]) (hS : va_S A s.heap H locs) (ls : Array Slot) (hl : lv_has ls 1 [(0, .ref oR)]), W p l e rmX5_readDigits s m args below meth c H locs 0 0 (MQ below (QV dC dI cc [(oR, .inr (5, mkX5 aR_tape oD R_end out.1 out.2.1 R_start out.2.2.1 out.2.2.2 R_fault R_clockIsTold aR_waiting R_waits R_depth R_nots R_partIsDue R_notMayStand)), (aR_tape, .inl (cc 1, 700, .inl R_tape))] A) args s 0 0 A) (F0 m 5 ls []) := by
  obtain ⟨hx, hb, hml, hr, hlocks, hown, hG, hK, hA⟩ := id C0
  intro n
  induction n with
  | zero => intro R_place R_number hf; cases hf
  | succ n ih =>
    intro R_place R_number hf H locs hP hD hS ls hl
    unfold lX5_readDigits_5 at hf
    refine lv_aload_n hx hb dX5_readDigits_5 rfl (lv_at hl 0 rfl) ?_
    refine va_get (D := (dC, dI)) (ci := 5) (v := .int R_place) (C := RX5) (T := TX5) (N := 16) hx hb hG kinX5 hown hK hP 0 rfl rfl 3 (by decide) (hG _ kfX5_33) (fun _ h9 => h9) rfl dX5_readDigits_6 ?_
    refine lv_aload_n hx hb dX5_readDigits_9 rfl (lv_at hl 0 rfl) ?_
    refine va_get (D := (dC, dI)) (ci := 5) (v := .int R_end) (C := RX5) (T := TX5) (N := 16) hx hb hG kinX5 hown hK hP 0 rfl rfl 2 (by decide) (hG _ kfX5_29) (fun _ h9 => h9) rfl dX5_readDigits_10 ?_
    refine lv_icmp_ge (tgt := 94) hx hb dX5_readDigits_13 (by decide) (fun c1 => ?_) (fun c1 => ?_)
    · have hf := ift c1 hf
      exact hke5_94 R_place R_number hf _ _ hP hD hS _ (lv_sub hl [0] rfl)
    · have hf := iff_ c1 hf
      refine lv_aload_n hx hb dX5_readDigits_16 rfl (lv_at hl 0 rfl) ?_
      refine va_get (D := (dC, dI)) (ci := 5) (v := .ref aR_tape) (C := RX5) (T := TX5) (N := 16) hx hb hG kinX5 hown hK hP 0 rfl rfl 0 (by decide) (hG _ kfX5_15) (fun _ h9 => h9) rfl dX5_readDigits_17 ?_
      refine lv_aload_n hx hb dX5_readDigits_20 rfl (lv_at hl 0 rfl) ?_
      refine va_get (D := (dC, dI)) (ci := 5) (v := .int R_place) (C := RX5) (T := TX5) (N := 16) hx hb hG kinX5 hown hK hP 0 rfl rfl 3 (by decide) (hG _ kfX5_33) (fun _ h9 => h9) rfl dX5_readDigits_21 ?_
      refine ck_el hf (fun g2 hf => ?_)
      refine va_bald hx hb hK hP 1 1 rfl rfl (inb_in g2) dX5_readDigits_24 ?_
      refine lv_bipush (v := 48) hx hb dX5_readDigits_25 (by decide) ?_
      refine lv_icmp_lt (tgt := 94) hx hb dX5_readDigits_27 (by decide) (fun c3 => ?_) (fun c3 => ?_)
      · have hf := ift c3 hf
        exact hke5_94 R_place R_number hf _ _ hP hD hS _ (lv_sub hl [0] rfl)
      · have hf := iff_ c3 hf
        refine lv_aload_n hx hb dX5_readDigits_30 rfl (lv_at hl 0 rfl) ?_
        refine va_get (D := (dC, dI)) (ci := 5) (v := .ref aR_tape) (C := RX5) (T := TX5) (N := 16) hx hb hG kinX5 hown hK hP 0 rfl rfl 0 (by decide) (hG _ kfX5_15) (fun _ h9 => h9) rfl dX5_readDigits_31 ?_
        refine lv_aload_n hx hb dX5_readDigits_34 rfl (lv_at hl 0 rfl) ?_
        refine va_get (D := (dC, dI)) (ci := 5) (v := .int R_place) (C := RX5) (T := TX5) (N := 16) hx hb hG kinX5 hown hK hP 0 rfl rfl 3 (by decide) (hG _ kfX5_33) (fun _ h9 => h9) rfl dX5_readDigits_35 ?_
        refine ck_el hf (fun g4 hf => ?_)
        refine va_bald hx hb hK hP 1 1 rfl rfl (inb_in g4) dX5_readDigits_38 ?_
        refine lv_bipush (v := 57) hx hb dX5_readDigits_39 (by decide) ?_
        refine lv_icmp_gt (tgt := 94) hx hb dX5_readDigits_41 (by decide) (fun c5 => ?_) (fun c5 => ?_)
        · have hf := ift c5 hf
          exact hke5_94 R_place R_number hf _ _ hP hD hS _ (lv_sub hl [0] rfl)
        · have hf := iff_ c5 hf
          refine lv_aload_n hx hb dX5_readDigits_44 rfl (lv_at hl 0 rfl) ?_
          refine va_get (D := (dC, dI)) (ci := 5) (v := .int R_place) (C := RX5) (T := TX5) (N := 16) hx hb hG kinX5 hown hK hP 0 rfl rfl 3 (by decide) (hG _ kfX5_33) (fun _ h9 => h9) rfl dX5_readDigits_45 ?_
          refine lv_aload_n hx hb dX5_readDigits_48 rfl (lv_at hl 0 rfl) ?_
          refine va_get (D := (dC, dI)) (ci := 5) (v := .int R_start) (C := RX5) (T := TX5) (N := 16) hx hb hG kinX5 hown hK hP 0 rfl rfl 5 (by decide) (hG _ kfX5_57) (fun _ h9 => h9) rfl dX5_readDigits_49 ?_
          refine lv_isub hx hb dX5_readDigits_52 ?_
          refine lv_iconst (v := 4) hx hb dX5_readDigits_53 (by decide) ?_
          refine lv_icmp_ge (tgt := 81) hx hb dX5_readDigits_54 (by decide) (fun c6 => ?_) (fun c6 => ?_)
          · have hf := ift c6 hf
            refine lv_aload_n hx hb dX5_readDigits_81 rfl (lv_at hl 0 rfl) ?_
            refine lv_dup hx hb dX5_readDigits_82 rfl ?_
            refine va_get (D := (dC, dI)) (ci := 5) (v := .int R_place) (C := RX5) (T := TX5) (N := 16) hx hb hG kinX5 hown hK hP 0 rfl rfl 3 (by decide) (hG _ kfX5_33) (fun _ h9 => h9) rfl dX5_readDigits_83 ?_
            refine lv_iconst (v := 1) hx hb dX5_readDigits_86 (by decide) ?_
            refine lv_iadd hx hb dX5_readDigits_87 ?_
            refine va_put (D := (dC, dI)) (ci := 5) (v := .int (R_place + (1 : Int32))) (ty := .int) (C := RX5) (T := TX5) (N := 16) hx hb hG kinX5 tyX5 tyX5_ok nmX5 hown hK hP hD hS 0 rfl rfl 3 (by decide) (hG _ kfX5_33) (fun _ h9 => h9) rfl (by decide +kernel) rfl rfl (Nat.le_of_ble_eq_true rfl) dX5_readDigits_88 (fun H locs hP hD hS => ?_)
            have hP : va_P (dC, dI) cLs [(oR, .inr (5, mkX5 aR_tape oD R_end (R_place + (1 : Int32)) R_token R_start R_digits R_number R_fault R_clockIsTold aR_waiting R_waits R_depth R_nots R_partIsDue R_notMayStand)), (aR_tape, .inl (cc 1, 700, .inl R_tape))] _ := hP
            have hD : va_D A [(oR, .inr (5, mkX5 aR_tape oD R_end (R_place + (1 : Int32)) R_token R_start R_digits R_number R_fault R_clockIsTold aR_waiting R_waits R_depth R_nots R_partIsDue R_notMayStand)), (aR_tape, .inl (cc 1, 700, .inl R_tape))] := hD
            refine lv_goto (tgt := 5) hx hb dX5_readDigits_91 (by decide) ?_
            exact ih (R_place + (1 : Int32)) R_number hf _ _ hP hD hS _ (lv_sub hl [0] rfl)
          · have hf := iff_ c6 hf
            refine lv_aload_n hx hb dX5_readDigits_57 rfl (lv_at hl 0 rfl) ?_
            refine lv_bipush (v := 10) hx hb dX5_readDigits_58 (by decide) ?_
            refine lv_aload_n hx hb dX5_readDigits_60 rfl (lv_at hl 0 rfl) ?_
            refine va_get (D := (dC, dI)) (ci := 5) (v := .int R_number) (C := RX5) (T := TX5) (N := 16) hx hb hG kinX5 hown hK hP 0 rfl rfl 7 (by decide) (hG _ kfX5_115) (fun _ h9 => h9) rfl dX5_readDigits_61 ?_
            refine lv_imul hx hb dX5_readDigits_64 ?_
            refine lv_aload_n hx hb dX5_readDigits_65 rfl (lv_at hl 0 rfl) ?_
            refine va_get (D := (dC, dI)) (ci := 5) (v := .ref aR_tape) (C := RX5) (T := TX5) (N := 16) hx hb hG kinX5 hown hK hP 0 rfl rfl 0 (by decide) (hG _ kfX5_15) (fun _ h9 => h9) rfl dX5_readDigits_66 ?_
            refine lv_aload_n hx hb dX5_readDigits_69 rfl (lv_at hl 0 rfl) ?_
            refine va_get (D := (dC, dI)) (ci := 5) (v := .int R_place) (C := RX5) (T := TX5) (N := 16) hx hb hG kinX5 hown hK hP 0 rfl rfl 3 (by decide) (hG _ kfX5_33) (fun _ h9 => h9) rfl dX5_readDigits_70 ?_
            refine ck_el hf (fun g7 hf => ?_)
            refine va_bald hx hb hK hP 1 1 rfl rfl (inb_in g7) dX5_readDigits_73 ?_
            refine lv_iadd hx hb dX5_readDigits_74 ?_
            refine lv_bipush (v := 48) hx hb dX5_readDigits_75 (by decide) ?_
            refine lv_isub hx hb dX5_readDigits_77 ?_
            refine va_put (D := (dC, dI)) (ci := 5) (v := .int ((((10 : Int32) * R_number) + (R_tape (R_place : Int32).toNatClampNeg)) - (48 : Int32))) (ty := .int) (C := RX5) (T := TX5) (N := 16) hx hb hG kinX5 tyX5 tyX5_ok nmX5 hown hK hP hD hS 0 rfl rfl 7 (by decide) (hG _ kfX5_115) (fun _ h9 => h9) rfl (by decide +kernel) rfl rfl (Nat.le_of_ble_eq_true rfl) dX5_readDigits_78 (fun H locs hP hD hS => ?_)
            have hP : va_P (dC, dI) cLs [(oR, .inr (5, mkX5 aR_tape oD R_end R_place R_token R_start R_digits ((((10 : Int32) * R_number) + (R_tape (R_place : Int32).toNatClampNeg)) - (48 : Int32)) R_fault R_clockIsTold aR_waiting R_waits R_depth R_nots R_partIsDue R_notMayStand)), (aR_tape, .inl (cc 1, 700, .inl R_tape))] _ := hP
            have hD : va_D A [(oR, .inr (5, mkX5 aR_tape oD R_end R_place R_token R_start R_digits ((((10 : Int32) * R_number) + (R_tape (R_place : Int32).toNatClampNeg)) - (48 : Int32)) R_fault R_clockIsTold aR_waiting R_waits R_depth R_nots R_partIsDue R_notMayStand)), (aR_tape, .inl (cc 1, 700, .inl R_tape))] := hD
            refine lv_aload_n hx hb dX5_readDigits_81 rfl (lv_at hl 0 rfl) ?_
            refine lv_dup hx hb dX5_readDigits_82 rfl ?_
            refine va_get (D := (dC, dI)) (ci := 5) (v := .int R_place) (C := RX5) (T := TX5) (N := 16) hx hb hG kinX5 hown hK hP 0 rfl rfl 3 (by decide) (hG _ kfX5_33) (fun _ h9 => h9) rfl dX5_readDigits_83 ?_
            refine lv_iconst (v := 1) hx hb dX5_readDigits_86 (by decide) ?_
            refine lv_iadd hx hb dX5_readDigits_87 ?_
            refine va_put (D := (dC, dI)) (ci := 5) (v := .int (R_place + (1 : Int32))) (ty := .int) (C := RX5) (T := TX5) (N := 16) hx hb hG kinX5 tyX5 tyX5_ok nmX5 hown hK hP hD hS 0 rfl rfl 3 (by decide) (hG _ kfX5_33) (fun _ h9 => h9) rfl (by decide +kernel) rfl rfl (Nat.le_of_ble_eq_true rfl) dX5_readDigits_88 (fun H locs hP hD hS => ?_)
            have hP : va_P (dC, dI) cLs [(oR, .inr (5, mkX5 aR_tape oD R_end (R_place + (1 : Int32)) R_token R_start R_digits ((((10 : Int32) * R_number) + (R_tape (R_place : Int32).toNatClampNeg)) - (48 : Int32)) R_fault R_clockIsTold aR_waiting R_waits R_depth R_nots R_partIsDue R_notMayStand)), (aR_tape, .inl (cc 1, 700, .inl R_tape))] _ := hP
            have hD : va_D A [(oR, .inr (5, mkX5 aR_tape oD R_end (R_place + (1 : Int32)) R_token R_start R_digits ((((10 : Int32) * R_number) + (R_tape (R_place : Int32).toNatClampNeg)) - (48 : Int32)) R_fault R_clockIsTold aR_waiting R_waits R_depth R_nots R_partIsDue R_notMayStand)), (aR_tape, .inl (cc 1, 700, .inl R_tape))] := hD
            refine lv_goto (tgt := 5) hx hb dX5_readDigits_91 (by decide) ?_
            exact ih (R_place + (1 : Int32)) ((((10 : Int32) * R_number) + (R_tape (R_place : Int32).toNatClampNeg)) - (48 : Int32)) hf _ _ hP hD hS _ (lv_sub hl [0] rfl)
def jX5_readDigits_94   (R_place : Int32) (R_token : Int32) (R_start : Int32) (R_digits : Int32) (R_number : Int32)  : Option (Int32 × Int32 × Int32 × Int32) :=
  some (R_place, 2, (R_place - R_start), R_number)
set_option maxHeartbeats 4000000 in
set_option maxRecDepth 100000 in
theorem wjX5_readDigits_94 {p : Program} {l : Launch} {e : Env} {s : State} {m : MethodId} {args : Array Value} {below : List Frame} {meth : Method} {c : Code} {A : Nat → Prop} {dC : Nat → ClassId} {dI : Nat → Nat → Nat} {cc : Nat → ClassId} (C0 : CT p s m args meth c A dC dI cc cX5_readDigits 1 none RX5) (oR aR_tape oD aR_waiting : Nat) (R_end : Int32) (R_place : Int32) (R_token : Int32) (R_start : Int32) (R_digits : Int32) (R_number : Int32) (R_fault : Int32) (R_clockIsTold : Int32) (R_waits : Int32) (R_depth : Int32) (R_nots : Int32) (R_partIsDue : Int32) (R_notMayStand : Int32) (R_tape : Nat → Int32)  {out : Int32 × Int32 × Int32 × Int32}    (hf : jX5_readDigits_94  R_place R_token R_start R_digits R_number  = some out) (H : Heap) (locs : List Loc) (hP : va_P (dC, dI) cLs [(oR, .inr (5, mkX5 aR_tape oD R_end R_place R_token R_start R_digits R_number R_fault R_clockIsTold aR_waiting R_waits R_depth R_nots R_partIsDue R_notMayStand)), (aR_tape, .inl (cc 1, 700, .inl R_tape))] H) (hD : va_D A [(oR, .inr (5, mkX5 aR_tape oD R_end R_place R_token R_start R_digits R_number R_fault R_clockIsTold aR_waiting R_waits R_depth R_nots R_partIsDue R_notMayStand)), (aR_tape, .inl (cc 1, 700, .inl R_tape))]) (hS : va_S A s.heap H locs) (ls : Array Slot) (hl : lv_has ls 1 [(0, .ref oR)]) : W p l e rmX5_readDigits s m args below meth c H locs 0 0 (MQ below (QV dC dI cc [(oR, .inr (5, mkX5 aR_tape oD R_end out.1 out.2.1 R_start out.2.2.1 out.2.2.2 R_fault R_clockIsTold aR_waiting R_waits R_depth R_nots R_partIsDue R_notMayStand)), (aR_tape, .inl (cc 1, 700, .inl R_tape))] A) args s 0 0 A) (F0 m 94 ls []) := by
  obtain ⟨hx, hb, hml, hr, hlocks, hown, hG, hK, hA⟩ := id C0
  unfold jX5_readDigits_94 at hf
  refine lv_aload_n hx hb dX5_readDigits_94 rfl (lv_at hl 0 rfl) ?_
  refine lv_iconst (v := 2) hx hb dX5_readDigits_95 (by decide) ?_
  refine va_put (D := (dC, dI)) (ci := 5) (v := .int 2) (ty := .int) (C := RX5) (T := TX5) (N := 16) hx hb hG kinX5 tyX5 tyX5_ok nmX5 hown hK hP hD hS 0 rfl rfl 4 (by decide) (hG _ kfX5_51) (fun _ h9 => h9) rfl (by decide +kernel) rfl rfl (Nat.le_of_ble_eq_true rfl) dX5_readDigits_96 (fun H locs hP hD hS => ?_)
  have hP : va_P (dC, dI) cLs [(oR, .inr (5, mkX5 aR_tape oD R_end R_place 2 R_start R_digits R_number R_fault R_clockIsTold aR_waiting R_waits R_depth R_nots R_partIsDue R_notMayStand)), (aR_tape, .inl (cc 1, 700, .inl R_tape))] _ := hP
  have hD : va_D A [(oR, .inr (5, mkX5 aR_tape oD R_end R_place 2 R_start R_digits R_number R_fault R_clockIsTold aR_waiting R_waits R_depth R_nots R_partIsDue R_notMayStand)), (aR_tape, .inl (cc 1, 700, .inl R_tape))] := hD
  refine lv_aload_n hx hb dX5_readDigits_99 rfl (lv_at hl 0 rfl) ?_
  refine lv_aload_n hx hb dX5_readDigits_100 rfl (lv_at hl 0 rfl) ?_
  refine va_get (D := (dC, dI)) (ci := 5) (v := .int R_place) (C := RX5) (T := TX5) (N := 16) hx hb hG kinX5 hown hK hP 0 rfl rfl 3 (by decide) (hG _ kfX5_33) (fun _ h9 => h9) rfl dX5_readDigits_101 ?_
  refine lv_aload_n hx hb dX5_readDigits_104 rfl (lv_at hl 0 rfl) ?_
  refine va_get (D := (dC, dI)) (ci := 5) (v := .int R_start) (C := RX5) (T := TX5) (N := 16) hx hb hG kinX5 hown hK hP 0 rfl rfl 5 (by decide) (hG _ kfX5_57) (fun _ h9 => h9) rfl dX5_readDigits_105 ?_
  refine lv_isub hx hb dX5_readDigits_108 ?_
  refine va_put (D := (dC, dI)) (ci := 5) (v := .int (R_place - R_start)) (ty := .int) (C := RX5) (T := TX5) (N := 16) hx hb hG kinX5 tyX5 tyX5_ok nmX5 hown hK hP hD hS 0 rfl rfl 6 (by decide) (hG _ kfX5_112) (fun _ h9 => h9) rfl (by decide +kernel) rfl rfl (Nat.le_of_ble_eq_true rfl) dX5_readDigits_109 (fun H locs hP hD hS => ?_)
  have hP : va_P (dC, dI) cLs [(oR, .inr (5, mkX5 aR_tape oD R_end R_place 2 R_start (R_place - R_start) R_number R_fault R_clockIsTold aR_waiting R_waits R_depth R_nots R_partIsDue R_notMayStand)), (aR_tape, .inl (cc 1, 700, .inl R_tape))] _ := hP
  have hD : va_D A [(oR, .inr (5, mkX5 aR_tape oD R_end R_place 2 R_start (R_place - R_start) R_number R_fault R_clockIsTold aR_waiting R_waits R_depth R_nots R_partIsDue R_notMayStand)), (aR_tape, .inl (cc 1, 700, .inl R_tape))] := hD
  obtain rfl := Option.some.inj hf
  exact retV C0 hP hD hS dX5_readDigits_112
def fX5_readDigits  (R_end : Int32) (R_place : Int32) (R_token : Int32) (R_start : Int32) (R_digits : Int32) (R_number : Int32) (R_tape : Nat → Int32)  : Option (Int32 × Int32 × Int32 × Int32) :=
  lX5_readDigits_5 (fun (R_place_8 : Int32) (R_number_9 : Int32) =>
    jX5_readDigits_94 R_place_8 R_token R_start R_digits R_number_9) R_end R_start R_tape FU R_place 0
set_option maxHeartbeats 4000000 in
set_option maxRecDepth 100000 in
theorem bX5_readDigits {p : Program} {l : Launch} {e : Env} {s : State} {m : MethodId} {args : Array Value} {below : List Frame} {meth : Method} {c : Code} {A : Nat → Prop} {dC : Nat → ClassId} {dI : Nat → Nat → Nat} {cc : Nat → ClassId} (C0 : CT p s m args meth c A dC dI cc cX5_readDigits 1 none RX5) (oR aR_tape oD aR_waiting : Nat) (R_end : Int32) (R_place : Int32) (R_token : Int32) (R_start : Int32) (R_digits : Int32) (R_number : Int32) (R_fault : Int32) (R_clockIsTold : Int32) (R_waits : Int32) (R_depth : Int32) (R_nots : Int32) (R_partIsDue : Int32) (R_notMayStand : Int32) (R_tape : Nat → Int32)  {out : Int32 × Int32 × Int32 × Int32} (hf : fX5_readDigits R_end R_place R_token R_start R_digits R_number R_tape = some out) {H : Heap} {locs : List Loc} (hP : va_P (dC, dI) cLs [(oR, .inr (5, mkX5 aR_tape oD R_end R_place R_token R_start R_digits R_number R_fault R_clockIsTold aR_waiting R_waits R_depth R_nots R_partIsDue R_notMayStand)), (aR_tape, .inl (cc 1, 700, .inl R_tape))] H) (hD : va_D A [(oR, .inr (5, mkX5 aR_tape oD R_end R_place R_token R_start R_digits R_number R_fault R_clockIsTold aR_waiting R_waits R_depth R_nots R_partIsDue R_notMayStand)), (aR_tape, .inl (cc 1, 700, .inl R_tape))]) (hS : va_S A s.heap H locs) {ls : Array Slot} (hl : lv_has ls 1 [(0, .ref oR)]) : W p l e rmX5_readDigits s m args below meth c H locs 0 0 (MQ below (QV dC dI cc [(oR, .inr (5, mkX5 aR_tape oD R_end out.1 out.2.1 R_start out.2.2.1 out.2.2.2 R_fault R_clockIsTold aR_waiting R_waits R_depth R_nots R_partIsDue R_notMayStand)), (aR_tape, .inl (cc 1, 700, .inl R_tape))] A) args s 0 0 A) (F0 m 0 ls []) := by
  obtain ⟨hx, hb, hml, hr, hlocks, hown, hG, hK, hA⟩ := id C0
  unfold fX5_readDigits at hf
  refine lv_aload_n hx hb dX5_readDigits_0 rfl (lv_at hl 0 rfl) ?_
  refine lv_iconst (v := 0) hx hb dX5_readDigits_1 (by decide) ?_
  refine va_put (D := (dC, dI)) (ci := 5) (v := .int 0) (ty := .int) (C := RX5) (T := TX5) (N := 16) hx hb hG kinX5 tyX5 tyX5_ok nmX5 hown hK hP hD hS 0 rfl rfl 7 (by decide) (hG _ kfX5_115) (fun _ h9 => h9) rfl (by decide +kernel) rfl rfl (Nat.le_of_ble_eq_true rfl) dX5_readDigits_2 (fun H locs hP hD hS => ?_)
  have hP : va_P (dC, dI) cLs [(oR, .inr (5, mkX5 aR_tape oD R_end R_place R_token R_start R_digits 0 R_fault R_clockIsTold aR_waiting R_waits R_depth R_nots R_partIsDue R_notMayStand)), (aR_tape, .inl (cc 1, 700, .inl R_tape))] _ := hP
  have hD : va_D A [(oR, .inr (5, mkX5 aR_tape oD R_end R_place R_token R_start R_digits 0 R_fault R_clockIsTold aR_waiting R_waits R_depth R_nots R_partIsDue R_notMayStand)), (aR_tape, .inl (cc 1, 700, .inl R_tape))] := hD
  refine wlX5_readDigits_5 C0 oR aR_tape oD aR_waiting R_end R_token R_start R_digits R_fault R_clockIsTold R_waits R_depth R_nots R_partIsDue R_notMayStand R_tape _ ?_ FU R_place 0 hf _ _ hP hD hS _ (lv_sub hl [0] rfl)
  · intro R_place_8 R_number_9 hf H locs hP hD hS ls hl
    exact wjX5_readDigits_94 C0 oR aR_tape oD aR_waiting R_end R_place_8 R_token R_start R_digits R_number_9 R_fault R_clockIsTold R_waits R_depth R_nots R_partIsDue R_notMayStand R_tape    hf _ _ hP hD hS _ (lv_sub hl [0] rfl)
theorem mX5_readDigits (l : Launch) (dC : Nat → ClassId) (dI : Nat → Nat → Nat) (cc : Nat → ClassId) (oR aR_tape oD aR_waiting : Nat) (sz : Nat) (R_end : Int32) (R_place : Int32) (R_token : Int32) (R_start : Int32) (R_digits : Int32) (R_number : Int32) (R_fault : Int32) (R_clockIsTold : Int32) (R_waits : Int32) (R_depth : Int32) (R_nots : Int32) (R_partIsDue : Int32) (R_notMayStand : Int32) (R_tape : Nat → Int32)  {out : Int32 × Int32 × Int32 × Int32} (hf : fX5_readDigits R_end R_place R_token R_start R_digits R_number R_tape = some out) : Met l yX5_readDigits (Cond.code yX5_readDigits cX5_readDigits 1 none :: GW) rmX5_readDigits (PI dC dI cc [.ref oR] [(oR, .inr (5, mkX5 aR_tape oD R_end R_place R_token R_start R_digits R_number R_fault R_clockIsTold aR_waiting R_waits R_depth R_nots R_partIsDue R_notMayStand)), (aR_tape, .inl (cc 1, 700, .inl R_tape))] sz) (QV dC dI cc [(oR, .inr (5, mkX5 aR_tape oD R_end out.1 out.2.1 R_start out.2.2.1 out.2.2.2 R_fault R_clockIsTold aR_waiting R_waits R_depth R_nots R_partIsDue R_notMayStand)), (aR_tape, .inl (cc 1, 700, .inl R_tape))] (va_A [(oR, .inr (5, mkX5 aR_tape oD R_end R_place R_token R_start R_digits R_number R_fault R_clockIsTold aR_waiting R_waits R_depth R_nots R_partIsDue R_notMayStand)), (aR_tape, .inl (cc 1, 700, .inl R_tape))] sz)) 0 0 (va_A [(oR, .inr (5, mkX5 aR_tape oD R_end R_place R_token R_start R_digits R_number R_fault R_clockIsTold aR_waiting R_waits R_depth R_nots R_partIsDue R_notMayStand)), (aR_tape, .inl (cc 1, 700, .inl R_tape))] sz) :=
  met_of (Q := fun A => QV dC dI cc [(oR, .inr (5, mkX5 aR_tape oD R_end out.1 out.2.1 R_start out.2.2.1 out.2.2.2 R_fault R_clockIsTold aR_waiting R_waits R_depth R_nots R_partIsDue R_notMayStand)), (aR_tape, .inl (cc 1, 700, .inl R_tape))] A) (by decide) rfl (Nat.le_of_ble_eq_true rfl) (fun p e s m below meth c A C0 hP hD hS ls hl => bX5_readDigits C0 oR aR_tape oD aR_waiting R_end R_place R_token R_start R_digits R_number R_fault R_clockIsTold R_waits R_depth R_nots R_partIsDue R_notMayStand R_tape hf hP hD hS hl)
