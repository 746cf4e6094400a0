abbrev rmX9_thrown : Room := { frames := 0, cells := 0, slots := 0, locals := 0 }
def fX9_thrown  (M_code : Int32)  : Option (Int32) :=
  some M_code
set_option maxHeartbeats 4000000 in
set_option maxRecDepth 100000 in
theorem bX9_thrown {p : Program} {l : Launch} {e : Env} {s : State} {m : MethodId} {args : Array Value} {below : List Frame} {meth : Method} {c : Code} {A : Nat → Prop} {dC : Nat → ClassId} {dI : Nat → Nat → Nat} {cc : Nat → ClassId} (C0 : CT p s m args meth c A dC dI cc cX9_thrown 1 (some .int) RX9) (oM : Nat) (aM : Nat → Nat) (M_values : Int32) (M_code : Int32) (M_taped : Int32) (M_at : Int32) (M_size : Int32) (M_token : Int32) (M_number : Int32) (M_begins : Int32) (M_stops : Int32) (M_bad : Int32) (M_badPlace : Int32) (M_faultPlace : Int32) (M_ofVoting : Int32) (M_hour : Int32) (M_oil : Int32) (M_weight : Int32) (M_spider : Int32) (M_treasury : Int32) (M_joy : Int32) (M_passed : Int32) (M_acts : Int32) (M_seen : Int32) (M_never : Int32) (M_said : Int32) (M_hoarse : Int32) (M_fitMany : Int32) (M_seedNow : Int32) (M_hasImage : Int32) (M_actsThen : Int32) (M_seenThen : Int32)  {out : Int32} (hf : fX9_thrown M_code = some out) {H : Heap} {locs : List Loc} (hP : va_P (dC, dI) cLs [(oM, .inr (9, mkX9 aM M_values M_code M_taped M_at M_size M_token M_number M_begins M_stops M_bad M_badPlace M_faultPlace M_ofVoting M_hour M_oil M_weight M_spider M_treasury M_joy M_passed M_acts M_seen M_never M_said M_hoarse M_fitMany M_seedNow M_hasImage M_actsThen M_seenThen))] H) (hD : va_D A [(oM, .inr (9, mkX9 aM M_values M_code M_taped M_at M_size M_token M_number M_begins M_stops M_bad M_badPlace M_faultPlace M_ofVoting M_hour M_oil M_weight M_spider M_treasury M_joy M_passed M_acts M_seen M_never M_said M_hoarse M_fitMany M_seedNow M_hasImage M_actsThen M_seenThen))]) (hS : va_S A s.heap H locs) {ls : Array Slot} (hl : lv_has ls 1 [(0, .ref oM)]) : W p l e rmX9_thrown s m args below meth c H locs 0 0 (MQ below (QI dC dI cc out [(oM, .inr (9, mkX9 aM M_values M_code M_taped M_at M_size M_token M_number M_begins M_stops M_bad M_badPlace M_faultPlace M_ofVoting M_hour M_oil M_weight M_spider M_treasury M_joy M_passed M_acts M_seen M_never M_said M_hoarse M_fitMany M_seedNow M_hasImage M_actsThen M_seenThen))] A) args s 0 0 A) (F0 m 0 ls []) := by
  obtain ⟨hx, hb, hml, hr, hlocks, hown, hG, hK, hA⟩ := id C0
  unfold fX9_thrown at hf
  refine lv_aload_n hx hb dX9_thrown_0 rfl (lv_at hl 0 rfl) ?_
  refine va_get (D := (dC, dI)) (ci := 9) (v := .int M_code) (C := RX9) (T := TX9) (N := 63) hx hb hG kinX9 hown hK hP 0 rfl rfl 4 (by decide) (hG _ kfX9_152) (fun _ h9 => h9) rfl dX9_thrown_1 ?_
  obtain rfl := Option.some.inj hf
  exact retI C0 hP hD hS rfl dX9_thrown_4
theorem mX9_thrown (l : Launch) (dC : Nat → ClassId) (dI : Nat → Nat → Nat) (cc : Nat → ClassId) (oM : Nat) (aM : Nat → Nat) (sz : Nat) (M_values : Int32) (M_code : Int32) (M_taped : Int32) (M_at : Int32) (M_size : Int32) (M_token : Int32) (M_number : Int32) (M_begins : Int32) (M_stops : Int32) (M_bad : Int32) (M_badPlace : Int32) (M_faultPlace : Int32) (M_ofVoting : Int32) (M_hour : Int32) (M_oil : Int32) (M_weight : Int32) (M_spider : Int32) (M_treasury : Int32) (M_joy : Int32) (M_passed : Int32) (M_acts : Int32) (M_seen : Int32) (M_never : Int32) (M_said : Int32) (M_hoarse : Int32) (M_fitMany : Int32) (M_seedNow : Int32) (M_hasImage : Int32) (M_actsThen : Int32) (M_seenThen : Int32)  {out : Int32} (hf : fX9_thrown M_code = some out) : Met l yX9_thrown (Cond.code yX9_thrown cX9_thrown 1 (some .int) :: GW) rmX9_thrown (PI dC dI cc [.ref oM] [(oM, .inr (9, mkX9 aM M_values M_code M_taped M_at M_size M_token M_number M_begins M_stops M_bad M_badPlace M_faultPlace M_ofVoting M_hour M_oil M_weight M_spider M_treasury M_joy M_passed M_acts M_seen M_never M_said M_hoarse M_fitMany M_seedNow M_hasImage M_actsThen M_seenThen))] sz) (QI dC dI cc out [(oM, .inr (9, mkX9 aM M_values M_code M_taped M_at M_size M_token M_number M_begins M_stops M_bad M_badPlace M_faultPlace M_ofVoting M_hour M_oil M_weight M_spider M_treasury M_joy M_passed M_acts M_seen M_never M_said M_hoarse M_fitMany M_seedNow M_hasImage M_actsThen M_seenThen))] (va_A [(oM, .inr (9, mkX9 aM M_values M_code M_taped M_at M_size M_token M_number M_begins M_stops M_bad M_badPlace M_faultPlace M_ofVoting M_hour M_oil M_weight M_spider M_treasury M_joy M_passed M_acts M_seen M_never M_said M_hoarse M_fitMany M_seedNow M_hasImage M_actsThen M_seenThen))] sz)) 0 0 (va_A [(oM, .inr (9, mkX9 aM M_values M_code M_taped M_at M_size M_token M_number M_begins M_stops M_bad M_badPlace M_faultPlace M_ofVoting M_hour M_oil M_weight M_spider M_treasury M_joy M_passed M_acts M_seen M_never M_said M_hoarse M_fitMany M_seedNow M_hasImage M_actsThen M_seenThen))] sz) :=
  met_of (Q := fun A => QI dC dI cc out [(oM, .inr (9, mkX9 aM M_values M_code M_taped M_at M_size M_token M_number M_begins M_stops M_bad M_badPlace M_faultPlace M_ofVoting M_hour M_oil M_weight M_spider M_treasury M_joy M_passed M_acts M_seen M_never M_said M_hoarse M_fitMany M_seedNow M_hasImage M_actsThen M_seenThen))] A) (by decide) rfl (Nat.le_of_ble_eq_true rfl) (fun p e s m below meth c A C0 hP hD hS ls hl => bX9_thrown C0 oM aM M_values M_code M_taped M_at M_size M_token M_number M_begins M_stops M_bad M_badPlace M_faultPlace M_ofVoting M_hour M_oil M_weight M_spider M_treasury M_joy M_passed M_acts M_seen M_never M_said M_hoarse M_fitMany M_seedNow M_hasImage M_actsThen M_seenThen hf hP hD hS hl)
abbrev rmX9_fail : Room := { frames := 0, cells := 0, slots := 0, locals := 0 }
def fX9_fail  (M_code : Int32) (p0 : Int32) : Option (Int32 × Int32) :=
  some (0, p0)
set_option maxHeartbeats 4000000 in
set_option maxRecDepth 100000 in
theorem bX9_fail {p : Program} {l : Launch} {e : Env} {s : State} {m : MethodId} {args : Array Value} {below : List Frame} {meth : Method} {c : Code} {A : Nat → Prop} {dC : Nat → ClassId} {dI : Nat → Nat → Nat} {cc : Nat → ClassId} (C0 : CT p s m args meth c A dC dI cc cX9_fail 2 (some .int) RX9) (oM : Nat) (aM : Nat → Nat) (M_values : Int32) (M_code : Int32) (M_taped : Int32) (M_at : Int32) (M_size : Int32) (M_token : Int32) (M_number : Int32) (M_begins : Int32) (M_stops : Int32) (M_bad : Int32) (M_badPlace : Int32) (M_faultPlace : Int32) (M_ofVoting : Int32) (M_hour : Int32) (M_oil : Int32) (M_weight : Int32) (M_spider : Int32) (M_treasury : Int32) (M_joy : Int32) (M_passed : Int32) (M_acts : Int32) (M_seen : Int32) (M_never : Int32) (M_said : Int32) (M_hoarse : Int32) (M_fitMany : Int32) (M_seedNow : Int32) (M_hasImage : Int32) (M_actsThen : Int32) (M_seenThen : Int32) (p0 : Int32) {out : Int32 × Int32} (hf : fX9_fail M_code p0 = some out) {H : Heap} {locs : List Loc} (hP : va_P (dC, dI) cLs [(oM, .inr (9, mkX9 aM M_values M_code M_taped M_at M_size M_token M_number M_begins M_stops M_bad M_badPlace M_faultPlace M_ofVoting M_hour M_oil M_weight M_spider M_treasury M_joy M_passed M_acts M_seen M_never M_said M_hoarse M_fitMany M_seedNow M_hasImage M_actsThen M_seenThen))] H) (hD : va_D A [(oM, .inr (9, mkX9 aM M_values M_code M_taped M_at M_size M_token M_number M_begins M_stops M_bad M_badPlace M_faultPlace M_ofVoting M_hour M_oil M_weight M_spider M_treasury M_joy M_passed M_acts M_seen M_never M_said M_hoarse M_fitMany M_seedNow M_hasImage M_actsThen M_seenThen))]) (hS : va_S A s.heap H locs) {ls : Array Slot} (hl : lv_has ls 2 [(0, .ref oM), (1, .int p0)]) : W p l e rmX9_fail s m args below meth c H locs 0 0 (MQ below (QI dC dI cc out.1 [(oM, .inr (9, mkX9 aM M_values out.2 M_taped M_at M_size M_token M_number M_begins M_stops M_bad M_badPlace M_faultPlace M_ofVoting M_hour M_oil M_weight M_spider M_treasury M_joy M_passed M_acts M_seen M_never M_said M_hoarse M_fitMany M_seedNow M_hasImage M_actsThen M_seenThen))] A) args s 0 0 A) (F0 m 0 ls []) := by
  obtain ⟨hx, hb, hml, hr, hlocks, hown, hG, hK, hA⟩ := id C0
  unfold fX9_fail at hf
  refine lv_aload_n hx hb dX9_fail_0 rfl (lv_at hl 0 rfl) ?_
  refine lv_iload_n hx hb dX9_fail_1 rfl (lv_at hl 1 rfl) ?_
  refine va_put (D := (dC, dI)) (ci := 9) (v := .int p0) (ty := .int) (C := RX9) (T := TX9) (N := 63) hx hb hG kinX9 tyX9 tyX9_ok nmX9 hown hK hP hD hS 0 rfl rfl 4 (by decide) (hG _ kfX9_152) (fun _ h9 => h9) rfl (by decide +kernel) rfl rfl (Nat.le_of_ble_eq_true rfl) dX9_fail_2 (fun H locs hP hD hS => ?_)
  have hP : va_P (dC, dI) cLs [(oM, .inr (9, mkX9 aM M_values p0 M_taped M_at M_size M_token M_number M_begins M_stops M_bad M_badPlace M_faultPlace M_ofVoting M_hour M_oil M_weight M_spider M_treasury M_joy M_passed M_acts M_seen M_never M_said M_hoarse M_fitMany M_seedNow M_hasImage M_actsThen M_seenThen))] _ := hP
  have hD : va_D A [(oM, .inr (9, mkX9 aM M_values p0 M_taped M_at M_size M_token M_number M_begins M_stops M_bad M_badPlace M_faultPlace M_ofVoting M_hour M_oil M_weight M_spider M_treasury M_joy M_passed M_acts M_seen M_never M_said M_hoarse M_fitMany M_seedNow M_hasImage M_actsThen M_seenThen))] := hD
  refine lv_iconst (v := 0) hx hb dX9_fail_5 (by decide) ?_
  obtain rfl := Option.some.inj hf
  exact retI C0 hP hD hS rfl dX9_fail_6
theorem mX9_fail (l : Launch) (dC : Nat → ClassId) (dI : Nat → Nat → Nat) (cc : Nat → ClassId) (oM : Nat) (aM : Nat → Nat) (sz : Nat) (M_values : Int32) (M_code : Int32) (M_taped : Int32) (M_at : Int32) (M_size : Int32) (M_token : Int32) (M_number : Int32) (M_begins : Int32) (M_stops : Int32) (M_bad : Int32) (M_badPlace : Int32) (M_faultPlace : Int32) (M_ofVoting : Int32) (M_hour : Int32) (M_oil : Int32) (M_weight : Int32) (M_spider : Int32) (M_treasury : Int32) (M_joy : Int32) (M_passed : Int32) (M_acts : Int32) (M_seen : Int32) (M_never : Int32) (M_said : Int32) (M_hoarse : Int32) (M_fitMany : Int32) (M_seedNow : Int32) (M_hasImage : Int32) (M_actsThen : Int32) (M_seenThen : Int32) (p0 : Int32) {out : Int32 × Int32} (hf : fX9_fail M_code p0 = some out) : Met l yX9_fail (Cond.code yX9_fail cX9_fail 2 (some .int) :: GW) rmX9_fail (PI dC dI cc [.ref oM, .int p0] [(oM, .inr (9, mkX9 aM M_values M_code M_taped M_at M_size M_token M_number M_begins M_stops M_bad M_badPlace M_faultPlace M_ofVoting M_hour M_oil M_weight M_spider M_treasury M_joy M_passed M_acts M_seen M_never M_said M_hoarse M_fitMany M_seedNow M_hasImage M_actsThen M_seenThen))] sz) (QI dC dI cc out.1 [(oM, .inr (9, mkX9 aM M_values out.2 M_taped M_at M_size M_token M_number M_begins M_stops M_bad M_badPlace M_faultPlace M_ofVoting M_hour M_oil M_weight M_spider M_treasury M_joy M_passed M_acts M_seen M_never M_said M_hoarse M_fitMany M_seedNow M_hasImage M_actsThen M_seenThen))] (va_A [(oM, .inr (9, mkX9 aM M_values M_code M_taped M_at M_size M_token M_number M_begins M_stops M_bad M_badPlace M_faultPlace M_ofVoting M_hour M_oil M_weight M_spider M_treasury M_joy M_passed M_acts M_seen M_never M_said M_hoarse M_fitMany M_seedNow M_hasImage M_actsThen M_seenThen))] sz)) 0 0 (va_A [(oM, .inr (9, mkX9 aM M_values M_code M_taped M_at M_size M_token M_number M_begins M_stops M_bad M_badPlace M_faultPlace M_ofVoting M_hour M_oil M_weight M_spider M_treasury M_joy M_passed M_acts M_seen M_never M_said M_hoarse M_fitMany M_seedNow M_hasImage M_actsThen M_seenThen))] sz) :=
  met_of (Q := fun A => QI dC dI cc out.1 [(oM, .inr (9, mkX9 aM M_values out.2 M_taped M_at M_size M_token M_number M_begins M_stops M_bad M_badPlace M_faultPlace M_ofVoting M_hour M_oil M_weight M_spider M_treasury M_joy M_passed M_acts M_seen M_never M_said M_hoarse M_fitMany M_seedNow M_hasImage M_actsThen M_seenThen))] A) (by decide) rfl (Nat.le_of_ble_eq_true rfl) (fun p e s m below meth c A C0 hP hD hS ls hl => bX9_fail C0 oM aM M_values M_code M_taped M_at M_size M_token M_number M_begins M_stops M_bad M_badPlace M_faultPlace M_ofVoting M_hour M_oil M_weight M_spider M_treasury M_joy M_passed M_acts M_seen M_never M_said M_hoarse M_fitMany M_seedNow M_hasImage M_actsThen M_seenThen p0 hf hP hD hS hl)
abbrev rmX9_isIn : Room := { frames := 0, cells := 0, slots := 0, locals := 0 }
def fX9_isIn   (p0 : Int64) (p1 : Int64) (p2 : Int64) : Option (Int32) :=
  if (lg_cmp p0 p1) < 0 then
    some 0
  else
    if 0 < (lg_cmp p0 p2) then
      some 0
    else
      some 1
set_option maxHeartbeats 4000000 in
set_option maxRecDepth 100000 in
theorem bX9_isIn {p : Program} {l : Launch} {e : Env} {s : State} {m : MethodId} {args : Array Value} {below : List Frame} {meth : Method} {c : Code} {A : Nat → Prop} {dC : Nat → ClassId} {dI : Nat → Nat → Nat} {cc : Nat → ClassId} (C0 : CT p s m args meth c A dC dI cc cX9_isIn 6 (some .boolean) RX9)   (p0 : Int64) (p1 : Int64) (p2 : Int64) {out : Int32} (hf : fX9_isIn p0 p1 p2 = some out) {H : Heap} {locs : List Loc} (hP : va_P (dC, dI) cLs [] H) (hD : va_D A []) (hS : va_S A s.heap H locs) {ls : Array Slot} (hl : lv_has ls 6 [(0, .long p0), (2, .long p1), (4, .long p2)]) : W p l e rmX9_isIn s m args below meth c H locs 0 0 (MQ below (QI dC dI cc out [] A) args s 0 0 A) (F0 m 0 ls []) := by
  obtain ⟨hx, hb, hml, hr, hlocks, hown, hG, hK, hA⟩ := id C0
  unfold fX9_isIn at hf
  refine lv_lload_n hx hb dX9_isIn_0 rfl (lv_at hl 0 rfl) ?_
  refine lv_lload_n hx hb dX9_isIn_1 rfl (lv_at hl 1 rfl) ?_
  refine W.lcmp hx hb dX9_isIn_2 ?_
  refine lv_if_lt (tgt := 17) hx hb dX9_isIn_3 (by decide) (fun c1 => ?_) (fun c1 => ?_)
  · have hf := ift c1 hf
    refine lv_iconst (v := 0) hx hb dX9_isIn_17 (by decide) ?_
    obtain rfl := Option.some.inj hf
    exact retZ C0 hP hD hS rfl rfl dX9_isIn_18
  · have hf := iff_ c1 hf
    refine lv_lload_n hx hb dX9_isIn_6 rfl (lv_at hl 0 rfl) ?_
    refine lv_lload hx hb dX9_isIn_7 (lv_at hl 2 rfl) ?_
    refine W.lcmp hx hb dX9_isIn_9 ?_
    refine lv_if_gt (tgt := 17) hx hb dX9_isIn_10 (by decide) (fun c2 => ?_) (fun c2 => ?_)
    · have hf := ift c2 hf
      refine lv_iconst (v := 0) hx hb dX9_isIn_17 (by decide) ?_
      obtain rfl := Option.some.inj hf
      exact retZ C0 hP hD hS rfl rfl dX9_isIn_18
    · have hf := iff_ c2 hf
      refine lv_iconst (v := 1) hx hb dX9_isIn_13 (by decide) ?_
      refine lv_goto (tgt := 18) hx hb dX9_isIn_14 (by decide) ?_
      obtain rfl := Option.some.inj hf
      exact retZ C0 hP hD hS rfl rfl dX9_isIn_18
theorem mX9_isIn (l : Launch) (dC : Nat → ClassId) (dI : Nat → Nat → Nat) (cc : Nat → ClassId)  (sz : Nat)  (p0 : Int64) (p1 : Int64) (p2 : Int64) {out : Int32} (hf : fX9_isIn p0 p1 p2 = some out) : Met l yX9_isIn (Cond.code yX9_isIn cX9_isIn 6 (some .boolean) :: GW) rmX9_isIn (PI dC dI cc [.long p0, .long p1, .long p2] [] sz) (QI dC dI cc out [] (va_A [] sz)) 0 0 (va_A [] sz) :=
  met_of (Q := fun A => QI dC dI cc out [] A) (by decide) rfl (Nat.le_of_ble_eq_true rfl) (fun p e s m below meth c A C0 hP hD hS ls hl => bX9_isIn C0 p0 p1 p2 hf hP hD hS hl)
abbrev rmX9_isOf : Room := { frames := 0, cells := 0, slots := 0, locals := 0 }
def fX9_isOf   (p0 : Int32) (p1 : Int32) : Option (Int32) :=
  if ((p0 >>> (p1 &&& 31)) &&& (1 : Int32)) = 1 then
    some 1
  else
    some 0
set_option maxHeartbeats 4000000 in
set_option maxRecDepth 100000 in
theorem bX9_isOf {p : Program} {l : Launch} {e : Env} {s : State} {m : MethodId} {args : Array Value} {below : List Frame} {meth : Method} {c : Code} {A : Nat → Prop} {dC : Nat → ClassId} {dI : Nat → Nat → Nat} {cc : Nat → ClassId} (C0 : CT p s m args meth c A dC dI cc cX9_isOf 2 (some .boolean) RX9)   (p0 : Int32) (p1 : Int32) {out : Int32} (hf : fX9_isOf p0 p1 = some out) {H : Heap} {locs : List Loc} (hP : va_P (dC, dI) cLs [] H) (hD : va_D A []) (hS : va_S A s.heap H locs) {ls : Array Slot} (hl : lv_has ls 2 [(0, .int p0), (1, .int p1)]) : W p l e rmX9_isOf s m args below meth c H locs 0 0 (MQ below (QI dC dI cc out [] A) args s 0 0 A) (F0 m 0 ls []) := by
  obtain ⟨hx, hb, hml, hr, hlocks, hown, hG, hK, hA⟩ := id C0
  unfold fX9_isOf at hf
  refine lv_iload_n hx hb dX9_isOf_0 rfl (lv_at hl 0 rfl) ?_
  refine lv_iload_n hx hb dX9_isOf_1 rfl (lv_at hl 1 rfl) ?_
  refine lv_ishr hx hb dX9_isOf_2 ?_
  refine lv_iconst (v := 1) hx hb dX9_isOf_3 (by decide) ?_
  refine lv_iand hx hb dX9_isOf_4 ?_
  refine lv_iconst (v := 1) hx hb dX9_isOf_5 (by decide) ?_
  refine lv_icmp_ne (tgt := 13) hx hb dX9_isOf_6 (by decide) (fun c1 => ?_) (fun c1 => ?_)
  · have hf := iff_ c1 hf
    refine lv_iconst (v := 0) hx hb dX9_isOf_13 (by decide) ?_
    obtain rfl := Option.some.inj hf
    exact retZ C0 hP hD hS rfl rfl dX9_isOf_14
  · have hf := ift c1 hf
    refine lv_iconst (v := 1) hx hb dX9_isOf_9 (by decide) ?_
    refine lv_goto (tgt := 14) hx hb dX9_isOf_10 (by decide) ?_
    obtain rfl := Option.some.inj hf
    exact retZ C0 hP hD hS rfl rfl dX9_isOf_14
theorem mX9_isOf (l : Launch) (dC : Nat → ClassId) (dI : Nat → Nat → Nat) (cc : Nat → ClassId)  (sz : Nat)  (p0 : Int32) (p1 : Int32) {out : Int32} (hf : fX9_isOf p0 p1 = some out) : Met l yX9_isOf (Cond.code yX9_isOf cX9_isOf 2 (some .boolean) :: GW) rmX9_isOf (PI dC dI cc [.int p0, .int p1] [] sz) (QI dC dI cc out [] (va_A [] sz)) 0 0 (va_A [] sz) :=
  met_of (Q := fun A => QI dC dI cc out [] A) (by decide) rfl (Nat.le_of_ble_eq_true rfl) (fun p e s m below meth c A C0 hP hD hS ls hl => bX9_isOf C0 p0 p1 hf hP hD hS hl)
abbrev rmX9_bitsOf : Room := { frames := 0, cells := 0, slots := 0, locals := 0 }
def lX9_bitsOf_4 (ke4_20 : Int32 → Option (Int32))   : Nat → Int32 → Int32 → Option (Int32)
  | 0, _, _ => none
  | n+1, x1, x2 =>
    if x2 = 0 then
      ke4_20 x1
    else
      lX9_bitsOf_4 ke4_20  n (x1 + 1) (x2 &&& (x2 - (1 : Int32)))
set_option maxHeartbeats 4000000 in
set_option maxRecDepth 100000 in
theorem wlX9_bitsOf_4 {p : Program} {l : Launch} {e : Env} {s : State} {m : MethodId} {args : Array Value} {below : List Frame} {meth : Method} {c : Code} {A : Nat → Prop} {dC : Nat → ClassId} {dI : Nat → Nat → Nat} {cc : Nat → ClassId} (C0 : CT p s m args meth c A dC dI cc cX9_bitsOf 3 (some .int) RX9)    {out : Int32} (ke4_20 : Int32 → Option (Int32)) (hke4_20 : ∀ (x1' : Int32), ke4_20 x1' = some out → ∀ (H : Heap) (locs : List Loc), va_P (dC, dI) cLs [] H → va_D A [] → va_S A s.heap H locs → ∀ ls : Array Slot, lv_has ls 3 [(1, .int x1')] → W p l e rmX9_bitsOf s m args below meth c H locs 0 0 (MQ below (QI dC dI cc out [] A) args s 0 0 A) (F0 m 20 ls [])) : ∀ (n : Nat) (x1 : Int32) (x2 : Int32) (hf : lX9_bitsOf_4 ke4_20  n x1 x2 = some out) (H : Heap) (locs : List Loc) (hP : va_P (dC, dI) cLs [] H) (hD : va_D A []) (hS : va_S A s.heap H locs) (ls : Array Slot) (hl : lv_has ls 3 [(1, .int x1), (2, .int x2)]), W p l e rmX9_bitsOf s m args below meth c H locs 0 0 (MQ below (QI dC dI cc out [] A) args s 0 0 A) (F0 m 4 ls []) := by
  obtain ⟨hx, hb, hml, hr, hlocks, hown, hG, hK, hA⟩ := id C0
  intro n
  induction n with
  | zero => intro x1 x2 hf; cases hf
  | succ n ih =>
    intro x1 x2 hf H locs hP hD hS ls hl
    unfold lX9_bitsOf_4 at hf
    refine lv_iload_n hx hb dX9_bitsOf_4 rfl (lv_at hl 1 rfl) ?_
    refine lv_if_eq (tgt := 20) hx hb dX9_bitsOf_5 (by decide) (fun c1 => ?_) (fun c1 => ?_)
    · have hf := ift c1 hf
      exact hke4_20 x1 hf _ _ hP hD hS _ (lv_sub hl [0] rfl)
    · have hf := iff_ c1 hf
      refine lv_iinc (v := (x1 + 1)) (lv' := [(1, .int (x1 + 1)), (2, .int x2)]) hx hb dX9_bitsOf_8 hl (k := 0) rfl rfl (by decide) rfl (fun ls hl => ?_)
      refine lv_iload_n hx hb dX9_bitsOf_11 rfl (lv_at hl 1 rfl) ?_
      refine lv_iload_n hx hb dX9_bitsOf_12 rfl (lv_at hl 1 rfl) ?_
      refine lv_iconst (v := 1) hx hb dX9_bitsOf_13 (by decide) ?_
      refine lv_isub hx hb dX9_bitsOf_14 ?_
      refine lv_iand hx hb dX9_bitsOf_15 ?_
      refine lv_istore_n (lv' := [(2, .int (x2 &&& (x2 - (1 : Int32)))), (1, .int (x1 + 1))]) hx hb dX9_bitsOf_16 rfl hl (by decide) rfl (fun ls hl => ?_)
      refine lv_goto (tgt := 4) hx hb dX9_bitsOf_17 (by decide) ?_
      exact ih (x1 + 1) (x2 &&& (x2 - (1 : Int32))) hf _ _ hP hD hS _ (lv_sub hl [1, 0] rfl)
def fX9_bitsOf   (p0 : Int32) : Option (Int32) :=
  lX9_bitsOf_4 (fun (x1_2 : Int32) =>
    some x1_2) FU 0 p0
set_option maxHeartbeats 4000000 in
set_option maxRecDepth 100000 in
theorem bX9_bitsOf {p : Program} {l : Launch} {e : Env} {s : State} {m : MethodId} {args : Array Value} {below : List Frame} {meth : Method} {c : Code} {A : Nat → Prop} {dC : Nat → ClassId} {dI : Nat → Nat → Nat} {cc : Nat → ClassId} (C0 : CT p s m args meth c A dC dI cc cX9_bitsOf 3 (some .int) RX9)   (p0 : Int32) {out : Int32} (hf : fX9_bitsOf p0 = some out) {H : Heap} {locs : List Loc} (hP : va_P (dC, dI) cLs [] H) (hD : va_D A []) (hS : va_S A s.heap H locs) {ls : Array Slot} (hl : lv_has ls 3 [(0, .int p0)]) : W p l e rmX9_bitsOf s m args below meth c H locs 0 0 (MQ below (QI dC dI cc out [] A) args s 0 0 A) (F0 m 0 ls []) := by
  obtain ⟨hx, hb, hml, hr, hlocks, hown, hG, hK, hA⟩ := id C0
  unfold fX9_bitsOf at hf
  refine lv_iconst (v := 0) hx hb dX9_bitsOf_0 (by decide) ?_
  refine lv_istore_n (lv' := [(1, .int 0), (0, .int p0)]) hx hb dX9_bitsOf_1 rfl hl (by decide) rfl (fun ls hl => ?_)
  refine lv_iload_n hx hb dX9_bitsOf_2 rfl (lv_at hl 1 rfl) ?_
  refine lv_istore_n (lv' := [(2, .int p0), (1, .int 0), (0, .int p0)]) hx hb dX9_bitsOf_3 rfl hl (by decide) rfl (fun ls hl => ?_)
  refine wlX9_bitsOf_4 C0  _ ?_ FU 0 p0 hf _ _ hP hD hS _ (lv_sub hl [1, 0] rfl)
  · intro x1_2 hf H locs hP hD hS ls hl
    refine lv_iload_n hx hb dX9_bitsOf_20 rfl (lv_at hl 0 rfl) ?_
    obtain rfl := Option.some.inj hf
    exact retI C0 hP hD hS rfl dX9_bitsOf_21
theorem mX9_bitsOf (l : Launch) (dC : Nat → ClassId) (dI : Nat → Nat → Nat) (cc : Nat → ClassId)  (sz : Nat)  (p0 : Int32) {out : Int32} (hf : fX9_bitsOf p0 = some out) : Met l yX9_bitsOf (Cond.code yX9_bitsOf cX9_bitsOf 3 (some .int) :: GW) rmX9_bitsOf (PI dC dI cc [.int p0] [] sz) (QI dC dI cc out [] (va_A [] sz)) 0 0 (va_A [] sz) :=
  met_of (Q := fun A => QI dC dI cc out [] A) (by decide) rfl (Nat.le_of_ble_eq_true rfl) (fun p e s m below meth c A C0 hP hD hS ls hl => bX9_bitsOf C0 p0 hf hP hD hS hl)
abbrev rmX9_isAlderman : Room := { frames := 1, cells := 0, slots := 0, locals := 25 }
def fX9_isAlderman  (M_told : Nat → Int32) (p0 : Int32) : Option (Int32) :=
  ck (inb 3 14) <|
  (fX9_isIn ((p0 : Int32).toInt64) 0 ((((M_told (3 : Int32).toNatClampNeg) - (1 : Int32)) : Int32).toInt64)).bind fun v3 =>
  ck (isb v3) <|
  some v3
set_option maxHeartbeats 4000000 in
set_option maxRecDepth 100000 in
theorem bX9_isAlderman {p : Program} {l : Launch} {e : Env} {s : State} {m : MethodId} {args : Array Value} {below : List Frame} {meth : Method} {c : Code} {A : Nat → Prop} {dC : Nat → ClassId} {dI : Nat → Nat → Nat} {cc : Nat → ClassId} (C0 : CT p s m args meth c A dC dI cc cX9_isAlderman 2 (some .boolean) RX9) (oM : Nat) (aM : Nat → Nat) (M_values : Int32) (M_code : Int32) (M_taped : Int32) (M_at : Int32) (M_size : Int32) (M_token : Int32) (M_number : Int32) (M_begins : Int32) (M_stops : Int32) (M_bad : Int32) (M_badPlace : Int32) (M_faultPlace : Int32) (M_ofVoting : Int32) (M_hour : Int32) (M_oil : Int32) (M_weight : Int32) (M_spider : Int32) (M_treasury : Int32) (M_joy : Int32) (M_passed : Int32) (M_acts : Int32) (M_seen : Int32) (M_never : Int32) (M_said : Int32) (M_hoarse : Int32) (M_fitMany : Int32) (M_seedNow : Int32) (M_hasImage : Int32) (M_actsThen : Int32) (M_seenThen : Int32) (M_told : Nat → Int32) (p0 : Int32) {out : Int32} (hf : fX9_isAlderman M_told p0 = some out) {H : Heap} {locs : List Loc} (hP : va_P (dC, dI) cLs [(oM, .inr (9, mkX9 aM M_values M_code M_taped M_at M_size M_token M_number M_begins M_stops M_bad M_badPlace M_faultPlace M_ofVoting M_hour M_oil M_weight M_spider M_treasury M_joy M_passed M_acts M_seen M_never M_said M_hoarse M_fitMany M_seedNow M_hasImage M_actsThen M_seenThen)), ((aM 5), .inl (cc 0, 14, .inl M_told))] H) (hD : va_D A [(oM, .inr (9, mkX9 aM M_values M_code M_taped M_at M_size M_token M_number M_begins M_stops M_bad M_badPlace M_faultPlace M_ofVoting M_hour M_oil M_weight M_spider M_treasury M_joy M_passed M_acts M_seen M_never M_said M_hoarse M_fitMany M_seedNow M_hasImage M_actsThen M_seenThen)), ((aM 5), .inl (cc 0, 14, .inl M_told))]) (hS : va_S A s.heap H locs) {ls : Array Slot} (hl : lv_has ls 2 [(0, .ref oM), (1, .int p0)]) : W p l e rmX9_isAlderman s m args below meth c H locs 0 0 (MQ below (QI dC dI cc out [(oM, .inr (9, mkX9 aM M_values M_code M_taped M_at M_size M_token M_number M_begins M_stops M_bad M_badPlace M_faultPlace M_ofVoting M_hour M_oil M_weight M_spider M_treasury M_joy M_passed M_acts M_seen M_never M_said M_hoarse M_fitMany M_seedNow M_hasImage M_actsThen M_seenThen)), ((aM 5), .inl (cc 0, 14, .inl M_told))] A) args s 0 0 A) (F0 m 0 ls []) := by
  obtain ⟨hx, hb, hml, hr, hlocks, hown, hG, hK, hA⟩ := id C0
  unfold fX9_isAlderman at hf
  refine lv_iload_n hx hb dX9_isAlderman_0 rfl (lv_at hl 1 rfl) ?_
  refine lv_i2l (v := (p0 : Int32).toInt64) hx hb dX9_isAlderman_1 rfl ?_
  refine lv_lconst (v := 0) hx hb dX9_isAlderman_2 (by decide) ?_
  refine lv_aload_n hx hb dX9_isAlderman_3 rfl (lv_at hl 0 rfl) ?_
  refine va_get (D := (dC, dI)) (ci := 9) (v := .ref (aM 5)) (C := RX9) (T := TX9) (N := 63) hx hb hG kinX9 hown hK hP 0 rfl rfl 5 (by decide) (hG _ kfX9_50) (fun _ h9 => h9) rfl dX9_isAlderman_4 ?_
  refine lv_iconst (v := 3) hx hb dX9_isAlderman_7 (by decide) ?_
  refine ck_el hf (fun g1 hf => ?_)
  refine va_iald hx hb hK hP 1 0 rfl rfl (inb_in g1) dX9_isAlderman_8 ?_
  refine lv_iconst (v := 1) hx hb dX9_isAlderman_9 (by decide) ?_
  refine lv_isub hx hb dX9_isAlderman_10 ?_
  refine lv_i2l (v := (((M_told (3 : Int32).toNatClampNeg) - (1 : Int32)) : Int32).toInt64) hx hb dX9_isAlderman_11 rfl ?_
  refine bd_el hf (fun v3 hv3 hf => ?_)
  refine callSi (As := [.long ((p0 : Int32).toInt64), .long 0, .long ((((M_told (3 : Int32).toNatClampNeg) - (1 : Int32)) : Int32).toInt64)]) (rest := []) (wr := [(oM, .inr (9, mkX9 aM M_values M_code M_taped M_at M_size M_token M_number M_begins M_stops M_bad M_badPlace M_faultPlace M_ofVoting M_hour M_oil M_weight M_spider M_treasury M_joy M_passed M_acts M_seen M_never M_said M_hoarse M_fitMany M_seedNow M_hasImage M_actsThen M_seenThen)), ((aM 5), .inl (cc 0, 14, .inl M_told))]) (wn := [(oM, .inr (9, mkX9 aM M_values M_code M_taped M_at M_size M_token M_number M_begins M_stops M_bad M_badPlace M_faultPlace M_ofVoting M_hour M_oil M_weight M_spider M_treasury M_joy M_passed M_acts M_seen M_never M_said M_hoarse M_fitMany M_seedNow M_hasImage M_actsThen M_seenThen)), ((aM 5), .inl (cc 0, 14, .inl M_told))]) C0 ksX9_isIn kmX9_155 hP hD hS (mX9_isIn l dC dI cc  _ ((p0 : Int32).toInt64) 0 ((((M_told (3 : Int32).toNatClampNeg) - (1 : Int32)) : Int32).toInt64) hv3) ⟨rfl, rfl⟩ ⟨Nat.le_of_ble_eq_true rfl, Nat.le_of_ble_eq_true rfl⟩ [] [0, 1] [0, 1] rfl rfl rfl rfl rfl hl.1 rfl (Nat.le_of_ble_eq_true rfl) ⟨Nat.zero_le _, Nat.zero_le _⟩ dX9_isAlderman_12 (fun H locs hP hD hS => ?_)
  refine ck_el hf (fun g4 hf => ?_)
  obtain rfl := Option.some.inj hf
  exact retZ C0 hP hD hS (isb_n g4) rfl dX9_isAlderman_15
theorem mX9_isAlderman (l : Launch) (dC : Nat → ClassId) (dI : Nat → Nat → Nat) (cc : Nat → ClassId) (oM : Nat) (aM : Nat → Nat) (sz : Nat) (M_values : Int32) (M_code : Int32) (M_taped : Int32) (M_at : Int32) (M_size : Int32) (M_token : Int32) (M_number : Int32) (M_begins : Int32) (M_stops : Int32) (M_bad : Int32) (M_badPlace : Int32) (M_faultPlace : Int32) (M_ofVoting : Int32) (M_hour : Int32) (M_oil : Int32) (M_weight : Int32) (M_spider : Int32) (M_treasury : Int32) (M_joy : Int32) (M_passed : Int32) (M_acts : Int32) (M_seen : Int32) (M_never : Int32) (M_said : Int32) (M_hoarse : Int32) (M_fitMany : Int32) (M_seedNow : Int32) (M_hasImage : Int32) (M_actsThen : Int32) (M_seenThen : Int32) (M_told : Nat → Int32) (p0 : Int32) {out : Int32} (hf : fX9_isAlderman M_told p0 = some out) : Met l yX9_isAlderman (Cond.code yX9_isAlderman cX9_isAlderman 2 (some .boolean) :: GW) rmX9_isAlderman (PI dC dI cc [.ref oM, .int p0] [(oM, .inr (9, mkX9 aM M_values M_code M_taped M_at M_size M_token M_number M_begins M_stops M_bad M_badPlace M_faultPlace M_ofVoting M_hour M_oil M_weight M_spider M_treasury M_joy M_passed M_acts M_seen M_never M_said M_hoarse M_fitMany M_seedNow M_hasImage M_actsThen M_seenThen)), ((aM 5), .inl (cc 0, 14, .inl M_told))] sz) (QI dC dI cc out [(oM, .inr (9, mkX9 aM M_values M_code M_taped M_at M_size M_token M_number M_begins M_stops M_bad M_badPlace M_faultPlace M_ofVoting M_hour M_oil M_weight M_spider M_treasury M_joy M_passed M_acts M_seen M_never M_said M_hoarse M_fitMany M_seedNow M_hasImage M_actsThen M_seenThen)), ((aM 5), .inl (cc 0, 14, .inl M_told))] (va_A [(oM, .inr (9, mkX9 aM M_values M_code M_taped M_at M_size M_token M_number M_begins M_stops M_bad M_badPlace M_faultPlace M_ofVoting M_hour M_oil M_weight M_spider M_treasury M_joy M_passed M_acts M_seen M_never M_said M_hoarse M_fitMany M_seedNow M_hasImage M_actsThen M_seenThen)), ((aM 5), .inl (cc 0, 14, .inl M_told))] sz)) 0 0 (va_A [(oM, .inr (9, mkX9 aM M_values M_code M_taped M_at M_size M_token M_number M_begins M_stops M_bad M_badPlace M_faultPlace M_ofVoting M_hour M_oil M_weight M_spider M_treasury M_joy M_passed M_acts M_seen M_never M_said M_hoarse M_fitMany M_seedNow M_hasImage M_actsThen M_seenThen)), ((aM 5), .inl (cc 0, 14, .inl M_told))] sz) :=
  met_of (Q := fun A => QI dC dI cc out [(oM, .inr (9, mkX9 aM M_values M_code M_taped M_at M_size M_token M_number M_begins M_stops M_bad M_badPlace M_faultPlace M_ofVoting M_hour M_oil M_weight M_spider M_treasury M_joy M_passed M_acts M_seen M_never M_said M_hoarse M_fitMany M_seedNow M_hasImage M_actsThen M_seenThen)), ((aM 5), .inl (cc 0, 14, .inl M_told))] A) (by decide) rfl (Nat.le_of_ble_eq_true rfl) (fun p e s m below meth c A C0 hP hD hS ls hl => bX9_isAlderman C0 oM aM M_values M_code M_taped M_at M_size M_token M_number M_begins M_stops M_bad M_badPlace M_faultPlace M_ofVoting M_hour M_oil M_weight M_spider M_treasury M_joy M_passed M_acts M_seen M_never M_said M_hoarse M_fitMany M_seedNow M_hasImage M_actsThen M_seenThen M_told p0 hf hP hD hS hl)
abbrev rmX9_isMotion : Room := { frames := 1, cells := 0, slots := 0, locals := 25 }
def fX9_isMotion  (M_told : Nat → Int32) (p0 : Int32) : Option (Int32) :=
  ck (inb 4 14) <|
  (fX9_isIn ((p0 : Int32).toInt64) 0 ((((M_told (4 : Int32).toNatClampNeg) - (1 : Int32)) : Int32).toInt64)).bind fun v3 =>
  ck (isb v3) <|
  some v3
set_option maxHeartbeats 4000000 in
set_option maxRecDepth 100000 in
theorem bX9_isMotion {p : Program} {l : Launch} {e : Env} {s : State} {m : MethodId} {args : Array Value} {below : List Frame} {meth : Method} {c : Code} {A : Nat → Prop} {dC : Nat → ClassId} {dI : Nat → Nat → Nat} {cc : Nat → ClassId} (C0 : CT p s m args meth c A dC dI cc cX9_isMotion 2 (some .boolean) RX9) (oM : Nat) (aM : Nat → Nat) (M_values : Int32) (M_code : Int32) (M_taped : Int32) (M_at : Int32) (M_size : Int32) (M_token : Int32) (M_number : Int32) (M_begins : Int32) (M_stops : Int32) (M_bad : Int32) (M_badPlace : Int32) (M_faultPlace : Int32) (M_ofVoting : Int32) (M_hour : Int32) (M_oil : Int32) (M_weight : Int32) (M_spider : Int32) (M_treasury : Int32) (M_joy : Int32) (M_passed : Int32) (M_acts : Int32) (M_seen : Int32) (M_never : Int32) (M_said : Int32) (M_hoarse : Int32) (M_fitMany : Int32) (M_seedNow : Int32) (M_hasImage : Int32) (M_actsThen : Int32) (M_seenThen : Int32) (M_told : Nat → Int32) (p0 : Int32) {out : Int32} (hf : fX9_isMotion M_told p0 = some out) {H : Heap} {locs : List Loc} (hP : va_P (dC, dI) cLs [(oM, .inr (9, mkX9 aM M_values M_code M_taped M_at M_size M_token M_number M_begins M_stops M_bad M_badPlace M_faultPlace M_ofVoting M_hour M_oil M_weight M_spider M_treasury M_joy M_passed M_acts M_seen M_never M_said M_hoarse M_fitMany M_seedNow M_hasImage M_actsThen M_seenThen)), ((aM 5), .inl (cc 0, 14, .inl M_told))] H) (hD : va_D A [(oM, .inr (9, mkX9 aM M_values M_code M_taped M_at M_size M_token M_number M_begins M_stops M_bad M_badPlace M_faultPlace M_ofVoting M_hour M_oil M_weight M_spider M_treasury M_joy M_passed M_acts M_seen M_never M_said M_hoarse M_fitMany M_seedNow M_hasImage M_actsThen M_seenThen)), ((aM 5), .inl (cc 0, 14, .inl M_told))]) (hS : va_S A s.heap H locs) {ls : Array Slot} (hl : lv_has ls 2 [(0, .ref oM), (1, .int p0)]) : W p l e rmX9_isMotion s m args below meth c H locs 0 0 (MQ below (QI dC dI cc out [(oM, .inr (9, mkX9 aM M_values M_code M_taped M_at M_size M_token M_number M_begins M_stops M_bad M_badPlace M_faultPlace M_ofVoting M_hour M_oil M_weight M_spider M_treasury M_joy M_passed M_acts M_seen M_never M_said M_hoarse M_fitMany M_seedNow M_hasImage M_actsThen M_seenThen)), ((aM 5), .inl (cc 0, 14, .inl M_told))] A) args s 0 0 A) (F0 m 0 ls []) := by
  obtain ⟨hx, hb, hml, hr, hlocks, hown, hG, hK, hA⟩ := id C0
  unfold fX9_isMotion at hf
  refine lv_iload_n hx hb dX9_isMotion_0 rfl (lv_at hl 1 rfl) ?_
  refine lv_i2l (v := (p0 : Int32).toInt64) hx hb dX9_isMotion_1 rfl ?_
  refine lv_lconst (v := 0) hx hb dX9_isMotion_2 (by decide) ?_
  refine lv_aload_n hx hb dX9_isMotion_3 rfl (lv_at hl 0 rfl) ?_
  refine va_get (D := (dC, dI)) (ci := 9) (v := .ref (aM 5)) (C := RX9) (T := TX9) (N := 63) hx hb hG kinX9 hown hK hP 0 rfl rfl 5 (by decide) (hG _ kfX9_50) (fun _ h9 => h9) rfl dX9_isMotion_4 ?_
  refine lv_iconst (v := 4) hx hb dX9_isMotion_7 (by decide) ?_
  refine ck_el hf (fun g1 hf => ?_)
  refine va_iald hx hb hK hP 1 0 rfl rfl (inb_in g1) dX9_isMotion_8 ?_
  refine lv_iconst (v := 1) hx hb dX9_isMotion_9 (by decide) ?_
  refine lv_isub hx hb dX9_isMotion_10 ?_
  refine lv_i2l (v := (((M_told (4 : Int32).toNatClampNeg) - (1 : Int32)) : Int32).toInt64) hx hb dX9_isMotion_11 rfl ?_
  refine bd_el hf (fun v3 hv3 hf => ?_)
  refine callSi (As := [.long ((p0 : Int32).toInt64), .long 0, .long ((((M_told (4 : Int32).toNatClampNeg) - (1 : Int32)) : Int32).toInt64)]) (rest := []) (wr := [(oM, .inr (9, mkX9 aM M_values M_code M_taped M_at M_size M_token M_number M_begins M_stops M_bad M_badPlace M_faultPlace M_ofVoting M_hour M_oil M_weight M_spider M_treasury M_joy M_passed M_acts M_seen M_never M_said M_hoarse M_fitMany M_seedNow M_hasImage M_actsThen M_seenThen)), ((aM 5), .inl (cc 0, 14, .inl M_told))]) (wn := [(oM, .inr (9, mkX9 aM M_values M_code M_taped M_at M_size M_token M_number M_begins M_stops M_bad M_badPlace M_faultPlace M_ofVoting M_hour M_oil M_weight M_spider M_treasury M_joy M_passed M_acts M_seen M_never M_said M_hoarse M_fitMany M_seedNow M_hasImage M_actsThen M_seenThen)), ((aM 5), .inl (cc 0, 14, .inl M_told))]) C0 ksX9_isIn kmX9_155 hP hD hS (mX9_isIn l dC dI cc  _ ((p0 : Int32).toInt64) 0 ((((M_told (4 : Int32).toNatClampNeg) - (1 : Int32)) : Int32).toInt64) hv3) ⟨rfl, rfl⟩ ⟨Nat.le_of_ble_eq_true rfl, Nat.le_of_ble_eq_true rfl⟩ [] [0, 1] [0, 1] rfl rfl rfl rfl rfl hl.1 rfl (Nat.le_of_ble_eq_true rfl) ⟨Nat.zero_le _, Nat.zero_le _⟩ dX9_isMotion_12 (fun H locs hP hD hS => ?_)
  refine ck_el hf (fun g4 hf => ?_)
  obtain rfl := Option.some.inj hf
  exact retZ C0 hP hD hS (isb_n g4) rfl dX9_isMotion_15
theorem mX9_isMotion (l : Launch) (dC : Nat → ClassId) (dI : Nat → Nat → Nat) (cc : Nat → ClassId) (oM : Nat) (aM : Nat → Nat) (sz : Nat) (M_values : Int32) (M_code : Int32) (M_taped : Int32) (M_at : Int32) (M_size : Int32) (M_token : Int32) (M_number : Int32) (M_begins : Int32) (M_stops : Int32) (M_bad : Int32) (M_badPlace : Int32) (M_faultPlace : Int32) (M_ofVoting : Int32) (M_hour : Int32) (M_oil : Int32) (M_weight : Int32) (M_spider : Int32) (M_treasury : Int32) (M_joy : Int32) (M_passed : Int32) (M_acts : Int32) (M_seen : Int32) (M_never : Int32) (M_said : Int32) (M_hoarse : Int32) (M_fitMany : Int32) (M_seedNow : Int32) (M_hasImage : Int32) (M_actsThen : Int32) (M_seenThen : Int32) (M_told : Nat → Int32) (p0 : Int32) {out : Int32} (hf : fX9_isMotion M_told p0 = some out) : Met l yX9_isMotion (Cond.code yX9_isMotion cX9_isMotion 2 (some .boolean) :: GW) rmX9_isMotion (PI dC dI cc [.ref oM, .int p0] [(oM, .inr (9, mkX9 aM M_values M_code M_taped M_at M_size M_token M_number M_begins M_stops M_bad M_badPlace M_faultPlace M_ofVoting M_hour M_oil M_weight M_spider M_treasury M_joy M_passed M_acts M_seen M_never M_said M_hoarse M_fitMany M_seedNow M_hasImage M_actsThen M_seenThen)), ((aM 5), .inl (cc 0, 14, .inl M_told))] sz) (QI dC dI cc out [(oM, .inr (9, mkX9 aM M_values M_code M_taped M_at M_size M_token M_number M_begins M_stops M_bad M_badPlace M_faultPlace M_ofVoting M_hour M_oil M_weight M_spider M_treasury M_joy M_passed M_acts M_seen M_never M_said M_hoarse M_fitMany M_seedNow M_hasImage M_actsThen M_seenThen)), ((aM 5), .inl (cc 0, 14, .inl M_told))] (va_A [(oM, .inr (9, mkX9 aM M_values M_code M_taped M_at M_size M_token M_number M_begins M_stops M_bad M_badPlace M_faultPlace M_ofVoting M_hour M_oil M_weight M_spider M_treasury M_joy M_passed M_acts M_seen M_never M_said M_hoarse M_fitMany M_seedNow M_hasImage M_actsThen M_seenThen)), ((aM 5), .inl (cc 0, 14, .inl M_told))] sz)) 0 0 (va_A [(oM, .inr (9, mkX9 aM M_values M_code M_taped M_at M_size M_token M_number M_begins M_stops M_bad M_badPlace M_faultPlace M_ofVoting M_hour M_oil M_weight M_spider M_treasury M_joy M_passed M_acts M_seen M_never M_said M_hoarse M_fitMany M_seedNow M_hasImage M_actsThen M_seenThen)), ((aM 5), .inl (cc 0, 14, .inl M_told))] sz) :=
  met_of (Q := fun A => QI dC dI cc out [(oM, .inr (9, mkX9 aM M_values M_code M_taped M_at M_size M_token M_number M_begins M_stops M_bad M_badPlace M_faultPlace M_ofVoting M_hour M_oil M_weight M_spider M_treasury M_joy M_passed M_acts M_seen M_never M_said M_hoarse M_fitMany M_seedNow M_hasImage M_actsThen M_seenThen)), ((aM 5), .inl (cc 0, 14, .inl M_told))] A) (by decide) rfl (Nat.le_of_ble_eq_true rfl) (fun p e s m below meth c A C0 hP hD hS ls hl => bX9_isMotion C0 oM aM M_values M_code M_taped M_at M_size M_token M_number M_begins M_stops M_bad M_badPlace M_faultPlace M_ofVoting M_hour M_oil M_weight M_spider M_treasury M_joy M_passed M_acts M_seen M_never M_said M_hoarse M_fitMany M_seedNow M_hasImage M_actsThen M_seenThen M_told p0 hf hP hD hS hl)
abbrev rmX9_feed : Room := { frames := 0, cells := 0, slots := 0, locals := 0 }
def jX9_feed_76 (kb23 : Int32 → (Nat → Int32) → Int32 → Option (Int32 × Int32 × Int32 × (Nat → Int32)))  (M_taped : Int32) (M_tape : Nat → Int32) (x6 : Int32) (s0 : Int32) : Option (Int32 × Int32 × Int32 × (Nat → Int32)) :=
  ck (inb M_taped 700) <|
  kb23 (M_taped + (1 : Int32)) (upd M_tape (M_taped : Int32).toNatClampNeg ((s0 >>> (((24 : Int32) - ((8 : Int32) * (x6 - x6 / 4 * 4))) &&& 31)) &&& (255 : Int32))) (x6 + 1)
set_option maxHeartbeats 4000000 in
set_option maxRecDepth 100000 in
theorem wjX9_feed_76 {p : Program} {l : Launch} {e : Env} {s : State} {m : MethodId} {args : Array Value} {below : List Frame} {meth : Method} {c : Code} {A : Nat → Prop} {dC : Nat → ClassId} {dI : Nat → Nat → Nat} {cc : Nat → ClassId} (C0 : CT p s m args meth c A dC dI cc cX9_feed 8 (some .int) RX9) (oM : Nat) (aM : Nat → Nat) (M_values : Int32) (M_code : Int32) (M_taped : Int32) (M_at : Int32) (M_size : Int32) (M_token : Int32) (M_number : Int32) (M_begins : Int32) (M_stops : Int32) (M_bad : Int32) (M_badPlace : Int32) (M_faultPlace : Int32) (M_ofVoting : Int32) (M_hour : Int32) (M_oil : Int32) (M_weight : Int32) (M_spider : Int32) (M_treasury : Int32) (M_joy : Int32) (M_passed : Int32) (M_acts : Int32) (M_seen : Int32) (M_never : Int32) (M_said : Int32) (M_hoarse : Int32) (M_fitMany : Int32) (M_seedNow : Int32) (M_hasImage : Int32) (M_actsThen : Int32) (M_seenThen : Int32) (M_tape : Nat → Int32) (x1 : Int32) (x2 : Int32) (x3 : Int32) (x4 : Int32) (x5 : Int32) (x6 : Int32) {out : Int32 × Int32 × Int32 × (Nat → Int32)} (kb23 : Int32 → (Nat → Int32) → Int32 → Option (Int32 × Int32 × Int32 × (Nat → Int32))) (hkb23 : ∀ (M_taped' : Int32) (M_tape' : Nat → Int32) (x6' : Int32), kb23 M_taped' M_tape' x6' = some out → ∀ (H : Heap) (locs : List Loc), va_P (dC, dI) cLs [(oM, .inr (9, mkX9 aM M_values M_code M_taped' M_at M_size M_token M_number M_begins M_stops M_bad M_badPlace M_faultPlace M_ofVoting M_hour M_oil M_weight M_spider M_treasury M_joy M_passed M_acts M_seen M_never M_said M_hoarse M_fitMany M_seedNow M_hasImage M_actsThen M_seenThen)), ((aM 16), .inl (cc 0, 700, .inl M_tape'))] H → va_D A [(oM, .inr (9, mkX9 aM M_values M_code M_taped' M_at M_size M_token M_number M_begins M_stops M_bad M_badPlace M_faultPlace M_ofVoting M_hour M_oil M_weight M_spider M_treasury M_joy M_passed M_acts M_seen M_never M_said M_hoarse M_fitMany M_seedNow M_hasImage M_actsThen M_seenThen)), ((aM 16), .inl (cc 0, 700, .inl M_tape'))] → va_S A s.heap H locs → ∀ ls : Array Slot, lv_has ls 8 [(0, .ref oM), (1, .int x1), (2, .int x2), (3, .int x3), (4, .int x4), (5, .int x5), (6, .int x6')] → W p l e rmX9_feed s m args below meth c H locs 0 0 (MQ below (QI dC dI cc out.1 [(oM, .inr (9, mkX9 aM M_values out.2.1 out.2.2.1 M_at M_size M_token M_number M_begins M_stops M_bad M_badPlace M_faultPlace M_ofVoting M_hour M_oil M_weight M_spider M_treasury M_joy M_passed M_acts M_seen M_never M_said M_hoarse M_fitMany M_seedNow M_hasImage M_actsThen M_seenThen)), ((aM 16), .inl (cc 0, 700, .inl out.2.2.2))] A) args s 0 0 A) (F0 m 23 ls [])) (s0 : Int32) (hf : jX9_feed_76 kb23 M_taped M_tape x6 s0 = some out) (H : Heap) (locs : List Loc) (hP : va_P (dC, dI) cLs [(oM, .inr (9, mkX9 aM M_values M_code M_taped M_at M_size M_token M_number M_begins M_stops M_bad M_badPlace M_faultPlace M_ofVoting M_hour M_oil M_weight M_spider M_treasury M_joy M_passed M_acts M_seen M_never M_said M_hoarse M_fitMany M_seedNow M_hasImage M_actsThen M_seenThen)), ((aM 16), .inl (cc 0, 700, .inl M_tape))] H) (hD : va_D A [(oM, .inr (9, mkX9 aM M_values M_code M_taped M_at M_size M_token M_number M_begins M_stops M_bad M_badPlace M_faultPlace M_ofVoting M_hour M_oil M_weight M_spider M_treasury M_joy M_passed M_acts M_seen M_never M_said M_hoarse M_fitMany M_seedNow M_hasImage M_actsThen M_seenThen)), ((aM 16), .inl (cc 0, 700, .inl M_tape))]) (hS : va_S A s.heap H locs) (ls : Array Slot) (hl : lv_has ls 8 [(0, .ref oM), (1, .int x1), (2, .int x2), (3, .int x3), (4, .int x4), (5, .int x5), (6, .int x6)]) : W p l e rmX9_feed s m args below meth c H locs 0 0 (MQ below (QI dC dI cc out.1 [(oM, .inr (9, mkX9 aM M_values out.2.1 out.2.2.1 M_at M_size M_token M_number M_begins M_stops M_bad M_badPlace M_faultPlace M_ofVoting M_hour M_oil M_weight M_spider M_treasury M_joy M_passed M_acts M_seen M_never M_said M_hoarse M_fitMany M_seedNow M_hasImage M_actsThen M_seenThen)), ((aM 16), .inl (cc 0, 700, .inl out.2.2.2))] A) args s 0 0 A) (F0 m 76 ls [.int s0]) := by
  obtain ⟨hx, hb, hml, hr, hlocks, hown, hG, hK, hA⟩ := id C0
  unfold jX9_feed_76 at hf
  refine lv_istore (lv' := [(7, .int s0), (0, .ref oM), (1, .int x1), (2, .int x2), (3, .int x3), (4, .int x4), (5, .int x5), (6, .int x6)]) hx hb dX9_feed_76 hl (by decide) rfl (fun ls hl => ?_)
  refine lv_aload_n hx hb dX9_feed_78 rfl (lv_at hl 1 rfl) ?_
  refine va_get (D := (dC, dI)) (ci := 9) (v := .ref (aM 16)) (C := RX9) (T := TX9) (N := 63) hx hb hG kinX9 hown hK hP 0 rfl rfl 16 (by decide) (hG _ kfX9_82) (fun _ h9 => h9) rfl dX9_feed_79 ?_
  refine lv_aload_n hx hb dX9_feed_82 rfl (lv_at hl 1 rfl) ?_
  refine va_get (D := (dC, dI)) (ci := 9) (v := .int M_taped) (C := RX9) (T := TX9) (N := 63) hx hb hG kinX9 hown hK hP 0 rfl rfl 17 (by decide) (hG _ kfX9_159) (fun _ h9 => h9) rfl dX9_feed_83 ?_
  refine lv_iload hx hb dX9_feed_86 (lv_at hl 0 rfl) ?_
  refine lv_bipush (v := 24) hx hb dX9_feed_88 (by decide) ?_
  refine lv_bipush (v := 8) hx hb dX9_feed_90 (by decide) ?_
  refine lv_iload hx hb dX9_feed_92 (lv_at hl 7 rfl) ?_
  refine lv_iconst (v := 4) hx hb dX9_feed_94 (by decide) ?_
  refine lv_irem hx hb dX9_feed_95 (by decide) ?_
  refine lv_imul hx hb dX9_feed_96 ?_
  refine lv_isub hx hb dX9_feed_97 ?_
  refine lv_ishr hx hb dX9_feed_98 ?_
  refine lv_sipush (v := 255) hx hb dX9_feed_99 (by decide) ?_
  refine lv_iand hx hb dX9_feed_102 ?_
  refine ck_el hf (fun g7 hf => ?_)
  refine va_iast hx hb hK hP hD hS 1 0 rfl rfl (inb_in g7) dX9_feed_103 (fun H locs hP hD hS => ?_)
  have hP : va_P (dC, dI) cLs [(oM, .inr (9, mkX9 aM M_values M_code M_taped M_at M_size M_token M_number M_begins M_stops M_bad M_badPlace M_faultPlace M_ofVoting M_hour M_oil M_weight M_spider M_treasury M_joy M_passed M_acts M_seen M_never M_said M_hoarse M_fitMany M_seedNow M_hasImage M_actsThen M_seenThen)), ((aM 16), .inl (cc 0, 700, .inl (upd M_tape (M_taped : Int32).toNatClampNeg ((s0 >>> (((24 : Int32) - ((8 : Int32) * (x6 - x6 / 4 * 4))) &&& 31)) &&& (255 : Int32)))))] _ := hP
  have hD : va_D A [(oM, .inr (9, mkX9 aM M_values M_code M_taped M_at M_size M_token M_number M_begins M_stops M_bad M_badPlace M_faultPlace M_ofVoting M_hour M_oil M_weight M_spider M_treasury M_joy M_passed M_acts M_seen M_never M_said M_hoarse M_fitMany M_seedNow M_hasImage M_actsThen M_seenThen)), ((aM 16), .inl (cc 0, 700, .inl (upd M_tape (M_taped : Int32).toNatClampNeg ((s0 >>> (((24 : Int32) - ((8 : Int32) * (x6 - x6 / 4 * 4))) &&& 31)) &&& (255 : Int32)))))] := hD
  refine lv_aload_n hx hb dX9_feed_104 rfl (lv_at hl 1 rfl) ?_
  refine lv_dup hx hb dX9_feed_105 rfl ?_
  refine va_get (D := (dC, dI)) (ci := 9) (v := .int M_taped) (C := RX9) (T := TX9) (N := 63) hx hb hG kinX9 hown hK hP 0 rfl rfl 17 (by decide) (hG _ kfX9_159) (fun _ h9 => h9) rfl dX9_feed_106 ?_
  refine lv_iconst (v := 1) hx hb dX9_feed_109 (by decide) ?_
  refine lv_iadd hx hb dX9_feed_110 ?_
  refine va_put (D := (dC, dI)) (ci := 9) (v := .int (M_taped + (1 : Int32))) (ty := .int) (C := RX9) (T := TX9) (N := 63) hx hb hG kinX9 tyX9 tyX9_ok nmX9 hown hK hP hD hS 0 rfl rfl 17 (by decide) (hG _ kfX9_159) (fun _ h9 => h9) rfl (by decide +kernel) rfl rfl (Nat.le_of_ble_eq_true rfl) dX9_feed_111 (fun H locs hP hD hS => ?_)
  have hP : va_P (dC, dI) cLs [(oM, .inr (9, mkX9 aM M_values M_code (M_taped + (1 : Int32)) M_at M_size M_token M_number M_begins M_stops M_bad M_badPlace M_faultPlace M_ofVoting M_hour M_oil M_weight M_spider M_treasury M_joy M_passed M_acts M_seen M_never M_said M_hoarse M_fitMany M_seedNow M_hasImage M_actsThen M_seenThen)), ((aM 16), .inl (cc 0, 700, .inl (upd M_tape (M_taped : Int32).toNatClampNeg ((s0 >>> (((24 : Int32) - ((8 : Int32) * (x6 - x6 / 4 * 4))) &&& 31)) &&& (255 : Int32)))))] _ := hP
  have hD : va_D A [(oM, .inr (9, mkX9 aM M_values M_code (M_taped + (1 : Int32)) M_at M_size M_token M_number M_begins M_stops M_bad M_badPlace M_faultPlace M_ofVoting M_hour M_oil M_weight M_spider M_treasury M_joy M_passed M_acts M_seen M_never M_said M_hoarse M_fitMany M_seedNow M_hasImage M_actsThen M_seenThen)), ((aM 16), .inl (cc 0, 700, .inl (upd M_tape (M_taped : Int32).toNatClampNeg ((s0 >>> (((24 : Int32) - ((8 : Int32) * (x6 - x6 / 4 * 4))) &&& 31)) &&& (255 : Int32)))))] := hD
  refine lv_iinc (v := (x6 + 1)) (lv' := [(6, .int (x6 + 1)), (7, .int s0), (0, .ref oM), (1, .int x1), (2, .int x2), (3, .int x3), (4, .int x4), (5, .int x5)]) hx hb dX9_feed_114 hl (k := 7) rfl rfl (by decide) rfl (fun ls hl => ?_)
  refine lv_goto (tgt := 23) hx hb dX9_feed_117 (by decide) ?_
  exact hkb23 (M_taped + (1 : Int32)) (upd M_tape (M_taped : Int32).toNatClampNeg ((s0 >>> (((24 : Int32) - ((8 : Int32) * (x6 - x6 / 4 * 4))) &&& 31)) &&& (255 : Int32))) (x6 + 1) hf _ _ hP hD hS _ (lv_sub hl [2, 3, 4, 5, 6, 7, 0] rfl)
def lX9_feed_23 (ke23_120 : Int32 → (Nat → Int32) → Option (Int32 × Int32 × Int32 × (Nat → Int32)))  (x1 : Int32) (x2 : Int32) (x3 : Int32) (x4 : Int32) (x5 : Int32) : Nat → Int32 → (Nat → Int32) → Int32 → Option (Int32 × Int32 × Int32 × (Nat → Int32))
  | 0, _, _, _ => none
  | n+1, M_taped, M_tape, x6 =>
    if 20 ≤ x6 then
      ke23_120 M_taped M_tape
    else
      if 4 ≤ x6 then
        if 8 ≤ x6 then
          if 12 ≤ x6 then
            if 16 ≤ x6 then
              jX9_feed_76 (lX9_feed_23 ke23_120 x1 x2 x3 x4 x5 n) M_taped M_tape x6 x5
            else
              jX9_feed_76 (lX9_feed_23 ke23_120 x1 x2 x3 x4 x5 n) M_taped M_tape x6 x4
          else
            jX9_feed_76 (lX9_feed_23 ke23_120 x1 x2 x3 x4 x5 n) M_taped M_tape x6 x3
        else
          jX9_feed_76 (lX9_feed_23 ke23_120 x1 x2 x3 x4 x5 n) M_taped M_tape x6 x2
      else
        jX9_feed_76 (lX9_feed_23 ke23_120 x1 x2 x3 x4 x5 n) M_taped M_tape x6 x1
set_option maxHeartbeats 4000000 in
set_option maxRecDepth 100000 in
theorem wlX9_feed_23 {p : Program} {l : Launch} {e : Env} {s : State} {m : MethodId} {args : Array Value} {below : List Frame} {meth : Method} {c : Code} {A : Nat → Prop} {dC : Nat → ClassId} {dI : Nat → Nat → Nat} {cc : Nat → ClassId} (C0 : CT p s m args meth c A dC dI cc cX9_feed 8 (some .int) RX9) (oM : Nat) (aM : Nat → Nat) (M_values : Int32) (M_code : Int32) (M_at : Int32) (M_size : Int32) (M_token : Int32) (M_number : Int32) (M_begins : Int32) (M_stops : Int32) (M_bad : Int32) (M_badPlace : Int32) (M_faultPlace : Int32) (M_ofVoting : Int32) (M_hour : Int32) (M_oil : Int32) (M_weight : Int32) (M_spider : Int32) (M_treasury : Int32) (M_joy : Int32) (M_passed : Int32) (M_acts : Int32) (M_seen : Int32) (M_never : Int32) (M_said : Int32) (M_hoarse : Int32) (M_fitMany : Int32) (M_seedNow : Int32) (M_hasImage : Int32) (M_actsThen : Int32) (M_seenThen : Int32) (x1 : Int32) (x2 : Int32) (x3 : Int32) (x4 : Int32) (x5 : Int32) {out : Int32 × Int32 × Int32 × (Nat → Int32)} (ke23_120 : Int32 → (Nat → Int32) → Option (Int32 × Int32 × Int32 × (Nat → Int32))) (hke23_120 : ∀ (M_taped' : Int32) (M_tape' : Nat → Int32), ke23_120 M_taped' M_tape' = some out → ∀ (H : Heap) (locs : List Loc), va_P (dC, dI) cLs [(oM, .inr (9, mkX9 aM M_values M_code M_taped' M_at M_size M_token M_number M_begins M_stops M_bad M_badPlace M_faultPlace M_ofVoting M_hour M_oil M_weight M_spider M_treasury M_joy M_passed M_acts M_seen M_never M_said M_hoarse M_fitMany M_seedNow M_hasImage M_actsThen M_seenThen)), ((aM 16), .inl (cc 0, 700, .inl M_tape'))] H → va_D A [(oM, .inr (9, mkX9 aM M_values M_code M_taped' M_at M_size M_token M_number M_begins M_stops M_bad M_badPlace M_faultPlace M_ofVoting M_hour M_oil M_weight M_spider M_treasury M_joy M_passed M_acts M_seen M_never M_said M_hoarse M_fitMany M_seedNow M_hasImage M_actsThen M_seenThen)), ((aM 16), .inl (cc 0, 700, .inl M_tape'))] → va_S A s.heap H locs → ∀ ls : Array Slot, lv_has ls 8 [(0, .ref oM)] → W p l e rmX9_feed s m args below meth c H locs 0 0 (MQ below (QI dC dI cc out.1 [(oM, .inr (9, mkX9 aM M_values out.2.1 out.2.2.1 M_at M_size M_token M_number M_begins M_stops M_bad M_badPlace M_faultPlace M_ofVoting M_hour M_oil M_weight M_spider M_treasury M_joy M_passed M_acts M_seen M_never M_said M_hoarse M_fitMany M_seedNow M_hasImage M_actsThen M_seenThen)), ((aM 16), .inl (cc 0, 700, .inl out.2.2.2))] A) args s 0 0 A) (F0 m 120 ls [])) : ∀ (n : Nat) (M_taped : Int32) (M_tape : Nat → Int32) (x6 : Int32) (hf : lX9_feed_23 ke23_120 x1 x2 x3 x4 x5 n M_taped M_tape x6 = some out) (H : Heap) (locs : List Loc) (hP : va_P (dC, dI) cLs [(oM, .inr (9, mkX9 aM M_values M_code M_taped M_at M_size M_token M_number M_begins M_stops M_bad M_badPlace M_faultPlace M_ofVoting M_hour M_oil M_weight M_spider M_treasury M_joy M_passed M_acts M_seen M_never M_said M_hoarse M_fitMany M_seedNow M_hasImage M_actsThen M_seenThen)), ((aM 16), .inl (cc 0, 700, .inl M_tape))] H) (hD : va_D A [(oM, .inr (9, mkX9 aM M_values M_code M_taped M_at M_size M_token M_number M_begins M_stops M_bad M_badPlace M_faultPlace M_ofVoting M_hour M_oil M_weight M_spider M_treasury M_joy M_passed M_acts M_seen M_never M_said M_hoarse M_fitMany M_seedNow M_hasImage M_actsThen M_seenThen)), ((aM 16), .inl (cc 0, 700, .inl M_tape))]) (hS : va_S A s.heap H locs) (ls : Array Slot) (hl : lv_has ls 8 [(0, .ref oM), (1, .int x1), (2, .int x2), (3, .int x3), (4, .int x4), (5, .int x5), (6, .int x6)]), W p l e rmX9_feed s m args below meth c H locs 0 0 (MQ below (QI dC dI cc out.1 [(oM, .inr (9, mkX9 aM M_values out.2.1 out.2.2.1 M_at M_size M_token M_number M_begins M_stops M_bad M_badPlace M_faultPlace M_ofVoting M_hour M_oil M_weight M_spider M_treasury M_joy M_passed M_acts M_seen M_never M_said M_hoarse M_fitMany M_seedNow M_hasImage M_actsThen M_seenThen)), ((aM 16), .inl (cc 0, 700, .inl out.2.2.2))] A) args s 0 0 A) (F0 m 23 ls []) := by
  obtain ⟨hx, hb, hml, hr, hlocks, hown, hG, hK, hA⟩ := id C0
  intro n
  induction n with
  | zero => intro M_taped M_tape x6 hf; cases hf
  | succ n ih =>
    intro M_taped M_tape x6 hf H locs hP hD hS ls hl
    unfold lX9_feed_23 at hf
    refine lv_iload hx hb dX9_feed_23 (lv_at hl 6 rfl) ?_
    refine lv_bipush (v := 20) hx hb dX9_feed_25 (by decide) ?_
    refine lv_icmp_ge (tgt := 120) hx hb dX9_feed_27 (by decide) (fun c2 => ?_) (fun c2 => ?_)
    · have hf := ift c2 hf
      exact hke23_120 M_taped M_tape hf _ _ hP hD hS _ (lv_sub hl [0] rfl)
    · have hf := iff_ c2 hf
      refine lv_iload hx hb dX9_feed_30 (lv_at hl 6 rfl) ?_
      refine lv_iconst (v := 4) hx hb dX9_feed_32 (by decide) ?_
      refine lv_icmp_ge (tgt := 40) hx hb dX9_feed_33 (by decide) (fun c3 => ?_) (fun c3 => ?_)
      · have hf := ift c3 hf
        refine lv_iload hx hb dX9_feed_40 (lv_at hl 6 rfl) ?_
        refine lv_bipush (v := 8) hx hb dX9_feed_42 (by decide) ?_
        refine lv_icmp_ge (tgt := 51) hx hb dX9_feed_44 (by decide) (fun c4 => ?_) (fun c4 => ?_)
        · have hf := ift c4 hf
          refine lv_iload hx hb dX9_feed_51 (lv_at hl 6 rfl) ?_
          refine lv_bipush (v := 12) hx hb dX9_feed_53 (by decide) ?_
          refine lv_icmp_ge (tgt := 62) hx hb dX9_feed_55 (by decide) (fun c5 => ?_) (fun c5 => ?_)
          · have hf := ift c5 hf
            refine lv_iload hx hb dX9_feed_62 (lv_at hl 6 rfl) ?_
            refine lv_bipush (v := 16) hx hb dX9_feed_64 (by decide) ?_
            refine lv_icmp_ge (tgt := 74) hx hb dX9_feed_66 (by decide) (fun c6 => ?_) (fun c6 => ?_)
            · have hf := ift c6 hf
              refine lv_iload hx hb dX9_feed_74 (lv_at hl 5 rfl) ?_
              exact wjX9_feed_76 C0 oM aM M_values M_code M_taped M_at M_size M_token M_number M_begins M_stops M_bad M_badPlace M_faultPlace M_ofVoting M_hour M_oil M_weight M_spider M_treasury M_joy M_passed M_acts M_seen M_never M_said M_hoarse M_fitMany M_seedNow M_hasImage M_actsThen M_seenThen M_tape x1 x2 x3 x4 x5 x6 _ ih x5 hf _ _ hP hD hS _ (lv_sub hl [0, 1, 2, 3, 4, 5, 6] rfl)
            · have hf := iff_ c6 hf
              refine lv_iload hx hb dX9_feed_69 (lv_at hl 4 rfl) ?_
              refine lv_goto (tgt := 76) hx hb dX9_feed_71 (by decide) ?_
              exact wjX9_feed_76 C0 oM aM M_values M_code M_taped M_at M_size M_token M_number M_begins M_stops M_bad M_badPlace M_faultPlace M_ofVoting M_hour M_oil M_weight M_spider M_treasury M_joy M_passed M_acts M_seen M_never M_said M_hoarse M_fitMany M_seedNow M_hasImage M_actsThen M_seenThen M_tape x1 x2 x3 x4 x5 x6 _ ih x4 hf _ _ hP hD hS _ (lv_sub hl [0, 1, 2, 3, 4, 5, 6] rfl)
          · have hf := iff_ c5 hf
            refine lv_iload_n hx hb dX9_feed_58 rfl (lv_at hl 3 rfl) ?_
            refine lv_goto (tgt := 76) hx hb dX9_feed_59 (by decide) ?_
            exact wjX9_feed_76 C0 oM aM M_values M_code M_taped M_at M_size M_token M_number M_begins M_stops M_bad M_badPlace M_faultPlace M_ofVoting M_hour M_oil M_weight M_spider M_treasury M_joy M_passed M_acts M_seen M_never M_said M_hoarse M_fitMany M_seedNow M_hasImage M_actsThen M_seenThen M_tape x1 x2 x3 x4 x5 x6 _ ih x3 hf _ _ hP hD hS _ (lv_sub hl [0, 1, 2, 3, 4, 5, 6] rfl)
        · have hf := iff_ c4 hf
          refine lv_iload_n hx hb dX9_feed_47 rfl (lv_at hl 2 rfl) ?_
          refine lv_goto (tgt := 76) hx hb dX9_feed_48 (by decide) ?_
          exact wjX9_feed_76 C0 oM aM M_values M_code M_taped M_at M_size M_token M_number M_begins M_stops M_bad M_badPlace M_faultPlace M_ofVoting M_hour M_oil M_weight M_spider M_treasury M_joy M_passed M_acts M_seen M_never M_said M_hoarse M_fitMany M_seedNow M_hasImage M_actsThen M_seenThen M_tape x1 x2 x3 x4 x5 x6 _ ih x2 hf _ _ hP hD hS _ (lv_sub hl [0, 1, 2, 3, 4, 5, 6] rfl)
      · have hf := iff_ c3 hf
        refine lv_iload_n hx hb dX9_feed_36 rfl (lv_at hl 1 rfl) ?_
        refine lv_goto (tgt := 76) hx hb dX9_feed_37 (by decide) ?_
        exact wjX9_feed_76 C0 oM aM M_values M_code M_taped M_at M_size M_token M_number M_begins M_stops M_bad M_badPlace M_faultPlace M_ofVoting M_hour M_oil M_weight M_spider M_treasury M_joy M_passed M_acts M_seen M_never M_said M_hoarse M_fitMany M_seedNow M_hasImage M_actsThen M_seenThen M_tape x1 x2 x3 x4 x5 x6 _ ih x1 hf _ _ hP hD hS _ (lv_sub hl [0, 1, 2, 3, 4, 5, 6] rfl)
def fX9_feed  (M_code : Int32) (M_taped : Int32) (M_tape : Nat → Int32) (p0 : Int32) (p1 : Int32) (p2 : Int32) (p3 : Int32) (p4 : Int32) : Option (Int32 × Int32 × Int32 × (Nat → Int32)) :=
  if (M_taped + (20 : Int32)) ≤ 700 then
    lX9_feed_23 (fun (M_taped_8 : Int32) (M_tape_9 : Nat → Int32) =>
      some (M_taped_8, 0, M_taped_8, M_tape_9)) p0 p1 p2 p3 p4 FU M_taped M_tape 0
  else
    some ((-1), 0, M_taped, M_tape)
set_option maxHeartbeats 4000000 in
set_option maxRecDepth 100000 in
theorem bX9_feed {p : Program} {l : Launch} {e : Env} {s : State} {m : MethodId} {args : Array Value} {below : List Frame} {meth : Method} {c : Code} {A : Nat → Prop} {dC : Nat → ClassId} {dI : Nat → Nat → Nat} {cc : Nat → ClassId} (C0 : CT p s m args meth c A dC dI cc cX9_feed 8 (some .int) RX9) (oM : Nat) (aM : Nat → Nat) (M_values : Int32) (M_code : Int32) (M_taped : Int32) (M_at : Int32) (M_size : Int32) (M_token : Int32) (M_number : Int32) (M_begins : Int32) (M_stops : Int32) (M_bad : Int32) (M_badPlace : Int32) (M_faultPlace : Int32) (M_ofVoting : Int32) (M_hour : Int32) (M_oil : Int32) (M_weight : Int32) (M_spider : Int32) (M_treasury : Int32) (M_joy : Int32) (M_passed : Int32) (M_acts : Int32) (M_seen : Int32) (M_never : Int32) (M_said : Int32) (M_hoarse : Int32) (M_fitMany : Int32) (M_seedNow : Int32) (M_hasImage : Int32) (M_actsThen : Int32) (M_seenThen : Int32) (M_tape : Nat → Int32) (p0 : Int32) (p1 : Int32) (p2 : Int32) (p3 : Int32) (p4 : Int32) {out : Int32 × Int32 × Int32 × (Nat → Int32)} (hf : fX9_feed M_code M_taped M_tape p0 p1 p2 p3 p4 = some out) {H : Heap} {locs : List Loc} (hP : va_P (dC, dI) cLs [(oM, .inr (9, mkX9 aM M_values M_code M_taped M_at M_size M_token M_number M_begins M_stops M_bad M_badPlace M_faultPlace M_ofVoting M_hour M_oil M_weight M_spider M_treasury M_joy M_passed M_acts M_seen M_never M_said M_hoarse M_fitMany M_seedNow M_hasImage M_actsThen M_seenThen)), ((aM 16), .inl (cc 0, 700, .inl M_tape))] H) (hD : va_D A [(oM, .inr (9, mkX9 aM M_values M_code M_taped M_at M_size M_token M_number M_begins M_stops M_bad M_badPlace M_faultPlace M_ofVoting M_hour M_oil M_weight M_spider M_treasury M_joy M_passed M_acts M_seen M_never M_said M_hoarse M_fitMany M_seedNow M_hasImage M_actsThen M_seenThen)), ((aM 16), .inl (cc 0, 700, .inl M_tape))]) (hS : va_S A s.heap H locs) {ls : Array Slot} (hl : lv_has ls 8 [(0, .ref oM), (1, .int p0), (2, .int p1), (3, .int p2), (4, .int p3), (5, .int p4)]) : W p l e rmX9_feed s m args below meth c H locs 0 0 (MQ below (QI dC dI cc out.1 [(oM, .inr (9, mkX9 aM M_values out.2.1 out.2.2.1 M_at M_size M_token M_number M_begins M_stops M_bad M_badPlace M_faultPlace M_ofVoting M_hour M_oil M_weight M_spider M_treasury M_joy M_passed M_acts M_seen M_never M_said M_hoarse M_fitMany M_seedNow M_hasImage M_actsThen M_seenThen)), ((aM 16), .inl (cc 0, 700, .inl out.2.2.2))] A) args s 0 0 A) (F0 m 0 ls []) := by
  obtain ⟨hx, hb, hml, hr, hlocks, hown, hG, hK, hA⟩ := id C0
  unfold fX9_feed at hf
  refine lv_aload_n hx hb dX9_feed_0 rfl (lv_at hl 0 rfl) ?_
  refine lv_iconst (v := 0) hx hb dX9_feed_1 (by decide) ?_
  refine va_put (D := (dC, dI)) (ci := 9) (v := .int 0) (ty := .int) (C := RX9) (T := TX9) (N := 63) hx hb hG kinX9 tyX9 tyX9_ok nmX9 hown hK hP hD hS 0 rfl rfl 4 (by decide) (hG _ kfX9_152) (fun _ h9 => h9) rfl (by decide +kernel) rfl rfl (Nat.le_of_ble_eq_true rfl) dX9_feed_2 (fun H locs hP hD hS => ?_)
  have hP : va_P (dC, dI) cLs [(oM, .inr (9, mkX9 aM M_values 0 M_taped M_at M_size M_token M_number M_begins M_stops M_bad M_badPlace M_faultPlace M_ofVoting M_hour M_oil M_weight M_spider M_treasury M_joy M_passed M_acts M_seen M_never M_said M_hoarse M_fitMany M_seedNow M_hasImage M_actsThen M_seenThen)), ((aM 16), .inl (cc 0, 700, .inl M_tape))] _ := hP
  have hD : va_D A [(oM, .inr (9, mkX9 aM M_values 0 M_taped M_at M_size M_token M_number M_begins M_stops M_bad M_badPlace M_faultPlace M_ofVoting M_hour M_oil M_weight M_spider M_treasury M_joy M_passed M_acts M_seen M_never M_said M_hoarse M_fitMany M_seedNow M_hasImage M_actsThen M_seenThen)), ((aM 16), .inl (cc 0, 700, .inl M_tape))] := hD
  refine lv_aload_n hx hb dX9_feed_5 rfl (lv_at hl 0 rfl) ?_
  refine va_get (D := (dC, dI)) (ci := 9) (v := .int M_taped) (C := RX9) (T := TX9) (N := 63) hx hb hG kinX9 hown hK hP 0 rfl rfl 17 (by decide) (hG _ kfX9_159) (fun _ h9 => h9) rfl dX9_feed_6 ?_
  refine lv_bipush (v := 20) hx hb dX9_feed_9 (by decide) ?_
  refine lv_iadd hx hb dX9_feed_11 ?_
  refine lv_sipush (v := 700) hx hb dX9_feed_12 (by decide) ?_
  refine lv_icmp_le (tgt := 20) hx hb dX9_feed_15 (by decide) (fun c1 => ?_) (fun c1 => ?_)
  · have hf := ift c1 hf
    refine lv_iconst (v := 0) hx hb dX9_feed_20 (by decide) ?_
    refine lv_istore (lv' := [(6, .int 0), (0, .ref oM), (1, .int p0), (2, .int p1), (3, .int p2), (4, .int p3), (5, .int p4)]) hx hb dX9_feed_21 hl (by decide) rfl (fun ls hl => ?_)
    refine wlX9_feed_23 C0 oM aM M_values 0 M_at M_size M_token M_number M_begins M_stops M_bad M_badPlace M_faultPlace M_ofVoting M_hour M_oil M_weight M_spider M_treasury M_joy M_passed M_acts M_seen M_never M_said M_hoarse M_fitMany M_seedNow M_hasImage M_actsThen M_seenThen p0 p1 p2 p3 p4 _ ?_ FU M_taped M_tape 0 hf _ _ hP hD hS _ (lv_sub hl [1, 2, 3, 4, 5, 6, 0] rfl)
    · intro M_taped_8 M_tape_9 hf H locs hP hD hS ls hl
      refine lv_aload_n hx hb dX9_feed_120 rfl (lv_at hl 0 rfl) ?_
      refine va_get (D := (dC, dI)) (ci := 9) (v := .int M_taped_8) (C := RX9) (T := TX9) (N := 63) hx hb hG kinX9 hown hK hP 0 rfl rfl 17 (by decide) (hG _ kfX9_159) (fun _ h9 => h9) rfl dX9_feed_121 ?_
      obtain rfl := Option.some.inj hf
      exact retI C0 hP hD hS rfl dX9_feed_124
  · have hf := iff_ c1 hf
    refine lv_iconst (v := (-1)) hx hb dX9_feed_18 (by decide) ?_
    obtain rfl := Option.some.inj hf
    exact retI C0 hP hD hS rfl dX9_feed_19
theorem mX9_feed (l : Launch) (dC : Nat → ClassId) (dI : Nat → Nat → Nat) (cc : Nat → ClassId) (oM : Nat) (aM : Nat → Nat) (sz : Nat) (M_values : Int32) (M_code : Int32) (M_taped : Int32) (M_at : Int32) (M_size : Int32) (M_token : Int32) (M_number : Int32) (M_begins : Int32) (M_stops : Int32) (M_bad : Int32) (M_badPlace : Int32) (M_faultPlace : Int32) (M_ofVoting : Int32) (M_hour : Int32) (M_oil : Int32) (M_weight : Int32) (M_spider : Int32) (M_treasury : Int32) (M_joy : Int32) (M_passed : Int32) (M_acts : Int32) (M_seen : Int32) (M_never : Int32) (M_said : Int32) (M_hoarse : Int32) (M_fitMany : Int32) (M_seedNow : Int32) (M_hasImage : Int32) (M_actsThen : Int32) (M_seenThen : Int32) (M_tape : Nat → Int32) (p0 : Int32) (p1 : Int32) (p2 : Int32) (p3 : Int32) (p4 : Int32) {out : Int32 × Int32 × Int32 × (Nat → Int32)} (hf : fX9_feed M_code M_taped M_tape p0 p1 p2 p3 p4 = some out) : Met l yX9_feed (Cond.code yX9_feed cX9_feed 8 (some .int) :: GW) rmX9_feed (PI dC dI cc [.ref oM, .int p0, .int p1, .int p2, .int p3, .int p4] [(oM, .inr (9, mkX9 aM M_values M_code M_taped M_at M_size M_token M_number M_begins M_stops M_bad M_badPlace M_faultPlace M_ofVoting M_hour M_oil M_weight M_spider M_treasury M_joy M_passed M_acts M_seen M_never M_said M_hoarse M_fitMany M_seedNow M_hasImage M_actsThen M_seenThen)), ((aM 16), .inl (cc 0, 700, .inl M_tape))] sz) (QI dC dI cc out.1 [(oM, .inr (9, mkX9 aM M_values out.2.1 out.2.2.1 M_at M_size M_token M_number M_begins M_stops M_bad M_badPlace M_faultPlace M_ofVoting M_hour M_oil M_weight M_spider M_treasury M_joy M_passed M_acts M_seen M_never M_said M_hoarse M_fitMany M_seedNow M_hasImage M_actsThen M_seenThen)), ((aM 16), .inl (cc 0, 700, .inl out.2.2.2))] (va_A [(oM, .inr (9, mkX9 aM M_values M_code M_taped M_at M_size M_token M_number M_begins M_stops M_bad M_badPlace M_faultPlace M_ofVoting M_hour M_oil M_weight M_spider M_treasury M_joy M_passed M_acts M_seen M_never M_said M_hoarse M_fitMany M_seedNow M_hasImage M_actsThen M_seenThen)), ((aM 16), .inl (cc 0, 700, .inl M_tape))] sz)) 0 0 (va_A [(oM, .inr (9, mkX9 aM M_values M_code M_taped M_at M_size M_token M_number M_begins M_stops M_bad M_badPlace M_faultPlace M_ofVoting M_hour M_oil M_weight M_spider M_treasury M_joy M_passed M_acts M_seen M_never M_said M_hoarse M_fitMany M_seedNow M_hasImage M_actsThen M_seenThen)), ((aM 16), .inl (cc 0, 700, .inl M_tape))] sz) :=
  met_of (Q := fun A => QI dC dI cc out.1 [(oM, .inr (9, mkX9 aM M_values out.2.1 out.2.2.1 M_at M_size M_token M_number M_begins M_stops M_bad M_badPlace M_faultPlace M_ofVoting M_hour M_oil M_weight M_spider M_treasury M_joy M_passed M_acts M_seen M_never M_said M_hoarse M_fitMany M_seedNow M_hasImage M_actsThen M_seenThen)), ((aM 16), .inl (cc 0, 700, .inl out.2.2.2))] A) (by decide) rfl (Nat.le_of_ble_eq_true rfl) (fun p e s m below meth c A C0 hP hD hS ls hl => bX9_feed C0 oM aM M_values M_code M_taped M_at M_size M_token M_number M_begins M_stops M_bad M_badPlace M_faultPlace M_ofVoting M_hour M_oil M_weight M_spider M_treasury M_joy M_passed M_acts M_seen M_never M_said M_hoarse M_fitMany M_seedNow M_hasImage M_actsThen M_seenThen M_tape p0 p1 p2 p3 p4 hf hP hD hS hl)
abbrev rmX9_byteAt : Room := { frames := 0, cells := 0, slots := 0, locals := 0 }
def fX9_byteAt  (M_size : Int32) (M_tape : Nat → Int32) (p0 : Int32) : Option (Int32) :=
  if M_size ≤ p0 then
    some (-1)
  else
    ck (inb p0 700) <|
    some (M_tape (p0 : Int32).toNatClampNeg)
set_option maxHeartbeats 4000000 in
set_option maxRecDepth 100000 in
theorem bX9_byteAt {p : Program} {l : Launch} {e : Env} {s : State} {m : MethodId} {args : Array Value} {below : List Frame} {meth : Method} {c : Code} {A : Nat → Prop} {dC : Nat → ClassId} {dI : Nat → Nat → Nat} {cc : Nat → ClassId} (C0 : CT p s m args meth c A dC dI cc cX9_byteAt 2 (some .int) RX9) (oM : Nat) (aM : Nat → Nat) (M_values : Int32) (M_code : Int32) (M_taped : Int32) (M_at : Int32) (M_size : Int32) (M_token : Int32) (M_number : Int32) (M_begins : Int32) (M_stops : Int32) (M_bad : Int32) (M_badPlace : Int32) (M_faultPlace : Int32) (M_ofVoting : Int32) (M_hour : Int32) (M_oil : Int32) (M_weight : Int32) (M_spider : Int32) (M_treasury : Int32) (M_joy : Int32) (M_passed : Int32) (M_acts : Int32) (M_seen : Int32) (M_never : Int32) (M_said : Int32) (M_hoarse : Int32) (M_fitMany : Int32) (M_seedNow : Int32) (M_hasImage : Int32) (M_actsThen : Int32) (M_seenThen : Int32) (M_tape : Nat → Int32) (p0 : Int32) {out : Int32} (hf : fX9_byteAt M_size M_tape p0 = some out) {H : Heap} {locs : List Loc} (hP : va_P (dC, dI) cLs [(oM, .inr (9, mkX9 aM M_values M_code M_taped M_at M_size M_token M_number M_begins M_stops M_bad M_badPlace M_faultPlace M_ofVoting M_hour M_oil M_weight M_spider M_treasury M_joy M_passed M_acts M_seen M_never M_said M_hoarse M_fitMany M_seedNow M_hasImage M_actsThen M_seenThen)), ((aM 16), .inl (cc 0, 700, .inl M_tape))] H) (hD : va_D A [(oM, .inr (9, mkX9 aM M_values M_code M_taped M_at M_size M_token M_number M_begins M_stops M_bad M_badPlace M_faultPlace M_ofVoting M_hour M_oil M_weight M_spider M_treasury M_joy M_passed M_acts M_seen M_never M_said M_hoarse M_fitMany M_seedNow M_hasImage M_actsThen M_seenThen)), ((aM 16), .inl (cc 0, 700, .inl M_tape))]) (hS : va_S A s.heap H locs) {ls : Array Slot} (hl : lv_has ls 2 [(0, .ref oM), (1, .int p0)]) : W p l e rmX9_byteAt s m args below meth c H locs 0 0 (MQ below (QI dC dI cc out [(oM, .inr (9, mkX9 aM M_values M_code M_taped M_at M_size M_token M_number M_begins M_stops M_bad M_badPlace M_faultPlace M_ofVoting M_hour M_oil M_weight M_spider M_treasury M_joy M_passed M_acts M_seen M_never M_said M_hoarse M_fitMany M_seedNow M_hasImage M_actsThen M_seenThen)), ((aM 16), .inl (cc 0, 700, .inl M_tape))] A) args s 0 0 A) (F0 m 0 ls []) := by
  obtain ⟨hx, hb, hml, hr, hlocks, hown, hG, hK, hA⟩ := id C0
  unfold fX9_byteAt at hf
  refine lv_iload_n hx hb dX9_byteAt_0 rfl (lv_at hl 1 rfl) ?_
  refine lv_aload_n hx hb dX9_byteAt_1 rfl (lv_at hl 0 rfl) ?_
  refine va_get (D := (dC, dI)) (ci := 9) (v := .int M_size) (C := RX9) (T := TX9) (N := 63) hx hb hG kinX9 hown hK hP 0 rfl rfl 19 (by decide) (hG _ kfX9_162) (fun _ h9 => h9) rfl dX9_byteAt_2 ?_
  refine lv_icmp_ge (tgt := 17) hx hb dX9_byteAt_5 (by decide) (fun c1 => ?_) (fun c1 => ?_)
  · have hf := ift c1 hf
    refine lv_iconst (v := (-1)) hx hb dX9_byteAt_17 (by decide) ?_
    obtain rfl := Option.some.inj hf
    exact retI C0 hP hD hS rfl dX9_byteAt_18
  · have hf := iff_ c1 hf
    refine lv_aload_n hx hb dX9_byteAt_8 rfl (lv_at hl 0 rfl) ?_
    refine va_get (D := (dC, dI)) (ci := 9) (v := .ref (aM 16)) (C := RX9) (T := TX9) (N := 63) hx hb hG kinX9 hown hK hP 0 rfl rfl 16 (by decide) (hG _ kfX9_82) (fun _ h9 => h9) rfl dX9_byteAt_9 ?_
    refine lv_iload_n hx hb dX9_byteAt_12 rfl (lv_at hl 1 rfl) ?_
    refine ck_el hf (fun g2 hf => ?_)
    refine va_iald hx hb hK hP 1 0 rfl rfl (inb_in g2) dX9_byteAt_13 ?_
    refine lv_goto (tgt := 18) hx hb dX9_byteAt_14 (by decide) ?_
    obtain rfl := Option.some.inj hf
    exact retI C0 hP hD hS rfl dX9_byteAt_18
theorem mX9_byteAt (l : Launch) (dC : Nat → ClassId) (dI : Nat → Nat → Nat) (cc : Nat → ClassId) (oM : Nat) (aM : Nat → Nat) (sz : Nat) (M_values : Int32) (M_code : Int32) (M_taped : Int32) (M_at : Int32) (M_size : Int32) (M_token : Int32) (M_number : Int32) (M_begins : Int32) (M_stops : Int32) (M_bad : Int32) (M_badPlace : Int32) (M_faultPlace : Int32) (M_ofVoting : Int32) (M_hour : Int32) (M_oil : Int32) (M_weight : Int32) (M_spider : Int32) (M_treasury : Int32) (M_joy : Int32) (M_passed : Int32) (M_acts : Int32) (M_seen : Int32) (M_never : Int32) (M_said : Int32) (M_hoarse : Int32) (M_fitMany : Int32) (M_seedNow : Int32) (M_hasImage : Int32) (M_actsThen : Int32) (M_seenThen : Int32) (M_tape : Nat → Int32) (p0 : Int32) {out : Int32} (hf : fX9_byteAt M_size M_tape p0 = some out) : Met l yX9_byteAt (Cond.code yX9_byteAt cX9_byteAt 2 (some .int) :: GW) rmX9_byteAt (PI dC dI cc [.ref oM, .int p0] [(oM, .inr (9, mkX9 aM M_values M_code M_taped M_at M_size M_token M_number M_begins M_stops M_bad M_badPlace M_faultPlace M_ofVoting M_hour M_oil M_weight M_spider M_treasury M_joy M_passed M_acts M_seen M_never M_said M_hoarse M_fitMany M_seedNow M_hasImage M_actsThen M_seenThen)), ((aM 16), .inl (cc 0, 700, .inl M_tape))] sz) (QI dC dI cc out [(oM, .inr (9, mkX9 aM M_values M_code M_taped M_at M_size M_token M_number M_begins M_stops M_bad M_badPlace M_faultPlace M_ofVoting M_hour M_oil M_weight M_spider M_treasury M_joy M_passed M_acts M_seen M_never M_said M_hoarse M_fitMany M_seedNow M_hasImage M_actsThen M_seenThen)), ((aM 16), .inl (cc 0, 700, .inl M_tape))] (va_A [(oM, .inr (9, mkX9 aM M_values M_code M_taped M_at M_size M_token M_number M_begins M_stops M_bad M_badPlace M_faultPlace M_ofVoting M_hour M_oil M_weight M_spider M_treasury M_joy M_passed M_acts M_seen M_never M_said M_hoarse M_fitMany M_seedNow M_hasImage M_actsThen M_seenThen)), ((aM 16), .inl (cc 0, 700, .inl M_tape))] sz)) 0 0 (va_A [(oM, .inr (9, mkX9 aM M_values M_code M_taped M_at M_size M_token M_number M_begins M_stops M_bad M_badPlace M_faultPlace M_ofVoting M_hour M_oil M_weight M_spider M_treasury M_joy M_passed M_acts M_seen M_never M_said M_hoarse M_fitMany M_seedNow M_hasImage M_actsThen M_seenThen)), ((aM 16), .inl (cc 0, 700, .inl M_tape))] sz) :=
  met_of (Q := fun A => QI dC dI cc out [(oM, .inr (9, mkX9 aM M_values M_code M_taped M_at M_size M_token M_number M_begins M_stops M_bad M_badPlace M_faultPlace M_ofVoting M_hour M_oil M_weight M_spider M_treasury M_joy M_passed M_acts M_seen M_never M_said M_hoarse M_fitMany M_seedNow M_hasImage M_actsThen M_seenThen)), ((aM 16), .inl (cc 0, 700, .inl M_tape))] A) (by decide) rfl (Nat.le_of_ble_eq_true rfl) (fun p e s m below meth c A C0 hP hD hS ls hl => bX9_byteAt C0 oM aM M_values M_code M_taped M_at M_size M_token M_number M_begins M_stops M_bad M_badPlace M_faultPlace M_ofVoting M_hour M_oil M_weight M_spider M_treasury M_joy M_passed M_acts M_seen M_never M_said M_hoarse M_fitMany M_seedNow M_hasImage M_actsThen M_seenThen M_tape p0 hf hP hD hS hl)
abbrev rmX9_isLetter : Room := { frames := 0, cells := 0, slots := 0, locals := 0 }
def fX9_isLetter   (p0 : Int32) : Option (Int32) :=
  if p0 < 97 then
    some 0
  else
    if 122 < p0 then
      some 0
    else
      some 1
set_option maxHeartbeats 4000000 in
set_option maxRecDepth 100000 in
theorem bX9_isLetter {p : Program} {l : Launch} {e : Env} {s : State} {m : MethodId} {args : Array Value} {below : List Frame} {meth : Method} {c : Code} {A : Nat → Prop} {dC : Nat → ClassId} {dI : Nat → Nat → Nat} {cc : Nat → ClassId} (C0 : CT p s m args meth c A dC dI cc cX9_isLetter 1 (some .boolean) RX9)   (p0 : Int32) {out : Int32} (hf : fX9_isLetter p0 = some out) {H : Heap} {locs : List Loc} (hP : va_P (dC, dI) cLs [] H) (hD : va_D A []) (hS : va_S A s.heap H locs) {ls : Array Slot} (hl : lv_has ls 1 [(0, .int p0)]) : W p l e rmX9_isLetter s m args below meth c H locs 0 0 (MQ below (QI dC dI cc out [] A) args s 0 0 A) (F0 m 0 ls []) := by
  obtain ⟨hx, hb, hml, hr, hlocks, hown, hG, hK, hA⟩ := id C0
  unfold fX9_isLetter at hf
  refine lv_iload_n hx hb dX9_isLetter_0 rfl (lv_at hl 0 rfl) ?_
  refine lv_bipush (v := 97) hx hb dX9_isLetter_1 (by decide) ?_
  refine lv_icmp_lt (tgt := 16) hx hb dX9_isLetter_3 (by decide) (fun c1 => ?_) (fun c1 => ?_)
  · have hf := ift c1 hf
    refine lv_iconst (v := 0) hx hb dX9_isLetter_16 (by decide) ?_
    obtain rfl := Option.some.inj hf
    exact retZ C0 hP hD hS rfl rfl dX9_isLetter_17
  · have hf := iff_ c1 hf
    refine lv_iload_n hx hb dX9_isLetter_6 rfl (lv_at hl 0 rfl) ?_
    refine lv_bipush (v := 122) hx hb dX9_isLetter_7 (by decide) ?_
    refine lv_icmp_gt (tgt := 16) hx hb dX9_isLetter_9 (by decide) (fun c2 => ?_) (fun c2 => ?_)
    · have hf := ift c2 hf
      refine lv_iconst (v := 0) hx hb dX9_isLetter_16 (by decide) ?_
      obtain rfl := Option.some.inj hf
      exact retZ C0 hP hD hS rfl rfl dX9_isLetter_17
    · have hf := iff_ c2 hf
      refine lv_iconst (v := 1) hx hb dX9_isLetter_12 (by decide) ?_
      refine lv_goto (tgt := 17) hx hb dX9_isLetter_13 (by decide) ?_
      obtain rfl := Option.some.inj hf
      exact retZ C0 hP hD hS rfl rfl dX9_isLetter_17
theorem mX9_isLetter (l : Launch) (dC : Nat → ClassId) (dI : Nat → Nat → Nat) (cc : Nat → ClassId)  (sz : Nat)  (p0 : Int32) {out : Int32} (hf : fX9_isLetter p0 = some out) : Met l yX9_isLetter (Cond.code yX9_isLetter cX9_isLetter 1 (some .boolean) :: GW) rmX9_isLetter (PI dC dI cc [.int p0] [] sz) (QI dC dI cc out [] (va_A [] sz)) 0 0 (va_A [] sz) :=
  met_of (Q := fun A => QI dC dI cc out [] A) (by decide) rfl (Nat.le_of_ble_eq_true rfl) (fun p e s m below meth c A C0 hP hD hS ls hl => bX9_isLetter C0 p0 hf hP hD hS hl)
abbrev rmX9_isDigit : Room := { frames := 0, cells := 0, slots := 0, locals := 0 }
def fX9_isDigit   (p0 : Int32) : Option (Int32) :=
  if p0 < 48 then
    some 0
  else
    if 57 < p0 then
      some 0
    else
      some 1
set_option maxHeartbeats 4000000 in
set_option maxRecDepth 100000 in
theorem bX9_isDigit {p : Program} {l : Launch} {e : Env} {s : State} {m : MethodId} {args : Array Value} {below : List Frame} {meth : Method} {c : Code} {A : Nat → Prop} {dC : Nat → ClassId} {dI : Nat → Nat → Nat} {cc : Nat → ClassId} (C0 : CT p s m args meth c A dC dI cc cX9_isDigit 1 (some .boolean) RX9)   (p0 : Int32) {out : Int32} (hf : fX9_isDigit p0 = some out) {H : Heap} {locs : List Loc} (hP : va_P (dC, dI) cLs [] H) (hD : va_D A []) (hS : va_S A s.heap H locs) {ls : Array Slot} (hl : lv_has ls 1 [(0, .int p0)]) : W p l e rmX9_isDigit s m args below meth c H locs 0 0 (MQ below (QI dC dI cc out [] A) args s 0 0 A) (F0 m 0 ls []) := by
  obtain ⟨hx, hb, hml, hr, hlocks, hown, hG, hK, hA⟩ := id C0
  unfold fX9_isDigit at hf
  refine lv_iload_n hx hb dX9_isDigit_0 rfl (lv_at hl 0 rfl) ?_
  refine lv_bipush (v := 48) hx hb dX9_isDigit_1 (by decide) ?_
  refine lv_icmp_lt (tgt := 16) hx hb dX9_isDigit_3 (by decide) (fun c1 => ?_) (fun c1 => ?_)
  · have hf := ift c1 hf
    refine lv_iconst (v := 0) hx hb dX9_isDigit_16 (by decide) ?_
    obtain rfl := Option.some.inj hf
    exact retZ C0 hP hD hS rfl rfl dX9_isDigit_17
  · have hf := iff_ c1 hf
    refine lv_iload_n hx hb dX9_isDigit_6 rfl (lv_at hl 0 rfl) ?_
    refine lv_bipush (v := 57) hx hb dX9_isDigit_7 (by decide) ?_
    refine lv_icmp_gt (tgt := 16) hx hb dX9_isDigit_9 (by decide) (fun c2 => ?_) (fun c2 => ?_)
    · have hf := ift c2 hf
      refine lv_iconst (v := 0) hx hb dX9_isDigit_16 (by decide) ?_
      obtain rfl := Option.some.inj hf
      exact retZ C0 hP hD hS rfl rfl dX9_isDigit_17
    · have hf := iff_ c2 hf
      refine lv_iconst (v := 1) hx hb dX9_isDigit_12 (by decide) ?_
      refine lv_goto (tgt := 17) hx hb dX9_isDigit_13 (by decide) ?_
      obtain rfl := Option.some.inj hf
      exact retZ C0 hP hD hS rfl rfl dX9_isDigit_17
theorem mX9_isDigit (l : Launch) (dC : Nat → ClassId) (dI : Nat → Nat → Nat) (cc : Nat → ClassId)  (sz : Nat)  (p0 : Int32) {out : Int32} (hf : fX9_isDigit p0 = some out) : Met l yX9_isDigit (Cond.code yX9_isDigit cX9_isDigit 1 (some .boolean) :: GW) rmX9_isDigit (PI dC dI cc [.int p0] [] sz) (QI dC dI cc out [] (va_A [] sz)) 0 0 (va_A [] sz) :=
  met_of (Q := fun A => QI dC dI cc out [] A) (by decide) rfl (Nat.le_of_ble_eq_true rfl) (fun p e s m below meth c A C0 hP hD hS ls hl => bX9_isDigit C0 p0 hf hP hD hS hl)
abbrev rmX9_isMark : Room := { frames := 0, cells := 0, slots := 0, locals := 0 }
def fX9_isMark   (p0 : Int32) : Option (Int32) :=
  if p0 = 59 then
    some 1
  else
    if p0 = 40 then
      some 1
    else
      if p0 = 41 then
        some 1
      else
        if p0 = 43 then
          some 1
        else
          if p0 = 45 then
            some 1
          else
            if p0 = 42 then
              some 1
            else
              if p0 = 47 then
                some 1
              else
                if p0 = 60 then
                  some 1
                else
                  if p0 = 61 then
                    some 1
                  else
                    some 0
set_option maxHeartbeats 4000000 in
set_option maxRecDepth 100000 in
theorem bX9_isMark {p : Program} {l : Launch} {e : Env} {s : State} {m : MethodId} {args : Array Value} {below : List Frame} {meth : Method} {c : Code} {A : Nat → Prop} {dC : Nat → ClassId} {dI : Nat → Nat → Nat} {cc : Nat → ClassId} (C0 : CT p s m args meth c A dC dI cc cX9_isMark 1 (some .boolean) RX9)   (p0 : Int32) {out : Int32} (hf : fX9_isMark p0 = some out) {H : Heap} {locs : List Loc} (hP : va_P (dC, dI) cLs [] H) (hD : va_D A []) (hS : va_S A s.heap H locs) {ls : Array Slot} (hl : lv_has ls 1 [(0, .int p0)]) : W p l e rmX9_isMark s m args below meth c H locs 0 0 (MQ below (QI dC dI cc out [] A) args s 0 0 A) (F0 m 0 ls []) := by
  obtain ⟨hx, hb, hml, hr, hlocks, hown, hG, hK, hA⟩ := id C0
  unfold fX9_isMark at hf
  refine lv_iload_n hx hb dX9_isMark_0 rfl (lv_at hl 0 rfl) ?_
  refine lv_bipush (v := 59) hx hb dX9_isMark_1 (by decide) ?_
  refine lv_icmp_eq (tgt := 54) hx hb dX9_isMark_3 (by decide) (fun c1 => ?_) (fun c1 => ?_)
  · have hf := ift c1 hf
    refine lv_iconst (v := 1) hx hb dX9_isMark_54 (by decide) ?_
    refine lv_goto (tgt := 59) hx hb dX9_isMark_55 (by decide) ?_
    obtain rfl := Option.some.inj hf
    exact retZ C0 hP hD hS rfl rfl dX9_isMark_59
  · have hf := iff_ c1 hf
    refine lv_iload_n hx hb dX9_isMark_6 rfl (lv_at hl 0 rfl) ?_
    refine lv_bipush (v := 40) hx hb dX9_isMark_7 (by decide) ?_
    refine lv_icmp_eq (tgt := 54) hx hb dX9_isMark_9 (by decide) (fun c2 => ?_) (fun c2 => ?_)
    · have hf := ift c2 hf
      refine lv_iconst (v := 1) hx hb dX9_isMark_54 (by decide) ?_
      refine lv_goto (tgt := 59) hx hb dX9_isMark_55 (by decide) ?_
      obtain rfl := Option.some.inj hf
      exact retZ C0 hP hD hS rfl rfl dX9_isMark_59
    · have hf := iff_ c2 hf
      refine lv_iload_n hx hb dX9_isMark_12 rfl (lv_at hl 0 rfl) ?_
      refine lv_bipush (v := 41) hx hb dX9_isMark_13 (by decide) ?_
      refine lv_icmp_eq (tgt := 54) hx hb dX9_isMark_15 (by decide) (fun c3 => ?_) (fun c3 => ?_)
      · have hf := ift c3 hf
        refine lv_iconst (v := 1) hx hb dX9_isMark_54 (by decide) ?_
        refine lv_goto (tgt := 59) hx hb dX9_isMark_55 (by decide) ?_
        obtain rfl := Option.some.inj hf
        exact retZ C0 hP hD hS rfl rfl dX9_isMark_59
      · have hf := iff_ c3 hf
        refine lv_iload_n hx hb dX9_isMark_18 rfl (lv_at hl 0 rfl) ?_
        refine lv_bipush (v := 43) hx hb dX9_isMark_19 (by decide) ?_
        refine lv_icmp_eq (tgt := 54) hx hb dX9_isMark_21 (by decide) (fun c4 => ?_) (fun c4 => ?_)
        · have hf := ift c4 hf
          refine lv_iconst (v := 1) hx hb dX9_isMark_54 (by decide) ?_
          refine lv_goto (tgt := 59) hx hb dX9_isMark_55 (by decide) ?_
          obtain rfl := Option.some.inj hf
          exact retZ C0 hP hD hS rfl rfl dX9_isMark_59
        · have hf := iff_ c4 hf
          refine lv_iload_n hx hb dX9_isMark_24 rfl (lv_at hl 0 rfl) ?_
          refine lv_bipush (v := 45) hx hb dX9_isMark_25 (by decide) ?_
          refine lv_icmp_eq (tgt := 54) hx hb dX9_isMark_27 (by decide) (fun c5 => ?_) (fun c5 => ?_)
          · have hf := ift c5 hf
            refine lv_iconst (v := 1) hx hb dX9_isMark_54 (by decide) ?_
            refine lv_goto (tgt := 59) hx hb dX9_isMark_55 (by decide) ?_
            obtain rfl := Option.some.inj hf
            exact retZ C0 hP hD hS rfl rfl dX9_isMark_59
          · have hf := iff_ c5 hf
            refine lv_iload_n hx hb dX9_isMark_30 rfl (lv_at hl 0 rfl) ?_
            refine lv_bipush (v := 42) hx hb dX9_isMark_31 (by decide) ?_
            refine lv_icmp_eq (tgt := 54) hx hb dX9_isMark_33 (by decide) (fun c6 => ?_) (fun c6 => ?_)
            · have hf := ift c6 hf
              refine lv_iconst (v := 1) hx hb dX9_isMark_54 (by decide) ?_
              refine lv_goto (tgt := 59) hx hb dX9_isMark_55 (by decide) ?_
              obtain rfl := Option.some.inj hf
              exact retZ C0 hP hD hS rfl rfl dX9_isMark_59
            · have hf := iff_ c6 hf
              refine lv_iload_n hx hb dX9_isMark_36 rfl (lv_at hl 0 rfl) ?_
              refine lv_bipush (v := 47) hx hb dX9_isMark_37 (by decide) ?_
              refine lv_icmp_eq (tgt := 54) hx hb dX9_isMark_39 (by decide) (fun c7 => ?_) (fun c7 => ?_)
              · have hf := ift c7 hf
                refine lv_iconst (v := 1) hx hb dX9_isMark_54 (by decide) ?_
                refine lv_goto (tgt := 59) hx hb dX9_isMark_55 (by decide) ?_
                obtain rfl := Option.some.inj hf
                exact retZ C0 hP hD hS rfl rfl dX9_isMark_59
              · have hf := iff_ c7 hf
                refine lv_iload_n hx hb dX9_isMark_42 rfl (lv_at hl 0 rfl) ?_
                refine lv_bipush (v := 60) hx hb dX9_isMark_43 (by decide) ?_
                refine lv_icmp_eq (tgt := 54) hx hb dX9_isMark_45 (by decide) (fun c8 => ?_) (fun c8 => ?_)
                · have hf := ift c8 hf
                  refine lv_iconst (v := 1) hx hb dX9_isMark_54 (by decide) ?_
                  refine lv_goto (tgt := 59) hx hb dX9_isMark_55 (by decide) ?_
                  obtain rfl := Option.some.inj hf
                  exact retZ C0 hP hD hS rfl rfl dX9_isMark_59
                · have hf := iff_ c8 hf
                  refine lv_iload_n hx hb dX9_isMark_48 rfl (lv_at hl 0 rfl) ?_
                  refine lv_bipush (v := 61) hx hb dX9_isMark_49 (by decide) ?_
                  refine lv_icmp_ne (tgt := 58) hx hb dX9_isMark_51 (by decide) (fun c9 => ?_) (fun c9 => ?_)
                  · have hf := iff_ c9 hf
                    refine lv_iconst (v := 0) hx hb dX9_isMark_58 (by decide) ?_
                    obtain rfl := Option.some.inj hf
                    exact retZ C0 hP hD hS rfl rfl dX9_isMark_59
                  · have hf := ift c9 hf
                    refine lv_iconst (v := 1) hx hb dX9_isMark_54 (by decide) ?_
                    refine lv_goto (tgt := 59) hx hb dX9_isMark_55 (by decide) ?_
                    obtain rfl := Option.some.inj hf
                    exact retZ C0 hP hD hS rfl rfl dX9_isMark_59
theorem mX9_isMark (l : Launch) (dC : Nat → ClassId) (dI : Nat → Nat → Nat) (cc : Nat → ClassId)  (sz : Nat)  (p0 : Int32) {out : Int32} (hf : fX9_isMark p0 = some out) : Met l yX9_isMark (Cond.code yX9_isMark cX9_isMark 1 (some .boolean) :: GW) rmX9_isMark (PI dC dI cc [.int p0] [] sz) (QI dC dI cc out [] (va_A [] sz)) 0 0 (va_A [] sz) :=
  met_of (Q := fun A => QI dC dI cc out [] A) (by decide) rfl (Nat.le_of_ble_eq_true rfl) (fun p e s m below meth c A C0 hP hD hS ls hl => bX9_isMark C0 p0 hf hP hD hS hl)
abbrev rmX9_stepOn : Room := { frames := 1, cells := 0, slots := 0, locals := 21 }
def lX9_stepOn_0 (ke0_39 : Int32 → Option (Int32 × Int32 × Int32 × Int32 × Int32))  (M_size : Int32) (M_tape : Nat → Int32) : Nat → Int32 → Option (Int32 × Int32 × Int32 × Int32 × Int32)
  | 0, _ => none
  | n+1, M_at =>
    (fX9_byteAt M_size M_tape M_at).bind fun v5 =>
    if v5 = 32 then
      lX9_stepOn_0 ke0_39 M_size M_tape n (M_at + (1 : Int32))
    else
      (fX9_byteAt M_size M_tape M_at).bind fun v8 =>
      if v8 = 10 then
        lX9_stepOn_0 ke0_39 M_size M_tape n (M_at + (1 : Int32))
      else
        ke0_39 M_at
set_option maxHeartbeats 4000000 in
set_option maxRecDepth 100000 in
theorem wlX9_stepOn_0 {p : Program} {l : Launch} {e : Env} {s : State} {m : MethodId} {args : Array Value} {below : List Frame} {meth : Method} {c : Code} {A : Nat → Prop} {dC : Nat → ClassId} {dI : Nat → Nat → Nat} {cc : Nat → ClassId} (C0 : CT p s m args meth c A dC dI cc cX9_stepOn 2 none RX9) (oM : Nat) (aM : Nat → Nat) (M_values : Int32) (M_code : Int32) (M_taped : Int32) (M_size : Int32) (M_token : Int32) (M_number : Int32) (M_begins : Int32) (M_stops : Int32) (M_bad : Int32) (M_badPlace : Int32) (M_faultPlace : Int32) (M_ofVoting : Int32) (M_hour : Int32) (M_oil : Int32) (M_weight : Int32) (M_spider : Int32) (M_treasury : Int32) (M_joy : Int32) (M_passed : Int32) (M_acts : Int32) (M_seen : Int32) (M_never : Int32) (M_said : Int32) (M_hoarse : Int32) (M_fitMany : Int32) (M_seedNow : Int32) (M_hasImage : Int32) (M_actsThen : Int32) (M_seenThen : Int32) (M_tape : Nat → Int32)  {out : Int32 × Int32 × Int32 × Int32 × Int32} (ke0_39 : Int32 → Option (Int32 × Int32 × Int32 × Int32 × Int32)) (hke0_39 : ∀ (M_at' : Int32), ke0_39 M_at' = some out → ∀ (H : Heap) (locs : List Loc), va_P (dC, dI) cLs [(oM, .inr (9, mkX9 aM M_values M_code M_taped M_at' M_size M_token M_number M_begins M_stops M_bad M_badPlace M_faultPlace M_ofVoting M_hour M_oil M_weight M_spider M_treasury M_joy M_passed M_acts M_seen M_never M_said M_hoarse M_fitMany M_seedNow M_hasImage M_actsThen M_seenThen)), ((aM 16), .inl (cc 0, 700, .inl M_tape))] H → va_D A [(oM, .inr (9, mkX9 aM M_values M_code M_taped M_at' M_size M_token M_number M_begins M_stops M_bad M_badPlace M_faultPlace M_ofVoting M_hour M_oil M_weight M_spider M_treasury M_joy M_passed M_acts M_seen M_never M_said M_hoarse M_fitMany M_seedNow M_hasImage M_actsThen M_seenThen)), ((aM 16), .inl (cc 0, 700, .inl M_tape))] → va_S A s.heap H locs → ∀ ls : Array Slot, lv_has ls 2 [(0, .ref oM)] → W p l e rmX9_stepOn s m args below meth c H locs 0 0 (MQ below (QV dC dI cc [(oM, .inr (9, mkX9 aM M_values M_code M_taped out.1 M_size out.2.1 out.2.2.1 out.2.2.2.1 out.2.2.2.2 M_bad M_badPlace M_faultPlace M_ofVoting M_hour M_oil M_weight M_spider M_treasury M_joy M_passed M_acts M_seen M_never M_said M_hoarse M_fitMany M_seedNow M_hasImage M_actsThen M_seenThen)), ((aM 16), .inl (cc 0, 700, .inl M_tape))] A) args s 0 0 A) (F0 m 39 ls [])) : ∀ (n : Nat) (M_at : Int32) (hf : lX9_stepOn_0 ke0_39 M_size M_tape n M_at = some out) (H : Heap) (locs : List Loc) (hP : va_P (dC, dI) cLs [(oM, .inr (9, mkX9 aM M_values M_code M_taped M_at M_size M_token M_number M_begins M_stops M_bad M_badPlace M_faultPlace M_ofVoting M_hour M_oil M_weight M_spider M_treasury M_joy M_passed M_acts M_seen M_never M_said M_hoarse M_fitMany M_seedNow M_hasImage M_actsThen M_seenThen)), ((aM 16), .inl (cc 0, 700, .inl M_tape))] H) (hD : va_D A [(oM, .inr (9, mkX9 aM M_values M_code M_taped M_at M_size M_token M_number M_begins M_stops M_bad M_badPlace M_faultPlace M_ofVoting M_hour M_oil M_weight M_spider M_treasury M_joy M_passed M_acts M_seen M_never M_said M_hoarse M_fitMany M_seedNow M_hasImage M_actsThen M_seenThen)), ((aM 16), .inl (cc 0, 700, .inl M_tape))]) (hS : va_S A s.heap H locs) (ls : Array Slot) (hl : lv_has ls 2 [(0, .ref oM)]), W p l e rmX9_stepOn s m args below meth c H locs 0 0 (MQ below (QV dC dI cc [(oM, .inr (9, mkX9 aM M_values M_code M_taped out.1 M_size out.2.1 out.2.2.1 out.2.2.2.1 out.2.2.2.2 M_bad M_badPlace M_faultPlace M_ofVoting M_hour M_oil M_weight M_spider M_treasury M_joy M_passed M_acts M_seen M_never M_said M_hoarse M_fitMany M_seedNow M_hasImage M_actsThen M_seenThen)), ((aM 16), .inl (cc 0, 700, .inl M_tape))] A) args s 0 0 A) (F0 m 0 ls []) := by
  obtain ⟨hx, hb, hml, hr, hlocks, hown, hG, hK, hA⟩ := id C0
  intro n
  induction n with
  | zero => intro M_at hf; cases hf
  | succ n ih =>
    intro M_at hf H locs hP hD hS ls hl
    unfold lX9_stepOn_0 at hf
    refine lv_aload_n hx hb dX9_stepOn_0 rfl (lv_at hl 0 rfl) ?_
    refine lv_aload_n hx hb dX9_stepOn_1 rfl (lv_at hl 0 rfl) ?_
    refine va_get (D := (dC, dI)) (ci := 9) (v := .int M_at) (C := RX9) (T := TX9) (N := 63) hx hb hG kinX9 hown hK hP 0 rfl rfl 18 (by decide) (hG _ kfX9_165) (fun _ h9 => h9) rfl dX9_stepOn_2 ?_
    refine bd_el hf (fun v5 hv5 hf => ?_)
    refine callVi (As := [.int M_at]) (rest := []) (wr := []) (wn := [(oM, .inr (9, mkX9 aM M_values M_code M_taped M_at M_size M_token M_number M_begins M_stops M_bad M_badPlace M_faultPlace M_ofVoting M_hour M_oil M_weight M_spider M_treasury M_joy M_passed M_acts M_seen M_never M_said M_hoarse M_fitMany M_seedNow M_hasImage M_actsThen M_seenThen)), ((aM 16), .inl (cc 0, 700, .inl M_tape))]) C0 kvX9_byteAt kmX9_168 hP hD hS (mX9_byteAt l dC dI cc oM aM _ M_values M_code M_taped M_at M_size M_token M_number M_begins M_stops M_bad M_badPlace M_faultPlace M_ofVoting M_hour M_oil M_weight M_spider M_treasury M_joy M_passed M_acts M_seen M_never M_said M_hoarse M_fitMany M_seedNow M_hasImage M_actsThen M_seenThen M_tape M_at hv5) ⟨rfl, rfl⟩ ⟨Nat.le_of_ble_eq_true rfl, Nat.le_of_ble_eq_true rfl⟩ [0, 1] [] [0, 1] rfl rfl rfl rfl (ci := 9) rfl rfl 0 rfl rfl hl.1 rfl (Nat.le_of_ble_eq_true rfl) ⟨Nat.zero_le _, Nat.zero_le _⟩ dX9_stepOn_5 (fun H locs hP hD hS => ?_)
    refine lv_bipush (v := 32) hx hb dX9_stepOn_8 (by decide) ?_
    refine lv_icmp_eq (tgt := 26) hx hb dX9_stepOn_10 (by decide) (fun c6 => ?_) (fun c6 => ?_)
    · have hf := ift c6 hf
      refine lv_aload_n hx hb dX9_stepOn_26 rfl (lv_at hl 0 rfl) ?_
      refine lv_dup hx hb dX9_stepOn_27 rfl ?_
      refine va_get (D := (dC, dI)) (ci := 9) (v := .int M_at) (C := RX9) (T := TX9) (N := 63) hx hb hG kinX9 hown hK hP 0 rfl rfl 18 (by decide) (hG _ kfX9_165) (fun _ h9 => h9) rfl dX9_stepOn_28 ?_
      refine lv_iconst (v := 1) hx hb dX9_stepOn_31 (by decide) ?_
      refine lv_iadd hx hb dX9_stepOn_32 ?_
      refine va_put (D := (dC, dI)) (ci := 9) (v := .int (M_at + (1 : Int32))) (ty := .int) (C := RX9) (T := TX9) (N := 63) hx hb hG kinX9 tyX9 tyX9_ok nmX9 hown hK hP hD hS 0 rfl rfl 18 (by decide) (hG _ kfX9_165) (fun _ h9 => h9) rfl (by decide +kernel) rfl rfl (Nat.le_of_ble_eq_true rfl) dX9_stepOn_33 (fun H locs hP hD hS => ?_)
      have hP : va_P (dC, dI) cLs [(oM, .inr (9, mkX9 aM M_values M_code M_taped (M_at + (1 : Int32)) M_size M_token M_number M_begins M_stops M_bad M_badPlace M_faultPlace M_ofVoting M_hour M_oil M_weight M_spider M_treasury M_joy M_passed M_acts M_seen M_never M_said M_hoarse M_fitMany M_seedNow M_hasImage M_actsThen M_seenThen)), ((aM 16), .inl (cc 0, 700, .inl M_tape))] _ := hP
      have hD : va_D A [(oM, .inr (9, mkX9 aM M_values M_code M_taped (M_at + (1 : Int32)) M_size M_token M_number M_begins M_stops M_bad M_badPlace M_faultPlace M_ofVoting M_hour M_oil M_weight M_spider M_treasury M_joy M_passed M_acts M_seen M_never M_said M_hoarse M_fitMany M_seedNow M_hasImage M_actsThen M_seenThen)), ((aM 16), .inl (cc 0, 700, .inl M_tape))] := hD
      refine lv_goto (tgt := 0) hx hb dX9_stepOn_36 (by decide) ?_
      exact ih (M_at + (1 : Int32)) hf _ _ hP hD hS _ (lv_sub hl [0] rfl)
    · have hf := iff_ c6 hf
      refine lv_aload_n hx hb dX9_stepOn_13 rfl (lv_at hl 0 rfl) ?_
      refine lv_aload_n hx hb dX9_stepOn_14 rfl (lv_at hl 0 rfl) ?_
      refine va_get (D := (dC, dI)) (ci := 9) (v := .int M_at) (C := RX9) (T := TX9) (N := 63) hx hb hG kinX9 hown hK hP 0 rfl rfl 18 (by decide) (hG _ kfX9_165) (fun _ h9 => h9) rfl dX9_stepOn_15 ?_
      refine bd_el hf (fun v8 hv8 hf => ?_)
      refine callVi (As := [.int M_at]) (rest := []) (wr := []) (wn := [(oM, .inr (9, mkX9 aM M_values M_code M_taped M_at M_size M_token M_number M_begins M_stops M_bad M_badPlace M_faultPlace M_ofVoting M_hour M_oil M_weight M_spider M_treasury M_joy M_passed M_acts M_seen M_never M_said M_hoarse M_fitMany M_seedNow M_hasImage M_actsThen M_seenThen)), ((aM 16), .inl (cc 0, 700, .inl M_tape))]) C0 kvX9_byteAt kmX9_168 hP hD hS (mX9_byteAt l dC dI cc oM aM _ M_values M_code M_taped M_at M_size M_token M_number M_begins M_stops M_bad M_badPlace M_faultPlace M_ofVoting M_hour M_oil M_weight M_spider M_treasury M_joy M_passed M_acts M_seen M_never M_said M_hoarse M_fitMany M_seedNow M_hasImage M_actsThen M_seenThen M_tape M_at hv8) ⟨rfl, rfl⟩ ⟨Nat.le_of_ble_eq_true rfl, Nat.le_of_ble_eq_true rfl⟩ [0, 1] [] [0, 1] rfl rfl rfl rfl (ci := 9) rfl rfl 0 rfl rfl hl.1 rfl (Nat.le_of_ble_eq_true rfl) ⟨Nat.zero_le _, Nat.zero_le _⟩ dX9_stepOn_18 (fun H locs hP hD hS => ?_)
      refine lv_bipush (v := 10) hx hb dX9_stepOn_21 (by decide) ?_
      refine lv_icmp_ne (tgt := 39) hx hb dX9_stepOn_23 (by decide) (fun c9 => ?_) (fun c9 => ?_)
      · have hf := iff_ c9 hf
        exact hke0_39 M_at hf _ _ hP hD hS _ (lv_sub hl [0] rfl)
      · have hf := ift c9 hf
        refine lv_aload_n hx hb dX9_stepOn_26 rfl (lv_at hl 0 rfl) ?_
        refine lv_dup hx hb dX9_stepOn_27 rfl ?_
        refine va_get (D := (dC, dI)) (ci := 9) (v := .int M_at) (C := RX9) (T := TX9) (N := 63) hx hb hG kinX9 hown hK hP 0 rfl rfl 18 (by decide) (hG _ kfX9_165) (fun _ h9 => h9) rfl dX9_stepOn_28 ?_
        refine lv_iconst (v := 1) hx hb dX9_stepOn_31 (by decide) ?_
        refine lv_iadd hx hb dX9_stepOn_32 ?_
        refine va_put (D := (dC, dI)) (ci := 9) (v := .int (M_at + (1 : Int32))) (ty := .int) (C := RX9) (T := TX9) (N := 63) hx hb hG kinX9 tyX9 tyX9_ok nmX9 hown hK hP hD hS 0 rfl rfl 18 (by decide) (hG _ kfX9_165) (fun _ h9 => h9) rfl (by decide +kernel) rfl rfl (Nat.le_of_ble_eq_true rfl) dX9_stepOn_33 (fun H locs hP hD hS => ?_)
        have hP : va_P (dC, dI) cLs [(oM, .inr (9, mkX9 aM M_values M_code M_taped (M_at + (1 : Int32)) M_size M_token M_number M_begins M_stops M_bad M_badPlace M_faultPlace M_ofVoting M_hour M_oil M_weight M_spider M_treasury M_joy M_passed M_acts M_seen M_never M_said M_hoarse M_fitMany M_seedNow M_hasImage M_actsThen M_seenThen)), ((aM 16), .inl (cc 0, 700, .inl M_tape))] _ := hP
        have hD : va_D A [(oM, .inr (9, mkX9 aM M_values M_code M_taped (M_at + (1 : Int32)) M_size M_token M_number M_begins M_stops M_bad M_badPlace M_faultPlace M_ofVoting M_hour M_oil M_weight M_spider M_treasury M_joy M_passed M_acts M_seen M_never M_said M_hoarse M_fitMany M_seedNow M_hasImage M_actsThen M_seenThen)), ((aM 16), .inl (cc 0, 700, .inl M_tape))] := hD
        refine lv_goto (tgt := 0) hx hb dX9_stepOn_36 (by decide) ?_
        exact ih (M_at + (1 : Int32)) hf _ _ hP hD hS _ (lv_sub hl [0] rfl)
def lX9_stepOn_123 (ke123_178 : Int32 → Int32 → Option (Int32 × Int32 × Int32 × Int32 × Int32))  (M_size : Int32) (M_tape : Nat → Int32) : Nat → Int32 → Int32 → Option (Int32 × Int32 × Int32 × Int32 × Int32)
  | 0, _, _ => none
  | n+1, M_at, M_number =>
    (fX9_byteAt M_size M_tape M_at).bind fun v24 =>
    (fX9_isDigit v24).bind fun v26 =>
    if v26 = 0 then
      ke123_178 M_at M_number
    else
      (fX9_byteAt M_size M_tape M_at).bind fun v29 =>
      lX9_stepOn_123 ke123_178 M_size M_tape n (M_at + (1 : Int32)) (if ((((10 : Int32) * M_number) + v29) - (48 : Int32)) < 100000 then ((((10 : Int32) * M_number) + v29) - (48 : Int32)) else 100000)
set_option maxHeartbeats 4000000 in
set_option maxRecDepth 100000 in
theorem wlX9_stepOn_123 {p : Program} {l : Launch} {e : Env} {s : State} {m : MethodId} {args : Array Value} {below : List Frame} {meth : Method} {c : Code} {A : Nat → Prop} {dC : Nat → ClassId} {dI : Nat → Nat → Nat} {cc : Nat → ClassId} (C0 : CT p s m args meth c A dC dI cc cX9_stepOn 2 none RX9) (oM : Nat) (aM : Nat → Nat) (M_values : Int32) (M_code : Int32) (M_taped : Int32) (M_size : Int32) (M_token : Int32) (M_begins : Int32) (M_stops : Int32) (M_bad : Int32) (M_badPlace : Int32) (M_faultPlace : Int32) (M_ofVoting : Int32) (M_hour : Int32) (M_oil : Int32) (M_weight : Int32) (M_spider : Int32) (M_treasury : Int32) (M_joy : Int32) (M_passed : Int32) (M_acts : Int32) (M_seen : Int32) (M_never : Int32) (M_said : Int32) (M_hoarse : Int32) (M_fitMany : Int32) (M_seedNow : Int32) (M_hasImage : Int32) (M_actsThen : Int32) (M_seenThen : Int32) (M_tape : Nat → Int32)  {out : Int32 × Int32 × Int32 × Int32 × Int32} (ke123_178 : Int32 → Int32 → Option (Int32 × Int32 × Int32 × Int32 × Int32)) (hke123_178 : ∀ (M_at' : Int32) (M_number' : Int32), ke123_178 M_at' M_number' = some out → ∀ (H : Heap) (locs : List Loc), va_P (dC, dI) cLs [(oM, .inr (9, mkX9 aM M_values M_code M_taped M_at' M_size M_token M_number' M_begins M_stops M_bad M_badPlace M_faultPlace M_ofVoting M_hour M_oil M_weight M_spider M_treasury M_joy M_passed M_acts M_seen M_never M_said M_hoarse M_fitMany M_seedNow M_hasImage M_actsThen M_seenThen)), ((aM 16), .inl (cc 0, 700, .inl M_tape))] H → va_D A [(oM, .inr (9, mkX9 aM M_values M_code M_taped M_at' M_size M_token M_number' M_begins M_stops M_bad M_badPlace M_faultPlace M_ofVoting M_hour M_oil M_weight M_spider M_treasury M_joy M_passed M_acts M_seen M_never M_said M_hoarse M_fitMany M_seedNow M_hasImage M_actsThen M_seenThen)), ((aM 16), .inl (cc 0, 700, .inl M_tape))] → va_S A s.heap H locs → ∀ ls : Array Slot, lv_has ls 2 [(0, .ref oM)] → W p l e rmX9_stepOn s m args below meth c H locs 0 0 (MQ below (QV dC dI cc [(oM, .inr (9, mkX9 aM M_values M_code M_taped out.1 M_size out.2.1 out.2.2.1 out.2.2.2.1 out.2.2.2.2 M_bad M_badPlace M_faultPlace M_ofVoting M_hour M_oil M_weight M_spider M_treasury M_joy M_passed M_acts M_seen M_never M_said M_hoarse M_fitMany M_seedNow M_hasImage M_actsThen M_seenThen)), ((aM 16), .inl (cc 0, 700, .inl M_tape))] A) args s 0 0 A) (F0 m 178 ls [])) : ∀ (n : Nat) (M_at : Int32) (M_number : Int32) (hf : lX9_stepOn_123 ke123_178 M_size M_tape n M_at M_number = some out) (H : Heap) (locs : List Loc) (hP : va_P (dC, dI) cLs [(oM, .inr (9, mkX9 aM M_values M_code M_taped M_at M_size M_token M_number M_begins M_stops M_bad M_badPlace M_faultPlace M_ofVoting M_hour M_oil M_weight M_spider M_treasury M_joy M_passed M_acts M_seen M_never M_said M_hoarse M_fitMany M_seedNow M_hasImage M_actsThen M_seenThen)), ((aM 16), .inl (cc 0, 700, .inl M_tape))] H) (hD : va_D A [(oM, .inr (9, mkX9 aM M_values M_code M_taped M_at M_size M_token M_number M_begins M_stops M_bad M_badPlace M_faultPlace M_ofVoting M_hour M_oil M_weight M_spider M_treasury M_joy M_passed M_acts M_seen M_never M_said M_hoarse M_fitMany M_seedNow M_hasImage M_actsThen M_seenThen)), ((aM 16), .inl (cc 0, 700, .inl M_tape))]) (hS : va_S A s.heap H locs) (ls : Array Slot) (hl : lv_has ls 2 [(0, .ref oM)]), W p l e rmX9_stepOn s m args below meth c H locs 0 0 (MQ below (QV dC dI cc [(oM, .inr (9, mkX9 aM M_values M_code M_taped out.1 M_size out.2.1 out.2.2.1 out.2.2.2.1 out.2.2.2.2 M_bad M_badPlace M_faultPlace M_ofVoting M_hour M_oil M_weight M_spider M_treasury M_joy M_passed M_acts M_seen M_never M_said M_hoarse M_fitMany M_seedNow M_hasImage M_actsThen M_seenThen)), ((aM 16), .inl (cc 0, 700, .inl M_tape))] A) args s 0 0 A) (F0 m 123 ls []) := by
  obtain ⟨hx, hb, hml, hr, hlocks, hown, hG, hK, hA⟩ := id C0
  intro n
  induction n with
  | zero => intro M_at M_number hf; cases hf
  | succ n ih =>
    intro M_at M_number hf H locs hP hD hS ls hl
    unfold lX9_stepOn_123 at hf
    refine lv_aload_n hx hb dX9_stepOn_123 rfl (lv_at hl 0 rfl) ?_
    refine lv_aload_n hx hb dX9_stepOn_124 rfl (lv_at hl 0 rfl) ?_
    refine va_get (D := (dC, dI)) (ci := 9) (v := .int M_at) (C := RX9) (T := TX9) (N := 63) hx hb hG kinX9 hown hK hP 0 rfl rfl 18 (by decide) (hG _ kfX9_165) (fun _ h9 => h9) rfl dX9_stepOn_125 ?_
    refine bd_el hf (fun v24 hv24 hf => ?_)
    refine callVi (As := [.int M_at]) (rest := []) (wr := []) (wn := [(oM, .inr (9, mkX9 aM M_values M_code M_taped M_at M_size M_token M_number M_begins M_stops M_bad M_badPlace M_faultPlace M_ofVoting M_hour M_oil M_weight M_spider M_treasury M_joy M_passed M_acts M_seen M_never M_said M_hoarse M_fitMany M_seedNow M_hasImage M_actsThen M_seenThen)), ((aM 16), .inl (cc 0, 700, .inl M_tape))]) C0 kvX9_byteAt kmX9_168 hP hD hS (mX9_byteAt l dC dI cc oM aM _ M_values M_code M_taped M_at M_size M_token M_number M_begins M_stops M_bad M_badPlace M_faultPlace M_ofVoting M_hour M_oil M_weight M_spider M_treasury M_joy M_passed M_acts M_seen M_never M_said M_hoarse M_fitMany M_seedNow M_hasImage M_actsThen M_seenThen M_tape M_at hv24) ⟨rfl, rfl⟩ ⟨Nat.le_of_ble_eq_true rfl, Nat.le_of_ble_eq_true rfl⟩ [0, 1] [] [0, 1] rfl rfl rfl rfl (ci := 9) rfl rfl 0 rfl rfl hl.1 rfl (Nat.le_of_ble_eq_true rfl) ⟨Nat.zero_le _, Nat.zero_le _⟩ dX9_stepOn_128 (fun H locs hP hD hS => ?_)
    refine bd_el hf (fun v26 hv26 hf => ?_)
    refine callSi (As := [.int v24]) (rest := []) (wr := [(oM, .inr (9, mkX9 aM M_values M_code M_taped M_at M_size M_token M_number M_begins M_stops M_bad M_badPlace M_faultPlace M_ofVoting M_hour M_oil M_weight M_spider M_treasury M_joy M_passed M_acts M_seen M_never M_said M_hoarse M_fitMany M_seedNow M_hasImage M_actsThen M_seenThen)), ((aM 16), .inl (cc 0, 700, .inl M_tape))]) (wn := [(oM, .inr (9, mkX9 aM M_values M_code M_taped M_at M_size M_token M_number M_begins M_stops M_bad M_badPlace M_faultPlace M_ofVoting M_hour M_oil M_weight M_spider M_treasury M_joy M_passed M_acts M_seen M_never M_said M_hoarse M_fitMany M_seedNow M_hasImage M_actsThen M_seenThen)), ((aM 16), .inl (cc 0, 700, .inl M_tape))]) C0 ksX9_isDigit kmX9_182 hP hD hS (mX9_isDigit l dC dI cc  _ v24 hv26) ⟨rfl, rfl⟩ ⟨Nat.le_of_ble_eq_true rfl, Nat.le_of_ble_eq_true rfl⟩ [] [0, 1] [0, 1] rfl rfl rfl rfl rfl hl.1 rfl (Nat.le_of_ble_eq_true rfl) ⟨Nat.zero_le _, Nat.zero_le _⟩ dX9_stepOn_131 (fun H locs hP hD hS => ?_)
    refine lv_if_eq (tgt := 178) hx hb dX9_stepOn_134 (by decide) (fun c27 => ?_) (fun c27 => ?_)
    · have hf := ift c27 hf
      exact hke123_178 M_at M_number hf _ _ hP hD hS _ (lv_sub hl [0] rfl)
    · have hf := iff_ c27 hf
      refine lv_aload_n hx hb dX9_stepOn_137 rfl (lv_at hl 0 rfl) ?_
      refine lv_ldc hx hb hown (hG _ kcX9_188) dX9_stepOn_138 ?_
      refine lv_bipush (v := 10) hx hb dX9_stepOn_140 (by decide) ?_
      refine lv_aload_n hx hb dX9_stepOn_142 rfl (lv_at hl 0 rfl) ?_
      refine va_get (D := (dC, dI)) (ci := 9) (v := .int M_number) (C := RX9) (T := TX9) (N := 63) hx hb hG kinX9 hown hK hP 0 rfl rfl 21 (by decide) (hG _ kfX9_185) (fun _ h9 => h9) rfl dX9_stepOn_143 ?_
      refine lv_imul hx hb dX9_stepOn_146 ?_
      refine lv_aload_n hx hb dX9_stepOn_147 rfl (lv_at hl 0 rfl) ?_
      refine lv_aload_n hx hb dX9_stepOn_148 rfl (lv_at hl 0 rfl) ?_
      refine va_get (D := (dC, dI)) (ci := 9) (v := .int M_at) (C := RX9) (T := TX9) (N := 63) hx hb hG kinX9 hown hK hP 0 rfl rfl 18 (by decide) (hG _ kfX9_165) (fun _ h9 => h9) rfl dX9_stepOn_149 ?_
      refine bd_el hf (fun v29 hv29 hf => ?_)
      refine callVi (As := [.int M_at]) (rest := [.int ((10 : Int32) * M_number), .int 100000, .ref oM]) (wr := []) (wn := [(oM, .inr (9, mkX9 aM M_values M_code M_taped M_at M_size M_token M_number M_begins M_stops M_bad M_badPlace M_faultPlace M_ofVoting M_hour M_oil M_weight M_spider M_treasury M_joy M_passed M_acts M_seen M_never M_said M_hoarse M_fitMany M_seedNow M_hasImage M_actsThen M_seenThen)), ((aM 16), .inl (cc 0, 700, .inl M_tape))]) C0 kvX9_byteAt kmX9_168 hP hD hS (mX9_byteAt l dC dI cc oM aM _ M_values M_code M_taped M_at M_size M_token M_number M_begins M_stops M_bad M_badPlace M_faultPlace M_ofVoting M_hour M_oil M_weight M_spider M_treasury M_joy M_passed M_acts M_seen M_never M_said M_hoarse M_fitMany M_seedNow M_hasImage M_actsThen M_seenThen M_tape M_at hv29) ⟨rfl, rfl⟩ ⟨Nat.le_of_ble_eq_true rfl, Nat.le_of_ble_eq_true rfl⟩ [0, 1] [] [0, 1] rfl rfl rfl rfl (ci := 9) rfl rfl 0 rfl rfl hl.1 rfl (Nat.le_of_ble_eq_true rfl) ⟨Nat.zero_le _, Nat.zero_le _⟩ dX9_stepOn_152 (fun H locs hP hD hS => ?_)
      refine lv_iadd hx hb dX9_stepOn_155 ?_
      refine lv_bipush (v := 48) hx hb dX9_stepOn_156 (by decide) ?_
      refine lv_isub hx hb dX9_stepOn_158 ?_
      refine va_mmin hx hb (hml.trans hl.1.symm) hown (hG _ kmX9_189) (hG _ k_min_s) (hG _ k_math_i) (hG _ k_min_c) (Nat.le_of_ble_eq_true rfl) (Nat.le_of_ble_eq_true rfl) (Nat.le_of_ble_eq_true rfl) (Nat.le_of_ble_eq_true rfl) dX9_stepOn_159 ?_
      refine va_put (D := (dC, dI)) (ci := 9) (v := .int (if ((((10 : Int32) * M_number) + v29) - (48 : Int32)) < 100000 then ((((10 : Int32) * M_number) + v29) - (48 : Int32)) else 100000)) (ty := .int) (C := RX9) (T := TX9) (N := 63) hx hb hG kinX9 tyX9 tyX9_ok nmX9 hown hK hP hD hS 0 rfl rfl 21 (by decide) (hG _ kfX9_185) (fun _ h9 => h9) rfl (by decide +kernel) rfl rfl (Nat.le_of_ble_eq_true rfl) dX9_stepOn_162 (fun H locs hP hD hS => ?_)
      have hP : va_P (dC, dI) cLs [(oM, .inr (9, mkX9 aM M_values M_code M_taped M_at M_size M_token (if ((((10 : Int32) * M_number) + v29) - (48 : Int32)) < 100000 then ((((10 : Int32) * M_number) + v29) - (48 : Int32)) else 100000) M_begins M_stops M_bad M_badPlace M_faultPlace M_ofVoting M_hour M_oil M_weight M_spider M_treasury M_joy M_passed M_acts M_seen M_never M_said M_hoarse M_fitMany M_seedNow M_hasImage M_actsThen M_seenThen)), ((aM 16), .inl (cc 0, 700, .inl M_tape))] _ := hP
      have hD : va_D A [(oM, .inr (9, mkX9 aM M_values M_code M_taped M_at M_size M_token (if ((((10 : Int32) * M_number) + v29) - (48 : Int32)) < 100000 then ((((10 : Int32) * M_number) + v29) - (48 : Int32)) else 100000) M_begins M_stops M_bad M_badPlace M_faultPlace M_ofVoting M_hour M_oil M_weight M_spider M_treasury M_joy M_passed M_acts M_seen M_never M_said M_hoarse M_fitMany M_seedNow M_hasImage M_actsThen M_seenThen)), ((aM 16), .inl (cc 0, 700, .inl M_tape))] := hD
      refine lv_aload_n hx hb dX9_stepOn_165 rfl (lv_at hl 0 rfl) ?_
      refine lv_dup hx hb dX9_stepOn_166 rfl ?_
      refine va_get (D := (dC, dI)) (ci := 9) (v := .int M_at) (C := RX9) (T := TX9) (N := 63) hx hb hG kinX9 hown hK hP 0 rfl rfl 18 (by decide) (hG _ kfX9_165) (fun _ h9 => h9) rfl dX9_stepOn_167 ?_
      refine lv_iconst (v := 1) hx hb dX9_stepOn_170 (by decide) ?_
      refine lv_iadd hx hb dX9_stepOn_171 ?_
      refine va_put (D := (dC, dI)) (ci := 9) (v := .int (M_at + (1 : Int32))) (ty := .int) (C := RX9) (T := TX9) (N := 63) hx hb hG kinX9 tyX9 tyX9_ok nmX9 hown hK hP hD hS 0 rfl rfl 18 (by decide) (hG _ kfX9_165) (fun _ h9 => h9) rfl (by decide +kernel) rfl rfl (Nat.le_of_ble_eq_true rfl) dX9_stepOn_172 (fun H locs hP hD hS => ?_)
      have hP : va_P (dC, dI) cLs [(oM, .inr (9, mkX9 aM M_values M_code M_taped (M_at + (1 : Int32)) M_size M_token (if ((((10 : Int32) * M_number) + v29) - (48 : Int32)) < 100000 then ((((10 : Int32) * M_number) + v29) - (48 : Int32)) else 100000) M_begins M_stops M_bad M_badPlace M_faultPlace M_ofVoting M_hour M_oil M_weight M_spider M_treasury M_joy M_passed M_acts M_seen M_never M_said M_hoarse M_fitMany M_seedNow M_hasImage M_actsThen M_seenThen)), ((aM 16), .inl (cc 0, 700, .inl M_tape))] _ := hP
      have hD : va_D A [(oM, .inr (9, mkX9 aM M_values M_code M_taped (M_at + (1 : Int32)) M_size M_token (if ((((10 : Int32) * M_number) + v29) - (48 : Int32)) < 100000 then ((((10 : Int32) * M_number) + v29) - (48 : Int32)) else 100000) M_begins M_stops M_bad M_badPlace M_faultPlace M_ofVoting M_hour M_oil M_weight M_spider M_treasury M_joy M_passed M_acts M_seen M_never M_said M_hoarse M_fitMany M_seedNow M_hasImage M_actsThen M_seenThen)), ((aM 16), .inl (cc 0, 700, .inl M_tape))] := hD
      refine lv_goto (tgt := 123) hx hb dX9_stepOn_175 (by decide) ?_
      exact ih (M_at + (1 : Int32)) (if ((((10 : Int32) * M_number) + v29) - (48 : Int32)) < 100000 then ((((10 : Int32) * M_number) + v29) - (48 : Int32)) else 100000) hf _ _ hP hD hS _ (lv_sub hl [0] rfl)
def lX9_stepOn_76 (ke76_103 : Int32 → Option (Int32 × Int32 × Int32 × Int32 × Int32))  (M_size : Int32) (M_tape : Nat → Int32) : Nat → Int32 → Option (Int32 × Int32 × Int32 × Int32 × Int32)
  | 0, _ => none
  | n+1, M_at =>
    (fX9_byteAt M_size M_tape M_at).bind fun v33 =>
    (fX9_isLetter v33).bind fun v35 =>
    if v35 = 0 then
      ke76_103 M_at
    else
      lX9_stepOn_76 ke76_103 M_size M_tape n (M_at + (1 : Int32))
set_option maxHeartbeats 4000000 in
set_option maxRecDepth 100000 in
theorem wlX9_stepOn_76 {p : Program} {l : Launch} {e : Env} {s : State} {m : MethodId} {args : Array Value} {below : List Frame} {meth : Method} {c : Code} {A : Nat → Prop} {dC : Nat → ClassId} {dI : Nat → Nat → Nat} {cc : Nat → ClassId} (C0 : CT p s m args meth c A dC dI cc cX9_stepOn 2 none RX9) (oM : Nat) (aM : Nat → Nat) (M_values : Int32) (M_code : Int32) (M_taped : Int32) (M_size : Int32) (M_token : Int32) (M_number : Int32) (M_begins : Int32) (M_stops : Int32) (M_bad : Int32) (M_badPlace : Int32) (M_faultPlace : Int32) (M_ofVoting : Int32) (M_hour : Int32) (M_oil : Int32) (M_weight : Int32) (M_spider : Int32) (M_treasury : Int32) (M_joy : Int32) (M_passed : Int32) (M_acts : Int32) (M_seen : Int32) (M_never : Int32) (M_said : Int32) (M_hoarse : Int32) (M_fitMany : Int32) (M_seedNow : Int32) (M_hasImage : Int32) (M_actsThen : Int32) (M_seenThen : Int32) (M_tape : Nat → Int32)  {out : Int32 × Int32 × Int32 × Int32 × Int32} (ke76_103 : Int32 → Option (Int32 × Int32 × Int32 × Int32 × Int32)) (hke76_103 : ∀ (M_at' : Int32), ke76_103 M_at' = some out → ∀ (H : Heap) (locs : List Loc), va_P (dC, dI) cLs [(oM, .inr (9, mkX9 aM M_values M_code M_taped M_at' M_size M_token M_number M_begins M_stops M_bad M_badPlace M_faultPlace M_ofVoting M_hour M_oil M_weight M_spider M_treasury M_joy M_passed M_acts M_seen M_never M_said M_hoarse M_fitMany M_seedNow M_hasImage M_actsThen M_seenThen)), ((aM 16), .inl (cc 0, 700, .inl M_tape))] H → va_D A [(oM, .inr (9, mkX9 aM M_values M_code M_taped M_at' M_size M_token M_number M_begins M_stops M_bad M_badPlace M_faultPlace M_ofVoting M_hour M_oil M_weight M_spider M_treasury M_joy M_passed M_acts M_seen M_never M_said M_hoarse M_fitMany M_seedNow M_hasImage M_actsThen M_seenThen)), ((aM 16), .inl (cc 0, 700, .inl M_tape))] → va_S A s.heap H locs → ∀ ls : Array Slot, lv_has ls 2 [(0, .ref oM)] → W p l e rmX9_stepOn s m args below meth c H locs 0 0 (MQ below (QV dC dI cc [(oM, .inr (9, mkX9 aM M_values M_code M_taped out.1 M_size out.2.1 out.2.2.1 out.2.2.2.1 out.2.2.2.2 M_bad M_badPlace M_faultPlace M_ofVoting M_hour M_oil M_weight M_spider M_treasury M_joy M_passed M_acts M_seen M_never M_said M_hoarse M_fitMany M_seedNow M_hasImage M_actsThen M_seenThen)), ((aM 16), .inl (cc 0, 700, .inl M_tape))] A) args s 0 0 A) (F0 m 103 ls [])) : ∀ (n : Nat) (M_at : Int32) (hf : lX9_stepOn_76 ke76_103 M_size M_tape n M_at = some out) (H : Heap) (locs : List Loc) (hP : va_P (dC, dI) cLs [(oM, .inr (9, mkX9 aM M_values M_code M_taped M_at M_size M_token M_number M_begins M_stops M_bad M_badPlace M_faultPlace M_ofVoting M_hour M_oil M_weight M_spider M_treasury M_joy M_passed M_acts M_seen M_never M_said M_hoarse M_fitMany M_seedNow M_hasImage M_actsThen M_seenThen)), ((aM 16), .inl (cc 0, 700, .inl M_tape))] H) (hD : va_D A [(oM, .inr (9, mkX9 aM M_values M_code M_taped M_at M_size M_token M_number M_begins M_stops M_bad M_badPlace M_faultPlace M_ofVoting M_hour M_oil M_weight M_spider M_treasury M_joy M_passed M_acts M_seen M_never M_said M_hoarse M_fitMany M_seedNow M_hasImage M_actsThen M_seenThen)), ((aM 16), .inl (cc 0, 700, .inl M_tape))]) (hS : va_S A s.heap H locs) (ls : Array Slot) (hl : lv_has ls 2 [(0, .ref oM)]), W p l e rmX9_stepOn s m args below meth c H locs 0 0 (MQ below (QV dC dI cc [(oM, .inr (9, mkX9 aM M_values M_code M_taped out.1 M_size out.2.1 out.2.2.1 out.2.2.2.1 out.2.2.2.2 M_bad M_badPlace M_faultPlace M_ofVoting M_hour M_oil M_weight M_spider M_treasury M_joy M_passed M_acts M_seen M_never M_said M_hoarse M_fitMany M_seedNow M_hasImage M_actsThen M_seenThen)), ((aM 16), .inl (cc 0, 700, .inl M_tape))] A) args s 0 0 A) (F0 m 76 ls []) := by
  obtain ⟨hx, hb, hml, hr, hlocks, hown, hG, hK, hA⟩ := id C0
  intro n
  induction n with
  | zero => intro M_at hf; cases hf
  | succ n ih =>
    intro M_at hf H locs hP hD hS ls hl
    unfold lX9_stepOn_76 at hf
    refine lv_aload_n hx hb dX9_stepOn_76 rfl (lv_at hl 0 rfl) ?_
    refine lv_aload_n hx hb dX9_stepOn_77 rfl (lv_at hl 0 rfl) ?_
    refine va_get (D := (dC, dI)) (ci := 9) (v := .int M_at) (C := RX9) (T := TX9) (N := 63) hx hb hG kinX9 hown hK hP 0 rfl rfl 18 (by decide) (hG _ kfX9_165) (fun _ h9 => h9) rfl dX9_stepOn_78 ?_
    refine bd_el hf (fun v33 hv33 hf => ?_)
    refine callVi (As := [.int M_at]) (rest := []) (wr := []) (wn := [(oM, .inr (9, mkX9 aM M_values M_code M_taped M_at M_size M_token M_number M_begins M_stops M_bad M_badPlace M_faultPlace M_ofVoting M_hour M_oil M_weight M_spider M_treasury M_joy M_passed M_acts M_seen M_never M_said M_hoarse M_fitMany M_seedNow M_hasImage M_actsThen M_seenThen)), ((aM 16), .inl (cc 0, 700, .inl M_tape))]) C0 kvX9_byteAt kmX9_168 hP hD hS (mX9_byteAt l dC dI cc oM aM _ M_values M_code M_taped M_at M_size M_token M_number M_begins M_stops M_bad M_badPlace M_faultPlace M_ofVoting M_hour M_oil M_weight M_spider M_treasury M_joy M_passed M_acts M_seen M_never M_said M_hoarse M_fitMany M_seedNow M_hasImage M_actsThen M_seenThen M_tape M_at hv33) ⟨rfl, rfl⟩ ⟨Nat.le_of_ble_eq_true rfl, Nat.le_of_ble_eq_true rfl⟩ [0, 1] [] [0, 1] rfl rfl rfl rfl (ci := 9) rfl rfl 0 rfl rfl hl.1 rfl (Nat.le_of_ble_eq_true rfl) ⟨Nat.zero_le _, Nat.zero_le _⟩ dX9_stepOn_81 (fun H locs hP hD hS => ?_)
    refine bd_el hf (fun v35 hv35 hf => ?_)
    refine callSi (As := [.int v33]) (rest := []) (wr := [(oM, .inr (9, mkX9 aM M_values M_code M_taped M_at M_size M_token M_number M_begins M_stops M_bad M_badPlace M_faultPlace M_ofVoting M_hour M_oil M_weight M_spider M_treasury M_joy M_passed M_acts M_seen M_never M_said M_hoarse M_fitMany M_seedNow M_hasImage M_actsThen M_seenThen)), ((aM 16), .inl (cc 0, 700, .inl M_tape))]) (wn := [(oM, .inr (9, mkX9 aM M_values M_code M_taped M_at M_size M_token M_number M_begins M_stops M_bad M_badPlace M_faultPlace M_ofVoting M_hour M_oil M_weight M_spider M_treasury M_joy M_passed M_acts M_seen M_never M_said M_hoarse M_fitMany M_seedNow M_hasImage M_actsThen M_seenThen)), ((aM 16), .inl (cc 0, 700, .inl M_tape))]) C0 ksX9_isLetter kmX9_178 hP hD hS (mX9_isLetter l dC dI cc  _ v33 hv35) ⟨rfl, rfl⟩ ⟨Nat.le_of_ble_eq_true rfl, Nat.le_of_ble_eq_true rfl⟩ [] [0, 1] [0, 1] rfl rfl rfl rfl rfl hl.1 rfl (Nat.le_of_ble_eq_true rfl) ⟨Nat.zero_le _, Nat.zero_le _⟩ dX9_stepOn_84 (fun H locs hP hD hS => ?_)
    refine lv_if_eq (tgt := 103) hx hb dX9_stepOn_87 (by decide) (fun c36 => ?_) (fun c36 => ?_)
    · have hf := ift c36 hf
      exact hke76_103 M_at hf _ _ hP hD hS _ (lv_sub hl [0] rfl)
    · have hf := iff_ c36 hf
      refine lv_aload_n hx hb dX9_stepOn_90 rfl (lv_at hl 0 rfl) ?_
      refine lv_dup hx hb dX9_stepOn_91 rfl ?_
      refine va_get (D := (dC, dI)) (ci := 9) (v := .int M_at) (C := RX9) (T := TX9) (N := 63) hx hb hG kinX9 hown hK hP 0 rfl rfl 18 (by decide) (hG _ kfX9_165) (fun _ h9 => h9) rfl dX9_stepOn_92 ?_
      refine lv_iconst (v := 1) hx hb dX9_stepOn_95 (by decide) ?_
      refine lv_iadd hx hb dX9_stepOn_96 ?_
      refine va_put (D := (dC, dI)) (ci := 9) (v := .int (M_at + (1 : Int32))) (ty := .int) (C := RX9) (T := TX9) (N := 63) hx hb hG kinX9 tyX9 tyX9_ok nmX9 hown hK hP hD hS 0 rfl rfl 18 (by decide) (hG _ kfX9_165) (fun _ h9 => h9) rfl (by decide +kernel) rfl rfl (Nat.le_of_ble_eq_true rfl) dX9_stepOn_97 (fun H locs hP hD hS => ?_)
      have hP : va_P (dC, dI) cLs [(oM, .inr (9, mkX9 aM M_values M_code M_taped (M_at + (1 : Int32)) M_size M_token M_number M_begins M_stops M_bad M_badPlace M_faultPlace M_ofVoting M_hour M_oil M_weight M_spider M_treasury M_joy M_passed M_acts M_seen M_never M_said M_hoarse M_fitMany M_seedNow M_hasImage M_actsThen M_seenThen)), ((aM 16), .inl (cc 0, 700, .inl M_tape))] _ := hP
      have hD : va_D A [(oM, .inr (9, mkX9 aM M_values M_code M_taped (M_at + (1 : Int32)) M_size M_token M_number M_begins M_stops M_bad M_badPlace M_faultPlace M_ofVoting M_hour M_oil M_weight M_spider M_treasury M_joy M_passed M_acts M_seen M_never M_said M_hoarse M_fitMany M_seedNow M_hasImage M_actsThen M_seenThen)), ((aM 16), .inl (cc 0, 700, .inl M_tape))] := hD
      refine lv_goto (tgt := 76) hx hb dX9_stepOn_100 (by decide) ?_
      exact ih (M_at + (1 : Int32)) hf _ _ hP hD hS _ (lv_sub hl [0] rfl)
def jX9_stepOn_26   (M_at : Int32) (M_size : Int32) (M_token : Int32) (M_number : Int32) (M_begins : Int32) (M_stops : Int32) (M_tape : Nat → Int32)  : Option (Int32 × Int32 × Int32 × Int32 × Int32) :=
  lX9_stepOn_0 (fun (M_at_10 : Int32) =>
    (fX9_byteAt M_size M_tape M_at_10).bind fun v12 =>
    if v12 = (-1) then
      some (M_at_10, 0, M_number, M_at_10, M_at_10)
    else
      (fX9_isLetter v12).bind fun v15 =>
      if v15 = 0 then
        (fX9_isDigit v12).bind fun v18 =>
        if v18 = 0 then
          (fX9_isMark v12).bind fun v21 =>
          if v21 = 0 then
            some ((M_at_10 + (1 : Int32)), 4, M_number, M_at_10, (M_at_10 + (1 : Int32)))
          else
            some ((M_at_10 + (1 : Int32)), 3, M_number, M_at_10, (M_at_10 + (1 : Int32)))
        else
          lX9_stepOn_123 (fun (M_at_30 : Int32) (M_number_31 : Int32) =>
            some (M_at_30, 2, M_number_31, M_at_10, M_at_30)) M_size M_tape FU M_at_10 0
      else
        lX9_stepOn_76 (fun (M_at_37 : Int32) =>
          some (M_at_37, 1, M_number, M_at_10, M_at_37)) M_size M_tape FU M_at_10) M_size M_tape FU (M_at + (1 : Int32))
set_option maxHeartbeats 4000000 in
set_option maxRecDepth 100000 in
theorem wjX9_stepOn_26 {p : Program} {l : Launch} {e : Env} {s : State} {m : MethodId} {args : Array Value} {below : List Frame} {meth : Method} {c : Code} {A : Nat → Prop} {dC : Nat → ClassId} {dI : Nat → Nat → Nat} {cc : Nat → ClassId} (C0 : CT p s m args meth c A dC dI cc cX9_stepOn 2 none RX9) (oM : Nat) (aM : Nat → Nat) (M_values : Int32) (M_code : Int32) (M_taped : Int32) (M_at : Int32) (M_size : Int32) (M_token : Int32) (M_number : Int32) (M_begins : Int32) (M_stops : Int32) (M_bad : Int32) (M_badPlace : Int32) (M_faultPlace : Int32) (M_ofVoting : Int32) (M_hour : Int32) (M_oil : Int32) (M_weight : Int32) (M_spider : Int32) (M_treasury : Int32) (M_joy : Int32) (M_passed : Int32) (M_acts : Int32) (M_seen : Int32) (M_never : Int32) (M_said : Int32) (M_hoarse : Int32) (M_fitMany : Int32) (M_seedNow : Int32) (M_hasImage : Int32) (M_actsThen : Int32) (M_seenThen : Int32) (M_tape : Nat → Int32)  {out : Int32 × Int32 × Int32 × Int32 × Int32}    (hf : jX9_stepOn_26  M_at M_size M_token M_number M_begins M_stops M_tape  = some out) (H : Heap) (locs : List Loc) (hP : va_P (dC, dI) cLs [(oM, .inr (9, mkX9 aM M_values M_code M_taped M_at M_size M_token M_number M_begins M_stops M_bad M_badPlace M_faultPlace M_ofVoting M_hour M_oil M_weight M_spider M_treasury M_joy M_passed M_acts M_seen M_never M_said M_hoarse M_fitMany M_seedNow M_hasImage M_actsThen M_seenThen)), ((aM 16), .inl (cc 0, 700, .inl M_tape))] H) (hD : va_D A [(oM, .inr (9, mkX9 aM M_values M_code M_taped M_at M_size M_token M_number M_begins M_stops M_bad M_badPlace M_faultPlace M_ofVoting M_hour M_oil M_weight M_spider M_treasury M_joy M_passed M_acts M_seen M_never M_said M_hoarse M_fitMany M_seedNow M_hasImage M_actsThen M_seenThen)), ((aM 16), .inl (cc 0, 700, .inl M_tape))]) (hS : va_S A s.heap H locs) (ls : Array Slot) (hl : lv_has ls 2 [(0, .ref oM)]) : W p l e rmX9_stepOn s m args below meth c H locs 0 0 (MQ below (QV dC dI cc [(oM, .inr (9, mkX9 aM M_values M_code M_taped out.1 M_size out.2.1 out.2.2.1 out.2.2.2.1 out.2.2.2.2 M_bad M_badPlace M_faultPlace M_ofVoting M_hour M_oil M_weight M_spider M_treasury M_joy M_passed M_acts M_seen M_never M_said M_hoarse M_fitMany M_seedNow M_hasImage M_actsThen M_seenThen)), ((aM 16), .inl (cc 0, 700, .inl M_tape))] A) args s 0 0 A) (F0 m 26 ls []) := by
  obtain ⟨hx, hb, hml, hr, hlocks, hown, hG, hK, hA⟩ := id C0
  unfold jX9_stepOn_26 at hf
  refine lv_aload_n hx hb dX9_stepOn_26 rfl (lv_at hl 0 rfl) ?_
  refine lv_dup hx hb dX9_stepOn_27 rfl ?_
  refine va_get (D := (dC, dI)) (ci := 9) (v := .int M_at) (C := RX9) (T := TX9) (N := 63) hx hb hG kinX9 hown hK hP 0 rfl rfl 18 (by decide) (hG _ kfX9_165) (fun _ h9 => h9) rfl dX9_stepOn_28 ?_
  refine lv_iconst (v := 1) hx hb dX9_stepOn_31 (by decide) ?_
  refine lv_iadd hx hb dX9_stepOn_32 ?_
  refine va_put (D := (dC, dI)) (ci := 9) (v := .int (M_at + (1 : Int32))) (ty := .int) (C := RX9) (T := TX9) (N := 63) hx hb hG kinX9 tyX9 tyX9_ok nmX9 hown hK hP hD hS 0 rfl rfl 18 (by decide) (hG _ kfX9_165) (fun _ h9 => h9) rfl (by decide +kernel) rfl rfl (Nat.le_of_ble_eq_true rfl) dX9_stepOn_33 (fun H locs hP hD hS => ?_)
  have hP : va_P (dC, dI) cLs [(oM, .inr (9, mkX9 aM M_values M_code M_taped (M_at + (1 : Int32)) M_size M_token M_number M_begins M_stops M_bad M_badPlace M_faultPlace M_ofVoting M_hour M_oil M_weight M_spider M_treasury M_joy M_passed M_acts M_seen M_never M_said M_hoarse M_fitMany M_seedNow M_hasImage M_actsThen M_seenThen)), ((aM 16), .inl (cc 0, 700, .inl M_tape))] _ := hP
  have hD : va_D A [(oM, .inr (9, mkX9 aM M_values M_code M_taped (M_at + (1 : Int32)) M_size M_token M_number M_begins M_stops M_bad M_badPlace M_faultPlace M_ofVoting M_hour M_oil M_weight M_spider M_treasury M_joy M_passed M_acts M_seen M_never M_said M_hoarse M_fitMany M_seedNow M_hasImage M_actsThen M_seenThen)), ((aM 16), .inl (cc 0, 700, .inl M_tape))] := hD
  refine lv_goto (tgt := 0) hx hb dX9_stepOn_36 (by decide) ?_
  refine wlX9_stepOn_0 C0 oM aM M_values M_code M_taped M_size M_token M_number M_begins M_stops M_bad M_badPlace M_faultPlace M_ofVoting M_hour M_oil M_weight M_spider M_treasury M_joy M_passed M_acts M_seen M_never M_said M_hoarse M_fitMany M_seedNow M_hasImage M_actsThen M_seenThen M_tape _ ?_ FU (M_at + (1 : Int32)) hf _ _ hP hD hS _ (lv_sub hl [0] rfl)
  · intro M_at_10 hf H locs hP hD hS ls hl
    refine lv_aload_n hx hb dX9_stepOn_39 rfl (lv_at hl 0 rfl) ?_
    refine lv_aload_n hx hb dX9_stepOn_40 rfl (lv_at hl 0 rfl) ?_
    refine va_get (D := (dC, dI)) (ci := 9) (v := .int M_at_10) (C := RX9) (T := TX9) (N := 63) hx hb hG kinX9 hown hK hP 0 rfl rfl 18 (by decide) (hG _ kfX9_165) (fun _ h9 => h9) rfl dX9_stepOn_41 ?_
    refine va_put (D := (dC, dI)) (ci := 9) (v := .int M_at_10) (ty := .int) (C := RX9) (T := TX9) (N := 63) hx hb hG kinX9 tyX9 tyX9_ok nmX9 hown hK hP hD hS 0 rfl rfl 22 (by decide) (hG _ kfX9_172) (fun _ h9 => h9) rfl (by decide +kernel) rfl rfl (Nat.le_of_ble_eq_true rfl) dX9_stepOn_44 (fun H locs hP hD hS => ?_)
    have hP : va_P (dC, dI) cLs [(oM, .inr (9, mkX9 aM M_values M_code M_taped M_at_10 M_size M_token M_number M_at_10 M_stops M_bad M_badPlace M_faultPlace M_ofVoting M_hour M_oil M_weight M_spider M_treasury M_joy M_passed M_acts M_seen M_never M_said M_hoarse M_fitMany M_seedNow M_hasImage M_actsThen M_seenThen)), ((aM 16), .inl (cc 0, 700, .inl M_tape))] _ := hP
    have hD : va_D A [(oM, .inr (9, mkX9 aM M_values M_code M_taped M_at_10 M_size M_token M_number M_at_10 M_stops M_bad M_badPlace M_faultPlace M_ofVoting M_hour M_oil M_weight M_spider M_treasury M_joy M_passed M_acts M_seen M_never M_said M_hoarse M_fitMany M_seedNow M_hasImage M_actsThen M_seenThen)), ((aM 16), .inl (cc 0, 700, .inl M_tape))] := hD
    refine lv_aload_n hx hb dX9_stepOn_47 rfl (lv_at hl 0 rfl) ?_
    refine lv_aload_n hx hb dX9_stepOn_48 rfl (lv_at hl 0 rfl) ?_
    refine va_get (D := (dC, dI)) (ci := 9) (v := .int M_at_10) (C := RX9) (T := TX9) (N := 63) hx hb hG kinX9 hown hK hP 0 rfl rfl 18 (by decide) (hG _ kfX9_165) (fun _ h9 => h9) rfl dX9_stepOn_49 ?_
    refine bd_el hf (fun v12 hv12 hf => ?_)
    refine callVi (As := [.int M_at_10]) (rest := []) (wr := []) (wn := [(oM, .inr (9, mkX9 aM M_values M_code M_taped M_at_10 M_size M_token M_number M_at_10 M_stops M_bad M_badPlace M_faultPlace M_ofVoting M_hour M_oil M_weight M_spider M_treasury M_joy M_passed M_acts M_seen M_never M_said M_hoarse M_fitMany M_seedNow M_hasImage M_actsThen M_seenThen)), ((aM 16), .inl (cc 0, 700, .inl M_tape))]) C0 kvX9_byteAt kmX9_168 hP hD hS (mX9_byteAt l dC dI cc oM aM _ M_values M_code M_taped M_at_10 M_size M_token M_number M_at_10 M_stops M_bad M_badPlace M_faultPlace M_ofVoting M_hour M_oil M_weight M_spider M_treasury M_joy M_passed M_acts M_seen M_never M_said M_hoarse M_fitMany M_seedNow M_hasImage M_actsThen M_seenThen M_tape M_at_10 hv12) ⟨rfl, rfl⟩ ⟨Nat.le_of_ble_eq_true rfl, Nat.le_of_ble_eq_true rfl⟩ [0, 1] [] [0, 1] rfl rfl rfl rfl (ci := 9) rfl rfl 0 rfl rfl hl.1 rfl (Nat.le_of_ble_eq_true rfl) ⟨Nat.zero_le _, Nat.zero_le _⟩ dX9_stepOn_52 (fun H locs hP hD hS => ?_)
    refine lv_istore_n (lv' := [(1, .int v12), (0, .ref oM)]) hx hb dX9_stepOn_55 rfl hl (by decide) rfl (fun ls hl => ?_)
    refine lv_iload_n hx hb dX9_stepOn_56 rfl (lv_at hl 0 rfl) ?_
    refine lv_iconst (v := (-1)) hx hb dX9_stepOn_57 (by decide) ?_
    refine lv_icmp_ne (tgt := 69) hx hb dX9_stepOn_58 (by decide) (fun c13 => ?_) (fun c13 => ?_)
    · have hf := iff_ c13 hf
      refine lv_iload_n hx hb dX9_stepOn_69 rfl (lv_at hl 0 rfl) ?_
      refine bd_el hf (fun v15 hv15 hf => ?_)
      refine callSi (As := [.int v12]) (rest := []) (wr := [(oM, .inr (9, mkX9 aM M_values M_code M_taped M_at_10 M_size M_token M_number M_at_10 M_stops M_bad M_badPlace M_faultPlace M_ofVoting M_hour M_oil M_weight M_spider M_treasury M_joy M_passed M_acts M_seen M_never M_said M_hoarse M_fitMany M_seedNow M_hasImage M_actsThen M_seenThen)), ((aM 16), .inl (cc 0, 700, .inl M_tape))]) (wn := [(oM, .inr (9, mkX9 aM M_values M_code M_taped M_at_10 M_size M_token M_number M_at_10 M_stops M_bad M_badPlace M_faultPlace M_ofVoting M_hour M_oil M_weight M_spider M_treasury M_joy M_passed M_acts M_seen M_never M_said M_hoarse M_fitMany M_seedNow M_hasImage M_actsThen M_seenThen)), ((aM 16), .inl (cc 0, 700, .inl M_tape))]) C0 ksX9_isLetter kmX9_178 hP hD hS (mX9_isLetter l dC dI cc  _ v12 hv15) ⟨rfl, rfl⟩ ⟨Nat.le_of_ble_eq_true rfl, Nat.le_of_ble_eq_true rfl⟩ [] [0, 1] [0, 1] rfl rfl rfl rfl rfl hl.1 rfl (Nat.le_of_ble_eq_true rfl) ⟨Nat.zero_le _, Nat.zero_le _⟩ dX9_stepOn_70 (fun H locs hP hD hS => ?_)
      refine lv_if_eq (tgt := 111) hx hb dX9_stepOn_73 (by decide) (fun c16 => ?_) (fun c16 => ?_)
      · have hf := ift c16 hf
        refine lv_iload_n hx hb dX9_stepOn_111 rfl (lv_at hl 0 rfl) ?_
        refine bd_el hf (fun v18 hv18 hf => ?_)
        refine callSi (As := [.int v12]) (rest := []) (wr := [(oM, .inr (9, mkX9 aM M_values M_code M_taped M_at_10 M_size M_token M_number M_at_10 M_stops M_bad M_badPlace M_faultPlace M_ofVoting M_hour M_oil M_weight M_spider M_treasury M_joy M_passed M_acts M_seen M_never M_said M_hoarse M_fitMany M_seedNow M_hasImage M_actsThen M_seenThen)), ((aM 16), .inl (cc 0, 700, .inl M_tape))]) (wn := [(oM, .inr (9, mkX9 aM M_values M_code M_taped M_at_10 M_size M_token M_number M_at_10 M_stops M_bad M_badPlace M_faultPlace M_ofVoting M_hour M_oil M_weight M_spider M_treasury M_joy M_passed M_acts M_seen M_never M_said M_hoarse M_fitMany M_seedNow M_hasImage M_actsThen M_seenThen)), ((aM 16), .inl (cc 0, 700, .inl M_tape))]) C0 ksX9_isDigit kmX9_182 hP hD hS (mX9_isDigit l dC dI cc  _ v12 hv18) ⟨rfl, rfl⟩ ⟨Nat.le_of_ble_eq_true rfl, Nat.le_of_ble_eq_true rfl⟩ [] [0, 1] [0, 1] rfl rfl rfl rfl rfl hl.1 rfl (Nat.le_of_ble_eq_true rfl) ⟨Nat.zero_le _, Nat.zero_le _⟩ dX9_stepOn_112 (fun H locs hP hD hS => ?_)
        refine lv_if_eq (tgt := 186) hx hb dX9_stepOn_115 (by decide) (fun c19 => ?_) (fun c19 => ?_)
        · have hf := ift c19 hf
          refine lv_aload_n hx hb dX9_stepOn_186 rfl (lv_at hl 1 rfl) ?_
          refine lv_dup hx hb dX9_stepOn_187 rfl ?_
          refine va_get (D := (dC, dI)) (ci := 9) (v := .int M_at_10) (C := RX9) (T := TX9) (N := 63) hx hb hG kinX9 hown hK hP 0 rfl rfl 18 (by decide) (hG _ kfX9_165) (fun _ h9 => h9) rfl dX9_stepOn_188 ?_
          refine lv_iconst (v := 1) hx hb dX9_stepOn_191 (by decide) ?_
          refine lv_iadd hx hb dX9_stepOn_192 ?_
          refine va_put (D := (dC, dI)) (ci := 9) (v := .int (M_at_10 + (1 : Int32))) (ty := .int) (C := RX9) (T := TX9) (N := 63) hx hb hG kinX9 tyX9 tyX9_ok nmX9 hown hK hP hD hS 0 rfl rfl 18 (by decide) (hG _ kfX9_165) (fun _ h9 => h9) rfl (by decide +kernel) rfl rfl (Nat.le_of_ble_eq_true rfl) dX9_stepOn_193 (fun H locs hP hD hS => ?_)
          have hP : va_P (dC, dI) cLs [(oM, .inr (9, mkX9 aM M_values M_code M_taped (M_at_10 + (1 : Int32)) M_size M_token M_number M_at_10 M_stops M_bad M_badPlace M_faultPlace M_ofVoting M_hour M_oil M_weight M_spider M_treasury M_joy M_passed M_acts M_seen M_never M_said M_hoarse M_fitMany M_seedNow M_hasImage M_actsThen M_seenThen)), ((aM 16), .inl (cc 0, 700, .inl M_tape))] _ := hP
          have hD : va_D A [(oM, .inr (9, mkX9 aM M_values M_code M_taped (M_at_10 + (1 : Int32)) M_size M_token M_number M_at_10 M_stops M_bad M_badPlace M_faultPlace M_ofVoting M_hour M_oil M_weight M_spider M_treasury M_joy M_passed M_acts M_seen M_never M_said M_hoarse M_fitMany M_seedNow M_hasImage M_actsThen M_seenThen)), ((aM 16), .inl (cc 0, 700, .inl M_tape))] := hD
          refine lv_aload_n hx hb dX9_stepOn_196 rfl (lv_at hl 1 rfl) ?_
          refine lv_iload_n hx hb dX9_stepOn_197 rfl (lv_at hl 0 rfl) ?_
          refine bd_el hf (fun v21 hv21 hf => ?_)
          refine callSi (As := [.int v12]) (rest := [.ref oM]) (wr := [(oM, .inr (9, mkX9 aM M_values M_code M_taped (M_at_10 + (1 : Int32)) M_size M_token M_number M_at_10 M_stops M_bad M_badPlace M_faultPlace M_ofVoting M_hour M_oil M_weight M_spider M_treasury M_joy M_passed M_acts M_seen M_never M_said M_hoarse M_fitMany M_seedNow M_hasImage M_actsThen M_seenThen)), ((aM 16), .inl (cc 0, 700, .inl M_tape))]) (wn := [(oM, .inr (9, mkX9 aM M_values M_code M_taped (M_at_10 + (1 : Int32)) M_size M_token M_number M_at_10 M_stops M_bad M_badPlace M_faultPlace M_ofVoting M_hour M_oil M_weight M_spider M_treasury M_joy M_passed M_acts M_seen M_never M_said M_hoarse M_fitMany M_seedNow M_hasImage M_actsThen M_seenThen)), ((aM 16), .inl (cc 0, 700, .inl M_tape))]) C0 ksX9_isMark kmX9_195 hP hD hS (mX9_isMark l dC dI cc  _ v12 hv21) ⟨rfl, rfl⟩ ⟨Nat.le_of_ble_eq_true rfl, Nat.le_of_ble_eq_true rfl⟩ [] [0, 1] [0, 1] rfl rfl rfl rfl rfl hl.1 rfl (Nat.le_of_ble_eq_true rfl) ⟨Nat.zero_le _, Nat.zero_le _⟩ dX9_stepOn_198 (fun H locs hP hD hS => ?_)
          refine lv_if_eq (tgt := 208) hx hb dX9_stepOn_201 (by decide) (fun c22 => ?_) (fun c22 => ?_)
          · have hf := ift c22 hf
            refine lv_iconst (v := 4) hx hb dX9_stepOn_208 (by decide) ?_
            refine va_put (D := (dC, dI)) (ci := 9) (v := .int 4) (ty := .int) (C := RX9) (T := TX9) (N := 63) hx hb hG kinX9 tyX9 tyX9_ok nmX9 hown hK hP hD hS 0 rfl rfl 20 (by decide) (hG _ kfX9_175) (fun _ h9 => h9) rfl (by decide +kernel) rfl rfl (Nat.le_of_ble_eq_true rfl) dX9_stepOn_209 (fun H locs hP hD hS => ?_)
            have hP : va_P (dC, dI) cLs [(oM, .inr (9, mkX9 aM M_values M_code M_taped (M_at_10 + (1 : Int32)) M_size 4 M_number M_at_10 M_stops M_bad M_badPlace M_faultPlace M_ofVoting M_hour M_oil M_weight M_spider M_treasury M_joy M_passed M_acts M_seen M_never M_said M_hoarse M_fitMany M_seedNow M_hasImage M_actsThen M_seenThen)), ((aM 16), .inl (cc 0, 700, .inl M_tape))] _ := hP
            have hD : va_D A [(oM, .inr (9, mkX9 aM M_values M_code M_taped (M_at_10 + (1 : Int32)) M_size 4 M_number M_at_10 M_stops M_bad M_badPlace M_faultPlace M_ofVoting M_hour M_oil M_weight M_spider M_treasury M_joy M_passed M_acts M_seen M_never M_said M_hoarse M_fitMany M_seedNow M_hasImage M_actsThen M_seenThen)), ((aM 16), .inl (cc 0, 700, .inl M_tape))] := hD
            refine lv_aload_n hx hb dX9_stepOn_212 rfl (lv_at hl 1 rfl) ?_
            refine lv_aload_n hx hb dX9_stepOn_213 rfl (lv_at hl 1 rfl) ?_
            refine va_get (D := (dC, dI)) (ci := 9) (v := .int (M_at_10 + (1 : Int32))) (C := RX9) (T := TX9) (N := 63) hx hb hG kinX9 hown hK hP 0 rfl rfl 18 (by decide) (hG _ kfX9_165) (fun _ h9 => h9) rfl dX9_stepOn_214 ?_
            refine va_put (D := (dC, dI)) (ci := 9) (v := .int (M_at_10 + (1 : Int32))) (ty := .int) (C := RX9) (T := TX9) (N := 63) hx hb hG kinX9 tyX9 tyX9_ok nmX9 hown hK hP hD hS 0 rfl rfl 23 (by decide) (hG _ kfX9_198) (fun _ h9 => h9) rfl (by decide +kernel) rfl rfl (Nat.le_of_ble_eq_true rfl) dX9_stepOn_217 (fun H locs hP hD hS => ?_)
            have hP : va_P (dC, dI) cLs [(oM, .inr (9, mkX9 aM M_values M_code M_taped (M_at_10 + (1 : Int32)) M_size 4 M_number M_at_10 (M_at_10 + (1 : Int32)) M_bad M_badPlace M_faultPlace M_ofVoting M_hour M_oil M_weight M_spider M_treasury M_joy M_passed M_acts M_seen M_never M_said M_hoarse M_fitMany M_seedNow M_hasImage M_actsThen M_seenThen)), ((aM 16), .inl (cc 0, 700, .inl M_tape))] _ := hP
            have hD : va_D A [(oM, .inr (9, mkX9 aM M_values M_code M_taped (M_at_10 + (1 : Int32)) M_size 4 M_number M_at_10 (M_at_10 + (1 : Int32)) M_bad M_badPlace M_faultPlace M_ofVoting M_hour M_oil M_weight M_spider M_treasury M_joy M_passed M_acts M_seen M_never M_said M_hoarse M_fitMany M_seedNow M_hasImage M_actsThen M_seenThen)), ((aM 16), .inl (cc 0, 700, .inl M_tape))] := hD
            obtain rfl := Option.some.inj hf
            exact retV C0 hP hD hS dX9_stepOn_220
          · have hf := iff_ c22 hf
            refine lv_iconst (v := 3) hx hb dX9_stepOn_204 (by decide) ?_
            refine lv_goto (tgt := 209) hx hb dX9_stepOn_205 (by decide) ?_
            refine va_put (D := (dC, dI)) (ci := 9) (v := .int 3) (ty := .int) (C := RX9) (T := TX9) (N := 63) hx hb hG kinX9 tyX9 tyX9_ok nmX9 hown hK hP hD hS 0 rfl rfl 20 (by decide) (hG _ kfX9_175) (fun _ h9 => h9) rfl (by decide +kernel) rfl rfl (Nat.le_of_ble_eq_true rfl) dX9_stepOn_209 (fun H locs hP hD hS => ?_)
            have hP : va_P (dC, dI) cLs [(oM, .inr (9, mkX9 aM M_values M_code M_taped (M_at_10 + (1 : Int32)) M_size 3 M_number M_at_10 M_stops M_bad M_badPlace M_faultPlace M_ofVoting M_hour M_oil M_weight M_spider M_treasury M_joy M_passed M_acts M_seen M_never M_said M_hoarse M_fitMany M_seedNow M_hasImage M_actsThen M_seenThen)), ((aM 16), .inl (cc 0, 700, .inl M_tape))] _ := hP
            have hD : va_D A [(oM, .inr (9, mkX9 aM M_values M_code M_taped (M_at_10 + (1 : Int32)) M_size 3 M_number M_at_10 M_stops M_bad M_badPlace M_faultPlace M_ofVoting M_hour M_oil M_weight M_spider M_treasury M_joy M_passed M_acts M_seen M_never M_said M_hoarse M_fitMany M_seedNow M_hasImage M_actsThen M_seenThen)), ((aM 16), .inl (cc 0, 700, .inl M_tape))] := hD
            refine lv_aload_n hx hb dX9_stepOn_212 rfl (lv_at hl 1 rfl) ?_
            refine lv_aload_n hx hb dX9_stepOn_213 rfl (lv_at hl 1 rfl) ?_
            refine va_get (D := (dC, dI)) (ci := 9) (v := .int (M_at_10 + (1 : Int32))) (C := RX9) (T := TX9) (N := 63) hx hb hG kinX9 hown hK hP 0 rfl rfl 18 (by decide) (hG _ kfX9_165) (fun _ h9 => h9) rfl dX9_stepOn_214 ?_
            refine va_put (D := (dC, dI)) (ci := 9) (v := .int (M_at_10 + (1 : Int32))) (ty := .int) (C := RX9) (T := TX9) (N := 63) hx hb hG kinX9 tyX9 tyX9_ok nmX9 hown hK hP hD hS 0 rfl rfl 23 (by decide) (hG _ kfX9_198) (fun _ h9 => h9) rfl (by decide +kernel) rfl rfl (Nat.le_of_ble_eq_true rfl) dX9_stepOn_217 (fun H locs hP hD hS => ?_)
            have hP : va_P (dC, dI) cLs [(oM, .inr (9, mkX9 aM M_values M_code M_taped (M_at_10 + (1 : Int32)) M_size 3 M_number M_at_10 (M_at_10 + (1 : Int32)) M_bad M_badPlace M_faultPlace M_ofVoting M_hour M_oil M_weight M_spider M_treasury M_joy M_passed M_acts M_seen M_never M_said M_hoarse M_fitMany M_seedNow M_hasImage M_actsThen M_seenThen)), ((aM 16), .inl (cc 0, 700, .inl M_tape))] _ := hP
            have hD : va_D A [(oM, .inr (9, mkX9 aM M_values M_code M_taped (M_at_10 + (1 : Int32)) M_size 3 M_number M_at_10 (M_at_10 + (1 : Int32)) M_bad M_badPlace M_faultPlace M_ofVoting M_hour M_oil M_weight M_spider M_treasury M_joy M_passed M_acts M_seen M_never M_said M_hoarse M_fitMany M_seedNow M_hasImage M_actsThen M_seenThen)), ((aM 16), .inl (cc 0, 700, .inl M_tape))] := hD
            obtain rfl := Option.some.inj hf
            exact retV C0 hP hD hS dX9_stepOn_220
        · have hf := iff_ c19 hf
          refine lv_aload_n hx hb dX9_stepOn_118 rfl (lv_at hl 1 rfl) ?_
          refine lv_iconst (v := 0) hx hb dX9_stepOn_119 (by decide) ?_
          refine va_put (D := (dC, dI)) (ci := 9) (v := .int 0) (ty := .int) (C := RX9) (T := TX9) (N := 63) hx hb hG kinX9 tyX9 tyX9_ok nmX9 hown hK hP hD hS 0 rfl rfl 21 (by decide) (hG _ kfX9_185) (fun _ h9 => h9) rfl (by decide +kernel) rfl rfl (Nat.le_of_ble_eq_true rfl) dX9_stepOn_120 (fun H locs hP hD hS => ?_)
          have hP : va_P (dC, dI) cLs [(oM, .inr (9, mkX9 aM M_values M_code M_taped M_at_10 M_size M_token 0 M_at_10 M_stops M_bad M_badPlace M_faultPlace M_ofVoting M_hour M_oil M_weight M_spider M_treasury M_joy M_passed M_acts M_seen M_never M_said M_hoarse M_fitMany M_seedNow M_hasImage M_actsThen M_seenThen)), ((aM 16), .inl (cc 0, 700, .inl M_tape))] _ := hP
          have hD : va_D A [(oM, .inr (9, mkX9 aM M_values M_code M_taped M_at_10 M_size M_token 0 M_at_10 M_stops M_bad M_badPlace M_faultPlace M_ofVoting M_hour M_oil M_weight M_spider M_treasury M_joy M_passed M_acts M_seen M_never M_said M_hoarse M_fitMany M_seedNow M_hasImage M_actsThen M_seenThen)), ((aM 16), .inl (cc 0, 700, .inl M_tape))] := hD
          refine wlX9_stepOn_123 C0 oM aM M_values M_code M_taped M_size M_token M_at_10 M_stops M_bad M_badPlace M_faultPlace M_ofVoting M_hour M_oil M_weight M_spider M_treasury M_joy M_passed M_acts M_seen M_never M_said M_hoarse M_fitMany M_seedNow M_hasImage M_actsThen M_seenThen M_tape _ ?_ FU M_at_10 0 hf _ _ hP hD hS _ (lv_sub hl [1] rfl)
          · intro M_at_30 M_number_31 hf H locs hP hD hS ls hl
            refine lv_aload_n hx hb dX9_stepOn_178 rfl (lv_at hl 0 rfl) ?_
            refine lv_iconst (v := 2) hx hb dX9_stepOn_179 (by decide) ?_
            refine va_put (D := (dC, dI)) (ci := 9) (v := .int 2) (ty := .int) (C := RX9) (T := TX9) (N := 63) hx hb hG kinX9 tyX9 tyX9_ok nmX9 hown hK hP hD hS 0 rfl rfl 20 (by decide) (hG _ kfX9_175) (fun _ h9 => h9) rfl (by decide +kernel) rfl rfl (Nat.le_of_ble_eq_true rfl) dX9_stepOn_180 (fun H locs hP hD hS => ?_)
            have hP : va_P (dC, dI) cLs [(oM, .inr (9, mkX9 aM M_values M_code M_taped M_at_30 M_size 2 M_number_31 M_at_10 M_stops M_bad M_badPlace M_faultPlace M_ofVoting M_hour M_oil M_weight M_spider M_treasury M_joy M_passed M_acts M_seen M_never M_said M_hoarse M_fitMany M_seedNow M_hasImage M_actsThen M_seenThen)), ((aM 16), .inl (cc 0, 700, .inl M_tape))] _ := hP
            have hD : va_D A [(oM, .inr (9, mkX9 aM M_values M_code M_taped M_at_30 M_size 2 M_number_31 M_at_10 M_stops M_bad M_badPlace M_faultPlace M_ofVoting M_hour M_oil M_weight M_spider M_treasury M_joy M_passed M_acts M_seen M_never M_said M_hoarse M_fitMany M_seedNow M_hasImage M_actsThen M_seenThen)), ((aM 16), .inl (cc 0, 700, .inl M_tape))] := hD
            refine lv_goto (tgt := 212) hx hb dX9_stepOn_183 (by decide) ?_
            refine lv_aload_n hx hb dX9_stepOn_212 rfl (lv_at hl 0 rfl) ?_
            refine lv_aload_n hx hb dX9_stepOn_213 rfl (lv_at hl 0 rfl) ?_
            refine va_get (D := (dC, dI)) (ci := 9) (v := .int M_at_30) (C := RX9) (T := TX9) (N := 63) hx hb hG kinX9 hown hK hP 0 rfl rfl 18 (by decide) (hG _ kfX9_165) (fun _ h9 => h9) rfl dX9_stepOn_214 ?_
            refine va_put (D := (dC, dI)) (ci := 9) (v := .int M_at_30) (ty := .int) (C := RX9) (T := TX9) (N := 63) hx hb hG kinX9 tyX9 tyX9_ok nmX9 hown hK hP hD hS 0 rfl rfl 23 (by decide) (hG _ kfX9_198) (fun _ h9 => h9) rfl (by decide +kernel) rfl rfl (Nat.le_of_ble_eq_true rfl) dX9_stepOn_217 (fun H locs hP hD hS => ?_)
            have hP : va_P (dC, dI) cLs [(oM, .inr (9, mkX9 aM M_values M_code M_taped M_at_30 M_size 2 M_number_31 M_at_10 M_at_30 M_bad M_badPlace M_faultPlace M_ofVoting M_hour M_oil M_weight M_spider M_treasury M_joy M_passed M_acts M_seen M_never M_said M_hoarse M_fitMany M_seedNow M_hasImage M_actsThen M_seenThen)), ((aM 16), .inl (cc 0, 700, .inl M_tape))] _ := hP
            have hD : va_D A [(oM, .inr (9, mkX9 aM M_values M_code M_taped M_at_30 M_size 2 M_number_31 M_at_10 M_at_30 M_bad M_badPlace M_faultPlace M_ofVoting M_hour M_oil M_weight M_spider M_treasury M_joy M_passed M_acts M_seen M_never M_said M_hoarse M_fitMany M_seedNow M_hasImage M_actsThen M_seenThen)), ((aM 16), .inl (cc 0, 700, .inl M_tape))] := hD
            obtain rfl := Option.some.inj hf
            exact retV C0 hP hD hS dX9_stepOn_220
      · have hf := iff_ c16 hf
        refine wlX9_stepOn_76 C0 oM aM M_values M_code M_taped M_size M_token M_number M_at_10 M_stops M_bad M_badPlace M_faultPlace M_ofVoting M_hour M_oil M_weight M_spider M_treasury M_joy M_passed M_acts M_seen M_never M_said M_hoarse M_fitMany M_seedNow M_hasImage M_actsThen M_seenThen M_tape _ ?_ FU M_at_10 hf _ _ hP hD hS _ (lv_sub hl [1] rfl)
        · intro M_at_37 hf H locs hP hD hS ls hl
          refine lv_aload_n hx hb dX9_stepOn_103 rfl (lv_at hl 0 rfl) ?_
          refine lv_iconst (v := 1) hx hb dX9_stepOn_104 (by decide) ?_
          refine va_put (D := (dC, dI)) (ci := 9) (v := .int 1) (ty := .int) (C := RX9) (T := TX9) (N := 63) hx hb hG kinX9 tyX9 tyX9_ok nmX9 hown hK hP hD hS 0 rfl rfl 20 (by decide) (hG _ kfX9_175) (fun _ h9 => h9) rfl (by decide +kernel) rfl rfl (Nat.le_of_ble_eq_true rfl) dX9_stepOn_105 (fun H locs hP hD hS => ?_)
          have hP : va_P (dC, dI) cLs [(oM, .inr (9, mkX9 aM M_values M_code M_taped M_at_37 M_size 1 M_number M_at_10 M_stops M_bad M_badPlace M_faultPlace M_ofVoting M_hour M_oil M_weight M_spider M_treasury M_joy M_passed M_acts M_seen M_never M_said M_hoarse M_fitMany M_seedNow M_hasImage M_actsThen M_seenThen)), ((aM 16), .inl (cc 0, 700, .inl M_tape))] _ := hP
          have hD : va_D A [(oM, .inr (9, mkX9 aM M_values M_code M_taped M_at_37 M_size 1 M_number M_at_10 M_stops M_bad M_badPlace M_faultPlace M_ofVoting M_hour M_oil M_weight M_spider M_treasury M_joy M_passed M_acts M_seen M_never M_said M_hoarse M_fitMany M_seedNow M_hasImage M_actsThen M_seenThen)), ((aM 16), .inl (cc 0, 700, .inl M_tape))] := hD
          refine lv_goto (tgt := 212) hx hb dX9_stepOn_108 (by decide) ?_
          refine lv_aload_n hx hb dX9_stepOn_212 rfl (lv_at hl 0 rfl) ?_
          refine lv_aload_n hx hb dX9_stepOn_213 rfl (lv_at hl 0 rfl) ?_
          refine va_get (D := (dC, dI)) (ci := 9) (v := .int M_at_37) (C := RX9) (T := TX9) (N := 63) hx hb hG kinX9 hown hK hP 0 rfl rfl 18 (by decide) (hG _ kfX9_165) (fun _ h9 => h9) rfl dX9_stepOn_214 ?_
          refine va_put (D := (dC, dI)) (ci := 9) (v := .int M_at_37) (ty := .int) (C := RX9) (T := TX9) (N := 63) hx hb hG kinX9 tyX9 tyX9_ok nmX9 hown hK hP hD hS 0 rfl rfl 23 (by decide) (hG _ kfX9_198) (fun _ h9 => h9) rfl (by decide +kernel) rfl rfl (Nat.le_of_ble_eq_true rfl) dX9_stepOn_217 (fun H locs hP hD hS => ?_)
          have hP : va_P (dC, dI) cLs [(oM, .inr (9, mkX9 aM M_values M_code M_taped M_at_37 M_size 1 M_number M_at_10 M_at_37 M_bad M_badPlace M_faultPlace M_ofVoting M_hour M_oil M_weight M_spider M_treasury M_joy M_passed M_acts M_seen M_never M_said M_hoarse M_fitMany M_seedNow M_hasImage M_actsThen M_seenThen)), ((aM 16), .inl (cc 0, 700, .inl M_tape))] _ := hP
          have hD : va_D A [(oM, .inr (9, mkX9 aM M_values M_code M_taped M_at_37 M_size 1 M_number M_at_10 M_at_37 M_bad M_badPlace M_faultPlace M_ofVoting M_hour M_oil M_weight M_spider M_treasury M_joy M_passed M_acts M_seen M_never M_said M_hoarse M_fitMany M_seedNow M_hasImage M_actsThen M_seenThen)), ((aM 16), .inl (cc 0, 700, .inl M_tape))] := hD
          obtain rfl := Option.some.inj hf
          exact retV C0 hP hD hS dX9_stepOn_220
    · have hf := ift c13 hf
      refine lv_aload_n hx hb dX9_stepOn_61 rfl (lv_at hl 1 rfl) ?_
      refine lv_iconst (v := 0) hx hb dX9_stepOn_62 (by decide) ?_
      refine va_put (D := (dC, dI)) (ci := 9) (v := .int 0) (ty := .int) (C := RX9) (T := TX9) (N := 63) hx hb hG kinX9 tyX9 tyX9_ok nmX9 hown hK hP hD hS 0 rfl rfl 20 (by decide) (hG _ kfX9_175) (fun _ h9 => h9) rfl (by decide +kernel) rfl rfl (Nat.le_of_ble_eq_true rfl) dX9_stepOn_63 (fun H locs hP hD hS => ?_)
      have hP : va_P (dC, dI) cLs [(oM, .inr (9, mkX9 aM M_values M_code M_taped M_at_10 M_size 0 M_number M_at_10 M_stops M_bad M_badPlace M_faultPlace M_ofVoting M_hour M_oil M_weight M_spider M_treasury M_joy M_passed M_acts M_seen M_never M_said M_hoarse M_fitMany M_seedNow M_hasImage M_actsThen M_seenThen)), ((aM 16), .inl (cc 0, 700, .inl M_tape))] _ := hP
      have hD : va_D A [(oM, .inr (9, mkX9 aM M_values M_code M_taped M_at_10 M_size 0 M_number M_at_10 M_stops M_bad M_badPlace M_faultPlace M_ofVoting M_hour M_oil M_weight M_spider M_treasury M_joy M_passed M_acts M_seen M_never M_said M_hoarse M_fitMany M_seedNow M_hasImage M_actsThen M_seenThen)), ((aM 16), .inl (cc 0, 700, .inl M_tape))] := hD
      refine lv_goto (tgt := 212) hx hb dX9_stepOn_66 (by decide) ?_
      refine lv_aload_n hx hb dX9_stepOn_212 rfl (lv_at hl 1 rfl) ?_
      refine lv_aload_n hx hb dX9_stepOn_213 rfl (lv_at hl 1 rfl) ?_
      refine va_get (D := (dC, dI)) (ci := 9) (v := .int M_at_10) (C := RX9) (T := TX9) (N := 63) hx hb hG kinX9 hown hK hP 0 rfl rfl 18 (by decide) (hG _ kfX9_165) (fun _ h9 => h9) rfl dX9_stepOn_214 ?_
      refine va_put (D := (dC, dI)) (ci := 9) (v := .int M_at_10) (ty := .int) (C := RX9) (T := TX9) (N := 63) hx hb hG kinX9 tyX9 tyX9_ok nmX9 hown hK hP hD hS 0 rfl rfl 23 (by decide) (hG _ kfX9_198) (fun _ h9 => h9) rfl (by decide +kernel) rfl rfl (Nat.le_of_ble_eq_true rfl) dX9_stepOn_217 (fun H locs hP hD hS => ?_)
      have hP : va_P (dC, dI) cLs [(oM, .inr (9, mkX9 aM M_values M_code M_taped M_at_10 M_size 0 M_number M_at_10 M_at_10 M_bad M_badPlace M_faultPlace M_ofVoting M_hour M_oil M_weight M_spider M_treasury M_joy M_passed M_acts M_seen M_never M_said M_hoarse M_fitMany M_seedNow M_hasImage M_actsThen M_seenThen)), ((aM 16), .inl (cc 0, 700, .inl M_tape))] _ := hP
      have hD : va_D A [(oM, .inr (9, mkX9 aM M_values M_code M_taped M_at_10 M_size 0 M_number M_at_10 M_at_10 M_bad M_badPlace M_faultPlace M_ofVoting M_hour M_oil M_weight M_spider M_treasury M_joy M_passed M_acts M_seen M_never M_said M_hoarse M_fitMany M_seedNow M_hasImage M_actsThen M_seenThen)), ((aM 16), .inl (cc 0, 700, .inl M_tape))] := hD
      obtain rfl := Option.some.inj hf
      exact retV C0 hP hD hS dX9_stepOn_220
def fX9_stepOn  (M_at : Int32) (M_size : Int32) (M_token : Int32) (M_number : Int32) (M_begins : Int32) (M_stops : Int32) (M_tape : Nat → Int32)  : Option (Int32 × Int32 × Int32 × Int32 × Int32) :=
  (fX9_byteAt M_size M_tape M_at).bind fun v2 =>
  if v2 = 32 then
    jX9_stepOn_26 M_at M_size M_token M_number M_begins M_stops M_tape
  else
    (fX9_byteAt M_size M_tape M_at).bind fun v39 =>
    if v39 = 10 then
      jX9_stepOn_26 M_at M_size M_token M_number M_begins M_stops M_tape
    else
      (fX9_byteAt M_size M_tape M_at).bind fun v42 =>
      if v42 = (-1) then
        some (M_at, 0, M_number, M_at, M_at)
      else
        (fX9_isLetter v42).bind fun v45 =>
        if v45 = 0 then
          (fX9_isDigit v42).bind fun v48 =>
          if v48 = 0 then
            (fX9_isMark v42).bind fun v51 =>
            if v51 = 0 then
              some ((M_at + (1 : Int32)), 4, M_number, M_at, (M_at + (1 : Int32)))
            else
              some ((M_at + (1 : Int32)), 3, M_number, M_at, (M_at + (1 : Int32)))
          else
            lX9_stepOn_123 (fun (M_at_53 : Int32) (M_number_54 : Int32) =>
              some (M_at_53, 2, M_number_54, M_at, M_at_53)) M_size M_tape FU M_at 0
        else
          lX9_stepOn_76 (fun (M_at_55 : Int32) =>
            some (M_at_55, 1, M_number, M_at, M_at_55)) M_size M_tape FU M_at
set_option maxHeartbeats 4000000 in
set_option maxRecDepth 100000 in
theorem bX9_stepOn {p : Program} {l : Launch} {e : Env} {s : State} {m : MethodId} {args : Array Value} {below : List Frame} {meth : Method} {c : Code} {A : Nat → Prop} {dC : Nat → ClassId} {dI : Nat → Nat → Nat} {cc : Nat → ClassId} (C0 : CT p s m args meth c A dC dI cc cX9_stepOn 2 none RX9) (oM : Nat) (aM : Nat → Nat) (M_values : Int32) (M_code : Int32) (M_taped : Int32) (M_at : Int32) (M_size : Int32) (M_token : Int32) (M_number : Int32) (M_begins : Int32) (M_stops : Int32) (M_bad : Int32) (M_badPlace : Int32) (M_faultPlace : Int32) (M_ofVoting : Int32) (M_hour : Int32) (M_oil : Int32) (M_weight : Int32) (M_spider : Int32) (M_treasury : Int32) (M_joy : Int32) (M_passed : Int32) (M_acts : Int32) (M_seen : Int32) (M_never : Int32) (M_said : Int32) (M_hoarse : Int32) (M_fitMany : Int32) (M_seedNow : Int32) (M_hasImage : Int32) (M_actsThen : Int32) (M_seenThen : Int32) (M_tape : Nat → Int32)  {out : Int32 × Int32 × Int32 × Int32 × Int32} (hf : fX9_stepOn M_at M_size M_token M_number M_begins M_stops M_tape = some out) {H : Heap} {locs : List Loc} (hP : va_P (dC, dI) cLs [(oM, .inr (9, mkX9 aM M_values M_code M_taped M_at M_size M_token M_number M_begins M_stops M_bad M_badPlace M_faultPlace M_ofVoting M_hour M_oil M_weight M_spider M_treasury M_joy M_passed M_acts M_seen M_never M_said M_hoarse M_fitMany M_seedNow M_hasImage M_actsThen M_seenThen)), ((aM 16), .inl (cc 0, 700, .inl M_tape))] H) (hD : va_D A [(oM, .inr (9, mkX9 aM M_values M_code M_taped M_at M_size M_token M_number M_begins M_stops M_bad M_badPlace M_faultPlace M_ofVoting M_hour M_oil M_weight M_spider M_treasury M_joy M_passed M_acts M_seen M_never M_said M_hoarse M_fitMany M_seedNow M_hasImage M_actsThen M_seenThen)), ((aM 16), .inl (cc 0, 700, .inl M_tape))]) (hS : va_S A s.heap H locs) {ls : Array Slot} (hl : lv_has ls 2 [(0, .ref oM)]) : W p l e rmX9_stepOn s m args below meth c H locs 0 0 (MQ below (QV dC dI cc [(oM, .inr (9, mkX9 aM M_values M_code M_taped out.1 M_size out.2.1 out.2.2.1 out.2.2.2.1 out.2.2.2.2 M_bad M_badPlace M_faultPlace M_ofVoting M_hour M_oil M_weight M_spider M_treasury M_joy M_passed M_acts M_seen M_never M_said M_hoarse M_fitMany M_seedNow M_hasImage M_actsThen M_seenThen)), ((aM 16), .inl (cc 0, 700, .inl M_tape))] A) args s 0 0 A) (F0 m 0 ls []) := by
  obtain ⟨hx, hb, hml, hr, hlocks, hown, hG, hK, hA⟩ := id C0
  unfold fX9_stepOn at hf
  refine lv_aload_n hx hb dX9_stepOn_0 rfl (lv_at hl 0 rfl) ?_
  refine lv_aload_n hx hb dX9_stepOn_1 rfl (lv_at hl 0 rfl) ?_
  refine va_get (D := (dC, dI)) (ci := 9) (v := .int M_at) (C := RX9) (T := TX9) (N := 63) hx hb hG kinX9 hown hK hP 0 rfl rfl 18 (by decide) (hG _ kfX9_165) (fun _ h9 => h9) rfl dX9_stepOn_2 ?_
  refine bd_el hf (fun v2 hv2 hf => ?_)
  refine callVi (As := [.int M_at]) (rest := []) (wr := []) (wn := [(oM, .inr (9, mkX9 aM M_values M_code M_taped M_at M_size M_token M_number M_begins M_stops M_bad M_badPlace M_faultPlace M_ofVoting M_hour M_oil M_weight M_spider M_treasury M_joy M_passed M_acts M_seen M_never M_said M_hoarse M_fitMany M_seedNow M_hasImage M_actsThen M_seenThen)), ((aM 16), .inl (cc 0, 700, .inl M_tape))]) C0 kvX9_byteAt kmX9_168 hP hD hS (mX9_byteAt l dC dI cc oM aM _ M_values M_code M_taped M_at M_size M_token M_number M_begins M_stops M_bad M_badPlace M_faultPlace M_ofVoting M_hour M_oil M_weight M_spider M_treasury M_joy M_passed M_acts M_seen M_never M_said M_hoarse M_fitMany M_seedNow M_hasImage M_actsThen M_seenThen M_tape M_at hv2) ⟨rfl, rfl⟩ ⟨Nat.le_of_ble_eq_true rfl, Nat.le_of_ble_eq_true rfl⟩ [0, 1] [] [0, 1] rfl rfl rfl rfl (ci := 9) rfl rfl 0 rfl rfl hl.1 rfl (Nat.le_of_ble_eq_true rfl) ⟨Nat.zero_le _, Nat.zero_le _⟩ dX9_stepOn_5 (fun H locs hP hD hS => ?_)
  refine lv_bipush (v := 32) hx hb dX9_stepOn_8 (by decide) ?_
  refine lv_icmp_eq (tgt := 26) hx hb dX9_stepOn_10 (by decide) (fun c3 => ?_) (fun c3 => ?_)
  · have hf := ift c3 hf
    exact wjX9_stepOn_26 C0 oM aM M_values M_code M_taped M_at M_size M_token M_number M_begins M_stops M_bad M_badPlace M_faultPlace M_ofVoting M_hour M_oil M_weight M_spider M_treasury M_joy M_passed M_acts M_seen M_never M_said M_hoarse M_fitMany M_seedNow M_hasImage M_actsThen M_seenThen M_tape    hf _ _ hP hD hS _ (lv_sub hl [0] rfl)
  · have hf := iff_ c3 hf
    refine lv_aload_n hx hb dX9_stepOn_13 rfl (lv_at hl 0 rfl) ?_
    refine lv_aload_n hx hb dX9_stepOn_14 rfl (lv_at hl 0 rfl) ?_
    refine va_get (D := (dC, dI)) (ci := 9) (v := .int M_at) (C := RX9) (T := TX9) (N := 63) hx hb hG kinX9 hown hK hP 0 rfl rfl 18 (by decide) (hG _ kfX9_165) (fun _ h9 => h9) rfl dX9_stepOn_15 ?_
    refine bd_el hf (fun v39 hv39 hf => ?_)
    refine callVi (As := [.int M_at]) (rest := []) (wr := []) (wn := [(oM, .inr (9, mkX9 aM M_values M_code M_taped M_at M_size M_token M_number M_begins M_stops M_bad M_badPlace M_faultPlace M_ofVoting M_hour M_oil M_weight M_spider M_treasury M_joy M_passed M_acts M_seen M_never M_said M_hoarse M_fitMany M_seedNow M_hasImage M_actsThen M_seenThen)), ((aM 16), .inl (cc 0, 700, .inl M_tape))]) C0 kvX9_byteAt kmX9_168 hP hD hS (mX9_byteAt l dC dI cc oM aM _ M_values M_code M_taped M_at M_size M_token M_number M_begins M_stops M_bad M_badPlace M_faultPlace M_ofVoting M_hour M_oil M_weight M_spider M_treasury M_joy M_passed M_acts M_seen M_never M_said M_hoarse M_fitMany M_seedNow M_hasImage M_actsThen M_seenThen M_tape M_at hv39) ⟨rfl, rfl⟩ ⟨Nat.le_of_ble_eq_true rfl, Nat.le_of_ble_eq_true rfl⟩ [0, 1] [] [0, 1] rfl rfl rfl rfl (ci := 9) rfl rfl 0 rfl rfl hl.1 rfl (Nat.le_of_ble_eq_true rfl) ⟨Nat.zero_le _, Nat.zero_le _⟩ dX9_stepOn_18 (fun H locs hP hD hS => ?_)
    refine lv_bipush (v := 10) hx hb dX9_stepOn_21 (by decide) ?_
    refine lv_icmp_ne (tgt := 39) hx hb dX9_stepOn_23 (by decide) (fun c40 => ?_) (fun c40 => ?_)
    · have hf := iff_ c40 hf
      refine lv_aload_n hx hb dX9_stepOn_39 rfl (lv_at hl 0 rfl) ?_
      refine lv_aload_n hx hb dX9_stepOn_40 rfl (lv_at hl 0 rfl) ?_
      refine va_get (D := (dC, dI)) (ci := 9) (v := .int M_at) (C := RX9) (T := TX9) (N := 63) hx hb hG kinX9 hown hK hP 0 rfl rfl 18 (by decide) (hG _ kfX9_165) (fun _ h9 => h9) rfl dX9_stepOn_41 ?_
      refine va_put (D := (dC, dI)) (ci := 9) (v := .int M_at) (ty := .int) (C := RX9) (T := TX9) (N := 63) hx hb hG kinX9 tyX9 tyX9_ok nmX9 hown hK hP hD hS 0 rfl rfl 22 (by decide) (hG _ kfX9_172) (fun _ h9 => h9) rfl (by decide +kernel) rfl rfl (Nat.le_of_ble_eq_true rfl) dX9_stepOn_44 (fun H locs hP hD hS => ?_)
      have hP : va_P (dC, dI) cLs [(oM, .inr (9, mkX9 aM M_values M_code M_taped M_at M_size M_token M_number M_at M_stops M_bad M_badPlace M_faultPlace M_ofVoting M_hour M_oil M_weight M_spider M_treasury M_joy M_passed M_acts M_seen M_never M_said M_hoarse M_fitMany M_seedNow M_hasImage M_actsThen M_seenThen)), ((aM 16), .inl (cc 0, 700, .inl M_tape))] _ := hP
      have hD : va_D A [(oM, .inr (9, mkX9 aM M_values M_code M_taped M_at M_size M_token M_number M_at M_stops M_bad M_badPlace M_faultPlace M_ofVoting M_hour M_oil M_weight M_spider M_treasury M_joy M_passed M_acts M_seen M_never M_said M_hoarse M_fitMany M_seedNow M_hasImage M_actsThen M_seenThen)), ((aM 16), .inl (cc 0, 700, .inl M_tape))] := hD
      refine lv_aload_n hx hb dX9_stepOn_47 rfl (lv_at hl 0 rfl) ?_
      refine lv_aload_n hx hb dX9_stepOn_48 rfl (lv_at hl 0 rfl) ?_
      refine va_get (D := (dC, dI)) (ci := 9) (v := .int M_at) (C := RX9) (T := TX9) (N := 63) hx hb hG kinX9 hown hK hP 0 rfl rfl 18 (by decide) (hG _ kfX9_165) (fun _ h9 => h9) rfl dX9_stepOn_49 ?_
      refine bd_el hf (fun v42 hv42 hf => ?_)
      refine callVi (As := [.int M_at]) (rest := []) (wr := []) (wn := [(oM, .inr (9, mkX9 aM M_values M_code M_taped M_at M_size M_token M_number M_at M_stops M_bad M_badPlace M_faultPlace M_ofVoting M_hour M_oil M_weight M_spider M_treasury M_joy M_passed M_acts M_seen M_never M_said M_hoarse M_fitMany M_seedNow M_hasImage M_actsThen M_seenThen)), ((aM 16), .inl (cc 0, 700, .inl M_tape))]) C0 kvX9_byteAt kmX9_168 hP hD hS (mX9_byteAt l dC dI cc oM aM _ M_values M_code M_taped M_at M_size M_token M_number M_at M_stops M_bad M_badPlace M_faultPlace M_ofVoting M_hour M_oil M_weight M_spider M_treasury M_joy M_passed M_acts M_seen M_never M_said M_hoarse M_fitMany M_seedNow M_hasImage M_actsThen M_seenThen M_tape M_at hv42) ⟨rfl, rfl⟩ ⟨Nat.le_of_ble_eq_true rfl, Nat.le_of_ble_eq_true rfl⟩ [0, 1] [] [0, 1] rfl rfl rfl rfl (ci := 9) rfl rfl 0 rfl rfl hl.1 rfl (Nat.le_of_ble_eq_true rfl) ⟨Nat.zero_le _, Nat.zero_le _⟩ dX9_stepOn_52 (fun H locs hP hD hS => ?_)
      refine lv_istore_n (lv' := [(1, .int v42), (0, .ref oM)]) hx hb dX9_stepOn_55 rfl hl (by decide) rfl (fun ls hl => ?_)
      refine lv_iload_n hx hb dX9_stepOn_56 rfl (lv_at hl 0 rfl) ?_
      refine lv_iconst (v := (-1)) hx hb dX9_stepOn_57 (by decide) ?_
      refine lv_icmp_ne (tgt := 69) hx hb dX9_stepOn_58 (by decide) (fun c43 => ?_) (fun c43 => ?_)
      · have hf := iff_ c43 hf
        refine lv_iload_n hx hb dX9_stepOn_69 rfl (lv_at hl 0 rfl) ?_
        refine bd_el hf (fun v45 hv45 hf => ?_)
        refine callSi (As := [.int v42]) (rest := []) (wr := [(oM, .inr (9, mkX9 aM M_values M_code M_taped M_at M_size M_token M_number M_at M_stops M_bad M_badPlace M_faultPlace M_ofVoting M_hour M_oil M_weight M_spider M_treasury M_joy M_passed M_acts M_seen M_never M_said M_hoarse M_fitMany M_seedNow M_hasImage M_actsThen M_seenThen)), ((aM 16), .inl (cc 0, 700, .inl M_tape))]) (wn := [(oM, .inr (9, mkX9 aM M_values M_code M_taped M_at M_size M_token M_number M_at M_stops M_bad M_badPlace M_faultPlace M_ofVoting M_hour M_oil M_weight M_spider M_treasury M_joy M_passed M_acts M_seen M_never M_said M_hoarse M_fitMany M_seedNow M_hasImage M_actsThen M_seenThen)), ((aM 16), .inl (cc 0, 700, .inl M_tape))]) C0 ksX9_isLetter kmX9_178 hP hD hS (mX9_isLetter l dC dI cc  _ v42 hv45) ⟨rfl, rfl⟩ ⟨Nat.le_of_ble_eq_true rfl, Nat.le_of_ble_eq_true rfl⟩ [] [0, 1] [0, 1] rfl rfl rfl rfl rfl hl.1 rfl (Nat.le_of_ble_eq_true rfl) ⟨Nat.zero_le _, Nat.zero_le _⟩ dX9_stepOn_70 (fun H locs hP hD hS => ?_)
        refine lv_if_eq (tgt := 111) hx hb dX9_stepOn_73 (by decide) (fun c46 => ?_) (fun c46 => ?_)
        · have hf := ift c46 hf
          refine lv_iload_n hx hb dX9_stepOn_111 rfl (lv_at hl 0 rfl) ?_
          refine bd_el hf (fun v48 hv48 hf => ?_)
          refine callSi (As := [.int v42]) (rest := []) (wr := [(oM, .inr (9, mkX9 aM M_values M_code M_taped M_at M_size M_token M_number M_at M_stops M_bad M_badPlace M_faultPlace M_ofVoting M_hour M_oil M_weight M_spider M_treasury M_joy M_passed M_acts M_seen M_never M_said M_hoarse M_fitMany M_seedNow M_hasImage M_actsThen M_seenThen)), ((aM 16), .inl (cc 0, 700, .inl M_tape))]) (wn := [(oM, .inr (9, mkX9 aM M_values M_code M_taped M_at M_size M_token M_number M_at M_stops M_bad M_badPlace M_faultPlace M_ofVoting M_hour M_oil M_weight M_spider M_treasury M_joy M_passed M_acts M_seen M_never M_said M_hoarse M_fitMany M_seedNow M_hasImage M_actsThen M_seenThen)), ((aM 16), .inl (cc 0, 700, .inl M_tape))]) C0 ksX9_isDigit kmX9_182 hP hD hS (mX9_isDigit l dC dI cc  _ v42 hv48) ⟨rfl, rfl⟩ ⟨Nat.le_of_ble_eq_true rfl, Nat.le_of_ble_eq_true rfl⟩ [] [0, 1] [0, 1] rfl rfl rfl rfl rfl hl.1 rfl (Nat.le_of_ble_eq_true rfl) ⟨Nat.zero_le _, Nat.zero_le _⟩ dX9_stepOn_112 (fun H locs hP hD hS => ?_)
          refine lv_if_eq (tgt := 186) hx hb dX9_stepOn_115 (by decide) (fun c49 => ?_) (fun c49 => ?_)
          · have hf := ift c49 hf
            refine lv_aload_n hx hb dX9_stepOn_186 rfl (lv_at hl 1 rfl) ?_
            refine lv_dup hx hb dX9_stepOn_187 rfl ?_
            refine va_get (D := (dC, dI)) (ci := 9) (v := .int M_at) (C := RX9) (T := TX9) (N := 63) hx hb hG kinX9 hown hK hP 0 rfl rfl 18 (by decide) (hG _ kfX9_165) (fun _ h9 => h9) rfl dX9_stepOn_188 ?_
            refine lv_iconst (v := 1) hx hb dX9_stepOn_191 (by decide) ?_
            refine lv_iadd hx hb dX9_stepOn_192 ?_
            refine va_put (D := (dC, dI)) (ci := 9) (v := .int (M_at + (1 : Int32))) (ty := .int) (C := RX9) (T := TX9) (N := 63) hx hb hG kinX9 tyX9 tyX9_ok nmX9 hown hK hP hD hS 0 rfl rfl 18 (by decide) (hG _ kfX9_165) (fun _ h9 => h9) rfl (by decide +kernel) rfl rfl (Nat.le_of_ble_eq_true rfl) dX9_stepOn_193 (fun H locs hP hD hS => ?_)
            have hP : va_P (dC, dI) cLs [(oM, .inr (9, mkX9 aM M_values M_code M_taped (M_at + (1 : Int32)) M_size M_token M_number M_at M_stops M_bad M_badPlace M_faultPlace M_ofVoting M_hour M_oil M_weight M_spider M_treasury M_joy M_passed M_acts M_seen M_never M_said M_hoarse M_fitMany M_seedNow M_hasImage M_actsThen M_seenThen)), ((aM 16), .inl (cc 0, 700, .inl M_tape))] _ := hP
            have hD : va_D A [(oM, .inr (9, mkX9 aM M_values M_code M_taped (M_at + (1 : Int32)) M_size M_token M_number M_at M_stops M_bad M_badPlace M_faultPlace M_ofVoting M_hour M_oil M_weight M_spider M_treasury M_joy M_passed M_acts M_seen M_never M_said M_hoarse M_fitMany M_seedNow M_hasImage M_actsThen M_seenThen)), ((aM 16), .inl (cc 0, 700, .inl M_tape))] := hD
            refine lv_aload_n hx hb dX9_stepOn_196 rfl (lv_at hl 1 rfl) ?_
            refine lv_iload_n hx hb dX9_stepOn_197 rfl (lv_at hl 0 rfl) ?_
            refine bd_el hf (fun v51 hv51 hf => ?_)
            refine callSi (As := [.int v42]) (rest := [.ref oM]) (wr := [(oM, .inr (9, mkX9 aM M_values M_code M_taped (M_at + (1 : Int32)) M_size M_token M_number M_at M_stops M_bad M_badPlace M_faultPlace M_ofVoting M_hour M_oil M_weight M_spider M_treasury M_joy M_passed M_acts M_seen M_never M_said M_hoarse M_fitMany M_seedNow M_hasImage M_actsThen M_seenThen)), ((aM 16), .inl (cc 0, 700, .inl M_tape))]) (wn := [(oM, .inr (9, mkX9 aM M_values M_code M_taped (M_at + (1 : Int32)) M_size M_token M_number M_at M_stops M_bad M_badPlace M_faultPlace M_ofVoting M_hour M_oil M_weight M_spider M_treasury M_joy M_passed M_acts M_seen M_never M_said M_hoarse M_fitMany M_seedNow M_hasImage M_actsThen M_seenThen)), ((aM 16), .inl (cc 0, 700, .inl M_tape))]) C0 ksX9_isMark kmX9_195 hP hD hS (mX9_isMark l dC dI cc  _ v42 hv51) ⟨rfl, rfl⟩ ⟨Nat.le_of_ble_eq_true rfl, Nat.le_of_ble_eq_true rfl⟩ [] [0, 1] [0, 1] rfl rfl rfl rfl rfl hl.1 rfl (Nat.le_of_ble_eq_true rfl) ⟨Nat.zero_le _, Nat.zero_le _⟩ dX9_stepOn_198 (fun H locs hP hD hS => ?_)
            refine lv_if_eq (tgt := 208) hx hb dX9_stepOn_201 (by decide) (fun c52 => ?_) (fun c52 => ?_)
            · have hf := ift c52 hf
              refine lv_iconst (v := 4) hx hb dX9_stepOn_208 (by decide) ?_
              refine va_put (D := (dC, dI)) (ci := 9) (v := .int 4) (ty := .int) (C := RX9) (T := TX9) (N := 63) hx hb hG kinX9 tyX9 tyX9_ok nmX9 hown hK hP hD hS 0 rfl rfl 20 (by decide) (hG _ kfX9_175) (fun _ h9 => h9) rfl (by decide +kernel) rfl rfl (Nat.le_of_ble_eq_true rfl) dX9_stepOn_209 (fun H locs hP hD hS => ?_)
              have hP : va_P (dC, dI) cLs [(oM, .inr (9, mkX9 aM M_values M_code M_taped (M_at + (1 : Int32)) M_size 4 M_number M_at M_stops M_bad M_badPlace M_faultPlace M_ofVoting M_hour M_oil M_weight M_spider M_treasury M_joy M_passed M_acts M_seen M_never M_said M_hoarse M_fitMany M_seedNow M_hasImage M_actsThen M_seenThen)), ((aM 16), .inl (cc 0, 700, .inl M_tape))] _ := hP
              have hD : va_D A [(oM, .inr (9, mkX9 aM M_values M_code M_taped (M_at + (1 : Int32)) M_size 4 M_number M_at M_stops M_bad M_badPlace M_faultPlace M_ofVoting M_hour M_oil M_weight M_spider M_treasury M_joy M_passed M_acts M_seen M_never M_said M_hoarse M_fitMany M_seedNow M_hasImage M_actsThen M_seenThen)), ((aM 16), .inl (cc 0, 700, .inl M_tape))] := hD
              refine lv_aload_n hx hb dX9_stepOn_212 rfl (lv_at hl 1 rfl) ?_
              refine lv_aload_n hx hb dX9_stepOn_213 rfl (lv_at hl 1 rfl) ?_
              refine va_get (D := (dC, dI)) (ci := 9) (v := .int (M_at + (1 : Int32))) (C := RX9) (T := TX9) (N := 63) hx hb hG kinX9 hown hK hP 0 rfl rfl 18 (by decide) (hG _ kfX9_165) (fun _ h9 => h9) rfl dX9_stepOn_214 ?_
              refine va_put (D := (dC, dI)) (ci := 9) (v := .int (M_at + (1 : Int32))) (ty := .int) (C := RX9) (T := TX9) (N := 63) hx hb hG kinX9 tyX9 tyX9_ok nmX9 hown hK hP hD hS 0 rfl rfl 23 (by decide) (hG _ kfX9_198) (fun _ h9 => h9) rfl (by decide +kernel) rfl rfl (Nat.le_of_ble_eq_true rfl) dX9_stepOn_217 (fun H locs hP hD hS => ?_)
              have hP : va_P (dC, dI) cLs [(oM, .inr (9, mkX9 aM M_values M_code M_taped (M_at + (1 : Int32)) M_size 4 M_number M_at (M_at + (1 : Int32)) M_bad M_badPlace M_faultPlace M_ofVoting M_hour M_oil M_weight M_spider M_treasury M_joy M_passed M_acts M_seen M_never M_said M_hoarse M_fitMany M_seedNow M_hasImage M_actsThen M_seenThen)), ((aM 16), .inl (cc 0, 700, .inl M_tape))] _ := hP
              have hD : va_D A [(oM, .inr (9, mkX9 aM M_values M_code M_taped (M_at + (1 : Int32)) M_size 4 M_number M_at (M_at + (1 : Int32)) M_bad M_badPlace M_faultPlace M_ofVoting M_hour M_oil M_weight M_spider M_treasury M_joy M_passed M_acts M_seen M_never M_said M_hoarse M_fitMany M_seedNow M_hasImage M_actsThen M_seenThen)), ((aM 16), .inl (cc 0, 700, .inl M_tape))] := hD
              obtain rfl := Option.some.inj hf
              exact retV C0 hP hD hS dX9_stepOn_220
            · have hf := iff_ c52 hf
              refine lv_iconst (v := 3) hx hb dX9_stepOn_204 (by decide) ?_
              refine lv_goto (tgt := 209) hx hb dX9_stepOn_205 (by decide) ?_
              refine va_put (D := (dC, dI)) (ci := 9) (v := .int 3) (ty := .int) (C := RX9) (T := TX9) (N := 63) hx hb hG kinX9 tyX9 tyX9_ok nmX9 hown hK hP hD hS 0 rfl rfl 20 (by decide) (hG _ kfX9_175) (fun _ h9 => h9) rfl (by decide +kernel) rfl rfl (Nat.le_of_ble_eq_true rfl) dX9_stepOn_209 (fun H locs hP hD hS => ?_)
              have hP : va_P (dC, dI) cLs [(oM, .inr (9, mkX9 aM M_values M_code M_taped (M_at + (1 : Int32)) M_size 3 M_number M_at M_stops M_bad M_badPlace M_faultPlace M_ofVoting M_hour M_oil M_weight M_spider M_treasury M_joy M_passed M_acts M_seen M_never M_said M_hoarse M_fitMany M_seedNow M_hasImage M_actsThen M_seenThen)), ((aM 16), .inl (cc 0, 700, .inl M_tape))] _ := hP
              have hD : va_D A [(oM, .inr (9, mkX9 aM M_values M_code M_taped (M_at + (1 : Int32)) M_size 3 M_number M_at M_stops M_bad M_badPlace M_faultPlace M_ofVoting M_hour M_oil M_weight M_spider M_treasury M_joy M_passed M_acts M_seen M_never M_said M_hoarse M_fitMany M_seedNow M_hasImage M_actsThen M_seenThen)), ((aM 16), .inl (cc 0, 700, .inl M_tape))] := hD
              refine lv_aload_n hx hb dX9_stepOn_212 rfl (lv_at hl 1 rfl) ?_
              refine lv_aload_n hx hb dX9_stepOn_213 rfl (lv_at hl 1 rfl) ?_
              refine va_get (D := (dC, dI)) (ci := 9) (v := .int (M_at + (1 : Int32))) (C := RX9) (T := TX9) (N := 63) hx hb hG kinX9 hown hK hP 0 rfl rfl 18 (by decide) (hG _ kfX9_165) (fun _ h9 => h9) rfl dX9_stepOn_214 ?_
              refine va_put (D := (dC, dI)) (ci := 9) (v := .int (M_at + (1 : Int32))) (ty := .int) (C := RX9) (T := TX9) (N := 63) hx hb hG kinX9 tyX9 tyX9_ok nmX9 hown hK hP hD hS 0 rfl rfl 23 (by decide) (hG _ kfX9_198) (fun _ h9 => h9) rfl (by decide +kernel) rfl rfl (Nat.le_of_ble_eq_true rfl) dX9_stepOn_217 (fun H locs hP hD hS => ?_)
              have hP : va_P (dC, dI) cLs [(oM, .inr (9, mkX9 aM M_values M_code M_taped (M_at + (1 : Int32)) M_size 3 M_number M_at (M_at + (1 : Int32)) M_bad M_badPlace M_faultPlace M_ofVoting M_hour M_oil M_weight M_spider M_treasury M_joy M_passed M_acts M_seen M_never M_said M_hoarse M_fitMany M_seedNow M_hasImage M_actsThen M_seenThen)), ((aM 16), .inl (cc 0, 700, .inl M_tape))] _ := hP
              have hD : va_D A [(oM, .inr (9, mkX9 aM M_values M_code M_taped (M_at + (1 : Int32)) M_size 3 M_number M_at (M_at + (1 : Int32)) M_bad M_badPlace M_faultPlace M_ofVoting M_hour M_oil M_weight M_spider M_treasury M_joy M_passed M_acts M_seen M_never M_said M_hoarse M_fitMany M_seedNow M_hasImage M_actsThen M_seenThen)), ((aM 16), .inl (cc 0, 700, .inl M_tape))] := hD
              obtain rfl := Option.some.inj hf
              exact retV C0 hP hD hS dX9_stepOn_220
          · have hf := iff_ c49 hf
            refine lv_aload_n hx hb dX9_stepOn_118 rfl (lv_at hl 1 rfl) ?_
            refine lv_iconst (v := 0) hx hb dX9_stepOn_119 (by decide) ?_
            refine va_put (D := (dC, dI)) (ci := 9) (v := .int 0) (ty := .int) (C := RX9) (T := TX9) (N := 63) hx hb hG kinX9 tyX9 tyX9_ok nmX9 hown hK hP hD hS 0 rfl rfl 21 (by decide) (hG _ kfX9_185) (fun _ h9 => h9) rfl (by decide +kernel) rfl rfl (Nat.le_of_ble_eq_true rfl) dX9_stepOn_120 (fun H locs hP hD hS => ?_)
            have hP : va_P (dC, dI) cLs [(oM, .inr (9, mkX9 aM M_values M_code M_taped M_at M_size M_token 0 M_at M_stops M_bad M_badPlace M_faultPlace M_ofVoting M_hour M_oil M_weight M_spider M_treasury M_joy M_passed M_acts M_seen M_never M_said M_hoarse M_fitMany M_seedNow M_hasImage M_actsThen M_seenThen)), ((aM 16), .inl (cc 0, 700, .inl M_tape))] _ := hP
            have hD : va_D A [(oM, .inr (9, mkX9 aM M_values M_code M_taped M_at M_size M_token 0 M_at M_stops M_bad M_badPlace M_faultPlace M_ofVoting M_hour M_oil M_weight M_spider M_treasury M_joy M_passed M_acts M_seen M_never M_said M_hoarse M_fitMany M_seedNow M_hasImage M_actsThen M_seenThen)), ((aM 16), .inl (cc 0, 700, .inl M_tape))] := hD
            refine wlX9_stepOn_123 C0 oM aM M_values M_code M_taped M_size M_token M_at M_stops M_bad M_badPlace M_faultPlace M_ofVoting M_hour M_oil M_weight M_spider M_treasury M_joy M_passed M_acts M_seen M_never M_said M_hoarse M_fitMany M_seedNow M_hasImage M_actsThen M_seenThen M_tape _ ?_ FU M_at 0 hf _ _ hP hD hS _ (lv_sub hl [1] rfl)
            · intro M_at_53 M_number_54 hf H locs hP hD hS ls hl
              refine lv_aload_n hx hb dX9_stepOn_178 rfl (lv_at hl 0 rfl) ?_
              refine lv_iconst (v := 2) hx hb dX9_stepOn_179 (by decide) ?_
              refine va_put (D := (dC, dI)) (ci := 9) (v := .int 2) (ty := .int) (C := RX9) (T := TX9) (N := 63) hx hb hG kinX9 tyX9 tyX9_ok nmX9 hown hK hP hD hS 0 rfl rfl 20 (by decide) (hG _ kfX9_175) (fun _ h9 => h9) rfl (by decide +kernel) rfl rfl (Nat.le_of_ble_eq_true rfl) dX9_stepOn_180 (fun H locs hP hD hS => ?_)
              have hP : va_P (dC, dI) cLs [(oM, .inr (9, mkX9 aM M_values M_code M_taped M_at_53 M_size 2 M_number_54 M_at M_stops M_bad M_badPlace M_faultPlace M_ofVoting M_hour M_oil M_weight M_spider M_treasury M_joy M_passed M_acts M_seen M_never M_said M_hoarse M_fitMany M_seedNow M_hasImage M_actsThen M_seenThen)), ((aM 16), .inl (cc 0, 700, .inl M_tape))] _ := hP
              have hD : va_D A [(oM, .inr (9, mkX9 aM M_values M_code M_taped M_at_53 M_size 2 M_number_54 M_at M_stops M_bad M_badPlace M_faultPlace M_ofVoting M_hour M_oil M_weight M_spider M_treasury M_joy M_passed M_acts M_seen M_never M_said M_hoarse M_fitMany M_seedNow M_hasImage M_actsThen M_seenThen)), ((aM 16), .inl (cc 0, 700, .inl M_tape))] := hD
              refine lv_goto (tgt := 212) hx hb dX9_stepOn_183 (by decide) ?_
              refine lv_aload_n hx hb dX9_stepOn_212 rfl (lv_at hl 0 rfl) ?_
              refine lv_aload_n hx hb dX9_stepOn_213 rfl (lv_at hl 0 rfl) ?_
              refine va_get (D := (dC, dI)) (ci := 9) (v := .int M_at_53) (C := RX9) (T := TX9) (N := 63) hx hb hG kinX9 hown hK hP 0 rfl rfl 18 (by decide) (hG _ kfX9_165) (fun _ h9 => h9) rfl dX9_stepOn_214 ?_
              refine va_put (D := (dC, dI)) (ci := 9) (v := .int M_at_53) (ty := .int) (C := RX9) (T := TX9) (N := 63) hx hb hG kinX9 tyX9 tyX9_ok nmX9 hown hK hP hD hS 0 rfl rfl 23 (by decide) (hG _ kfX9_198) (fun _ h9 => h9) rfl (by decide +kernel) rfl rfl (Nat.le_of_ble_eq_true rfl) dX9_stepOn_217 (fun H locs hP hD hS => ?_)
              have hP : va_P (dC, dI) cLs [(oM, .inr (9, mkX9 aM M_values M_code M_taped M_at_53 M_size 2 M_number_54 M_at M_at_53 M_bad M_badPlace M_faultPlace M_ofVoting M_hour M_oil M_weight M_spider M_treasury M_joy M_passed M_acts M_seen M_never M_said M_hoarse M_fitMany M_seedNow M_hasImage M_actsThen M_seenThen)), ((aM 16), .inl (cc 0, 700, .inl M_tape))] _ := hP
              have hD : va_D A [(oM, .inr (9, mkX9 aM M_values M_code M_taped M_at_53 M_size 2 M_number_54 M_at M_at_53 M_bad M_badPlace M_faultPlace M_ofVoting M_hour M_oil M_weight M_spider M_treasury M_joy M_passed M_acts M_seen M_never M_said M_hoarse M_fitMany M_seedNow M_hasImage M_actsThen M_seenThen)), ((aM 16), .inl (cc 0, 700, .inl M_tape))] := hD
              obtain rfl := Option.some.inj hf
              exact retV C0 hP hD hS dX9_stepOn_220
        · have hf := iff_ c46 hf
          refine wlX9_stepOn_76 C0 oM aM M_values M_code M_taped M_size M_token M_number M_at M_stops M_bad M_badPlace M_faultPlace M_ofVoting M_hour M_oil M_weight M_spider M_treasury M_joy M_passed M_acts M_seen M_never M_said M_hoarse M_fitMany M_seedNow M_hasImage M_actsThen M_seenThen M_tape _ ?_ FU M_at hf _ _ hP hD hS _ (lv_sub hl [1] rfl)
          · intro M_at_55 hf H locs hP hD hS ls hl
            refine lv_aload_n hx hb dX9_stepOn_103 rfl (lv_at hl 0 rfl) ?_
            refine lv_iconst (v := 1) hx hb dX9_stepOn_104 (by decide) ?_
            refine va_put (D := (dC, dI)) (ci := 9) (v := .int 1) (ty := .int) (C := RX9) (T := TX9) (N := 63) hx hb hG kinX9 tyX9 tyX9_ok nmX9 hown hK hP hD hS 0 rfl rfl 20 (by decide) (hG _ kfX9_175) (fun _ h9 => h9) rfl (by decide +kernel) rfl rfl (Nat.le_of_ble_eq_true rfl) dX9_stepOn_105 (fun H locs hP hD hS => ?_)
            have hP : va_P (dC, dI) cLs [(oM, .inr (9, mkX9 aM M_values M_code M_taped M_at_55 M_size 1 M_number M_at M_stops M_bad M_badPlace M_faultPlace M_ofVoting M_hour M_oil M_weight M_spider M_treasury M_joy M_passed M_acts M_seen M_never M_said M_hoarse M_fitMany M_seedNow M_hasImage M_actsThen M_seenThen)), ((aM 16), .inl (cc 0, 700, .inl M_tape))] _ := hP
            have hD : va_D A [(oM, .inr (9, mkX9 aM M_values M_code M_taped M_at_55 M_size 1 M_number M_at M_stops M_bad M_badPlace M_faultPlace M_ofVoting M_hour M_oil M_weight M_spider M_treasury M_joy M_passed M_acts M_seen M_never M_said M_hoarse M_fitMany M_seedNow M_hasImage M_actsThen M_seenThen)), ((aM 16), .inl (cc 0, 700, .inl M_tape))] := hD
            refine lv_goto (tgt := 212) hx hb dX9_stepOn_108 (by decide) ?_
            refine lv_aload_n hx hb dX9_stepOn_212 rfl (lv_at hl 0 rfl) ?_
            refine lv_aload_n hx hb dX9_stepOn_213 rfl (lv_at hl 0 rfl) ?_
            refine va_get (D := (dC, dI)) (ci := 9) (v := .int M_at_55) (C := RX9) (T := TX9) (N := 63) hx hb hG kinX9 hown hK hP 0 rfl rfl 18 (by decide) (hG _ kfX9_165) (fun _ h9 => h9) rfl dX9_stepOn_214 ?_
            refine va_put (D := (dC, dI)) (ci := 9) (v := .int M_at_55) (ty := .int) (C := RX9) (T := TX9) (N := 63) hx hb hG kinX9 tyX9 tyX9_ok nmX9 hown hK hP hD hS 0 rfl rfl 23 (by decide) (hG _ kfX9_198) (fun _ h9 => h9) rfl (by decide +kernel) rfl rfl (Nat.le_of_ble_eq_true rfl) dX9_stepOn_217 (fun H locs hP hD hS => ?_)
            have hP : va_P (dC, dI) cLs [(oM, .inr (9, mkX9 aM M_values M_code M_taped M_at_55 M_size 1 M_number M_at M_at_55 M_bad M_badPlace M_faultPlace M_ofVoting M_hour M_oil M_weight M_spider M_treasury M_joy M_passed M_acts M_seen M_never M_said M_hoarse M_fitMany M_seedNow M_hasImage M_actsThen M_seenThen)), ((aM 16), .inl (cc 0, 700, .inl M_tape))] _ := hP
            have hD : va_D A [(oM, .inr (9, mkX9 aM M_values M_code M_taped M_at_55 M_size 1 M_number M_at M_at_55 M_bad M_badPlace M_faultPlace M_ofVoting M_hour M_oil M_weight M_spider M_treasury M_joy M_passed M_acts M_seen M_never M_said M_hoarse M_fitMany M_seedNow M_hasImage M_actsThen M_seenThen)), ((aM 16), .inl (cc 0, 700, .inl M_tape))] := hD
            obtain rfl := Option.some.inj hf
            exact retV C0 hP hD hS dX9_stepOn_220
      · have hf := ift c43 hf
        refine lv_aload_n hx hb dX9_stepOn_61 rfl (lv_at hl 1 rfl) ?_
        refine lv_iconst (v := 0) hx hb dX9_stepOn_62 (by decide) ?_
        refine va_put (D := (dC, dI)) (ci := 9) (v := .int 0) (ty := .int) (C := RX9) (T := TX9) (N := 63) hx hb hG kinX9 tyX9 tyX9_ok nmX9 hown hK hP hD hS 0 rfl rfl 20 (by decide) (hG _ kfX9_175) (fun _ h9 => h9) rfl (by decide +kernel) rfl rfl (Nat.le_of_ble_eq_true rfl) dX9_stepOn_63 (fun H locs hP hD hS => ?_)
        have hP : va_P (dC, dI) cLs [(oM, .inr (9, mkX9 aM M_values M_code M_taped M_at M_size 0 M_number M_at M_stops M_bad M_badPlace M_faultPlace M_ofVoting M_hour M_oil M_weight M_spider M_treasury M_joy M_passed M_acts M_seen M_never M_said M_hoarse M_fitMany M_seedNow M_hasImage M_actsThen M_seenThen)), ((aM 16), .inl (cc 0, 700, .inl M_tape))] _ := hP
        have hD : va_D A [(oM, .inr (9, mkX9 aM M_values M_code M_taped M_at M_size 0 M_number M_at M_stops M_bad M_badPlace M_faultPlace M_ofVoting M_hour M_oil M_weight M_spider M_treasury M_joy M_passed M_acts M_seen M_never M_said M_hoarse M_fitMany M_seedNow M_hasImage M_actsThen M_seenThen)), ((aM 16), .inl (cc 0, 700, .inl M_tape))] := hD
        refine lv_goto (tgt := 212) hx hb dX9_stepOn_66 (by decide) ?_
        refine lv_aload_n hx hb dX9_stepOn_212 rfl (lv_at hl 1 rfl) ?_
        refine lv_aload_n hx hb dX9_stepOn_213 rfl (lv_at hl 1 rfl) ?_
        refine va_get (D := (dC, dI)) (ci := 9) (v := .int M_at) (C := RX9) (T := TX9) (N := 63) hx hb hG kinX9 hown hK hP 0 rfl rfl 18 (by decide) (hG _ kfX9_165) (fun _ h9 => h9) rfl dX9_stepOn_214 ?_
        refine va_put (D := (dC, dI)) (ci := 9) (v := .int M_at) (ty := .int) (C := RX9) (T := TX9) (N := 63) hx hb hG kinX9 tyX9 tyX9_ok nmX9 hown hK hP hD hS 0 rfl rfl 23 (by decide) (hG _ kfX9_198) (fun _ h9 => h9) rfl (by decide +kernel) rfl rfl (Nat.le_of_ble_eq_true rfl) dX9_stepOn_217 (fun H locs hP hD hS => ?_)
        have hP : va_P (dC, dI) cLs [(oM, .inr (9, mkX9 aM M_values M_code M_taped M_at M_size 0 M_number M_at M_at M_bad M_badPlace M_faultPlace M_ofVoting M_hour M_oil M_weight M_spider M_treasury M_joy M_passed M_acts M_seen M_never M_said M_hoarse M_fitMany M_seedNow M_hasImage M_actsThen M_seenThen)), ((aM 16), .inl (cc 0, 700, .inl M_tape))] _ := hP
        have hD : va_D A [(oM, .inr (9, mkX9 aM M_values M_code M_taped M_at M_size 0 M_number M_at M_at M_bad M_badPlace M_faultPlace M_ofVoting M_hour M_oil M_weight M_spider M_treasury M_joy M_passed M_acts M_seen M_never M_said M_hoarse M_fitMany M_seedNow M_hasImage M_actsThen M_seenThen)), ((aM 16), .inl (cc 0, 700, .inl M_tape))] := hD
        obtain rfl := Option.some.inj hf
        exact retV C0 hP hD hS dX9_stepOn_220
    · have hf := ift c40 hf
      exact wjX9_stepOn_26 C0 oM aM M_values M_code M_taped M_at M_size M_token M_number M_begins M_stops M_bad M_badPlace M_faultPlace M_ofVoting M_hour M_oil M_weight M_spider M_treasury M_joy M_passed M_acts M_seen M_never M_said M_hoarse M_fitMany M_seedNow M_hasImage M_actsThen M_seenThen M_tape    hf _ _ hP hD hS _ (lv_sub hl [0] rfl)
theorem mX9_stepOn (l : Launch) (dC : Nat → ClassId) (dI : Nat → Nat → Nat) (cc : Nat → ClassId) (oM : Nat) (aM : Nat → Nat) (sz : Nat) (M_values : Int32) (M_code : Int32) (M_taped : Int32) (M_at : Int32) (M_size : Int32) (M_token : Int32) (M_number : Int32) (M_begins : Int32) (M_stops : Int32) (M_bad : Int32) (M_badPlace : Int32) (M_faultPlace : Int32) (M_ofVoting : Int32) (M_hour : Int32) (M_oil : Int32) (M_weight : Int32) (M_spider : Int32) (M_treasury : Int32) (M_joy : Int32) (M_passed : Int32) (M_acts : Int32) (M_seen : Int32) (M_never : Int32) (M_said : Int32) (M_hoarse : Int32) (M_fitMany : Int32) (M_seedNow : Int32) (M_hasImage : Int32) (M_actsThen : Int32) (M_seenThen : Int32) (M_tape : Nat → Int32)  {out : Int32 × Int32 × Int32 × Int32 × Int32} (hf : fX9_stepOn M_at M_size M_token M_number M_begins M_stops M_tape = some out) : Met l yX9_stepOn (Cond.code yX9_stepOn cX9_stepOn 2 none :: GW) rmX9_stepOn (PI dC dI cc [.ref oM] [(oM, .inr (9, mkX9 aM M_values M_code M_taped M_at M_size M_token M_number M_begins M_stops M_bad M_badPlace M_faultPlace M_ofVoting M_hour M_oil M_weight M_spider M_treasury M_joy M_passed M_acts M_seen M_never M_said M_hoarse M_fitMany M_seedNow M_hasImage M_actsThen M_seenThen)), ((aM 16), .inl (cc 0, 700, .inl M_tape))] sz) (QV dC dI cc [(oM, .inr (9, mkX9 aM M_values M_code M_taped out.1 M_size out.2.1 out.2.2.1 out.2.2.2.1 out.2.2.2.2 M_bad M_badPlace M_faultPlace M_ofVoting M_hour M_oil M_weight M_spider M_treasury M_joy M_passed M_acts M_seen M_never M_said M_hoarse M_fitMany M_seedNow M_hasImage M_actsThen M_seenThen)), ((aM 16), .inl (cc 0, 700, .inl M_tape))] (va_A [(oM, .inr (9, mkX9 aM M_values M_code M_taped M_at M_size M_token M_number M_begins M_stops M_bad M_badPlace M_faultPlace M_ofVoting M_hour M_oil M_weight M_spider M_treasury M_joy M_passed M_acts M_seen M_never M_said M_hoarse M_fitMany M_seedNow M_hasImage M_actsThen M_seenThen)), ((aM 16), .inl (cc 0, 700, .inl M_tape))] sz)) 0 0 (va_A [(oM, .inr (9, mkX9 aM M_values M_code M_taped M_at M_size M_token M_number M_begins M_stops M_bad M_badPlace M_faultPlace M_ofVoting M_hour M_oil M_weight M_spider M_treasury M_joy M_passed M_acts M_seen M_never M_said M_hoarse M_fitMany M_seedNow M_hasImage M_actsThen M_seenThen)), ((aM 16), .inl (cc 0, 700, .inl M_tape))] sz) :=
  met_of (Q := fun A => QV dC dI cc [(oM, .inr (9, mkX9 aM M_values M_code M_taped out.1 M_size out.2.1 out.2.2.1 out.2.2.2.1 out.2.2.2.2 M_bad M_badPlace M_faultPlace M_ofVoting M_hour M_oil M_weight M_spider M_treasury M_joy M_passed M_acts M_seen M_never M_said M_hoarse M_fitMany M_seedNow M_hasImage M_actsThen M_seenThen)), ((aM 16), .inl (cc 0, 700, .inl M_tape))] A) (by decide) rfl (Nat.le_of_ble_eq_true rfl) (fun p e s m below meth c A C0 hP hD hS ls hl => bX9_stepOn C0 oM aM M_values M_code M_taped M_at M_size M_token M_number M_begins M_stops M_bad M_badPlace M_faultPlace M_ofVoting M_hour M_oil M_weight M_spider M_treasury M_joy M_passed M_acts M_seen M_never M_said M_hoarse M_fitMany M_seedNow M_hasImage M_actsThen M_seenThen M_tape hf hP hD hS hl)
abbrev rmX9_wrong : Room := { frames := 0, cells := 0, slots := 0, locals := 0 }
def fX9_wrong  (M_begins : Int32) (M_bad : Int32) (M_badPlace : Int32) (p0 : Int32) : Option (Int32 × Int32) :=
  if M_bad = 0 then
    some (p0, M_begins)
  else
    some (M_bad, M_badPlace)
set_option maxHeartbeats 4000000 in
set_option maxRecDepth 100000 in
theorem bX9_wrong {p : Program} {l : Launch} {e : Env} {s : State} {m : MethodId} {args : Array Value} {below : List Frame} {meth : Method} {c : Code} {A : Nat → Prop} {dC : Nat → ClassId} {dI : Nat → Nat → Nat} {cc : Nat → ClassId} (C0 : CT p s m args meth c A dC dI cc cX9_wrong 2 none RX9) (oM : Nat) (aM : Nat → Nat) (M_values : Int32) (M_code : Int32) (M_taped : Int32) (M_at : Int32) (M_size : Int32) (M_token : Int32) (M_number : Int32) (M_begins : Int32) (M_stops : Int32) (M_bad : Int32) (M_badPlace : Int32) (M_faultPlace : Int32) (M_ofVoting : Int32) (M_hour : Int32) (M_oil : Int32) (M_weight : Int32) (M_spider : Int32) (M_treasury : Int32) (M_joy : Int32) (M_passed : Int32) (M_acts : Int32) (M_seen : Int32) (M_never : Int32) (M_said : Int32) (M_hoarse : Int32) (M_fitMany : Int32) (M_seedNow : Int32) (M_hasImage : Int32) (M_actsThen : Int32) (M_seenThen : Int32) (p0 : Int32) {out : Int32 × Int32} (hf : fX9_wrong M_begins M_bad M_badPlace p0 = some out) {H : Heap} {locs : List Loc} (hP : va_P (dC, dI) cLs [(oM, .inr (9, mkX9 aM M_values M_code M_taped M_at M_size M_token M_number M_begins M_stops M_bad M_badPlace M_faultPlace M_ofVoting M_hour M_oil M_weight M_spider M_treasury M_joy M_passed M_acts M_seen M_never M_said M_hoarse M_fitMany M_seedNow M_hasImage M_actsThen M_seenThen))] H) (hD : va_D A [(oM, .inr (9, mkX9 aM M_values M_code M_taped M_at M_size M_token M_number M_begins M_stops M_bad M_badPlace M_faultPlace M_ofVoting M_hour M_oil M_weight M_spider M_treasury M_joy M_passed M_acts M_seen M_never M_said M_hoarse M_fitMany M_seedNow M_hasImage M_actsThen M_seenThen))]) (hS : va_S A s.heap H locs) {ls : Array Slot} (hl : lv_has ls 2 [(0, .ref oM), (1, .int p0)]) : W p l e rmX9_wrong s m args below meth c H locs 0 0 (MQ below (QV dC dI cc [(oM, .inr (9, mkX9 aM M_values M_code M_taped M_at M_size M_token M_number M_begins M_stops out.1 out.2 M_faultPlace M_ofVoting M_hour M_oil M_weight M_spider M_treasury M_joy M_passed M_acts M_seen M_never M_said M_hoarse M_fitMany M_seedNow M_hasImage M_actsThen M_seenThen))] A) args s 0 0 A) (F0 m 0 ls []) := by
  obtain ⟨hx, hb, hml, hr, hlocks, hown, hG, hK, hA⟩ := id C0
  unfold fX9_wrong at hf
  refine lv_aload_n hx hb dX9_wrong_0 rfl (lv_at hl 0 rfl) ?_
  refine va_get (D := (dC, dI)) (ci := 9) (v := .int M_bad) (C := RX9) (T := TX9) (N := 63) hx hb hG kinX9 hown hK hP 0 rfl rfl 24 (by decide) (hG _ kfX9_201) (fun _ h9 => h9) rfl dX9_wrong_1 ?_
  refine lv_if_eq (tgt := 8) hx hb dX9_wrong_4 (by decide) (fun c1 => ?_) (fun c1 => ?_)
  · have hf := ift c1 hf
    refine lv_aload_n hx hb dX9_wrong_8 rfl (lv_at hl 0 rfl) ?_
    refine lv_iload_n hx hb dX9_wrong_9 rfl (lv_at hl 1 rfl) ?_
    refine va_put (D := (dC, dI)) (ci := 9) (v := .int p0) (ty := .int) (C := RX9) (T := TX9) (N := 63) hx hb hG kinX9 tyX9 tyX9_ok nmX9 hown hK hP hD hS 0 rfl rfl 24 (by decide) (hG _ kfX9_201) (fun _ h9 => h9) rfl (by decide +kernel) rfl rfl (Nat.le_of_ble_eq_true rfl) dX9_wrong_10 (fun H locs hP hD hS => ?_)
    have hP : va_P (dC, dI) cLs [(oM, .inr (9, mkX9 aM M_values M_code M_taped M_at M_size M_token M_number M_begins M_stops p0 M_badPlace M_faultPlace M_ofVoting M_hour M_oil M_weight M_spider M_treasury M_joy M_passed M_acts M_seen M_never M_said M_hoarse M_fitMany M_seedNow M_hasImage M_actsThen M_seenThen))] _ := hP
    have hD : va_D A [(oM, .inr (9, mkX9 aM M_values M_code M_taped M_at M_size M_token M_number M_begins M_stops p0 M_badPlace M_faultPlace M_ofVoting M_hour M_oil M_weight M_spider M_treasury M_joy M_passed M_acts M_seen M_never M_said M_hoarse M_fitMany M_seedNow M_hasImage M_actsThen M_seenThen))] := hD
    refine lv_aload_n hx hb dX9_wrong_13 rfl (lv_at hl 0 rfl) ?_
    refine lv_aload_n hx hb dX9_wrong_14 rfl (lv_at hl 0 rfl) ?_
    refine va_get (D := (dC, dI)) (ci := 9) (v := .int M_begins) (C := RX9) (T := TX9) (N := 63) hx hb hG kinX9 hown hK hP 0 rfl rfl 22 (by decide) (hG _ kfX9_172) (fun _ h9 => h9) rfl dX9_wrong_15 ?_
    refine va_put (D := (dC, dI)) (ci := 9) (v := .int M_begins) (ty := .int) (C := RX9) (T := TX9) (N := 63) hx hb hG kinX9 tyX9 tyX9_ok nmX9 hown hK hP hD hS 0 rfl rfl 25 (by decide) (hG _ kfX9_204) (fun _ h9 => h9) rfl (by decide +kernel) rfl rfl (Nat.le_of_ble_eq_true rfl) dX9_wrong_18 (fun H locs hP hD hS => ?_)
    have hP : va_P (dC, dI) cLs [(oM, .inr (9, mkX9 aM M_values M_code M_taped M_at M_size M_token M_number M_begins M_stops p0 M_begins M_faultPlace M_ofVoting M_hour M_oil M_weight M_spider M_treasury M_joy M_passed M_acts M_seen M_never M_said M_hoarse M_fitMany M_seedNow M_hasImage M_actsThen M_seenThen))] _ := hP
    have hD : va_D A [(oM, .inr (9, mkX9 aM M_values M_code M_taped M_at M_size M_token M_number M_begins M_stops p0 M_begins M_faultPlace M_ofVoting M_hour M_oil M_weight M_spider M_treasury M_joy M_passed M_acts M_seen M_never M_said M_hoarse M_fitMany M_seedNow M_hasImage M_actsThen M_seenThen))] := hD
    obtain rfl := Option.some.inj hf
    exact retV C0 hP hD hS dX9_wrong_21
  · have hf := iff_ c1 hf
    obtain rfl := Option.some.inj hf
    exact retV C0 hP hD hS dX9_wrong_7
theorem mX9_wrong (l : Launch) (dC : Nat → ClassId) (dI : Nat → Nat → Nat) (cc : Nat → ClassId) (oM : Nat) (aM : Nat → Nat) (sz : Nat) (M_values : Int32) (M_code : Int32) (M_taped : Int32) (M_at : Int32) (M_size : Int32) (M_token : Int32) (M_number : Int32) (M_begins : Int32) (M_stops : Int32) (M_bad : Int32) (M_badPlace : Int32) (M_faultPlace : Int32) (M_ofVoting : Int32) (M_hour : Int32) (M_oil : Int32) (M_weight : Int32) (M_spider : Int32) (M_treasury : Int32) (M_joy : Int32) (M_passed : Int32) (M_acts : Int32) (M_seen : Int32) (M_never : Int32) (M_said : Int32) (M_hoarse : Int32) (M_fitMany : Int32) (M_seedNow : Int32) (M_hasImage : Int32) (M_actsThen : Int32) (M_seenThen : Int32) (p0 : Int32) {out : Int32 × Int32} (hf : fX9_wrong M_begins M_bad M_badPlace p0 = some out) : Met l yX9_wrong (Cond.code yX9_wrong cX9_wrong 2 none :: GW) rmX9_wrong (PI dC dI cc [.ref oM, .int p0] [(oM, .inr (9, mkX9 aM M_values M_code M_taped M_at M_size M_token M_number M_begins M_stops M_bad M_badPlace M_faultPlace M_ofVoting M_hour M_oil M_weight M_spider M_treasury M_joy M_passed M_acts M_seen M_never M_said M_hoarse M_fitMany M_seedNow M_hasImage M_actsThen M_seenThen))] sz) (QV dC dI cc [(oM, .inr (9, mkX9 aM M_values M_code M_taped M_at M_size M_token M_number M_begins M_stops out.1 out.2 M_faultPlace M_ofVoting M_hour M_oil M_weight M_spider M_treasury M_joy M_passed M_acts M_seen M_never M_said M_hoarse M_fitMany M_seedNow M_hasImage M_actsThen M_seenThen))] (va_A [(oM, .inr (9, mkX9 aM M_values M_code M_taped M_at M_size M_token M_number M_begins M_stops M_bad M_badPlace M_faultPlace M_ofVoting M_hour M_oil M_weight M_spider M_treasury M_joy M_passed M_acts M_seen M_never M_said M_hoarse M_fitMany M_seedNow M_hasImage M_actsThen M_seenThen))] sz)) 0 0 (va_A [(oM, .inr (9, mkX9 aM M_values M_code M_taped M_at M_size M_token M_number M_begins M_stops M_bad M_badPlace M_faultPlace M_ofVoting M_hour M_oil M_weight M_spider M_treasury M_joy M_passed M_acts M_seen M_never M_said M_hoarse M_fitMany M_seedNow M_hasImage M_actsThen M_seenThen))] sz) :=
  met_of (Q := fun A => QV dC dI cc [(oM, .inr (9, mkX9 aM M_values M_code M_taped M_at M_size M_token M_number M_begins M_stops out.1 out.2 M_faultPlace M_ofVoting M_hour M_oil M_weight M_spider M_treasury M_joy M_passed M_acts M_seen M_never M_said M_hoarse M_fitMany M_seedNow M_hasImage M_actsThen M_seenThen))] A) (by decide) rfl (Nat.le_of_ble_eq_true rfl) (fun p e s m below meth c A C0 hP hD hS ls hl => bX9_wrong C0 oM aM M_values M_code M_taped M_at M_size M_token M_number M_begins M_stops M_bad M_badPlace M_faultPlace M_ofVoting M_hour M_oil M_weight M_spider M_treasury M_joy M_passed M_acts M_seen M_never M_said M_hoarse M_fitMany M_seedNow M_hasImage M_actsThen M_seenThen p0 hf hP hD hS hl)
abbrev rmX9_isMarked : Room := { frames := 0, cells := 0, slots := 0, locals := 0 }
def fX9_isMarked  (M_token : Int32) (M_begins : Int32) (M_bad : Int32) (M_tape : Nat → Int32) (p0 : Int32) : Option (Int32) :=
  if M_bad = 0 then
    if M_token = 3 then
      ck (inb M_begins 700) <|
      if (M_tape (M_begins : Int32).toNatClampNeg) = p0 then
        some 1
      else
        some 0
    else
      some 0
  else
    some 0
set_option maxHeartbeats 4000000 in
set_option maxRecDepth 100000 in
theorem bX9_isMarked {p : Program} {l : Launch} {e : Env} {s : State} {m : MethodId} {args : Array Value} {below : List Frame} {meth : Method} {c : Code} {A : Nat → Prop} {dC : Nat → ClassId} {dI : Nat → Nat → Nat} {cc : Nat → ClassId} (C0 : CT p s m args meth c A dC dI cc cX9_isMarked 2 (some .boolean) RX9) (oM : Nat) (aM : Nat → Nat) (M_values : Int32) (M_code : Int32) (M_taped : Int32) (M_at : Int32) (M_size : Int32) (M_token : Int32) (M_number : Int32) (M_begins : Int32) (M_stops : Int32) (M_bad : Int32) (M_badPlace : Int32) (M_faultPlace : Int32) (M_ofVoting : Int32) (M_hour : Int32) (M_oil : Int32) (M_weight : Int32) (M_spider : Int32) (M_treasury : Int32) (M_joy : Int32) (M_passed : Int32) (M_acts : Int32) (M_seen : Int32) (M_never : Int32) (M_said : Int32) (M_hoarse : Int32) (M_fitMany : Int32) (M_seedNow : Int32) (M_hasImage : Int32) (M_actsThen : Int32) (M_seenThen : Int32) (M_tape : Nat → Int32) (p0 : Int32) {out : Int32} (hf : fX9_isMarked M_token M_begins M_bad M_tape p0 = some out) {H : Heap} {locs : List Loc} (hP : va_P (dC, dI) cLs [(oM, .inr (9, mkX9 aM M_values M_code M_taped M_at M_size M_token M_number M_begins M_stops M_bad M_badPlace M_faultPlace M_ofVoting M_hour M_oil M_weight M_spider M_treasury M_joy M_passed M_acts M_seen M_never M_said M_hoarse M_fitMany M_seedNow M_hasImage M_actsThen M_seenThen)), ((aM 16), .inl (cc 0, 700, .inl M_tape))] H) (hD : va_D A [(oM, .inr (9, mkX9 aM M_values M_code M_taped M_at M_size M_token M_number M_begins M_stops M_bad M_badPlace M_faultPlace M_ofVoting M_hour M_oil M_weight M_spider M_treasury M_joy M_passed M_acts M_seen M_never M_said M_hoarse M_fitMany M_seedNow M_hasImage M_actsThen M_seenThen)), ((aM 16), .inl (cc 0, 700, .inl M_tape))]) (hS : va_S A s.heap H locs) {ls : Array Slot} (hl : lv_has ls 2 [(0, .ref oM), (1, .int p0)]) : W p l e rmX9_isMarked s m args below meth c H locs 0 0 (MQ below (QI dC dI cc out [(oM, .inr (9, mkX9 aM M_values M_code M_taped M_at M_size M_token M_number M_begins M_stops M_bad M_badPlace M_faultPlace M_ofVoting M_hour M_oil M_weight M_spider M_treasury M_joy M_passed M_acts M_seen M_never M_said M_hoarse M_fitMany M_seedNow M_hasImage M_actsThen M_seenThen)), ((aM 16), .inl (cc 0, 700, .inl M_tape))] A) args s 0 0 A) (F0 m 0 ls []) := by
  obtain ⟨hx, hb, hml, hr, hlocks, hown, hG, hK, hA⟩ := id C0
  unfold fX9_isMarked at hf
  refine lv_aload_n hx hb dX9_isMarked_0 rfl (lv_at hl 0 rfl) ?_
  refine va_get (D := (dC, dI)) (ci := 9) (v := .int M_bad) (C := RX9) (T := TX9) (N := 63) hx hb hG kinX9 hown hK hP 0 rfl rfl 24 (by decide) (hG _ kfX9_201) (fun _ h9 => h9) rfl dX9_isMarked_1 ?_
  refine lv_if_ne (tgt := 32) hx hb dX9_isMarked_4 (by decide) (fun c1 => ?_) (fun c1 => ?_)
  · have hf := iff_ c1 hf
    refine lv_iconst (v := 0) hx hb dX9_isMarked_32 (by decide) ?_
    obtain rfl := Option.some.inj hf
    exact retZ C0 hP hD hS rfl rfl dX9_isMarked_33
  · have hf := ift c1 hf
    refine lv_aload_n hx hb dX9_isMarked_7 rfl (lv_at hl 0 rfl) ?_
    refine va_get (D := (dC, dI)) (ci := 9) (v := .int M_token) (C := RX9) (T := TX9) (N := 63) hx hb hG kinX9 hown hK hP 0 rfl rfl 20 (by decide) (hG _ kfX9_175) (fun _ h9 => h9) rfl dX9_isMarked_8 ?_
    refine lv_iconst (v := 3) hx hb dX9_isMarked_11 (by decide) ?_
    refine lv_icmp_ne (tgt := 32) hx hb dX9_isMarked_12 (by decide) (fun c2 => ?_) (fun c2 => ?_)
    · have hf := iff_ c2 hf
      refine lv_iconst (v := 0) hx hb dX9_isMarked_32 (by decide) ?_
      obtain rfl := Option.some.inj hf
      exact retZ C0 hP hD hS rfl rfl dX9_isMarked_33
    · have hf := ift c2 hf
      refine lv_aload_n hx hb dX9_isMarked_15 rfl (lv_at hl 0 rfl) ?_
      refine va_get (D := (dC, dI)) (ci := 9) (v := .ref (aM 16)) (C := RX9) (T := TX9) (N := 63) hx hb hG kinX9 hown hK hP 0 rfl rfl 16 (by decide) (hG _ kfX9_82) (fun _ h9 => h9) rfl dX9_isMarked_16 ?_
      refine lv_aload_n hx hb dX9_isMarked_19 rfl (lv_at hl 0 rfl) ?_
      refine va_get (D := (dC, dI)) (ci := 9) (v := .int M_begins) (C := RX9) (T := TX9) (N := 63) hx hb hG kinX9 hown hK hP 0 rfl rfl 22 (by decide) (hG _ kfX9_172) (fun _ h9 => h9) rfl dX9_isMarked_20 ?_
      refine ck_el hf (fun g3 hf => ?_)
      refine va_iald hx hb hK hP 1 0 rfl rfl (inb_in g3) dX9_isMarked_23 ?_
      refine lv_iload_n hx hb dX9_isMarked_24 rfl (lv_at hl 1 rfl) ?_
      refine lv_icmp_ne (tgt := 32) hx hb dX9_isMarked_25 (by decide) (fun c4 => ?_) (fun c4 => ?_)
      · have hf := iff_ c4 hf
        refine lv_iconst (v := 0) hx hb dX9_isMarked_32 (by decide) ?_
        obtain rfl := Option.some.inj hf
        exact retZ C0 hP hD hS rfl rfl dX9_isMarked_33
      · have hf := ift c4 hf
        refine lv_iconst (v := 1) hx hb dX9_isMarked_28 (by decide) ?_
        refine lv_goto (tgt := 33) hx hb dX9_isMarked_29 (by decide) ?_
        obtain rfl := Option.some.inj hf
        exact retZ C0 hP hD hS rfl rfl dX9_isMarked_33
theorem mX9_isMarked (l : Launch) (dC : Nat → ClassId) (dI : Nat → Nat → Nat) (cc : Nat → ClassId) (oM : Nat) (aM : Nat → Nat) (sz : Nat) (M_values : Int32) (M_code : Int32) (M_taped : Int32) (M_at : Int32) (M_size : Int32) (M_token : Int32) (M_number : Int32) (M_begins : Int32) (M_stops : Int32) (M_bad : Int32) (M_badPlace : Int32) (M_faultPlace : Int32) (M_ofVoting : Int32) (M_hour : Int32) (M_oil : Int32) (M_weight : Int32) (M_spider : Int32) (M_treasury : Int32) (M_joy : Int32) (M_passed : Int32) (M_acts : Int32) (M_seen : Int32) (M_never : Int32) (M_said : Int32) (M_hoarse : Int32) (M_fitMany : Int32) (M_seedNow : Int32) (M_hasImage : Int32) (M_actsThen : Int32) (M_seenThen : Int32) (M_tape : Nat → Int32) (p0 : Int32) {out : Int32} (hf : fX9_isMarked M_token M_begins M_bad M_tape p0 = some out) : Met l yX9_isMarked (Cond.code yX9_isMarked cX9_isMarked 2 (some .boolean) :: GW) rmX9_isMarked (PI dC dI cc [.ref oM, .int p0] [(oM, .inr (9, mkX9 aM M_values M_code M_taped M_at M_size M_token M_number M_begins M_stops M_bad M_badPlace M_faultPlace M_ofVoting M_hour M_oil M_weight M_spider M_treasury M_joy M_passed M_acts M_seen M_never M_said M_hoarse M_fitMany M_seedNow M_hasImage M_actsThen M_seenThen)), ((aM 16), .inl (cc 0, 700, .inl M_tape))] sz) (QI dC dI cc out [(oM, .inr (9, mkX9 aM M_values M_code M_taped M_at M_size M_token M_number M_begins M_stops M_bad M_badPlace M_faultPlace M_ofVoting M_hour M_oil M_weight M_spider M_treasury M_joy M_passed M_acts M_seen M_never M_said M_hoarse M_fitMany M_seedNow M_hasImage M_actsThen M_seenThen)), ((aM 16), .inl (cc 0, 700, .inl M_tape))] (va_A [(oM, .inr (9, mkX9 aM M_values M_code M_taped M_at M_size M_token M_number M_begins M_stops M_bad M_badPlace M_faultPlace M_ofVoting M_hour M_oil M_weight M_spider M_treasury M_joy M_passed M_acts M_seen M_never M_said M_hoarse M_fitMany M_seedNow M_hasImage M_actsThen M_seenThen)), ((aM 16), .inl (cc 0, 700, .inl M_tape))] sz)) 0 0 (va_A [(oM, .inr (9, mkX9 aM M_values M_code M_taped M_at M_size M_token M_number M_begins M_stops M_bad M_badPlace M_faultPlace M_ofVoting M_hour M_oil M_weight M_spider M_treasury M_joy M_passed M_acts M_seen M_never M_said M_hoarse M_fitMany M_seedNow M_hasImage M_actsThen M_seenThen)), ((aM 16), .inl (cc 0, 700, .inl M_tape))] sz) :=
  met_of (Q := fun A => QI dC dI cc out [(oM, .inr (9, mkX9 aM M_values M_code M_taped M_at M_size M_token M_number M_begins M_stops M_bad M_badPlace M_faultPlace M_ofVoting M_hour M_oil M_weight M_spider M_treasury M_joy M_passed M_acts M_seen M_never M_said M_hoarse M_fitMany M_seedNow M_hasImage M_actsThen M_seenThen)), ((aM 16), .inl (cc 0, 700, .inl M_tape))] A) (by decide) rfl (Nat.le_of_ble_eq_true rfl) (fun p e s m below meth c A C0 hP hD hS ls hl => bX9_isMarked C0 oM aM M_values M_code M_taped M_at M_size M_token M_number M_begins M_stops M_bad M_badPlace M_faultPlace M_ofVoting M_hour M_oil M_weight M_spider M_treasury M_joy M_passed M_acts M_seen M_never M_said M_hoarse M_fitMany M_seedNow M_hasImage M_actsThen M_seenThen M_tape p0 hf hP hD hS hl)
abbrev rmX9_mark : Room := { frames := 2, cells := 0, slots := 0, locals := 42 }
def jX9_mark_20   (M_at : Int32) (M_size : Int32) (M_token : Int32) (M_number : Int32) (M_begins : Int32) (M_stops : Int32) (M_bad : Int32) (M_badPlace : Int32) (M_tape : Nat → Int32)  : Option (Int32 × Int32 × Int32 × Int32 × Int32 × Int32 × Int32) :=
  if M_bad = 0 then
    (fX9_stepOn M_at M_size M_token M_number M_begins M_stops M_tape).bind fun v4 =>
    some (v4.1, v4.2.1, v4.2.2.1, v4.2.2.2.1, v4.2.2.2.2, M_bad, M_badPlace)
  else
    some (M_at, M_token, M_number, M_begins, M_stops, M_bad, M_badPlace)
set_option maxHeartbeats 4000000 in
set_option maxRecDepth 100000 in
theorem wjX9_mark_20 {p : Program} {l : Launch} {e : Env} {s : State} {m : MethodId} {args : Array Value} {below : List Frame} {meth : Method} {c : Code} {A : Nat → Prop} {dC : Nat → ClassId} {dI : Nat → Nat → Nat} {cc : Nat → ClassId} (C0 : CT p s m args meth c A dC dI cc cX9_mark 2 none RX9) (oM : Nat) (aM : Nat → Nat) (M_values : Int32) (M_code : Int32) (M_taped : Int32) (M_at : Int32) (M_size : Int32) (M_token : Int32) (M_number : Int32) (M_begins : Int32) (M_stops : Int32) (M_bad : Int32) (M_badPlace : Int32) (M_faultPlace : Int32) (M_ofVoting : Int32) (M_hour : Int32) (M_oil : Int32) (M_weight : Int32) (M_spider : Int32) (M_treasury : Int32) (M_joy : Int32) (M_passed : Int32) (M_acts : Int32) (M_seen : Int32) (M_never : Int32) (M_said : Int32) (M_hoarse : Int32) (M_fitMany : Int32) (M_seedNow : Int32) (M_hasImage : Int32) (M_actsThen : Int32) (M_seenThen : Int32) (M_tape : Nat → Int32)  {out : Int32 × Int32 × Int32 × Int32 × Int32 × Int32 × Int32}    (hf : jX9_mark_20  M_at M_size M_token M_number M_begins M_stops M_bad M_badPlace M_tape  = some out) (H : Heap) (locs : List Loc) (hP : va_P (dC, dI) cLs [(oM, .inr (9, mkX9 aM M_values M_code M_taped M_at M_size M_token M_number M_begins M_stops M_bad M_badPlace M_faultPlace M_ofVoting M_hour M_oil M_weight M_spider M_treasury M_joy M_passed M_acts M_seen M_never M_said M_hoarse M_fitMany M_seedNow M_hasImage M_actsThen M_seenThen)), ((aM 16), .inl (cc 0, 700, .inl M_tape))] H) (hD : va_D A [(oM, .inr (9, mkX9 aM M_values M_code M_taped M_at M_size M_token M_number M_begins M_stops M_bad M_badPlace M_faultPlace M_ofVoting M_hour M_oil M_weight M_spider M_treasury M_joy M_passed M_acts M_seen M_never M_said M_hoarse M_fitMany M_seedNow M_hasImage M_actsThen M_seenThen)), ((aM 16), .inl (cc 0, 700, .inl M_tape))]) (hS : va_S A s.heap H locs) (ls : Array Slot) (hl : lv_has ls 2 [(0, .ref oM)]) : W p l e rmX9_mark s m args below meth c H locs 0 0 (MQ below (QV dC dI cc [(oM, .inr (9, mkX9 aM M_values M_code M_taped out.1 M_size out.2.1 out.2.2.1 out.2.2.2.1 out.2.2.2.2.1 out.2.2.2.2.2.1 out.2.2.2.2.2.2 M_faultPlace M_ofVoting M_hour M_oil M_weight M_spider M_treasury M_joy M_passed M_acts M_seen M_never M_said M_hoarse M_fitMany M_seedNow M_hasImage M_actsThen M_seenThen)), ((aM 16), .inl (cc 0, 700, .inl M_tape))] A) args s 0 0 A) (F0 m 20 ls []) := by
  obtain ⟨hx, hb, hml, hr, hlocks, hown, hG, hK, hA⟩ := id C0
  unfold jX9_mark_20 at hf
  refine lv_aload_n hx hb dX9_mark_20 rfl (lv_at hl 0 rfl) ?_
  refine va_get (D := (dC, dI)) (ci := 9) (v := .int M_bad) (C := RX9) (T := TX9) (N := 63) hx hb hG kinX9 hown hK hP 0 rfl rfl 24 (by decide) (hG _ kfX9_201) (fun _ h9 => h9) rfl dX9_mark_21 ?_
  refine lv_if_ne (tgt := 31) hx hb dX9_mark_24 (by decide) (fun c2 => ?_) (fun c2 => ?_)
  · have hf := iff_ c2 hf
    obtain rfl := Option.some.inj hf
    exact retV C0 hP hD hS dX9_mark_31
  · have hf := ift c2 hf
    refine lv_aload_n hx hb dX9_mark_27 rfl (lv_at hl 0 rfl) ?_
    refine bd_el hf (fun v4 hv4 hf => ?_)
    refine callVv (As := []) (rest := []) (wr := []) (wn := [(oM, .inr (9, mkX9 aM M_values M_code M_taped v4.1 M_size v4.2.1 v4.2.2.1 v4.2.2.2.1 v4.2.2.2.2 M_bad M_badPlace M_faultPlace M_ofVoting M_hour M_oil M_weight M_spider M_treasury M_joy M_passed M_acts M_seen M_never M_said M_hoarse M_fitMany M_seedNow M_hasImage M_actsThen M_seenThen)), ((aM 16), .inl (cc 0, 700, .inl M_tape))]) C0 kvX9_stepOn kmX9_226 hP hD hS (mX9_stepOn l dC dI cc oM aM _ M_values M_code M_taped M_at M_size M_token M_number M_begins M_stops M_bad M_badPlace M_faultPlace M_ofVoting M_hour M_oil M_weight M_spider M_treasury M_joy M_passed M_acts M_seen M_never M_said M_hoarse M_fitMany M_seedNow M_hasImage M_actsThen M_seenThen M_tape hv4) ⟨rfl, rfl⟩ ⟨Nat.le_of_ble_eq_true rfl, Nat.le_of_ble_eq_true rfl⟩ [0, 1] [] [0, 1] rfl rfl rfl rfl (ci := 9) rfl rfl 0 rfl rfl hl.1 rfl (Nat.le_of_ble_eq_true rfl) ⟨Nat.zero_le _, Nat.zero_le _⟩ dX9_mark_28 (fun H locs hP hD hS => ?_)
    obtain rfl := Option.some.inj hf
    exact retV C0 hP hD hS dX9_mark_31
def fX9_mark  (M_at : Int32) (M_size : Int32) (M_token : Int32) (M_number : Int32) (M_begins : Int32) (M_stops : Int32) (M_bad : Int32) (M_badPlace : Int32) (M_tape : Nat → Int32) (p0 : Int32) : Option (Int32 × Int32 × Int32 × Int32 × Int32 × Int32 × Int32) :=
  if M_bad = 0 then
    (fX9_isMarked M_token M_begins M_bad M_tape p0).bind fun v6 =>
    if v6 = 0 then
      (fX9_wrong M_begins M_bad M_badPlace 1).bind fun v9 =>
      jX9_mark_20 M_at M_size M_token M_number M_begins M_stops v9.1 v9.2 M_tape
    else
      jX9_mark_20 M_at M_size M_token M_number M_begins M_stops M_bad M_badPlace M_tape
  else
    jX9_mark_20 M_at M_size M_token M_number M_begins M_stops M_bad M_badPlace M_tape
set_option maxHeartbeats 4000000 in
set_option maxRecDepth 100000 in
theorem bX9_mark {p : Program} {l : Launch} {e : Env} {s : State} {m : MethodId} {args : Array Value} {below : List Frame} {meth : Method} {c : Code} {A : Nat → Prop} {dC : Nat → ClassId} {dI : Nat → Nat → Nat} {cc : Nat → ClassId} (C0 : CT p s m args meth c A dC dI cc cX9_mark 2 none RX9) (oM : Nat) (aM : Nat → Nat) (M_values : Int32) (M_code : Int32) (M_taped : Int32) (M_at : Int32) (M_size : Int32) (M_token : Int32) (M_number : Int32) (M_begins : Int32) (M_stops : Int32) (M_bad : Int32) (M_badPlace : Int32) (M_faultPlace : Int32) (M_ofVoting : Int32) (M_hour : Int32) (M_oil : Int32) (M_weight : Int32) (M_spider : Int32) (M_treasury : Int32) (M_joy : Int32) (M_passed : Int32) (M_acts : Int32) (M_seen : Int32) (M_never : Int32) (M_said : Int32) (M_hoarse : Int32) (M_fitMany : Int32) (M_seedNow : Int32) (M_hasImage : Int32) (M_actsThen : Int32) (M_seenThen : Int32) (M_tape : Nat → Int32) (p0 : Int32) {out : Int32 × Int32 × Int32 × Int32 × Int32 × Int32 × Int32} (hf : fX9_mark M_at M_size M_token M_number M_begins M_stops M_bad M_badPlace M_tape p0 = some out) {H : Heap} {locs : List Loc} (hP : va_P (dC, dI) cLs [(oM, .inr (9, mkX9 aM M_values M_code M_taped M_at M_size M_token M_number M_begins M_stops M_bad M_badPlace M_faultPlace M_ofVoting M_hour M_oil M_weight M_spider M_treasury M_joy M_passed M_acts M_seen M_never M_said M_hoarse M_fitMany M_seedNow M_hasImage M_actsThen M_seenThen)), ((aM 16), .inl (cc 0, 700, .inl M_tape))] H) (hD : va_D A [(oM, .inr (9, mkX9 aM M_values M_code M_taped M_at M_size M_token M_number M_begins M_stops M_bad M_badPlace M_faultPlace M_ofVoting M_hour M_oil M_weight M_spider M_treasury M_joy M_passed M_acts M_seen M_never M_said M_hoarse M_fitMany M_seedNow M_hasImage M_actsThen M_seenThen)), ((aM 16), .inl (cc 0, 700, .inl M_tape))]) (hS : va_S A s.heap H locs) {ls : Array Slot} (hl : lv_has ls 2 [(0, .ref oM), (1, .int p0)]) : W p l e rmX9_mark s m args below meth c H locs 0 0 (MQ below (QV dC dI cc [(oM, .inr (9, mkX9 aM M_values M_code M_taped out.1 M_size out.2.1 out.2.2.1 out.2.2.2.1 out.2.2.2.2.1 out.2.2.2.2.2.1 out.2.2.2.2.2.2 M_faultPlace M_ofVoting M_hour M_oil M_weight M_spider M_treasury M_joy M_passed M_acts M_seen M_never M_said M_hoarse M_fitMany M_seedNow M_hasImage M_actsThen M_seenThen)), ((aM 16), .inl (cc 0, 700, .inl M_tape))] A) args s 0 0 A) (F0 m 0 ls []) := by
  obtain ⟨hx, hb, hml, hr, hlocks, hown, hG, hK, hA⟩ := id C0
  unfold fX9_mark at hf
  refine lv_aload_n hx hb dX9_mark_0 rfl (lv_at hl 0 rfl) ?_
  refine va_get (D := (dC, dI)) (ci := 9) (v := .int M_bad) (C := RX9) (T := TX9) (N := 63) hx hb hG kinX9 hown hK hP 0 rfl rfl 24 (by decide) (hG _ kfX9_201) (fun _ h9 => h9) rfl dX9_mark_1 ?_
  refine lv_if_ne (tgt := 20) hx hb dX9_mark_4 (by decide) (fun c1 => ?_) (fun c1 => ?_)
  · have hf := iff_ c1 hf
    exact wjX9_mark_20 C0 oM aM M_values M_code M_taped M_at M_size M_token M_number M_begins M_stops M_bad M_badPlace M_faultPlace M_ofVoting M_hour M_oil M_weight M_spider M_treasury M_joy M_passed M_acts M_seen M_never M_said M_hoarse M_fitMany M_seedNow M_hasImage M_actsThen M_seenThen M_tape    hf _ _ hP hD hS _ (lv_sub hl [0] rfl)
  · have hf := ift c1 hf
    refine lv_aload_n hx hb dX9_mark_7 rfl (lv_at hl 0 rfl) ?_
    refine lv_iload_n hx hb dX9_mark_8 rfl (lv_at hl 1 rfl) ?_
    refine bd_el hf (fun v6 hv6 hf => ?_)
    refine callVi (As := [.int p0]) (rest := []) (wr := []) (wn := [(oM, .inr (9, mkX9 aM M_values M_code M_taped M_at M_size M_token M_number M_begins M_stops M_bad M_badPlace M_faultPlace M_ofVoting M_hour M_oil M_weight M_spider M_treasury M_joy M_passed M_acts M_seen M_never M_said M_hoarse M_fitMany M_seedNow M_hasImage M_actsThen M_seenThen)), ((aM 16), .inl (cc 0, 700, .inl M_tape))]) C0 kvX9_isMarked kmX9_219 hP hD hS (mX9_isMarked l dC dI cc oM aM _ M_values M_code M_taped M_at M_size M_token M_number M_begins M_stops M_bad M_badPlace M_faultPlace M_ofVoting M_hour M_oil M_weight M_spider M_treasury M_joy M_passed M_acts M_seen M_never M_said M_hoarse M_fitMany M_seedNow M_hasImage M_actsThen M_seenThen M_tape p0 hv6) ⟨rfl, rfl⟩ ⟨Nat.le_of_ble_eq_true rfl, Nat.le_of_ble_eq_true rfl⟩ [0, 1] [] [0, 1] rfl rfl rfl rfl (ci := 9) rfl rfl 0 rfl rfl hl.1 rfl (Nat.le_of_ble_eq_true rfl) ⟨Nat.zero_le _, Nat.zero_le _⟩ dX9_mark_9 (fun H locs hP hD hS => ?_)
    refine lv_if_ne (tgt := 20) hx hb dX9_mark_12 (by decide) (fun c7 => ?_) (fun c7 => ?_)
    · have hf := iff_ c7 hf
      exact wjX9_mark_20 C0 oM aM M_values M_code M_taped M_at M_size M_token M_number M_begins M_stops M_bad M_badPlace M_faultPlace M_ofVoting M_hour M_oil M_weight M_spider M_treasury M_joy M_passed M_acts M_seen M_never M_said M_hoarse M_fitMany M_seedNow M_hasImage M_actsThen M_seenThen M_tape    hf _ _ hP hD hS _ (lv_sub hl [0] rfl)
    · have hf := ift c7 hf
      refine lv_aload_n hx hb dX9_mark_15 rfl (lv_at hl 0 rfl) ?_
      refine lv_iconst (v := 1) hx hb dX9_mark_16 (by decide) ?_
      refine bd_el hf (fun v9 hv9 hf => ?_)
      refine callVv (As := [.int 1]) (rest := []) (wr := [((aM 16), .inl (cc 0, 700, .inl M_tape))]) (wn := [(oM, .inr (9, mkX9 aM M_values M_code M_taped M_at M_size M_token M_number M_begins M_stops v9.1 v9.2 M_faultPlace M_ofVoting M_hour M_oil M_weight M_spider M_treasury M_joy M_passed M_acts M_seen M_never M_said M_hoarse M_fitMany M_seedNow M_hasImage M_actsThen M_seenThen)), ((aM 16), .inl (cc 0, 700, .inl M_tape))]) C0 kvX9_wrong kmX9_222 hP hD hS (mX9_wrong l dC dI cc oM aM _ M_values M_code M_taped M_at M_size M_token M_number M_begins M_stops M_bad M_badPlace M_faultPlace M_ofVoting M_hour M_oil M_weight M_spider M_treasury M_joy M_passed M_acts M_seen M_never M_said M_hoarse M_fitMany M_seedNow M_hasImage M_actsThen M_seenThen 1 hv9) ⟨rfl, rfl⟩ ⟨Nat.le_of_ble_eq_true rfl, Nat.le_of_ble_eq_true rfl⟩ [0] [1] [1, 0] rfl rfl rfl rfl (ci := 9) rfl rfl 0 rfl rfl hl.1 rfl (Nat.le_of_ble_eq_true rfl) ⟨Nat.zero_le _, Nat.zero_le _⟩ dX9_mark_17 (fun H locs hP hD hS => ?_)
      exact wjX9_mark_20 C0 oM aM M_values M_code M_taped M_at M_size M_token M_number M_begins M_stops v9.1 v9.2 M_faultPlace M_ofVoting M_hour M_oil M_weight M_spider M_treasury M_joy M_passed M_acts M_seen M_never M_said M_hoarse M_fitMany M_seedNow M_hasImage M_actsThen M_seenThen M_tape    hf _ _ hP hD hS _ (lv_sub hl [0] rfl)
theorem mX9_mark (l : Launch) (dC : Nat → ClassId) (dI : Nat → Nat → Nat) (cc : Nat → ClassId) (oM : Nat) (aM : Nat → Nat) (sz : Nat) (M_values : Int32) (M_code : Int32) (M_taped : Int32) (M_at : Int32) (M_size : Int32) (M_token : Int32) (M_number : Int32) (M_begins : Int32) (M_stops : Int32) (M_bad : Int32) (M_badPlace : Int32) (M_faultPlace : Int32) (M_ofVoting : Int32) (M_hour : Int32) (M_oil : Int32) (M_weight : Int32) (M_spider : Int32) (M_treasury : Int32) (M_joy : Int32) (M_passed : Int32) (M_acts : Int32) (M_seen : Int32) (M_never : Int32) (M_said : Int32) (M_hoarse : Int32) (M_fitMany : Int32) (M_seedNow : Int32) (M_hasImage : Int32) (M_actsThen : Int32) (M_seenThen : Int32) (M_tape : Nat → Int32) (p0 : Int32) {out : Int32 × Int32 × Int32 × Int32 × Int32 × Int32 × Int32} (hf : fX9_mark M_at M_size M_token M_number M_begins M_stops M_bad M_badPlace M_tape p0 = some out) : Met l yX9_mark (Cond.code yX9_mark cX9_mark 2 none :: GW) rmX9_mark (PI dC dI cc [.ref oM, .int p0] [(oM, .inr (9, mkX9 aM M_values M_code M_taped M_at M_size M_token M_number M_begins M_stops M_bad M_badPlace M_faultPlace M_ofVoting M_hour M_oil M_weight M_spider M_treasury M_joy M_passed M_acts M_seen M_never M_said M_hoarse M_fitMany M_seedNow M_hasImage M_actsThen M_seenThen)), ((aM 16), .inl (cc 0, 700, .inl M_tape))] sz) (QV dC dI cc [(oM, .inr (9, mkX9 aM M_values M_code M_taped out.1 M_size out.2.1 out.2.2.1 out.2.2.2.1 out.2.2.2.2.1 out.2.2.2.2.2.1 out.2.2.2.2.2.2 M_faultPlace M_ofVoting M_hour M_oil M_weight M_spider M_treasury M_joy M_passed M_acts M_seen M_never M_said M_hoarse M_fitMany M_seedNow M_hasImage M_actsThen M_seenThen)), ((aM 16), .inl (cc 0, 700, .inl M_tape))] (va_A [(oM, .inr (9, mkX9 aM M_values M_code M_taped M_at M_size M_token M_number M_begins M_stops M_bad M_badPlace M_faultPlace M_ofVoting M_hour M_oil M_weight M_spider M_treasury M_joy M_passed M_acts M_seen M_never M_said M_hoarse M_fitMany M_seedNow M_hasImage M_actsThen M_seenThen)), ((aM 16), .inl (cc 0, 700, .inl M_tape))] sz)) 0 0 (va_A [(oM, .inr (9, mkX9 aM M_values M_code M_taped M_at M_size M_token M_number M_begins M_stops M_bad M_badPlace M_faultPlace M_ofVoting M_hour M_oil M_weight M_spider M_treasury M_joy M_passed M_acts M_seen M_never M_said M_hoarse M_fitMany M_seedNow M_hasImage M_actsThen M_seenThen)), ((aM 16), .inl (cc 0, 700, .inl M_tape))] sz) :=
  met_of (Q := fun A => QV dC dI cc [(oM, .inr (9, mkX9 aM M_values M_code M_taped out.1 M_size out.2.1 out.2.2.1 out.2.2.2.1 out.2.2.2.2.1 out.2.2.2.2.2.1 out.2.2.2.2.2.2 M_faultPlace M_ofVoting M_hour M_oil M_weight M_spider M_treasury M_joy M_passed M_acts M_seen M_never M_said M_hoarse M_fitMany M_seedNow M_hasImage M_actsThen M_seenThen)), ((aM 16), .inl (cc 0, 700, .inl M_tape))] A) (by decide) rfl (Nat.le_of_ble_eq_true rfl) (fun p e s m below meth c A C0 hP hD hS ls hl => bX9_mark C0 oM aM M_values M_code M_taped M_at M_size M_token M_number M_begins M_stops M_bad M_badPlace M_faultPlace M_ofVoting M_hour M_oil M_weight M_spider M_treasury M_joy M_passed M_acts M_seen M_never M_said M_hoarse M_fitMany M_seedNow M_hasImage M_actsThen M_seenThen M_tape p0 hf hP hD hS hl)
abbrev rmX9_numberNow : Room := { frames := 1, cells := 0, slots := 0, locals := 21 }
def jX9_numberNow_54   (M_number : Int32) (M_begins : Int32) (M_bad : Int32) (M_badPlace : Int32)  : Option (Int32 × Int32 × Int32) :=
  (fX9_wrong M_begins M_bad M_badPlace 2).bind fun v5 =>
  if v5.1 = 0 then
    some (M_number, v5.1, v5.2)
  else
    some (0, v5.1, v5.2)
set_option maxHeartbeats 4000000 in
set_option maxRecDepth 100000 in
theorem wjX9_numberNow_54 {p : Program} {l : Launch} {e : Env} {s : State} {m : MethodId} {args : Array Value} {below : List Frame} {meth : Method} {c : Code} {A : Nat → Prop} {dC : Nat → ClassId} {dI : Nat → Nat → Nat} {cc : Nat → ClassId} (C0 : CT p s m args meth c A dC dI cc cX9_numberNow 3 (some .int) RX9) (oM : Nat) (aM : Nat → Nat) (M_values : Int32) (M_code : Int32) (M_taped : Int32) (M_at : Int32) (M_size : Int32) (M_token : Int32) (M_number : Int32) (M_begins : Int32) (M_stops : Int32) (M_bad : Int32) (M_badPlace : Int32) (M_faultPlace : Int32) (M_ofVoting : Int32) (M_hour : Int32) (M_oil : Int32) (M_weight : Int32) (M_spider : Int32) (M_treasury : Int32) (M_joy : Int32) (M_passed : Int32) (M_acts : Int32) (M_seen : Int32) (M_never : Int32) (M_said : Int32) (M_hoarse : Int32) (M_fitMany : Int32) (M_seedNow : Int32) (M_hasImage : Int32) (M_actsThen : Int32) (M_seenThen : Int32)  {out : Int32 × Int32 × Int32}    (hf : jX9_numberNow_54  M_number M_begins M_bad M_badPlace  = some out) (H : Heap) (locs : List Loc) (hP : va_P (dC, dI) cLs [(oM, .inr (9, mkX9 aM M_values M_code M_taped M_at M_size M_token M_number M_begins M_stops M_bad M_badPlace M_faultPlace M_ofVoting M_hour M_oil M_weight M_spider M_treasury M_joy M_passed M_acts M_seen M_never M_said M_hoarse M_fitMany M_seedNow M_hasImage M_actsThen M_seenThen))] H) (hD : va_D A [(oM, .inr (9, mkX9 aM M_values M_code M_taped M_at M_size M_token M_number M_begins M_stops M_bad M_badPlace M_faultPlace M_ofVoting M_hour M_oil M_weight M_spider M_treasury M_joy M_passed M_acts M_seen M_never M_said M_hoarse M_fitMany M_seedNow M_hasImage M_actsThen M_seenThen))]) (hS : va_S A s.heap H locs) (ls : Array Slot) (hl : lv_has ls 3 [(0, .ref oM)]) : W p l e rmX9_numberNow s m args below meth c H locs 0 0 (MQ below (QI dC dI cc out.1 [(oM, .inr (9, mkX9 aM M_values M_code M_taped M_at M_size M_token M_number M_begins M_stops out.2.1 out.2.2 M_faultPlace M_ofVoting M_hour M_oil M_weight M_spider M_treasury M_joy M_passed M_acts M_seen M_never M_said M_hoarse M_fitMany M_seedNow M_hasImage M_actsThen M_seenThen))] A) args s 0 0 A) (F0 m 54 ls []) := by
  obtain ⟨hx, hb, hml, hr, hlocks, hown, hG, hK, hA⟩ := id C0
  unfold jX9_numberNow_54 at hf
  refine lv_aload_n hx hb dX9_numberNow_54 rfl (lv_at hl 0 rfl) ?_
  refine lv_iconst (v := 2) hx hb dX9_numberNow_55 (by decide) ?_
  refine bd_el hf (fun v5 hv5 hf => ?_)
  refine callVv (As := [.int 2]) (rest := []) (wr := []) (wn := [(oM, .inr (9, mkX9 aM M_values M_code M_taped M_at M_size M_token M_number M_begins M_stops v5.1 v5.2 M_faultPlace M_ofVoting M_hour M_oil M_weight M_spider M_treasury M_joy M_passed M_acts M_seen M_never M_said M_hoarse M_fitMany M_seedNow M_hasImage M_actsThen M_seenThen))]) C0 kvX9_wrong kmX9_222 hP hD hS (mX9_wrong l dC dI cc oM aM _ M_values M_code M_taped M_at M_size M_token M_number M_begins M_stops M_bad M_badPlace M_faultPlace M_ofVoting M_hour M_oil M_weight M_spider M_treasury M_joy M_passed M_acts M_seen M_never M_said M_hoarse M_fitMany M_seedNow M_hasImage M_actsThen M_seenThen 2 hv5) ⟨rfl, rfl⟩ ⟨Nat.le_of_ble_eq_true rfl, Nat.le_of_ble_eq_true rfl⟩ [0] [] [0] rfl rfl rfl rfl (ci := 9) rfl rfl 0 rfl rfl hl.1 rfl (Nat.le_of_ble_eq_true rfl) ⟨Nat.zero_le _, Nat.zero_le _⟩ dX9_numberNow_56 (fun H locs hP hD hS => ?_)
  refine lv_aload_n hx hb dX9_numberNow_59 rfl (lv_at hl 0 rfl) ?_
  refine va_get (D := (dC, dI)) (ci := 9) (v := .int v5.1) (C := RX9) (T := TX9) (N := 63) hx hb hG kinX9 hown hK hP 0 rfl rfl 24 (by decide) (hG _ kfX9_201) (fun _ h9 => h9) rfl dX9_numberNow_60 ?_
  refine lv_if_ne (tgt := 73) hx hb dX9_numberNow_63 (by decide) (fun c6 => ?_) (fun c6 => ?_)
  · have hf := iff_ c6 hf
    refine lv_iconst (v := 0) hx hb dX9_numberNow_73 (by decide) ?_
    obtain rfl := Option.some.inj hf
    exact retI C0 hP hD hS rfl dX9_numberNow_74
  · have hf := ift c6 hf
    refine lv_aload_n hx hb dX9_numberNow_66 rfl (lv_at hl 0 rfl) ?_
    refine va_get (D := (dC, dI)) (ci := 9) (v := .int M_number) (C := RX9) (T := TX9) (N := 63) hx hb hG kinX9 hown hK hP 0 rfl rfl 21 (by decide) (hG _ kfX9_185) (fun _ h9 => h9) rfl dX9_numberNow_67 ?_
    refine lv_goto (tgt := 74) hx hb dX9_numberNow_70 (by decide) ?_
    obtain rfl := Option.some.inj hf
    exact retI C0 hP hD hS rfl dX9_numberNow_74
def fX9_numberNow  (M_token : Int32) (M_number : Int32) (M_begins : Int32) (M_stops : Int32) (M_bad : Int32) (M_badPlace : Int32) (p0 : Int32) (p1 : Int32) : Option (Int32 × Int32 × Int32) :=
  if M_bad = 0 then
    if M_token = 2 then
      if 4 < (M_stops - M_begins) then
        jX9_numberNow_54 M_number M_begins M_bad M_badPlace
      else
        if M_number < p0 then
          jX9_numberNow_54 M_number M_begins M_bad M_badPlace
        else
          if M_number ≤ p1 then
            if M_bad = 0 then
              some (M_number, M_bad, M_badPlace)
            else
              some (0, M_bad, M_badPlace)
          else
            jX9_numberNow_54 M_number M_begins M_bad M_badPlace
    else
      (fX9_wrong M_begins M_bad M_badPlace 1).bind fun v11 =>
      if v11.1 = 0 then
        some (M_number, v11.1, v11.2)
      else
        some (0, v11.1, v11.2)
  else
    some (0, M_bad, M_badPlace)
set_option maxHeartbeats 4000000 in
set_option maxRecDepth 100000 in
theorem bX9_numberNow {p : Program} {l : Launch} {e : Env} {s : State} {m : MethodId} {args : Array Value} {below : List Frame} {meth : Method} {c : Code} {A : Nat → Prop} {dC : Nat → ClassId} {dI : Nat → Nat → Nat} {cc : Nat → ClassId} (C0 : CT p s m args meth c A dC dI cc cX9_numberNow 3 (some .int) RX9) (oM : Nat) (aM : Nat → Nat) (M_values : Int32) (M_code : Int32) (M_taped : Int32) (M_at : Int32) (M_size : Int32) (M_token : Int32) (M_number : Int32) (M_begins : Int32) (M_stops : Int32) (M_bad : Int32) (M_badPlace : Int32) (M_faultPlace : Int32) (M_ofVoting : Int32) (M_hour : Int32) (M_oil : Int32) (M_weight : Int32) (M_spider : Int32) (M_treasury : Int32) (M_joy : Int32) (M_passed : Int32) (M_acts : Int32) (M_seen : Int32) (M_never : Int32) (M_said : Int32) (M_hoarse : Int32) (M_fitMany : Int32) (M_seedNow : Int32) (M_hasImage : Int32) (M_actsThen : Int32) (M_seenThen : Int32) (p0 : Int32) (p1 : Int32) {out : Int32 × Int32 × Int32} (hf : fX9_numberNow M_token M_number M_begins M_stops M_bad M_badPlace p0 p1 = some out) {H : Heap} {locs : List Loc} (hP : va_P (dC, dI) cLs [(oM, .inr (9, mkX9 aM M_values M_code M_taped M_at M_size M_token M_number M_begins M_stops M_bad M_badPlace M_faultPlace M_ofVoting M_hour M_oil M_weight M_spider M_treasury M_joy M_passed M_acts M_seen M_never M_said M_hoarse M_fitMany M_seedNow M_hasImage M_actsThen M_seenThen))] H) (hD : va_D A [(oM, .inr (9, mkX9 aM M_values M_code M_taped M_at M_size M_token M_number M_begins M_stops M_bad M_badPlace M_faultPlace M_ofVoting M_hour M_oil M_weight M_spider M_treasury M_joy M_passed M_acts M_seen M_never M_said M_hoarse M_fitMany M_seedNow M_hasImage M_actsThen M_seenThen))]) (hS : va_S A s.heap H locs) {ls : Array Slot} (hl : lv_has ls 3 [(0, .ref oM), (1, .int p0), (2, .int p1)]) : W p l e rmX9_numberNow s m args below meth c H locs 0 0 (MQ below (QI dC dI cc out.1 [(oM, .inr (9, mkX9 aM M_values M_code M_taped M_at M_size M_token M_number M_begins M_stops out.2.1 out.2.2 M_faultPlace M_ofVoting M_hour M_oil M_weight M_spider M_treasury M_joy M_passed M_acts M_seen M_never M_said M_hoarse M_fitMany M_seedNow M_hasImage M_actsThen M_seenThen))] A) args s 0 0 A) (F0 m 0 ls []) := by
  obtain ⟨hx, hb, hml, hr, hlocks, hown, hG, hK, hA⟩ := id C0
  unfold fX9_numberNow at hf
  refine lv_aload_n hx hb dX9_numberNow_0 rfl (lv_at hl 0 rfl) ?_
  refine va_get (D := (dC, dI)) (ci := 9) (v := .int M_bad) (C := RX9) (T := TX9) (N := 63) hx hb hG kinX9 hown hK hP 0 rfl rfl 24 (by decide) (hG _ kfX9_201) (fun _ h9 => h9) rfl dX9_numberNow_1 ?_
  refine lv_if_eq (tgt := 9) hx hb dX9_numberNow_4 (by decide) (fun c1 => ?_) (fun c1 => ?_)
  · have hf := ift c1 hf
    refine lv_aload_n hx hb dX9_numberNow_9 rfl (lv_at hl 0 rfl) ?_
    refine va_get (D := (dC, dI)) (ci := 9) (v := .int M_token) (C := RX9) (T := TX9) (N := 63) hx hb hG kinX9 hown hK hP 0 rfl rfl 20 (by decide) (hG _ kfX9_175) (fun _ h9 => h9) rfl dX9_numberNow_10 ?_
    refine lv_iconst (v := 2) hx hb dX9_numberNow_13 (by decide) ?_
    refine lv_icmp_eq (tgt := 25) hx hb dX9_numberNow_14 (by decide) (fun c2 => ?_) (fun c2 => ?_)
    · have hf := ift c2 hf
      refine lv_aload_n hx hb dX9_numberNow_25 rfl (lv_at hl 0 rfl) ?_
      refine va_get (D := (dC, dI)) (ci := 9) (v := .int M_stops) (C := RX9) (T := TX9) (N := 63) hx hb hG kinX9 hown hK hP 0 rfl rfl 23 (by decide) (hG _ kfX9_198) (fun _ h9 => h9) rfl dX9_numberNow_26 ?_
      refine lv_aload_n hx hb dX9_numberNow_29 rfl (lv_at hl 0 rfl) ?_
      refine va_get (D := (dC, dI)) (ci := 9) (v := .int M_begins) (C := RX9) (T := TX9) (N := 63) hx hb hG kinX9 hown hK hP 0 rfl rfl 22 (by decide) (hG _ kfX9_172) (fun _ h9 => h9) rfl dX9_numberNow_30 ?_
      refine lv_isub hx hb dX9_numberNow_33 ?_
      refine lv_iconst (v := 4) hx hb dX9_numberNow_34 (by decide) ?_
      refine lv_icmp_gt (tgt := 54) hx hb dX9_numberNow_35 (by decide) (fun c3 => ?_) (fun c3 => ?_)
      · have hf := ift c3 hf
        exact wjX9_numberNow_54 C0 oM aM M_values M_code M_taped M_at M_size M_token M_number M_begins M_stops M_bad M_badPlace M_faultPlace M_ofVoting M_hour M_oil M_weight M_spider M_treasury M_joy M_passed M_acts M_seen M_never M_said M_hoarse M_fitMany M_seedNow M_hasImage M_actsThen M_seenThen    hf _ _ hP hD hS _ (lv_sub hl [0] rfl)
      · have hf := iff_ c3 hf
        refine lv_aload_n hx hb dX9_numberNow_38 rfl (lv_at hl 0 rfl) ?_
        refine va_get (D := (dC, dI)) (ci := 9) (v := .int M_number) (C := RX9) (T := TX9) (N := 63) hx hb hG kinX9 hown hK hP 0 rfl rfl 21 (by decide) (hG _ kfX9_185) (fun _ h9 => h9) rfl dX9_numberNow_39 ?_
        refine lv_iload_n hx hb dX9_numberNow_42 rfl (lv_at hl 1 rfl) ?_
        refine lv_icmp_lt (tgt := 54) hx hb dX9_numberNow_43 (by decide) (fun c7 => ?_) (fun c7 => ?_)
        · have hf := ift c7 hf
          exact wjX9_numberNow_54 C0 oM aM M_values M_code M_taped M_at M_size M_token M_number M_begins M_stops M_bad M_badPlace M_faultPlace M_ofVoting M_hour M_oil M_weight M_spider M_treasury M_joy M_passed M_acts M_seen M_never M_said M_hoarse M_fitMany M_seedNow M_hasImage M_actsThen M_seenThen    hf _ _ hP hD hS _ (lv_sub hl [0] rfl)
        · have hf := iff_ c7 hf
          refine lv_aload_n hx hb dX9_numberNow_46 rfl (lv_at hl 0 rfl) ?_
          refine va_get (D := (dC, dI)) (ci := 9) (v := .int M_number) (C := RX9) (T := TX9) (N := 63) hx hb hG kinX9 hown hK hP 0 rfl rfl 21 (by decide) (hG _ kfX9_185) (fun _ h9 => h9) rfl dX9_numberNow_47 ?_
          refine lv_iload_n hx hb dX9_numberNow_50 rfl (lv_at hl 2 rfl) ?_
          refine lv_icmp_le (tgt := 59) hx hb dX9_numberNow_51 (by decide) (fun c8 => ?_) (fun c8 => ?_)
          · have hf := ift c8 hf
            refine lv_aload_n hx hb dX9_numberNow_59 rfl (lv_at hl 0 rfl) ?_
            refine va_get (D := (dC, dI)) (ci := 9) (v := .int M_bad) (C := RX9) (T := TX9) (N := 63) hx hb hG kinX9 hown hK hP 0 rfl rfl 24 (by decide) (hG _ kfX9_201) (fun _ h9 => h9) rfl dX9_numberNow_60 ?_
            refine lv_if_ne (tgt := 73) hx hb dX9_numberNow_63 (by decide) (fun c9 => ?_) (fun c9 => ?_)
            · have hf := iff_ c9 hf
              refine lv_iconst (v := 0) hx hb dX9_numberNow_73 (by decide) ?_
              obtain rfl := Option.some.inj hf
              exact retI C0 hP hD hS rfl dX9_numberNow_74
            · have hf := ift c9 hf
              refine lv_aload_n hx hb dX9_numberNow_66 rfl (lv_at hl 0 rfl) ?_
              refine va_get (D := (dC, dI)) (ci := 9) (v := .int M_number) (C := RX9) (T := TX9) (N := 63) hx hb hG kinX9 hown hK hP 0 rfl rfl 21 (by decide) (hG _ kfX9_185) (fun _ h9 => h9) rfl dX9_numberNow_67 ?_
              refine lv_goto (tgt := 74) hx hb dX9_numberNow_70 (by decide) ?_
              obtain rfl := Option.some.inj hf
              exact retI C0 hP hD hS rfl dX9_numberNow_74
          · have hf := iff_ c8 hf
            exact wjX9_numberNow_54 C0 oM aM M_values M_code M_taped M_at M_size M_token M_number M_begins M_stops M_bad M_badPlace M_faultPlace M_ofVoting M_hour M_oil M_weight M_spider M_treasury M_joy M_passed M_acts M_seen M_never M_said M_hoarse M_fitMany M_seedNow M_hasImage M_actsThen M_seenThen    hf _ _ hP hD hS _ (lv_sub hl [0] rfl)
    · have hf := iff_ c2 hf
      refine lv_aload_n hx hb dX9_numberNow_17 rfl (lv_at hl 0 rfl) ?_
      refine lv_iconst (v := 1) hx hb dX9_numberNow_18 (by decide) ?_
      refine bd_el hf (fun v11 hv11 hf => ?_)
      refine callVv (As := [.int 1]) (rest := []) (wr := []) (wn := [(oM, .inr (9, mkX9 aM M_values M_code M_taped M_at M_size M_token M_number M_begins M_stops v11.1 v11.2 M_faultPlace M_ofVoting M_hour M_oil M_weight M_spider M_treasury M_joy M_passed M_acts M_seen M_never M_said M_hoarse M_fitMany M_seedNow M_hasImage M_actsThen M_seenThen))]) C0 kvX9_wrong kmX9_222 hP hD hS (mX9_wrong l dC dI cc oM aM _ M_values M_code M_taped M_at M_size M_token M_number M_begins M_stops M_bad M_badPlace M_faultPlace M_ofVoting M_hour M_oil M_weight M_spider M_treasury M_joy M_passed M_acts M_seen M_never M_said M_hoarse M_fitMany M_seedNow M_hasImage M_actsThen M_seenThen 1 hv11) ⟨rfl, rfl⟩ ⟨Nat.le_of_ble_eq_true rfl, Nat.le_of_ble_eq_true rfl⟩ [0] [] [0] rfl rfl rfl rfl (ci := 9) rfl rfl 0 rfl rfl hl.1 rfl (Nat.le_of_ble_eq_true rfl) ⟨Nat.zero_le _, Nat.zero_le _⟩ dX9_numberNow_19 (fun H locs hP hD hS => ?_)
      refine lv_goto (tgt := 59) hx hb dX9_numberNow_22 (by decide) ?_
      refine lv_aload_n hx hb dX9_numberNow_59 rfl (lv_at hl 0 rfl) ?_
      refine va_get (D := (dC, dI)) (ci := 9) (v := .int v11.1) (C := RX9) (T := TX9) (N := 63) hx hb hG kinX9 hown hK hP 0 rfl rfl 24 (by decide) (hG _ kfX9_201) (fun _ h9 => h9) rfl dX9_numberNow_60 ?_
      refine lv_if_ne (tgt := 73) hx hb dX9_numberNow_63 (by decide) (fun c12 => ?_) (fun c12 => ?_)
      · have hf := iff_ c12 hf
        refine lv_iconst (v := 0) hx hb dX9_numberNow_73 (by decide) ?_
        obtain rfl := Option.some.inj hf
        exact retI C0 hP hD hS rfl dX9_numberNow_74
      · have hf := ift c12 hf
        refine lv_aload_n hx hb dX9_numberNow_66 rfl (lv_at hl 0 rfl) ?_
        refine va_get (D := (dC, dI)) (ci := 9) (v := .int M_number) (C := RX9) (T := TX9) (N := 63) hx hb hG kinX9 hown hK hP 0 rfl rfl 21 (by decide) (hG _ kfX9_185) (fun _ h9 => h9) rfl dX9_numberNow_67 ?_
        refine lv_goto (tgt := 74) hx hb dX9_numberNow_70 (by decide) ?_
        obtain rfl := Option.some.inj hf
        exact retI C0 hP hD hS rfl dX9_numberNow_74
  · have hf := iff_ c1 hf
    refine lv_iconst (v := 0) hx hb dX9_numberNow_7 (by decide) ?_
    obtain rfl := Option.some.inj hf
    exact retI C0 hP hD hS rfl dX9_numberNow_8
theorem mX9_numberNow (l : Launch) (dC : Nat → ClassId) (dI : Nat → Nat → Nat) (cc : Nat → ClassId) (oM : Nat) (aM : Nat → Nat) (sz : Nat) (M_values : Int32) (M_code : Int32) (M_taped : Int32) (M_at : Int32) (M_size : Int32) (M_token : Int32) (M_number : Int32) (M_begins : Int32) (M_stops : Int32) (M_bad : Int32) (M_badPlace : Int32) (M_faultPlace : Int32) (M_ofVoting : Int32) (M_hour : Int32) (M_oil : Int32) (M_weight : Int32) (M_spider : Int32) (M_treasury : Int32) (M_joy : Int32) (M_passed : Int32) (M_acts : Int32) (M_seen : Int32) (M_never : Int32) (M_said : Int32) (M_hoarse : Int32) (M_fitMany : Int32) (M_seedNow : Int32) (M_hasImage : Int32) (M_actsThen : Int32) (M_seenThen : Int32) (p0 : Int32) (p1 : Int32) {out : Int32 × Int32 × Int32} (hf : fX9_numberNow M_token M_number M_begins M_stops M_bad M_badPlace p0 p1 = some out) : Met l yX9_numberNow (Cond.code yX9_numberNow cX9_numberNow 3 (some .int) :: GW) rmX9_numberNow (PI dC dI cc [.ref oM, .int p0, .int p1] [(oM, .inr (9, mkX9 aM M_values M_code M_taped M_at M_size M_token M_number M_begins M_stops M_bad M_badPlace M_faultPlace M_ofVoting M_hour M_oil M_weight M_spider M_treasury M_joy M_passed M_acts M_seen M_never M_said M_hoarse M_fitMany M_seedNow M_hasImage M_actsThen M_seenThen))] sz) (QI dC dI cc out.1 [(oM, .inr (9, mkX9 aM M_values M_code M_taped M_at M_size M_token M_number M_begins M_stops out.2.1 out.2.2 M_faultPlace M_ofVoting M_hour M_oil M_weight M_spider M_treasury M_joy M_passed M_acts M_seen M_never M_said M_hoarse M_fitMany M_seedNow M_hasImage M_actsThen M_seenThen))] (va_A [(oM, .inr (9, mkX9 aM M_values M_code M_taped M_at M_size M_token M_number M_begins M_stops M_bad M_badPlace M_faultPlace M_ofVoting M_hour M_oil M_weight M_spider M_treasury M_joy M_passed M_acts M_seen M_never M_said M_hoarse M_fitMany M_seedNow M_hasImage M_actsThen M_seenThen))] sz)) 0 0 (va_A [(oM, .inr (9, mkX9 aM M_values M_code M_taped M_at M_size M_token M_number M_begins M_stops M_bad M_badPlace M_faultPlace M_ofVoting M_hour M_oil M_weight M_spider M_treasury M_joy M_passed M_acts M_seen M_never M_said M_hoarse M_fitMany M_seedNow M_hasImage M_actsThen M_seenThen))] sz) :=
  met_of (Q := fun A => QI dC dI cc out.1 [(oM, .inr (9, mkX9 aM M_values M_code M_taped M_at M_size M_token M_number M_begins M_stops out.2.1 out.2.2 M_faultPlace M_ofVoting M_hour M_oil M_weight M_spider M_treasury M_joy M_passed M_acts M_seen M_never M_said M_hoarse M_fitMany M_seedNow M_hasImage M_actsThen M_seenThen))] A) (by decide) rfl (Nat.le_of_ble_eq_true rfl) (fun p e s m below meth c A C0 hP hD hS ls hl => bX9_numberNow C0 oM aM M_values M_code M_taped M_at M_size M_token M_number M_begins M_stops M_bad M_badPlace M_faultPlace M_ofVoting M_hour M_oil M_weight M_spider M_treasury M_joy M_passed M_acts M_seen M_never M_said M_hoarse M_fitMany M_seedNow M_hasImage M_actsThen M_seenThen p0 p1 hf hP hD hS hl)
abbrev rmX9_readNumber : Room := { frames := 2, cells := 0, slots := 0, locals := 43 }
def fX9_readNumber  (M_at : Int32) (M_size : Int32) (M_token : Int32) (M_number : Int32) (M_begins : Int32) (M_stops : Int32) (M_bad : Int32) (M_badPlace : Int32) (M_tape : Nat → Int32) (p0 : Int32) (p1 : Int32) : Option (Int32 × Int32 × Int32 × Int32 × Int32 × Int32 × Int32 × Int32) :=
  (fX9_numberNow M_token M_number M_begins M_stops M_bad M_badPlace p0 p1).bind fun v2 =>
  if v2.2.1 = 0 then
    (fX9_stepOn M_at M_size M_token M_number M_begins M_stops M_tape).bind fun v5 =>
    some (v2.1, v5.1, v5.2.1, v5.2.2.1, v5.2.2.2.1, v5.2.2.2.2, v2.2.1, v2.2.2)
  else
    some (v2.1, M_at, M_token, M_number, M_begins, M_stops, v2.2.1, v2.2.2)
set_option maxHeartbeats 4000000 in
set_option maxRecDepth 100000 in
theorem bX9_readNumber {p : Program} {l : Launch} {e : Env} {s : State} {m : MethodId} {args : Array Value} {below : List Frame} {meth : Method} {c : Code} {A : Nat → Prop} {dC : Nat → ClassId} {dI : Nat → Nat → Nat} {cc : Nat → ClassId} (C0 : CT p s m args meth c A dC dI cc cX9_readNumber 4 (some .int) RX9) (oM : Nat) (aM : Nat → Nat) (M_values : Int32) (M_code : Int32) (M_taped : Int32) (M_at : Int32) (M_size : Int32) (M_token : Int32) (M_number : Int32) (M_begins : Int32) (M_stops : Int32) (M_bad : Int32) (M_badPlace : Int32) (M_faultPlace : Int32) (M_ofVoting : Int32) (M_hour : Int32) (M_oil : Int32) (M_weight : Int32) (M_spider : Int32) (M_treasury : Int32) (M_joy : Int32) (M_passed : Int32) (M_acts : Int32) (M_seen : Int32) (M_never : Int32) (M_said : Int32) (M_hoarse : Int32) (M_fitMany : Int32) (M_seedNow : Int32) (M_hasImage : Int32) (M_actsThen : Int32) (M_seenThen : Int32) (M_tape : Nat → Int32) (p0 : Int32) (p1 : Int32) {out : Int32 × Int32 × Int32 × Int32 × Int32 × Int32 × Int32 × Int32} (hf : fX9_readNumber M_at M_size M_token M_number M_begins M_stops M_bad M_badPlace M_tape p0 p1 = some out) {H : Heap} {locs : List Loc} (hP : va_P (dC, dI) cLs [(oM, .inr (9, mkX9 aM M_values M_code M_taped M_at M_size M_token M_number M_begins M_stops M_bad M_badPlace M_faultPlace M_ofVoting M_hour M_oil M_weight M_spider M_treasury M_joy M_passed M_acts M_seen M_never M_said M_hoarse M_fitMany M_seedNow M_hasImage M_actsThen M_seenThen)), ((aM 16), .inl (cc 0, 700, .inl M_tape))] H) (hD : va_D A [(oM, .inr (9, mkX9 aM M_values M_code M_taped M_at M_size M_token M_number M_begins M_stops M_bad M_badPlace M_faultPlace M_ofVoting M_hour M_oil M_weight M_spider M_treasury M_joy M_passed M_acts M_seen M_never M_said M_hoarse M_fitMany M_seedNow M_hasImage M_actsThen M_seenThen)), ((aM 16), .inl (cc 0, 700, .inl M_tape))]) (hS : va_S A s.heap H locs) {ls : Array Slot} (hl : lv_has ls 4 [(0, .ref oM), (1, .int p0), (2, .int p1)]) : W p l e rmX9_readNumber s m args below meth c H locs 0 0 (MQ below (QI dC dI cc out.1 [(oM, .inr (9, mkX9 aM M_values M_code M_taped out.2.1 M_size out.2.2.1 out.2.2.2.1 out.2.2.2.2.1 out.2.2.2.2.2.1 out.2.2.2.2.2.2.1 out.2.2.2.2.2.2.2 M_faultPlace M_ofVoting M_hour M_oil M_weight M_spider M_treasury M_joy M_passed M_acts M_seen M_never M_said M_hoarse M_fitMany M_seedNow M_hasImage M_actsThen M_seenThen)), ((aM 16), .inl (cc 0, 700, .inl M_tape))] A) args s 0 0 A) (F0 m 0 ls []) := by
  obtain ⟨hx, hb, hml, hr, hlocks, hown, hG, hK, hA⟩ := id C0
  unfold fX9_readNumber at hf
  refine lv_aload_n hx hb dX9_readNumber_0 rfl (lv_at hl 0 rfl) ?_
  refine lv_iload_n hx hb dX9_readNumber_1 rfl (lv_at hl 1 rfl) ?_
  refine lv_iload_n hx hb dX9_readNumber_2 rfl (lv_at hl 2 rfl) ?_
  refine bd_el hf (fun v2 hv2 hf => ?_)
  refine callVi (As := [.int p0, .int p1]) (rest := []) (wr := [((aM 16), .inl (cc 0, 700, .inl M_tape))]) (wn := [(oM, .inr (9, mkX9 aM M_values M_code M_taped M_at M_size M_token M_number M_begins M_stops v2.2.1 v2.2.2 M_faultPlace M_ofVoting M_hour M_oil M_weight M_spider M_treasury M_joy M_passed M_acts M_seen M_never M_said M_hoarse M_fitMany M_seedNow M_hasImage M_actsThen M_seenThen)), ((aM 16), .inl (cc 0, 700, .inl M_tape))]) C0 kvX9_numberNow kmX9_229 hP hD hS (mX9_numberNow l dC dI cc oM aM _ M_values M_code M_taped M_at M_size M_token M_number M_begins M_stops M_bad M_badPlace M_faultPlace M_ofVoting M_hour M_oil M_weight M_spider M_treasury M_joy M_passed M_acts M_seen M_never M_said M_hoarse M_fitMany M_seedNow M_hasImage M_actsThen M_seenThen p0 p1 hv2) ⟨rfl, rfl⟩ ⟨Nat.le_of_ble_eq_true rfl, Nat.le_of_ble_eq_true rfl⟩ [0] [1] [1, 0] rfl rfl rfl rfl (ci := 9) rfl rfl 0 rfl rfl hl.1 rfl (Nat.le_of_ble_eq_true rfl) ⟨Nat.zero_le _, Nat.zero_le _⟩ dX9_readNumber_3 (fun H locs hP hD hS => ?_)
  refine lv_istore_n (lv' := [(3, .int v2.1), (0, .ref oM), (1, .int p0), (2, .int p1)]) hx hb dX9_readNumber_6 rfl hl (by decide) rfl (fun ls hl => ?_)
  refine lv_aload_n hx hb dX9_readNumber_7 rfl (lv_at hl 1 rfl) ?_
  refine va_get (D := (dC, dI)) (ci := 9) (v := .int v2.2.1) (C := RX9) (T := TX9) (N := 63) hx hb hG kinX9 hown hK hP 0 rfl rfl 24 (by decide) (hG _ kfX9_201) (fun _ h9 => h9) rfl dX9_readNumber_8 ?_
  refine lv_if_ne (tgt := 18) hx hb dX9_readNumber_11 (by decide) (fun c3 => ?_) (fun c3 => ?_)
  · have hf := iff_ c3 hf
    refine lv_iload_n hx hb dX9_readNumber_18 rfl (lv_at hl 0 rfl) ?_
    obtain rfl := Option.some.inj hf
    exact retI C0 hP hD hS rfl dX9_readNumber_19
  · have hf := ift c3 hf
    refine lv_aload_n hx hb dX9_readNumber_14 rfl (lv_at hl 1 rfl) ?_
    refine bd_el hf (fun v5 hv5 hf => ?_)
    refine callVv (As := []) (rest := []) (wr := []) (wn := [(oM, .inr (9, mkX9 aM M_values M_code M_taped v5.1 M_size v5.2.1 v5.2.2.1 v5.2.2.2.1 v5.2.2.2.2 v2.2.1 v2.2.2 M_faultPlace M_ofVoting M_hour M_oil M_weight M_spider M_treasury M_joy M_passed M_acts M_seen M_never M_said M_hoarse M_fitMany M_seedNow M_hasImage M_actsThen M_seenThen)), ((aM 16), .inl (cc 0, 700, .inl M_tape))]) C0 kvX9_stepOn kmX9_226 hP hD hS (mX9_stepOn l dC dI cc oM aM _ M_values M_code M_taped M_at M_size M_token M_number M_begins M_stops v2.2.1 v2.2.2 M_faultPlace M_ofVoting M_hour M_oil M_weight M_spider M_treasury M_joy M_passed M_acts M_seen M_never M_said M_hoarse M_fitMany M_seedNow M_hasImage M_actsThen M_seenThen M_tape hv5) ⟨rfl, rfl⟩ ⟨Nat.le_of_ble_eq_true rfl, Nat.le_of_ble_eq_true rfl⟩ [0, 1] [] [0, 1] rfl rfl rfl rfl (ci := 9) rfl rfl 0 rfl rfl hl.1 rfl (Nat.le_of_ble_eq_true rfl) ⟨Nat.zero_le _, Nat.zero_le _⟩ dX9_readNumber_15 (fun H locs hP hD hS => ?_)
    refine lv_iload_n hx hb dX9_readNumber_18 rfl (lv_at hl 0 rfl) ?_
    obtain rfl := Option.some.inj hf
    exact retI C0 hP hD hS rfl dX9_readNumber_19
theorem mX9_readNumber (l : Launch) (dC : Nat → ClassId) (dI : Nat → Nat → Nat) (cc : Nat → ClassId) (oM : Nat) (aM : Nat → Nat) (sz : Nat) (M_values : Int32) (M_code : Int32) (M_taped : Int32) (M_at : Int32) (M_size : Int32) (M_token : Int32) (M_number : Int32) (M_begins : Int32) (M_stops : Int32) (M_bad : Int32) (M_badPlace : Int32) (M_faultPlace : Int32) (M_ofVoting : Int32) (M_hour : Int32) (M_oil : Int32) (M_weight : Int32) (M_spider : Int32) (M_treasury : Int32) (M_joy : Int32) (M_passed : Int32) (M_acts : Int32) (M_seen : Int32) (M_never : Int32) (M_said : Int32) (M_hoarse : Int32) (M_fitMany : Int32) (M_seedNow : Int32) (M_hasImage : Int32) (M_actsThen : Int32) (M_seenThen : Int32) (M_tape : Nat → Int32) (p0 : Int32) (p1 : Int32) {out : Int32 × Int32 × Int32 × Int32 × Int32 × Int32 × Int32 × Int32} (hf : fX9_readNumber M_at M_size M_token M_number M_begins M_stops M_bad M_badPlace M_tape p0 p1 = some out) : Met l yX9_readNumber (Cond.code yX9_readNumber cX9_readNumber 4 (some .int) :: GW) rmX9_readNumber (PI dC dI cc [.ref oM, .int p0, .int p1] [(oM, .inr (9, mkX9 aM M_values M_code M_taped M_at M_size M_token M_number M_begins M_stops M_bad M_badPlace M_faultPlace M_ofVoting M_hour M_oil M_weight M_spider M_treasury M_joy M_passed M_acts M_seen M_never M_said M_hoarse M_fitMany M_seedNow M_hasImage M_actsThen M_seenThen)), ((aM 16), .inl (cc 0, 700, .inl M_tape))] sz) (QI dC dI cc out.1 [(oM, .inr (9, mkX9 aM M_values M_code M_taped out.2.1 M_size out.2.2.1 out.2.2.2.1 out.2.2.2.2.1 out.2.2.2.2.2.1 out.2.2.2.2.2.2.1 out.2.2.2.2.2.2.2 M_faultPlace M_ofVoting M_hour M_oil M_weight M_spider M_treasury M_joy M_passed M_acts M_seen M_never M_said M_hoarse M_fitMany M_seedNow M_hasImage M_actsThen M_seenThen)), ((aM 16), .inl (cc 0, 700, .inl M_tape))] (va_A [(oM, .inr (9, mkX9 aM M_values M_code M_taped M_at M_size M_token M_number M_begins M_stops M_bad M_badPlace M_faultPlace M_ofVoting M_hour M_oil M_weight M_spider M_treasury M_joy M_passed M_acts M_seen M_never M_said M_hoarse M_fitMany M_seedNow M_hasImage M_actsThen M_seenThen)), ((aM 16), .inl (cc 0, 700, .inl M_tape))] sz)) 0 0 (va_A [(oM, .inr (9, mkX9 aM M_values M_code M_taped M_at M_size M_token M_number M_begins M_stops M_bad M_badPlace M_faultPlace M_ofVoting M_hour M_oil M_weight M_spider M_treasury M_joy M_passed M_acts M_seen M_never M_said M_hoarse M_fitMany M_seedNow M_hasImage M_actsThen M_seenThen)), ((aM 16), .inl (cc 0, 700, .inl M_tape))] sz) :=
  met_of (Q := fun A => QI dC dI cc out.1 [(oM, .inr (9, mkX9 aM M_values M_code M_taped out.2.1 M_size out.2.2.1 out.2.2.2.1 out.2.2.2.2.1 out.2.2.2.2.2.1 out.2.2.2.2.2.2.1 out.2.2.2.2.2.2.2 M_faultPlace M_ofVoting M_hour M_oil M_weight M_spider M_treasury M_joy M_passed M_acts M_seen M_never M_said M_hoarse M_fitMany M_seedNow M_hasImage M_actsThen M_seenThen)), ((aM 16), .inl (cc 0, 700, .inl M_tape))] A) (by decide) rfl (Nat.le_of_ble_eq_true rfl) (fun p e s m below meth c A C0 hP hD hS ls hl => bX9_readNumber C0 oM aM M_values M_code M_taped M_at M_size M_token M_number M_begins M_stops M_bad M_badPlace M_faultPlace M_ofVoting M_hour M_oil M_weight M_spider M_treasury M_joy M_passed M_acts M_seen M_never M_said M_hoarse M_fitMany M_seedNow M_hasImage M_actsThen M_seenThen M_tape p0 p1 hf hP hD hS hl)
