abbrev rmX9_wrong : Room := { frames := 0, cells := 0, slots := 0, locals := 0 }
def fX9_wrong   (M_begins : Int32) (M_bad : Int32) (M_badPlace : Int32) (p0 : Int32) : Option (Int32 × Int32) :=
  if M_bad = 0 then
    some (p0, M_begins)
  else
    some (M_bad, M_badPlace)
set_option maxHeartbeats 4000000 in
set_option maxRecDepth 100000 in
theorem bX9_wrong {p : Program} {l : Launch} {e : Env} {s : State} {m : MethodId} {args : Array Value} {below : List Frame} {meth : Method} {c : Code} {A : Nat → Prop} {dC : Nat → ClassId} {dI : Nat → Nat → Nat} {cc : Nat → ClassId} {ak : Nat → Nat} (C0 : CT p s m args meth c A dC dI cc ak cX9_wrong 2 none RX9) (oM : Nat) (aM : Nat → Nat)  (M_values : Int32) (M_code : Int32) (M_taped : Int32) (M_at : Int32) (M_size : Int32) (M_token : Int32) (M_number : Int32) (M_begins : Int32) (M_stops : Int32) (M_bad : Int32) (M_badPlace : Int32) (M_faultPlace : Int32) (M_ofVoting : Int32) (M_hour : Int32) (M_oil : Int32) (M_weight : Int32) (M_spider : Int32) (M_treasury : Int32) (M_joy : Int32) (M_passed : Int32) (M_acts : Int32) (M_seen : Int32) (M_never : Int32) (M_said : Int32) (M_hoarse : Int32) (M_fitMany : Int32) (M_seedNow : Int32) (M_hasImage : Int32) (M_actsThen : Int32) (M_seenThen : Int32) (p0 : Int32) {out : Int32 × Int32} (hf : fX9_wrong M_begins M_bad M_badPlace p0 = some out) {H : Heap} {locs : List Loc} (hP : va_P (dC, dI) cLs [(oM, .inr (9, mkX9 aM M_values M_code M_taped M_at M_size M_token M_number M_begins M_stops M_bad M_badPlace M_faultPlace M_ofVoting M_hour M_oil M_weight M_spider M_treasury M_joy M_passed M_acts M_seen M_never M_said M_hoarse M_fitMany M_seedNow M_hasImage M_actsThen M_seenThen))] H) (hD : va_D A [(oM, .inr (9, mkX9 aM M_values M_code M_taped M_at M_size M_token M_number M_begins M_stops M_bad M_badPlace M_faultPlace M_ofVoting M_hour M_oil M_weight M_spider M_treasury M_joy M_passed M_acts M_seen M_never M_said M_hoarse M_fitMany M_seedNow M_hasImage M_actsThen M_seenThen))]) (hS : va_S A s.heap H locs) {ls : Array Slot} (hl : lv_has ls 2 [(0, .ref oM), (1, .int p0)]) : W p l e rmX9_wrong s m args below meth c H locs 0 0 (MQ below (QV dC dI cc [(oM, .inr (9, mkX9 aM M_values M_code M_taped M_at M_size M_token M_number M_begins M_stops out.1 out.2 M_faultPlace M_ofVoting M_hour M_oil M_weight M_spider M_treasury M_joy M_passed M_acts M_seen M_never M_said M_hoarse M_fitMany M_seedNow M_hasImage M_actsThen M_seenThen))] A) args s 0 0 A) (F0 m 0 ls []) := by
  obtain ⟨hx, hb, hml, hr, hlocks, hown, hG, hK, hA, hE⟩ := id C0
  unfold fX9_wrong at hf
  refine lv_aload_n hx hb dX9_wrong_0 rfl (lv_at hl 0 rfl) ?_
  refine va_get (D := (dC, dI)) (ci := 9) (v := .int M_bad) (C := RX9) (T := TX9) (N := 63) hx hb hG kinX9 hown hK hP 0 rfl rfl 24 (by decide) (hG _ kfX9_201) (fun _ h9 => h9) rfl dX9_wrong_1 ?_
  refine lv_if_eq (tgt := 8) hx hb dX9_wrong_4 (by decide) (fun c1 => ?_) (fun c1 => ?_)
  · have hf := ift c1 hf
    refine lv_aload_n hx hb dX9_wrong_8 rfl (lv_at hl 0 rfl) ?_
    refine lv_iload_n hx hb dX9_wrong_9 rfl (lv_at hl 1 rfl) ?_
    refine va_put (D := (dC, dI)) (ci := 9) (v := .int p0) (ty := .int) (C := RX9) (T := TX9) (N := 63) hx hb hG kinX9 tyX9 tyX9_ok nmX9 hown hK hP hD hS 0 rfl rfl 24 (by decide) (hG _ kfX9_201) (fun _ h9 => h9) rfl (by decide +kernel) rfl rfl (Nat.le_of_ble_eq_true rfl) dX9_wrong_10 (fun H locs hP hD hS => ?_)
    have hP : va_P (dC, dI) cLs [(oM, .inr (9, mkX9 aM M_values M_code M_taped M_at M_size M_token M_number M_begins M_stops p0 M_badPlace M_faultPlace M_ofVoting M_hour M_oil M_weight M_spider M_treasury M_joy M_passed M_acts M_seen M_never M_said M_hoarse M_fitMany M_seedNow M_hasImage M_actsThen M_seenThen))] _ := hP
    have hD : va_D A [(oM, .inr (9, mkX9 aM M_values M_code M_taped M_at M_size M_token M_number M_begins M_stops p0 M_badPlace M_faultPlace M_ofVoting M_hour M_oil M_weight M_spider M_treasury M_joy M_passed M_acts M_seen M_never M_said M_hoarse M_fitMany M_seedNow M_hasImage M_actsThen M_seenThen))] := hD
    refine lv_aload_n hx hb dX9_wrong_13 rfl (lv_at hl 0 rfl) ?_
    refine lv_aload_n hx hb dX9_wrong_14 rfl (lv_at hl 0 rfl) ?_
    refine va_get (D := (dC, dI)) (ci := 9) (v := .int M_begins) (C := RX9) (T := TX9) (N := 63) hx hb hG kinX9 hown hK hP 0 rfl rfl 22 (by decide) (hG _ kfX9_172) (fun _ h9 => h9) rfl dX9_wrong_15 ?_
    refine va_put (D := (dC, dI)) (ci := 9) (v := .int M_begins) (ty := .int) (C := RX9) (T := TX9) (N := 63) hx hb hG kinX9 tyX9 tyX9_ok nmX9 hown hK hP hD hS 0 rfl rfl 25 (by decide) (hG _ kfX9_204) (fun _ h9 => h9) rfl (by decide +kernel) rfl rfl (Nat.le_of_ble_eq_true rfl) dX9_wrong_18 (fun H locs hP hD hS => ?_)
    have hP : va_P (dC, dI) cLs [(oM, .inr (9, mkX9 aM M_values M_code M_taped M_at M_size M_token M_number M_begins M_stops p0 M_begins M_faultPlace M_ofVoting M_hour M_oil M_weight M_spider M_treasury M_joy M_passed M_acts M_seen M_never M_said M_hoarse M_fitMany M_seedNow M_hasImage M_actsThen M_seenThen))] _ := hP
    have hD : va_D A [(oM, .inr (9, mkX9 aM M_values M_code M_taped M_at M_size M_token M_number M_begins M_stops p0 M_begins M_faultPlace M_ofVoting M_hour M_oil M_weight M_spider M_treasury M_joy M_passed M_acts M_seen M_never M_said M_hoarse M_fitMany M_seedNow M_hasImage M_actsThen M_seenThen))] := hD
    obtain rfl := Option.some.inj hf
    exact retV C0 hP hD hS dX9_wrong_21
  · have hf := iff_ c1 hf
    obtain rfl := Option.some.inj hf
    exact retV C0 hP hD hS dX9_wrong_7
theorem mX9_wrong (l : Launch) (dC : Nat → ClassId) (dI : Nat → Nat → Nat) (cc : Nat → ClassId) (ak : Nat → Nat) (oM : Nat) (aM : Nat → Nat) (sz : Nat)  (M_values : Int32) (M_code : Int32) (M_taped : Int32) (M_at : Int32) (M_size : Int32) (M_token : Int32) (M_number : Int32) (M_begins : Int32) (M_stops : Int32) (M_bad : Int32) (M_badPlace : Int32) (M_faultPlace : Int32) (M_ofVoting : Int32) (M_hour : Int32) (M_oil : Int32) (M_weight : Int32) (M_spider : Int32) (M_treasury : Int32) (M_joy : Int32) (M_passed : Int32) (M_acts : Int32) (M_seen : Int32) (M_never : Int32) (M_said : Int32) (M_hoarse : Int32) (M_fitMany : Int32) (M_seedNow : Int32) (M_hasImage : Int32) (M_actsThen : Int32) (M_seenThen : Int32) (p0 : Int32) {out : Int32 × Int32} (hf : fX9_wrong M_begins M_bad M_badPlace p0 = some out) : Met l yX9_wrong (Cond.code yX9_wrong cX9_wrong 2 none :: GW) rmX9_wrong (PI dC dI cc ak [.ref oM, .int p0] [(oM, .inr (9, mkX9 aM M_values M_code M_taped M_at M_size M_token M_number M_begins M_stops M_bad M_badPlace M_faultPlace M_ofVoting M_hour M_oil M_weight M_spider M_treasury M_joy M_passed M_acts M_seen M_never M_said M_hoarse M_fitMany M_seedNow M_hasImage M_actsThen M_seenThen))] sz) (QV dC dI cc [(oM, .inr (9, mkX9 aM M_values M_code M_taped M_at M_size M_token M_number M_begins M_stops out.1 out.2 M_faultPlace M_ofVoting M_hour M_oil M_weight M_spider M_treasury M_joy M_passed M_acts M_seen M_never M_said M_hoarse M_fitMany M_seedNow M_hasImage M_actsThen M_seenThen))] (va_A [(oM, .inr (9, mkX9 aM M_values M_code M_taped M_at M_size M_token M_number M_begins M_stops M_bad M_badPlace M_faultPlace M_ofVoting M_hour M_oil M_weight M_spider M_treasury M_joy M_passed M_acts M_seen M_never M_said M_hoarse M_fitMany M_seedNow M_hasImage M_actsThen M_seenThen))] sz)) 0 0 (va_A [(oM, .inr (9, mkX9 aM M_values M_code M_taped M_at M_size M_token M_number M_begins M_stops M_bad M_badPlace M_faultPlace M_ofVoting M_hour M_oil M_weight M_spider M_treasury M_joy M_passed M_acts M_seen M_never M_said M_hoarse M_fitMany M_seedNow M_hasImage M_actsThen M_seenThen))] sz) :=
  met_of (Q := fun A => QV dC dI cc [(oM, .inr (9, mkX9 aM M_values M_code M_taped M_at M_size M_token M_number M_begins M_stops out.1 out.2 M_faultPlace M_ofVoting M_hour M_oil M_weight M_spider M_treasury M_joy M_passed M_acts M_seen M_never M_said M_hoarse M_fitMany M_seedNow M_hasImage M_actsThen M_seenThen))] A) (by decide) rfl (Nat.le_of_ble_eq_true rfl) (fun p e s m below meth c A C0 hP hD hS ls hl => bX9_wrong C0 oM aM M_values M_code M_taped M_at M_size M_token M_number M_begins M_stops M_bad M_badPlace M_faultPlace M_ofVoting M_hour M_oil M_weight M_spider M_treasury M_joy M_passed M_acts M_seen M_never M_said M_hoarse M_fitMany M_seedNow M_hasImage M_actsThen M_seenThen p0 hf hP hD hS hl)
abbrev rmX9_numberNow : Room := { frames := 1, cells := 0, slots := 0, locals := 21 }
def jX9_numberNow_54    (M_number : Int32) (M_begins : Int32) (M_bad : Int32) (M_badPlace : Int32)  : Option (Int32 × Int32 × Int32) :=
  (fX9_wrong  M_begins M_bad M_badPlace 2).bind fun v5 =>
  if v5.1 = 0 then
    some (M_number, v5.1, v5.2)
  else
    some (0, v5.1, v5.2)
set_option maxHeartbeats 4000000 in
set_option maxRecDepth 100000 in
theorem wjX9_numberNow_54 {p : Program} {l : Launch} {e : Env} {s : State} {m : MethodId} {args : Array Value} {below : List Frame} {meth : Method} {c : Code} {A : Nat → Prop} {dC : Nat → ClassId} {dI : Nat → Nat → Nat} {cc : Nat → ClassId} {ak : Nat → Nat} (C0 : CT p s m args meth c A dC dI cc ak cX9_numberNow 3 (some .int) RX9) (oM : Nat) (aM : Nat → Nat)  (M_values : Int32) (M_code : Int32) (M_taped : Int32) (M_at : Int32) (M_size : Int32) (M_token : Int32) (M_number : Int32) (M_begins : Int32) (M_stops : Int32) (M_bad : Int32) (M_badPlace : Int32) (M_faultPlace : Int32) (M_ofVoting : Int32) (M_hour : Int32) (M_oil : Int32) (M_weight : Int32) (M_spider : Int32) (M_treasury : Int32) (M_joy : Int32) (M_passed : Int32) (M_acts : Int32) (M_seen : Int32) (M_never : Int32) (M_said : Int32) (M_hoarse : Int32) (M_fitMany : Int32) (M_seedNow : Int32) (M_hasImage : Int32) (M_actsThen : Int32) (M_seenThen : Int32)  {out : Int32 × Int32 × Int32}    (hf : jX9_numberNow_54  M_number M_begins M_bad M_badPlace  = some out) (H : Heap) (locs : List Loc) (hP : va_P (dC, dI) cLs [(oM, .inr (9, mkX9 aM M_values M_code M_taped M_at M_size M_token M_number M_begins M_stops M_bad M_badPlace M_faultPlace M_ofVoting M_hour M_oil M_weight M_spider M_treasury M_joy M_passed M_acts M_seen M_never M_said M_hoarse M_fitMany M_seedNow M_hasImage M_actsThen M_seenThen))] H) (hD : va_D A [(oM, .inr (9, mkX9 aM M_values M_code M_taped M_at M_size M_token M_number M_begins M_stops M_bad M_badPlace M_faultPlace M_ofVoting M_hour M_oil M_weight M_spider M_treasury M_joy M_passed M_acts M_seen M_never M_said M_hoarse M_fitMany M_seedNow M_hasImage M_actsThen M_seenThen))]) (hS : va_S A s.heap H locs) (ls : Array Slot) (hl : lv_has ls 3 [(0, .ref oM)]) : W p l e rmX9_numberNow s m args below meth c H locs 0 0 (MQ below (QI dC dI cc out.1 [(oM, .inr (9, mkX9 aM M_values M_code M_taped M_at M_size M_token M_number M_begins M_stops out.2.1 out.2.2 M_faultPlace M_ofVoting M_hour M_oil M_weight M_spider M_treasury M_joy M_passed M_acts M_seen M_never M_said M_hoarse M_fitMany M_seedNow M_hasImage M_actsThen M_seenThen))] A) args s 0 0 A) (F0 m 54 ls []) := by
  obtain ⟨hx, hb, hml, hr, hlocks, hown, hG, hK, hA, hE⟩ := id C0
  unfold jX9_numberNow_54 at hf
  refine lv_aload_n hx hb dX9_numberNow_54 rfl (lv_at hl 0 rfl) ?_
  refine lv_iconst (v := 2) hx hb dX9_numberNow_55 (by decide) ?_
  refine bd_el hf (fun v5 hv5 hf => ?_)
  refine callVv (As := [.int 2]) (rest := []) (wr := []) (wn := [(oM, .inr (9, mkX9 aM M_values M_code M_taped M_at M_size M_token M_number M_begins M_stops v5.1 v5.2 M_faultPlace M_ofVoting M_hour M_oil M_weight M_spider M_treasury M_joy M_passed M_acts M_seen M_never M_said M_hoarse M_fitMany M_seedNow M_hasImage M_actsThen M_seenThen))]) C0 kvX9_wrong kmX9_222 hP hD hS (mX9_wrong l dC dI cc ak oM aM _  M_values M_code M_taped M_at M_size M_token M_number M_begins M_stops M_bad M_badPlace M_faultPlace M_ofVoting M_hour M_oil M_weight M_spider M_treasury M_joy M_passed M_acts M_seen M_never M_said M_hoarse M_fitMany M_seedNow M_hasImage M_actsThen M_seenThen 2 hv5) ⟨rfl, rfl⟩ ⟨Nat.le_of_ble_eq_true rfl, Nat.le_of_ble_eq_true rfl⟩ [0] [] [0] rfl rfl rfl rfl (va_recv hK hP (ci := 9) (q0 := 0) rfl rfl) rfl hl.1 rfl (Nat.le_of_ble_eq_true rfl) ⟨Nat.zero_le _, Nat.zero_le _⟩ dX9_numberNow_56 (fun H locs hP hD hS => ?_)
  refine lv_aload_n hx hb dX9_numberNow_59 rfl (lv_at hl 0 rfl) ?_
  refine va_get (D := (dC, dI)) (ci := 9) (v := .int v5.1) (C := RX9) (T := TX9) (N := 63) hx hb hG kinX9 hown hK hP 0 rfl rfl 24 (by decide) (hG _ kfX9_201) (fun _ h9 => h9) rfl dX9_numberNow_60 ?_
  refine lv_if_ne (tgt := 73) hx hb dX9_numberNow_63 (by decide) (fun c6 => ?_) (fun c6 => ?_)
  · have hf := iff_ c6 hf
    refine lv_iconst (v := 0) hx hb dX9_numberNow_73 (by decide) ?_
    obtain rfl := Option.some.inj hf
    exact retI C0 hP hD hS rfl dX9_numberNow_74
  · have hf := ift c6 hf
    refine lv_aload_n hx hb dX9_numberNow_66 rfl (lv_at hl 0 rfl) ?_
    refine va_get (D := (dC, dI)) (ci := 9) (v := .int M_number) (C := RX9) (T := TX9) (N := 63) hx hb hG kinX9 hown hK hP 0 rfl rfl 21 (by decide) (hG _ kfX9_185) (fun _ h9 => h9) rfl dX9_numberNow_67 ?_
    refine lv_goto (tgt := 74) hx hb dX9_numberNow_70 (by decide) ?_
    obtain rfl := Option.some.inj hf
    exact retI C0 hP hD hS rfl dX9_numberNow_74
def fX9_numberNow   (M_token : Int32) (M_number : Int32) (M_begins : Int32) (M_stops : Int32) (M_bad : Int32) (M_badPlace : Int32) (p0 : Int32) (p1 : Int32) : Option (Int32 × Int32 × Int32) :=
  if M_bad = 0 then
    if M_token = 2 then
      if 4 < (M_stops - M_begins) then
        jX9_numberNow_54 M_number M_begins M_bad M_badPlace
      else
        if M_number < p0 then
          jX9_numberNow_54 M_number M_begins M_bad M_badPlace
        else
          if M_number ≤ p1 then
            if M_bad = 0 then
              some (M_number, M_bad, M_badPlace)
            else
              some (0, M_bad, M_badPlace)
          else
            jX9_numberNow_54 M_number M_begins M_bad M_badPlace
    else
      (fX9_wrong  M_begins M_bad M_badPlace 1).bind fun v11 =>
      if v11.1 = 0 then
        some (M_number, v11.1, v11.2)
      else
        some (0, v11.1, v11.2)
  else
    some (0, M_bad, M_badPlace)
set_option maxHeartbeats 4000000 in
set_option maxRecDepth 100000 in
theorem bX9_numberNow {p : Program} {l : Launch} {e : Env} {s : State} {m : MethodId} {args : Array Value} {below : List Frame} {meth : Method} {c : Code} {A : Nat → Prop} {dC : Nat → ClassId} {dI : Nat → Nat → Nat} {cc : Nat → ClassId} {ak : Nat → Nat} (C0 : CT p s m args meth c A dC dI cc ak cX9_numberNow 3 (some .int) RX9) (oM : Nat) (aM : Nat → Nat)  (M_values : Int32) (M_code : Int32) (M_taped : Int32) (M_at : Int32) (M_size : Int32) (M_token : Int32) (M_number : Int32) (M_begins : Int32) (M_stops : Int32) (M_bad : Int32) (M_badPlace : Int32) (M_faultPlace : Int32) (M_ofVoting : Int32) (M_hour : Int32) (M_oil : Int32) (M_weight : Int32) (M_spider : Int32) (M_treasury : Int32) (M_joy : Int32) (M_passed : Int32) (M_acts : Int32) (M_seen : Int32) (M_never : Int32) (M_said : Int32) (M_hoarse : Int32) (M_fitMany : Int32) (M_seedNow : Int32) (M_hasImage : Int32) (M_actsThen : Int32) (M_seenThen : Int32) (p0 : Int32) (p1 : Int32) {out : Int32 × Int32 × Int32} (hf : fX9_numberNow M_token M_number M_begins M_stops M_bad M_badPlace p0 p1 = some out) {H : Heap} {locs : List Loc} (hP : va_P (dC, dI) cLs [(oM, .inr (9, mkX9 aM M_values M_code M_taped M_at M_size M_token M_number M_begins M_stops M_bad M_badPlace M_faultPlace M_ofVoting M_hour M_oil M_weight M_spider M_treasury M_joy M_passed M_acts M_seen M_never M_said M_hoarse M_fitMany M_seedNow M_hasImage M_actsThen M_seenThen))] H) (hD : va_D A [(oM, .inr (9, mkX9 aM M_values M_code M_taped M_at M_size M_token M_number M_begins M_stops M_bad M_badPlace M_faultPlace M_ofVoting M_hour M_oil M_weight M_spider M_treasury M_joy M_passed M_acts M_seen M_never M_said M_hoarse M_fitMany M_seedNow M_hasImage M_actsThen M_seenThen))]) (hS : va_S A s.heap H locs) {ls : Array Slot} (hl : lv_has ls 3 [(0, .ref oM), (1, .int p0), (2, .int p1)]) : W p l e rmX9_numberNow s m args below meth c H locs 0 0 (MQ below (QI dC dI cc out.1 [(oM, .inr (9, mkX9 aM M_values M_code M_taped M_at M_size M_token M_number M_begins M_stops out.2.1 out.2.2 M_faultPlace M_ofVoting M_hour M_oil M_weight M_spider M_treasury M_joy M_passed M_acts M_seen M_never M_said M_hoarse M_fitMany M_seedNow M_hasImage M_actsThen M_seenThen))] A) args s 0 0 A) (F0 m 0 ls []) := by
  obtain ⟨hx, hb, hml, hr, hlocks, hown, hG, hK, hA, hE⟩ := id C0
  unfold fX9_numberNow at hf
  refine lv_aload_n hx hb dX9_numberNow_0 rfl (lv_at hl 0 rfl) ?_
  refine va_get (D := (dC, dI)) (ci := 9) (v := .int M_bad) (C := RX9) (T := TX9) (N := 63) hx hb hG kinX9 hown hK hP 0 rfl rfl 24 (by decide) (hG _ kfX9_201) (fun _ h9 => h9) rfl dX9_numberNow_1 ?_
  refine lv_if_eq (tgt := 9) hx hb dX9_numberNow_4 (by decide) (fun c1 => ?_) (fun c1 => ?_)
  · have hf := ift c1 hf
    refine lv_aload_n hx hb dX9_numberNow_9 rfl (lv_at hl 0 rfl) ?_
    refine va_get (D := (dC, dI)) (ci := 9) (v := .int M_token) (C := RX9) (T := TX9) (N := 63) hx hb hG kinX9 hown hK hP 0 rfl rfl 20 (by decide) (hG _ kfX9_175) (fun _ h9 => h9) rfl dX9_numberNow_10 ?_
    refine lv_iconst (v := 2) hx hb dX9_numberNow_13 (by decide) ?_
    refine lv_icmp_eq (tgt := 25) hx hb dX9_numberNow_14 (by decide) (fun c2 => ?_) (fun c2 => ?_)
    · have hf := ift c2 hf
      refine lv_aload_n hx hb dX9_numberNow_25 rfl (lv_at hl 0 rfl) ?_
      refine va_get (D := (dC, dI)) (ci := 9) (v := .int M_stops) (C := RX9) (T := TX9) (N := 63) hx hb hG kinX9 hown hK hP 0 rfl rfl 23 (by decide) (hG _ kfX9_198) (fun _ h9 => h9) rfl dX9_numberNow_26 ?_
      refine lv_aload_n hx hb dX9_numberNow_29 rfl (lv_at hl 0 rfl) ?_
      refine va_get (D := (dC, dI)) (ci := 9) (v := .int M_begins) (C := RX9) (T := TX9) (N := 63) hx hb hG kinX9 hown hK hP 0 rfl rfl 22 (by decide) (hG _ kfX9_172) (fun _ h9 => h9) rfl dX9_numberNow_30 ?_
      refine lv_isub hx hb dX9_numberNow_33 ?_
      refine lv_iconst (v := 4) hx hb dX9_numberNow_34 (by decide) ?_
      refine lv_icmp_gt (tgt := 54) hx hb dX9_numberNow_35 (by decide) (fun c3 => ?_) (fun c3 => ?_)
      · have hf := ift c3 hf
        exact wjX9_numberNow_54 C0 oM aM M_values M_code M_taped M_at M_size M_token M_number M_begins M_stops M_bad M_badPlace M_faultPlace M_ofVoting M_hour M_oil M_weight M_spider M_treasury M_joy M_passed M_acts M_seen M_never M_said M_hoarse M_fitMany M_seedNow M_hasImage M_actsThen M_seenThen    hf _ _ hP hD hS _ (lv_sub hl [0] rfl)
      · have hf := iff_ c3 hf
        refine lv_aload_n hx hb dX9_numberNow_38 rfl (lv_at hl 0 rfl) ?_
        refine va_get (D := (dC, dI)) (ci := 9) (v := .int M_number) (C := RX9) (T := TX9) (N := 63) hx hb hG kinX9 hown hK hP 0 rfl rfl 21 (by decide) (hG _ kfX9_185) (fun _ h9 => h9) rfl dX9_numberNow_39 ?_
        refine lv_iload_n hx hb dX9_numberNow_42 rfl (lv_at hl 1 rfl) ?_
        refine lv_icmp_lt (tgt := 54) hx hb dX9_numberNow_43 (by decide) (fun c7 => ?_) (fun c7 => ?_)
        · have hf := ift c7 hf
          exact wjX9_numberNow_54 C0 oM aM M_values M_code M_taped M_at M_size M_token M_number M_begins M_stops M_bad M_badPlace M_faultPlace M_ofVoting M_hour M_oil M_weight M_spider M_treasury M_joy M_passed M_acts M_seen M_never M_said M_hoarse M_fitMany M_seedNow M_hasImage M_actsThen M_seenThen    hf _ _ hP hD hS _ (lv_sub hl [0] rfl)
        · have hf := iff_ c7 hf
          refine lv_aload_n hx hb dX9_numberNow_46 rfl (lv_at hl 0 rfl) ?_
          refine va_get (D := (dC, dI)) (ci := 9) (v := .int M_number) (C := RX9) (T := TX9) (N := 63) hx hb hG kinX9 hown hK hP 0 rfl rfl 21 (by decide) (hG _ kfX9_185) (fun _ h9 => h9) rfl dX9_numberNow_47 ?_
          refine lv_iload_n hx hb dX9_numberNow_50 rfl (lv_at hl 2 rfl) ?_
          refine lv_icmp_le (tgt := 59) hx hb dX9_numberNow_51 (by decide) (fun c8 => ?_) (fun c8 => ?_)
          · have hf := ift c8 hf
            refine lv_aload_n hx hb dX9_numberNow_59 rfl (lv_at hl 0 rfl) ?_
            refine va_get (D := (dC, dI)) (ci := 9) (v := .int M_bad) (C := RX9) (T := TX9) (N := 63) hx hb hG kinX9 hown hK hP 0 rfl rfl 24 (by decide) (hG _ kfX9_201) (fun _ h9 => h9) rfl dX9_numberNow_60 ?_
            refine lv_if_ne (tgt := 73) hx hb dX9_numberNow_63 (by decide) (fun c9 => ?_) (fun c9 => ?_)
            · have hf := iff_ c9 hf
              refine lv_iconst (v := 0) hx hb dX9_numberNow_73 (by decide) ?_
              obtain rfl := Option.some.inj hf
              exact retI C0 hP hD hS rfl dX9_numberNow_74
            · have hf := ift c9 hf
              refine lv_aload_n hx hb dX9_numberNow_66 rfl (lv_at hl 0 rfl) ?_
              refine va_get (D := (dC, dI)) (ci := 9) (v := .int M_number) (C := RX9) (T := TX9) (N := 63) hx hb hG kinX9 hown hK hP 0 rfl rfl 21 (by decide) (hG _ kfX9_185) (fun _ h9 => h9) rfl dX9_numberNow_67 ?_
              refine lv_goto (tgt := 74) hx hb dX9_numberNow_70 (by decide) ?_
              obtain rfl := Option.some.inj hf
              exact retI C0 hP hD hS rfl dX9_numberNow_74
          · have hf := iff_ c8 hf
            exact wjX9_numberNow_54 C0 oM aM M_values M_code M_taped M_at M_size M_token M_number M_begins M_stops M_bad M_badPlace M_faultPlace M_ofVoting M_hour M_oil M_weight M_spider M_treasury M_joy M_passed M_acts M_seen M_never M_said M_hoarse M_fitMany M_seedNow M_hasImage M_actsThen M_seenThen    hf _ _ hP hD hS _ (lv_sub hl [0] rfl)
    · have hf := iff_ c2 hf
      refine lv_aload_n hx hb dX9_numberNow_17 rfl (lv_at hl 0 rfl) ?_
      refine lv_iconst (v := 1) hx hb dX9_numberNow_18 (by decide) ?_
      refine bd_el hf (fun v11 hv11 hf => ?_)
      refine callVv (As := [.int 1]) (rest := []) (wr := []) (wn := [(oM, .inr (9, mkX9 aM M_values M_code M_taped M_at M_size M_token M_number M_begins M_stops v11.1 v11.2 M_faultPlace M_ofVoting M_hour M_oil M_weight M_spider M_treasury M_joy M_passed M_acts M_seen M_never M_said M_hoarse M_fitMany M_seedNow M_hasImage M_actsThen M_seenThen))]) C0 kvX9_wrong kmX9_222 hP hD hS (mX9_wrong l dC dI cc ak oM aM _  M_values M_code M_taped M_at M_size M_token M_number M_begins M_stops M_bad M_badPlace M_faultPlace M_ofVoting M_hour M_oil M_weight M_spider M_treasury M_joy M_passed M_acts M_seen M_never M_said M_hoarse M_fitMany M_seedNow M_hasImage M_actsThen M_seenThen 1 hv11) ⟨rfl, rfl⟩ ⟨Nat.le_of_ble_eq_true rfl, Nat.le_of_ble_eq_true rfl⟩ [0] [] [0] rfl rfl rfl rfl (va_recv hK hP (ci := 9) (q0 := 0) rfl rfl) rfl hl.1 rfl (Nat.le_of_ble_eq_true rfl) ⟨Nat.zero_le _, Nat.zero_le _⟩ dX9_numberNow_19 (fun H locs hP hD hS => ?_)
      refine lv_goto (tgt := 59) hx hb dX9_numberNow_22 (by decide) ?_
      refine lv_aload_n hx hb dX9_numberNow_59 rfl (lv_at hl 0 rfl) ?_
      refine va_get (D := (dC, dI)) (ci := 9) (v := .int v11.1) (C := RX9) (T := TX9) (N := 63) hx hb hG kinX9 hown hK hP 0 rfl rfl 24 (by decide) (hG _ kfX9_201) (fun _ h9 => h9) rfl dX9_numberNow_60 ?_
      refine lv_if_ne (tgt := 73) hx hb dX9_numberNow_63 (by decide) (fun c12 => ?_) (fun c12 => ?_)
      · have hf := iff_ c12 hf
        refine lv_iconst (v := 0) hx hb dX9_numberNow_73 (by decide) ?_
        obtain rfl := Option.some.inj hf
        exact retI C0 hP hD hS rfl dX9_numberNow_74
      · have hf := ift c12 hf
        refine lv_aload_n hx hb dX9_numberNow_66 rfl (lv_at hl 0 rfl) ?_
        refine va_get (D := (dC, dI)) (ci := 9) (v := .int M_number) (C := RX9) (T := TX9) (N := 63) hx hb hG kinX9 hown hK hP 0 rfl rfl 21 (by decide) (hG _ kfX9_185) (fun _ h9 => h9) rfl dX9_numberNow_67 ?_
        refine lv_goto (tgt := 74) hx hb dX9_numberNow_70 (by decide) ?_
        obtain rfl := Option.some.inj hf
        exact retI C0 hP hD hS rfl dX9_numberNow_74
  · have hf := iff_ c1 hf
    refine lv_iconst (v := 0) hx hb dX9_numberNow_7 (by decide) ?_
    obtain rfl := Option.some.inj hf
    exact retI C0 hP hD hS rfl dX9_numberNow_8
theorem mX9_numberNow (l : Launch) (dC : Nat → ClassId) (dI : Nat → Nat → Nat) (cc : Nat → ClassId) (ak : Nat → Nat) (oM : Nat) (aM : Nat → Nat) (sz : Nat)  (M_values : Int32) (M_code : Int32) (M_taped : Int32) (M_at : Int32) (M_size : Int32) (M_token : Int32) (M_number : Int32) (M_begins : Int32) (M_stops : Int32) (M_bad : Int32) (M_badPlace : Int32) (M_faultPlace : Int32) (M_ofVoting : Int32) (M_hour : Int32) (M_oil : Int32) (M_weight : Int32) (M_spider : Int32) (M_treasury : Int32) (M_joy : Int32) (M_passed : Int32) (M_acts : Int32) (M_seen : Int32) (M_never : Int32) (M_said : Int32) (M_hoarse : Int32) (M_fitMany : Int32) (M_seedNow : Int32) (M_hasImage : Int32) (M_actsThen : Int32) (M_seenThen : Int32) (p0 : Int32) (p1 : Int32) {out : Int32 × Int32 × Int32} (hf : fX9_numberNow M_token M_number M_begins M_stops M_bad M_badPlace p0 p1 = some out) : Met l yX9_numberNow (Cond.code yX9_numberNow cX9_numberNow 3 (some .int) :: GW) rmX9_numberNow (PI dC dI cc ak [.ref oM, .int p0, .int p1] [(oM, .inr (9, mkX9 aM M_values M_code M_taped M_at M_size M_token M_number M_begins M_stops M_bad M_badPlace M_faultPlace M_ofVoting M_hour M_oil M_weight M_spider M_treasury M_joy M_passed M_acts M_seen M_never M_said M_hoarse M_fitMany M_seedNow M_hasImage M_actsThen M_seenThen))] sz) (QI dC dI cc out.1 [(oM, .inr (9, mkX9 aM M_values M_code M_taped M_at M_size M_token M_number M_begins M_stops out.2.1 out.2.2 M_faultPlace M_ofVoting M_hour M_oil M_weight M_spider M_treasury M_joy M_passed M_acts M_seen M_never M_said M_hoarse M_fitMany M_seedNow M_hasImage M_actsThen M_seenThen))] (va_A [(oM, .inr (9, mkX9 aM M_values M_code M_taped M_at M_size M_token M_number M_begins M_stops M_bad M_badPlace M_faultPlace M_ofVoting M_hour M_oil M_weight M_spider M_treasury M_joy M_passed M_acts M_seen M_never M_said M_hoarse M_fitMany M_seedNow M_hasImage M_actsThen M_seenThen))] sz)) 0 0 (va_A [(oM, .inr (9, mkX9 aM M_values M_code M_taped M_at M_size M_token M_number M_begins M_stops M_bad M_badPlace M_faultPlace M_ofVoting M_hour M_oil M_weight M_spider M_treasury M_joy M_passed M_acts M_seen M_never M_said M_hoarse M_fitMany M_seedNow M_hasImage M_actsThen M_seenThen))] sz) :=
  met_of (Q := fun A => QI dC dI cc out.1 [(oM, .inr (9, mkX9 aM M_values M_code M_taped M_at M_size M_token M_number M_begins M_stops out.2.1 out.2.2 M_faultPlace M_ofVoting M_hour M_oil M_weight M_spider M_treasury M_joy M_passed M_acts M_seen M_never M_said M_hoarse M_fitMany M_seedNow M_hasImage M_actsThen M_seenThen))] A) (by decide) rfl (Nat.le_of_ble_eq_true rfl) (fun p e s m below meth c A C0 hP hD hS ls hl => bX9_numberNow C0 oM aM M_values M_code M_taped M_at M_size M_token M_number M_begins M_stops M_bad M_badPlace M_faultPlace M_ofVoting M_hour M_oil M_weight M_spider M_treasury M_joy M_passed M_acts M_seen M_never M_said M_hoarse M_fitMany M_seedNow M_hasImage M_actsThen M_seenThen p0 p1 hf hP hD hS hl)
abbrev rmX9_byteAt : Room := { frames := 0, cells := 0, slots := 0, locals := 0 }
def fX9_byteAt   (M_size : Int32) (M_tape : Nat → Int32) (p0 : Int32) : Option (Int32) :=
  if M_size ≤ p0 then
    some (-1)
  else
    ck (inb p0 700) <|
    some (M_tape (p0 : Int32).toNatClampNeg)
set_option maxHeartbeats 4000000 in
set_option maxRecDepth 100000 in
theorem bX9_byteAt {p : Program} {l : Launch} {e : Env} {s : State} {m : MethodId} {args : Array Value} {below : List Frame} {meth : Method} {c : Code} {A : Nat → Prop} {dC : Nat → ClassId} {dI : Nat → Nat → Nat} {cc : Nat → ClassId} {ak : Nat → Nat} (C0 : CT p s m args meth c A dC dI cc ak cX9_byteAt 2 (some .int) RX9) (oM : Nat) (aM : Nat → Nat)  (M_values : Int32) (M_code : Int32) (M_taped : Int32) (M_at : Int32) (M_size : Int32) (M_token : Int32) (M_number : Int32) (M_begins : Int32) (M_stops : Int32) (M_bad : Int32) (M_badPlace : Int32) (M_faultPlace : Int32) (M_ofVoting : Int32) (M_hour : Int32) (M_oil : Int32) (M_weight : Int32) (M_spider : Int32) (M_treasury : Int32) (M_joy : Int32) (M_passed : Int32) (M_acts : Int32) (M_seen : Int32) (M_never : Int32) (M_said : Int32) (M_hoarse : Int32) (M_fitMany : Int32) (M_seedNow : Int32) (M_hasImage : Int32) (M_actsThen : Int32) (M_seenThen : Int32) (M_tape : Nat → Int32) (p0 : Int32) {out : Int32} (hf : fX9_byteAt M_size M_tape p0 = some out) {H : Heap} {locs : List Loc} (hP : va_P (dC, dI) cLs [(oM, .inr (9, mkX9 aM M_values M_code M_taped M_at M_size M_token M_number M_begins M_stops M_bad M_badPlace M_faultPlace M_ofVoting M_hour M_oil M_weight M_spider M_treasury M_joy M_passed M_acts M_seen M_never M_said M_hoarse M_fitMany M_seedNow M_hasImage M_actsThen M_seenThen)), ((aM 16), .inl (cc 0, 700, .inl M_tape))] H) (hD : va_D A [(oM, .inr (9, mkX9 aM M_values M_code M_taped M_at M_size M_token M_number M_begins M_stops M_bad M_badPlace M_faultPlace M_ofVoting M_hour M_oil M_weight M_spider M_treasury M_joy M_passed M_acts M_seen M_never M_said M_hoarse M_fitMany M_seedNow M_hasImage M_actsThen M_seenThen)), ((aM 16), .inl (cc 0, 700, .inl M_tape))]) (hS : va_S A s.heap H locs) {ls : Array Slot} (hl : lv_has ls 2 [(0, .ref oM), (1, .int p0)]) : W p l e rmX9_byteAt s m args below meth c H locs 0 0 (MQ below (QI dC dI cc out [(oM, .inr (9, mkX9 aM M_values M_code M_taped M_at M_size M_token M_number M_begins M_stops M_bad M_badPlace M_faultPlace M_ofVoting M_hour M_oil M_weight M_spider M_treasury M_joy M_passed M_acts M_seen M_never M_said M_hoarse M_fitMany M_seedNow M_hasImage M_actsThen M_seenThen)), ((aM 16), .inl (cc 0, 700, .inl M_tape))] A) args s 0 0 A) (F0 m 0 ls []) := by
  obtain ⟨hx, hb, hml, hr, hlocks, hown, hG, hK, hA, hE⟩ := id C0
  unfold fX9_byteAt at hf
  refine lv_iload_n hx hb dX9_byteAt_0 rfl (lv_at hl 1 rfl) ?_
  refine lv_aload_n hx hb dX9_byteAt_1 rfl (lv_at hl 0 rfl) ?_
  refine va_get (D := (dC, dI)) (ci := 9) (v := .int M_size) (C := RX9) (T := TX9) (N := 63) hx hb hG kinX9 hown hK hP 0 rfl rfl 19 (by decide) (hG _ kfX9_162) (fun _ h9 => h9) rfl dX9_byteAt_2 ?_
  refine lv_icmp_ge (tgt := 17) hx hb dX9_byteAt_5 (by decide) (fun c1 => ?_) (fun c1 => ?_)
  · have hf := ift c1 hf
    refine lv_iconst (v := (-1)) hx hb dX9_byteAt_17 (by decide) ?_
    obtain rfl := Option.some.inj hf
    exact retI C0 hP hD hS rfl dX9_byteAt_18
  · have hf := iff_ c1 hf
    refine lv_aload_n hx hb dX9_byteAt_8 rfl (lv_at hl 0 rfl) ?_
    refine va_get (D := (dC, dI)) (ci := 9) (v := .ref (aM 16)) (C := RX9) (T := TX9) (N := 63) hx hb hG kinX9 hown hK hP 0 rfl rfl 16 (by decide) (hG _ kfX9_82) (fun _ h9 => h9) rfl dX9_byteAt_9 ?_
    refine lv_iload_n hx hb dX9_byteAt_12 rfl (lv_at hl 1 rfl) ?_
    refine ck_el hf (fun g2 hf => ?_)
    refine va_iald hx hb hK hP 1 0 rfl rfl (inb_in g2) dX9_byteAt_13 ?_
    refine lv_goto (tgt := 18) hx hb dX9_byteAt_14 (by decide) ?_
    obtain rfl := Option.some.inj hf
    exact retI C0 hP hD hS rfl dX9_byteAt_18
theorem mX9_byteAt (l : Launch) (dC : Nat → ClassId) (dI : Nat → Nat → Nat) (cc : Nat → ClassId) (ak : Nat → Nat) (oM : Nat) (aM : Nat → Nat) (sz : Nat)  (M_values : Int32) (M_code : Int32) (M_taped : Int32) (M_at : Int32) (M_size : Int32) (M_token : Int32) (M_number : Int32) (M_begins : Int32) (M_stops : Int32) (M_bad : Int32) (M_badPlace : Int32) (M_faultPlace : Int32) (M_ofVoting : Int32) (M_hour : Int32) (M_oil : Int32) (M_weight : Int32) (M_spider : Int32) (M_treasury : Int32) (M_joy : Int32) (M_passed : Int32) (M_acts : Int32) (M_seen : Int32) (M_never : Int32) (M_said : Int32) (M_hoarse : Int32) (M_fitMany : Int32) (M_seedNow : Int32) (M_hasImage : Int32) (M_actsThen : Int32) (M_seenThen : Int32) (M_tape : Nat → Int32) (p0 : Int32) {out : Int32} (hf : fX9_byteAt M_size M_tape p0 = some out) : Met l yX9_byteAt (Cond.code yX9_byteAt cX9_byteAt 2 (some .int) :: GW) rmX9_byteAt (PI dC dI cc ak [.ref oM, .int p0] [(oM, .inr (9, mkX9 aM M_values M_code M_taped M_at M_size M_token M_number M_begins M_stops M_bad M_badPlace M_faultPlace M_ofVoting M_hour M_oil M_weight M_spider M_treasury M_joy M_passed M_acts M_seen M_never M_said M_hoarse M_fitMany M_seedNow M_hasImage M_actsThen M_seenThen)), ((aM 16), .inl (cc 0, 700, .inl M_tape))] sz) (QI dC dI cc out [(oM, .inr (9, mkX9 aM M_values M_code M_taped M_at M_size M_token M_number M_begins M_stops M_bad M_badPlace M_faultPlace M_ofVoting M_hour M_oil M_weight M_spider M_treasury M_joy M_passed M_acts M_seen M_never M_said M_hoarse M_fitMany M_seedNow M_hasImage M_actsThen M_seenThen)), ((aM 16), .inl (cc 0, 700, .inl M_tape))] (va_A [(oM, .inr (9, mkX9 aM M_values M_code M_taped M_at M_size M_token M_number M_begins M_stops M_bad M_badPlace M_faultPlace M_ofVoting M_hour M_oil M_weight M_spider M_treasury M_joy M_passed M_acts M_seen M_never M_said M_hoarse M_fitMany M_seedNow M_hasImage M_actsThen M_seenThen)), ((aM 16), .inl (cc 0, 700, .inl M_tape))] sz)) 0 0 (va_A [(oM, .inr (9, mkX9 aM M_values M_code M_taped M_at M_size M_token M_number M_begins M_stops M_bad M_badPlace M_faultPlace M_ofVoting M_hour M_oil M_weight M_spider M_treasury M_joy M_passed M_acts M_seen M_never M_said M_hoarse M_fitMany M_seedNow M_hasImage M_actsThen M_seenThen)), ((aM 16), .inl (cc 0, 700, .inl M_tape))] sz) :=
  met_of (Q := fun A => QI dC dI cc out [(oM, .inr (9, mkX9 aM M_values M_code M_taped M_at M_size M_token M_number M_begins M_stops M_bad M_badPlace M_faultPlace M_ofVoting M_hour M_oil M_weight M_spider M_treasury M_joy M_passed M_acts M_seen M_never M_said M_hoarse M_fitMany M_seedNow M_hasImage M_actsThen M_seenThen)), ((aM 16), .inl (cc 0, 700, .inl M_tape))] A) (by decide) rfl (Nat.le_of_ble_eq_true rfl) (fun p e s m below meth c A C0 hP hD hS ls hl => bX9_byteAt C0 oM aM M_values M_code M_taped M_at M_size M_token M_number M_begins M_stops M_bad M_badPlace M_faultPlace M_ofVoting M_hour M_oil M_weight M_spider M_treasury M_joy M_passed M_acts M_seen M_never M_said M_hoarse M_fitMany M_seedNow M_hasImage M_actsThen M_seenThen M_tape p0 hf hP hD hS hl)
abbrev rmX9_isLetter : Room := { frames := 0, cells := 0, slots := 0, locals := 0 }
def fX9_isLetter    (p0 : Int32) : Option (Int32) :=
  if p0 < 97 then
    some 0
  else
    if 122 < p0 then
      some 0
    else
      some 1
set_option maxHeartbeats 4000000 in
set_option maxRecDepth 100000 in
theorem bX9_isLetter {p : Program} {l : Launch} {e : Env} {s : State} {m : MethodId} {args : Array Value} {below : List Frame} {meth : Method} {c : Code} {A : Nat → Prop} {dC : Nat → ClassId} {dI : Nat → Nat → Nat} {cc : Nat → ClassId} {ak : Nat → Nat} (C0 : CT p s m args meth c A dC dI cc ak cX9_isLetter 1 (some .boolean) RX9)    (p0 : Int32) {out : Int32} (hf : fX9_isLetter p0 = some out) {H : Heap} {locs : List Loc} (hP : va_P (dC, dI) cLs [] H) (hD : va_D A []) (hS : va_S A s.heap H locs) {ls : Array Slot} (hl : lv_has ls 1 [(0, .int p0)]) : W p l e rmX9_isLetter s m args below meth c H locs 0 0 (MQ below (QI dC dI cc out [] A) args s 0 0 A) (F0 m 0 ls []) := by
  obtain ⟨hx, hb, hml, hr, hlocks, hown, hG, hK, hA, hE⟩ := id C0
  unfold fX9_isLetter at hf
  refine lv_iload_n hx hb dX9_isLetter_0 rfl (lv_at hl 0 rfl) ?_
  refine lv_bipush (v := 97) hx hb dX9_isLetter_1 (by decide) ?_
  refine lv_icmp_lt (tgt := 16) hx hb dX9_isLetter_3 (by decide) (fun c1 => ?_) (fun c1 => ?_)
  · have hf := ift c1 hf
    refine lv_iconst (v := 0) hx hb dX9_isLetter_16 (by decide) ?_
    obtain rfl := Option.some.inj hf
    exact retZ C0 hP hD hS rfl rfl dX9_isLetter_17
  · have hf := iff_ c1 hf
    refine lv_iload_n hx hb dX9_isLetter_6 rfl (lv_at hl 0 rfl) ?_
    refine lv_bipush (v := 122) hx hb dX9_isLetter_7 (by decide) ?_
    refine lv_icmp_gt (tgt := 16) hx hb dX9_isLetter_9 (by decide) (fun c2 => ?_) (fun c2 => ?_)
    · have hf := ift c2 hf
      refine lv_iconst (v := 0) hx hb dX9_isLetter_16 (by decide) ?_
      obtain rfl := Option.some.inj hf
      exact retZ C0 hP hD hS rfl rfl dX9_isLetter_17
    · have hf := iff_ c2 hf
      refine lv_iconst (v := 1) hx hb dX9_isLetter_12 (by decide) ?_
      refine lv_goto (tgt := 17) hx hb dX9_isLetter_13 (by decide) ?_
      obtain rfl := Option.some.inj hf
      exact retZ C0 hP hD hS rfl rfl dX9_isLetter_17
theorem mX9_isLetter (l : Launch) (dC : Nat → ClassId) (dI : Nat → Nat → Nat) (cc : Nat → ClassId) (ak : Nat → Nat)  (sz : Nat)   (p0 : Int32) {out : Int32} (hf : fX9_isLetter p0 = some out) : Met l yX9_isLetter (Cond.code yX9_isLetter cX9_isLetter 1 (some .boolean) :: GW) rmX9_isLetter (PI dC dI cc ak [.int p0] [] sz) (QI dC dI cc out [] (va_A [] sz)) 0 0 (va_A [] sz) :=
  met_of (Q := fun A => QI dC dI cc out [] A) (by decide) rfl (Nat.le_of_ble_eq_true rfl) (fun p e s m below meth c A C0 hP hD hS ls hl => bX9_isLetter C0 p0 hf hP hD hS hl)
abbrev rmX9_isDigit : Room := { frames := 0, cells := 0, slots := 0, locals := 0 }
def fX9_isDigit    (p0 : Int32) : Option (Int32) :=
  if p0 < 48 then
    some 0
  else
    if 57 < p0 then
      some 0
    else
      some 1
set_option maxHeartbeats 4000000 in
set_option maxRecDepth 100000 in
theorem bX9_isDigit {p : Program} {l : Launch} {e : Env} {s : State} {m : MethodId} {args : Array Value} {below : List Frame} {meth : Method} {c : Code} {A : Nat → Prop} {dC : Nat → ClassId} {dI : Nat → Nat → Nat} {cc : Nat → ClassId} {ak : Nat → Nat} (C0 : CT p s m args meth c A dC dI cc ak cX9_isDigit 1 (some .boolean) RX9)    (p0 : Int32) {out : Int32} (hf : fX9_isDigit p0 = some out) {H : Heap} {locs : List Loc} (hP : va_P (dC, dI) cLs [] H) (hD : va_D A []) (hS : va_S A s.heap H locs) {ls : Array Slot} (hl : lv_has ls 1 [(0, .int p0)]) : W p l e rmX9_isDigit s m args below meth c H locs 0 0 (MQ below (QI dC dI cc out [] A) args s 0 0 A) (F0 m 0 ls []) := by
  obtain ⟨hx, hb, hml, hr, hlocks, hown, hG, hK, hA, hE⟩ := id C0
  unfold fX9_isDigit at hf
  refine lv_iload_n hx hb dX9_isDigit_0 rfl (lv_at hl 0 rfl) ?_
  refine lv_bipush (v := 48) hx hb dX9_isDigit_1 (by decide) ?_
  refine lv_icmp_lt (tgt := 16) hx hb dX9_isDigit_3 (by decide) (fun c1 => ?_) (fun c1 => ?_)
  · have hf := ift c1 hf
    refine lv_iconst (v := 0) hx hb dX9_isDigit_16 (by decide) ?_
    obtain rfl := Option.some.inj hf
    exact retZ C0 hP hD hS rfl rfl dX9_isDigit_17
  · have hf := iff_ c1 hf
    refine lv_iload_n hx hb dX9_isDigit_6 rfl (lv_at hl 0 rfl) ?_
    refine lv_bipush (v := 57) hx hb dX9_isDigit_7 (by decide) ?_
    refine lv_icmp_gt (tgt := 16) hx hb dX9_isDigit_9 (by decide) (fun c2 => ?_) (fun c2 => ?_)
    · have hf := ift c2 hf
      refine lv_iconst (v := 0) hx hb dX9_isDigit_16 (by decide) ?_
      obtain rfl := Option.some.inj hf
      exact retZ C0 hP hD hS rfl rfl dX9_isDigit_17
    · have hf := iff_ c2 hf
      refine lv_iconst (v := 1) hx hb dX9_isDigit_12 (by decide) ?_
      refine lv_goto (tgt := 17) hx hb dX9_isDigit_13 (by decide) ?_
      obtain rfl := Option.some.inj hf
      exact retZ C0 hP hD hS rfl rfl dX9_isDigit_17
theorem mX9_isDigit (l : Launch) (dC : Nat → ClassId) (dI : Nat → Nat → Nat) (cc : Nat → ClassId) (ak : Nat → Nat)  (sz : Nat)   (p0 : Int32) {out : Int32} (hf : fX9_isDigit p0 = some out) : Met l yX9_isDigit (Cond.code yX9_isDigit cX9_isDigit 1 (some .boolean) :: GW) rmX9_isDigit (PI dC dI cc ak [.int p0] [] sz) (QI dC dI cc out [] (va_A [] sz)) 0 0 (va_A [] sz) :=
  met_of (Q := fun A => QI dC dI cc out [] A) (by decide) rfl (Nat.le_of_ble_eq_true rfl) (fun p e s m below meth c A C0 hP hD hS ls hl => bX9_isDigit C0 p0 hf hP hD hS hl)
abbrev rmX9_isMark : Room := { frames := 0, cells := 0, slots := 0, locals := 0 }
def fX9_isMark    (p0 : Int32) : Option (Int32) :=
  if p0 = 59 then
    some 1
  else
    if p0 = 40 then
      some 1
    else
      if p0 = 41 then
        some 1
      else
        if p0 = 43 then
          some 1
        else
          if p0 = 45 then
            some 1
          else
            if p0 = 42 then
              some 1
            else
              if p0 = 47 then
                some 1
              else
                if p0 = 60 then
                  some 1
                else
                  if p0 = 61 then
                    some 1
                  else
                    some 0
set_option maxHeartbeats 4000000 in
set_option maxRecDepth 100000 in
theorem bX9_isMark {p : Program} {l : Launch} {e : Env} {s : State} {m : MethodId} {args : Array Value} {below : List Frame} {meth : Method} {c : Code} {A : Nat → Prop} {dC : Nat → ClassId} {dI : Nat → Nat → Nat} {cc : Nat → ClassId} {ak : Nat → Nat} (C0 : CT p s m args meth c A dC dI cc ak cX9_isMark 1 (some .boolean) RX9)    (p0 : Int32) {out : Int32} (hf : fX9_isMark p0 = some out) {H : Heap} {locs : List Loc} (hP : va_P (dC, dI) cLs [] H) (hD : va_D A []) (hS : va_S A s.heap H locs) {ls : Array Slot} (hl : lv_has ls 1 [(0, .int p0)]) : W p l e rmX9_isMark s m args below meth c H locs 0 0 (MQ below (QI dC dI cc out [] A) args s 0 0 A) (F0 m 0 ls []) := by
  obtain ⟨hx, hb, hml, hr, hlocks, hown, hG, hK, hA, hE⟩ := id C0
  unfold fX9_isMark at hf
  refine lv_iload_n hx hb dX9_isMark_0 rfl (lv_at hl 0 rfl) ?_
  refine lv_bipush (v := 59) hx hb dX9_isMark_1 (by decide) ?_
  refine lv_icmp_eq (tgt := 54) hx hb dX9_isMark_3 (by decide) (fun c1 => ?_) (fun c1 => ?_)
  · have hf := ift c1 hf
    refine lv_iconst (v := 1) hx hb dX9_isMark_54 (by decide) ?_
    refine lv_goto (tgt := 59) hx hb dX9_isMark_55 (by decide) ?_
    obtain rfl := Option.some.inj hf
    exact retZ C0 hP hD hS rfl rfl dX9_isMark_59
  · have hf := iff_ c1 hf
    refine lv_iload_n hx hb dX9_isMark_6 rfl (lv_at hl 0 rfl) ?_
    refine lv_bipush (v := 40) hx hb dX9_isMark_7 (by decide) ?_
    refine lv_icmp_eq (tgt := 54) hx hb dX9_isMark_9 (by decide) (fun c2 => ?_) (fun c2 => ?_)
    · have hf := ift c2 hf
      refine lv_iconst (v := 1) hx hb dX9_isMark_54 (by decide) ?_
      refine lv_goto (tgt := 59) hx hb dX9_isMark_55 (by decide) ?_
      obtain rfl := Option.some.inj hf
      exact retZ C0 hP hD hS rfl rfl dX9_isMark_59
    · have hf := iff_ c2 hf
      refine lv_iload_n hx hb dX9_isMark_12 rfl (lv_at hl 0 rfl) ?_
      refine lv_bipush (v := 41) hx hb dX9_isMark_13 (by decide) ?_
      refine lv_icmp_eq (tgt := 54) hx hb dX9_isMark_15 (by decide) (fun c3 => ?_) (fun c3 => ?_)
      · have hf := ift c3 hf
        refine lv_iconst (v := 1) hx hb dX9_isMark_54 (by decide) ?_
        refine lv_goto (tgt := 59) hx hb dX9_isMark_55 (by decide) ?_
        obtain rfl := Option.some.inj hf
        exact retZ C0 hP hD hS rfl rfl dX9_isMark_59
      · have hf := iff_ c3 hf
        refine lv_iload_n hx hb dX9_isMark_18 rfl (lv_at hl 0 rfl) ?_
        refine lv_bipush (v := 43) hx hb dX9_isMark_19 (by decide) ?_
        refine lv_icmp_eq (tgt := 54) hx hb dX9_isMark_21 (by decide) (fun c4 => ?_) (fun c4 => ?_)
        · have hf := ift c4 hf
          refine lv_iconst (v := 1) hx hb dX9_isMark_54 (by decide) ?_
          refine lv_goto (tgt := 59) hx hb dX9_isMark_55 (by decide) ?_
          obtain rfl := Option.some.inj hf
          exact retZ C0 hP hD hS rfl rfl dX9_isMark_59
        · have hf := iff_ c4 hf
          refine lv_iload_n hx hb dX9_isMark_24 rfl (lv_at hl 0 rfl) ?_
          refine lv_bipush (v := 45) hx hb dX9_isMark_25 (by decide) ?_
          refine lv_icmp_eq (tgt := 54) hx hb dX9_isMark_27 (by decide) (fun c5 => ?_) (fun c5 => ?_)
          · have hf := ift c5 hf
            refine lv_iconst (v := 1) hx hb dX9_isMark_54 (by decide) ?_
            refine lv_goto (tgt := 59) hx hb dX9_isMark_55 (by decide) ?_
            obtain rfl := Option.some.inj hf
            exact retZ C0 hP hD hS rfl rfl dX9_isMark_59
          · have hf := iff_ c5 hf
            refine lv_iload_n hx hb dX9_isMark_30 rfl (lv_at hl 0 rfl) ?_
            refine lv_bipush (v := 42) hx hb dX9_isMark_31 (by decide) ?_
            refine lv_icmp_eq (tgt := 54) hx hb dX9_isMark_33 (by decide) (fun c6 => ?_) (fun c6 => ?_)
            · have hf := ift c6 hf
              refine lv_iconst (v := 1) hx hb dX9_isMark_54 (by decide) ?_
              refine lv_goto (tgt := 59) hx hb dX9_isMark_55 (by decide) ?_
              obtain rfl := Option.some.inj hf
              exact retZ C0 hP hD hS rfl rfl dX9_isMark_59
            · have hf := iff_ c6 hf
              refine lv_iload_n hx hb dX9_isMark_36 rfl (lv_at hl 0 rfl) ?_
              refine lv_bipush (v := 47) hx hb dX9_isMark_37 (by decide) ?_
              refine lv_icmp_eq (tgt := 54) hx hb dX9_isMark_39 (by decide) (fun c7 => ?_) (fun c7 => ?_)
              · have hf := ift c7 hf
                refine lv_iconst (v := 1) hx hb dX9_isMark_54 (by decide) ?_
                refine lv_goto (tgt := 59) hx hb dX9_isMark_55 (by decide) ?_
                obtain rfl := Option.some.inj hf
                exact retZ C0 hP hD hS rfl rfl dX9_isMark_59
              · have hf := iff_ c7 hf
                refine lv_iload_n hx hb dX9_isMark_42 rfl (lv_at hl 0 rfl) ?_
                refine lv_bipush (v := 60) hx hb dX9_isMark_43 (by decide) ?_
                refine lv_icmp_eq (tgt := 54) hx hb dX9_isMark_45 (by decide) (fun c8 => ?_) (fun c8 => ?_)
                · have hf := ift c8 hf
                  refine lv_iconst (v := 1) hx hb dX9_isMark_54 (by decide) ?_
                  refine lv_goto (tgt := 59) hx hb dX9_isMark_55 (by decide) ?_
                  obtain rfl := Option.some.inj hf
                  exact retZ C0 hP hD hS rfl rfl dX9_isMark_59
                · have hf := iff_ c8 hf
                  refine lv_iload_n hx hb dX9_isMark_48 rfl (lv_at hl 0 rfl) ?_
                  refine lv_bipush (v := 61) hx hb dX9_isMark_49 (by decide) ?_
                  refine lv_icmp_ne (tgt := 58) hx hb dX9_isMark_51 (by decide) (fun c9 => ?_) (fun c9 => ?_)
                  · have hf := iff_ c9 hf
                    refine lv_iconst (v := 0) hx hb dX9_isMark_58 (by decide) ?_
                    obtain rfl := Option.some.inj hf
                    exact retZ C0 hP hD hS rfl rfl dX9_isMark_59
                  · have hf := ift c9 hf
                    refine lv_iconst (v := 1) hx hb dX9_isMark_54 (by decide) ?_
                    refine lv_goto (tgt := 59) hx hb dX9_isMark_55 (by decide) ?_
                    obtain rfl := Option.some.inj hf
                    exact retZ C0 hP hD hS rfl rfl dX9_isMark_59
theorem mX9_isMark (l : Launch) (dC : Nat → ClassId) (dI : Nat → Nat → Nat) (cc : Nat → ClassId) (ak : Nat → Nat)  (sz : Nat)   (p0 : Int32) {out : Int32} (hf : fX9_isMark p0 = some out) : Met l yX9_isMark (Cond.code yX9_isMark cX9_isMark 1 (some .boolean) :: GW) rmX9_isMark (PI dC dI cc ak [.int p0] [] sz) (QI dC dI cc out [] (va_A [] sz)) 0 0 (va_A [] sz) :=
  met_of (Q := fun A => QI dC dI cc out [] A) (by decide) rfl (Nat.le_of_ble_eq_true rfl) (fun p e s m below meth c A C0 hP hD hS ls hl => bX9_isMark C0 p0 hf hP hD hS hl)
abbrev rmX9_stepOn : Room := { frames := 1, cells := 0, slots := 0, locals := 21 }
def lX9_stepOn_0  (ke0_39 : Int32 → Option (Int32 × Int32 × Int32 × Int32 × Int32))  (M_size : Int32) (M_tape : Nat → Int32) : Nat → Int32 → Option (Int32 × Int32 × Int32 × Int32 × Int32)
  | 0, _ => none
  | n+1, M_at =>
    (fX9_byteAt  M_size M_tape M_at).bind fun v5 =>
    if v5 = 32 then
      lX9_stepOn_0 ke0_39 M_size M_tape n (M_at + (1 : Int32))
    else
      (fX9_byteAt  M_size M_tape M_at).bind fun v8 =>
      if v8 = 10 then
        lX9_stepOn_0 ke0_39 M_size M_tape n (M_at + (1 : Int32))
      else
        ke0_39 M_at
set_option maxHeartbeats 4000000 in
set_option maxRecDepth 100000 in
theorem wlX9_stepOn_0 {p : Program} {l : Launch} {e : Env} {s : State} {m : MethodId} {args : Array Value} {below : List Frame} {meth : Method} {c : Code} {A : Nat → Prop} {dC : Nat → ClassId} {dI : Nat → Nat → Nat} {cc : Nat → ClassId} {ak : Nat → Nat} (C0 : CT p s m args meth c A dC dI cc ak cX9_stepOn 2 none RX9) (oM : Nat) (aM : Nat → Nat)  (M_values : Int32) (M_code : Int32) (M_taped : Int32) (M_size : Int32) (M_token : Int32) (M_number : Int32) (M_begins : Int32) (M_stops : Int32) (M_bad : Int32) (M_badPlace : Int32) (M_faultPlace : Int32) (M_ofVoting : Int32) (M_hour : Int32) (M_oil : Int32) (M_weight : Int32) (M_spider : Int32) (M_treasury : Int32) (M_joy : Int32) (M_passed : Int32) (M_acts : Int32) (M_seen : Int32) (M_never : Int32) (M_said : Int32) (M_hoarse : Int32) (M_fitMany : Int32) (M_seedNow : Int32) (M_hasImage : Int32) (M_actsThen : Int32) (M_seenThen : Int32) (M_tape : Nat → Int32)  {out : Int32 × Int32 × Int32 × Int32 × Int32} (ke0_39 : Int32 → Option (Int32 × Int32 × Int32 × Int32 × Int32)) (hke0_39 : ∀ (M_at' : Int32), ke0_39 M_at' = some out → ∀ (H : Heap) (locs : List Loc), va_P (dC, dI) cLs [(oM, .inr (9, mkX9 aM M_values M_code M_taped M_at' M_size M_token M_number M_begins M_stops M_bad M_badPlace M_faultPlace M_ofVoting M_hour M_oil M_weight M_spider M_treasury M_joy M_passed M_acts M_seen M_never M_said M_hoarse M_fitMany M_seedNow M_hasImage M_actsThen M_seenThen)), ((aM 16), .inl (cc 0, 700, .inl M_tape))] H → va_D A [(oM, .inr (9, mkX9 aM M_values M_code M_taped M_at' M_size M_token M_number M_begins M_stops M_bad M_badPlace M_faultPlace M_ofVoting M_hour M_oil M_weight M_spider M_treasury M_joy M_passed M_acts M_seen M_never M_said M_hoarse M_fitMany M_seedNow M_hasImage M_actsThen M_seenThen)), ((aM 16), .inl (cc 0, 700, .inl M_tape))] → va_S A s.heap H locs → ∀ ls : Array Slot, lv_has ls 2 [(0, .ref oM)] → W p l e rmX9_stepOn s m args below meth c H locs 0 0 (MQ below (QV dC dI cc [(oM, .inr (9, mkX9 aM M_values M_code M_taped out.1 M_size out.2.1 out.2.2.1 out.2.2.2.1 out.2.2.2.2 M_bad M_badPlace M_faultPlace M_ofVoting M_hour M_oil M_weight M_spider M_treasury M_joy M_passed M_acts M_seen M_never M_said M_hoarse M_fitMany M_seedNow M_hasImage M_actsThen M_seenThen)), ((aM 16), .inl (cc 0, 700, .inl M_tape))] A) args s 0 0 A) (F0 m 39 ls [])) : ∀ (n : Nat) (M_at : Int32) (hf : lX9_stepOn_0 ke0_39 M_size M_tape n M_at = some out) (H : Heap) (locs : List Loc) (hP : va_P (dC, dI) cLs [(oM, .inr (9, mkX9 aM M_values M_code M_taped M_at M_size M_token M_number M_begins M_stops M_bad M_badPlace M_faultPlace M_ofVoting M_hour M_oil M_weight M_spider M_treasury M_joy M_passed M_acts M_seen M_never M_said M_hoarse M_fitMany M_seedNow M_hasImage M_actsThen M_seenThen)), ((aM 16), .inl (cc 0, 700, .inl M_tape))] H) (hD : va_D A [(oM, .inr (9, mkX9 aM M_values M_code M_taped M_at M_size M_token M_number M_begins M_stops M_bad M_badPlace M_faultPlace M_ofVoting M_hour M_oil M_weight M_spider M_treasury M_joy M_passed M_acts M_seen M_never M_said M_hoarse M_fitMany M_seedNow M_hasImage M_actsThen M_seenThen)), ((aM 16), .inl (cc 0, 700, .inl M_tape))]) (hS : va_S A s.heap H locs) (ls : Array Slot) (hl : lv_has ls 2 [(0, .ref oM)]), W p l e rmX9_stepOn s m args below meth c H locs 0 0 (MQ below (QV dC dI cc [(oM, .inr (9, mkX9 aM M_values M_code M_taped out.1 M_size out.2.1 out.2.2.1 out.2.2.2.1 out.2.2.2.2 M_bad M_badPlace M_faultPlace M_ofVoting M_hour M_oil M_weight M_spider M_treasury M_joy M_passed M_acts M_seen M_never M_said M_hoarse M_fitMany M_seedNow M_hasImage M_actsThen M_seenThen)), ((aM 16), .inl (cc 0, 700, .inl M_tape))] A) args s 0 0 A) (F0 m 0 ls []) := by
  obtain ⟨hx, hb, hml, hr, hlocks, hown, hG, hK, hA, hE⟩ := id C0
  intro n
  induction n with
  | zero => intro M_at hf; cases hf
  | succ n ih =>
    intro M_at hf H locs hP hD hS ls hl
    unfold lX9_stepOn_0 at hf
    refine lv_aload_n hx hb dX9_stepOn_0 rfl (lv_at hl 0 rfl) ?_
    refine lv_aload_n hx hb dX9_stepOn_1 rfl (lv_at hl 0 rfl) ?_
    refine va_get (D := (dC, dI)) (ci := 9) (v := .int M_at) (C := RX9) (T := TX9) (N := 63) hx hb hG kinX9 hown hK hP 0 rfl rfl 18 (by decide) (hG _ kfX9_165) (fun _ h9 => h9) rfl dX9_stepOn_2 ?_
    refine bd_el hf (fun v5 hv5 hf => ?_)
    refine callVi (As := [.int M_at]) (rest := []) (wr := []) (wn := [(oM, .inr (9, mkX9 aM M_values M_code M_taped M_at M_size M_token M_number M_begins M_stops M_bad M_badPlace M_faultPlace M_ofVoting M_hour M_oil M_weight M_spider M_treasury M_joy M_passed M_acts M_seen M_never M_said M_hoarse M_fitMany M_seedNow M_hasImage M_actsThen M_seenThen)), ((aM 16), .inl (cc 0, 700, .inl M_tape))]) C0 kvX9_byteAt kmX9_168 hP hD hS (mX9_byteAt l dC dI cc ak oM aM _  M_values M_code M_taped M_at M_size M_token M_number M_begins M_stops M_bad M_badPlace M_faultPlace M_ofVoting M_hour M_oil M_weight M_spider M_treasury M_joy M_passed M_acts M_seen M_never M_said M_hoarse M_fitMany M_seedNow M_hasImage M_actsThen M_seenThen M_tape M_at hv5) ⟨rfl, rfl⟩ ⟨Nat.le_of_ble_eq_true rfl, Nat.le_of_ble_eq_true rfl⟩ [0, 1] [] [0, 1] rfl rfl rfl rfl (va_recv hK hP (ci := 9) (q0 := 0) rfl rfl) rfl hl.1 rfl (Nat.le_of_ble_eq_true rfl) ⟨Nat.zero_le _, Nat.zero_le _⟩ dX9_stepOn_5 (fun H locs hP hD hS => ?_)
    refine lv_bipush (v := 32) hx hb dX9_stepOn_8 (by decide) ?_
    refine lv_icmp_eq (tgt := 26) hx hb dX9_stepOn_10 (by decide) (fun c6 => ?_) (fun c6 => ?_)
    · have hf := ift c6 hf
      refine lv_aload_n hx hb dX9_stepOn_26 rfl (lv_at hl 0 rfl) ?_
      refine lv_dup hx hb dX9_stepOn_27 rfl ?_
      refine va_get (D := (dC, dI)) (ci := 9) (v := .int M_at) (C := RX9) (T := TX9) (N := 63) hx hb hG kinX9 hown hK hP 0 rfl rfl 18 (by decide) (hG _ kfX9_165) (fun _ h9 => h9) rfl dX9_stepOn_28 ?_
      refine lv_iconst (v := 1) hx hb dX9_stepOn_31 (by decide) ?_
      refine lv_iadd hx hb dX9_stepOn_32 ?_
      refine va_put (D := (dC, dI)) (ci := 9) (v := .int (M_at + (1 : Int32))) (ty := .int) (C := RX9) (T := TX9) (N := 63) hx hb hG kinX9 tyX9 tyX9_ok nmX9 hown hK hP hD hS 0 rfl rfl 18 (by decide) (hG _ kfX9_165) (fun _ h9 => h9) rfl (by decide +kernel) rfl rfl (Nat.le_of_ble_eq_true rfl) dX9_stepOn_33 (fun H locs hP hD hS => ?_)
      have hP : va_P (dC, dI) cLs [(oM, .inr (9, mkX9 aM M_values M_code M_taped (M_at + (1 : Int32)) M_size M_token M_number M_begins M_stops M_bad M_badPlace M_faultPlace M_ofVoting M_hour M_oil M_weight M_spider M_treasury M_joy M_passed M_acts M_seen M_never M_said M_hoarse M_fitMany M_seedNow M_hasImage M_actsThen M_seenThen)), ((aM 16), .inl (cc 0, 700, .inl M_tape))] _ := hP
      have hD : va_D A [(oM, .inr (9, mkX9 aM M_values M_code M_taped (M_at + (1 : Int32)) M_size M_token M_number M_begins M_stops M_bad M_badPlace M_faultPlace M_ofVoting M_hour M_oil M_weight M_spider M_treasury M_joy M_passed M_acts M_seen M_never M_said M_hoarse M_fitMany M_seedNow M_hasImage M_actsThen M_seenThen)), ((aM 16), .inl (cc 0, 700, .inl M_tape))] := hD
      refine lv_goto (tgt := 0) hx hb dX9_stepOn_36 (by decide) ?_
      exact ih (M_at + (1 : Int32)) hf _ _ hP hD hS _ (lv_sub hl [0] rfl)
    · have hf := iff_ c6 hf
      refine lv_aload_n hx hb dX9_stepOn_13 rfl (lv_at hl 0 rfl) ?_
      refine lv_aload_n hx hb dX9_stepOn_14 rfl (lv_at hl 0 rfl) ?_
      refine va_get (D := (dC, dI)) (ci := 9) (v := .int M_at) (C := RX9) (T := TX9) (N := 63) hx hb hG kinX9 hown hK hP 0 rfl rfl 18 (by decide) (hG _ kfX9_165) (fun _ h9 => h9) rfl dX9_stepOn_15 ?_
      refine bd_el hf (fun v8 hv8 hf => ?_)
      refine callVi (As := [.int M_at]) (rest := []) (wr := []) (wn := [(oM, .inr (9, mkX9 aM M_values M_code M_taped M_at M_size M_token M_number M_begins M_stops M_bad M_badPlace M_faultPlace M_ofVoting M_hour M_oil M_weight M_spider M_treasury M_joy M_passed M_acts M_seen M_never M_said M_hoarse M_fitMany M_seedNow M_hasImage M_actsThen M_seenThen)), ((aM 16), .inl (cc 0, 700, .inl M_tape))]) C0 kvX9_byteAt kmX9_168 hP hD hS (mX9_byteAt l dC dI cc ak oM aM _  M_values M_code M_taped M_at M_size M_token M_number M_begins M_stops M_bad M_badPlace M_faultPlace M_ofVoting M_hour M_oil M_weight M_spider M_treasury M_joy M_passed M_acts M_seen M_never M_said M_hoarse M_fitMany M_seedNow M_hasImage M_actsThen M_seenThen M_tape M_at hv8) ⟨rfl, rfl⟩ ⟨Nat.le_of_ble_eq_true rfl, Nat.le_of_ble_eq_true rfl⟩ [0, 1] [] [0, 1] rfl rfl rfl rfl (va_recv hK hP (ci := 9) (q0 := 0) rfl rfl) rfl hl.1 rfl (Nat.le_of_ble_eq_true rfl) ⟨Nat.zero_le _, Nat.zero_le _⟩ dX9_stepOn_18 (fun H locs hP hD hS => ?_)
      refine lv_bipush (v := 10) hx hb dX9_stepOn_21 (by decide) ?_
      refine lv_icmp_ne (tgt := 39) hx hb dX9_stepOn_23 (by decide) (fun c9 => ?_) (fun c9 => ?_)
      · have hf := iff_ c9 hf
        exact hke0_39 M_at hf _ _ hP hD hS _ (lv_sub hl [0] rfl)
      · have hf := ift c9 hf
        refine lv_aload_n hx hb dX9_stepOn_26 rfl (lv_at hl 0 rfl) ?_
        refine lv_dup hx hb dX9_stepOn_27 rfl ?_
        refine va_get (D := (dC, dI)) (ci := 9) (v := .int M_at) (C := RX9) (T := TX9) (N := 63) hx hb hG kinX9 hown hK hP 0 rfl rfl 18 (by decide) (hG _ kfX9_165) (fun _ h9 => h9) rfl dX9_stepOn_28 ?_
        refine lv_iconst (v := 1) hx hb dX9_stepOn_31 (by decide) ?_
        refine lv_iadd hx hb dX9_stepOn_32 ?_
        refine va_put (D := (dC, dI)) (ci := 9) (v := .int (M_at + (1 : Int32))) (ty := .int) (C := RX9) (T := TX9) (N := 63) hx hb hG kinX9 tyX9 tyX9_ok nmX9 hown hK hP hD hS 0 rfl rfl 18 (by decide) (hG _ kfX9_165) (fun _ h9 => h9) rfl (by decide +kernel) rfl rfl (Nat.le_of_ble_eq_true rfl) dX9_stepOn_33 (fun H locs hP hD hS => ?_)
        have hP : va_P (dC, dI) cLs [(oM, .inr (9, mkX9 aM M_values M_code M_taped (M_at + (1 : Int32)) M_size M_token M_number M_begins M_stops M_bad M_badPlace M_faultPlace M_ofVoting M_hour M_oil M_weight M_spider M_treasury M_joy M_passed M_acts M_seen M_never M_said M_hoarse M_fitMany M_seedNow M_hasImage M_actsThen M_seenThen)), ((aM 16), .inl (cc 0, 700, .inl M_tape))] _ := hP
        have hD : va_D A [(oM, .inr (9, mkX9 aM M_values M_code M_taped (M_at + (1 : Int32)) M_size M_token M_number M_begins M_stops M_bad M_badPlace M_faultPlace M_ofVoting M_hour M_oil M_weight M_spider M_treasury M_joy M_passed M_acts M_seen M_never M_said M_hoarse M_fitMany M_seedNow M_hasImage M_actsThen M_seenThen)), ((aM 16), .inl (cc 0, 700, .inl M_tape))] := hD
        refine lv_goto (tgt := 0) hx hb dX9_stepOn_36 (by decide) ?_
        exact ih (M_at + (1 : Int32)) hf _ _ hP hD hS _ (lv_sub hl [0] rfl)
def lX9_stepOn_123  (ke123_178 : Int32 → Int32 → Option (Int32 × Int32 × Int32 × Int32 × Int32))  (M_size : Int32) (M_tape : Nat → Int32) : Nat → Int32 → Int32 → Option (Int32 × Int32 × Int32 × Int32 × Int32)
  | 0, _, _ => none
  | n+1, M_at, M_number =>
    (fX9_byteAt  M_size M_tape M_at).bind fun v24 =>
    (fX9_isDigit  v24).bind fun v26 =>
    if v26 = 0 then
      ke123_178 M_at M_number
    else
      (fX9_byteAt  M_size M_tape M_at).bind fun v29 =>
      lX9_stepOn_123 ke123_178 M_size M_tape n (M_at + (1 : Int32)) (if ((((10 : Int32) * M_number) + v29) - (48 : Int32)) < 100000 then ((((10 : Int32) * M_number) + v29) - (48 : Int32)) else 100000)
set_option maxHeartbeats 4000000 in
set_option maxRecDepth 100000 in
theorem wlX9_stepOn_123 {p : Program} {l : Launch} {e : Env} {s : State} {m : MethodId} {args : Array Value} {below : List Frame} {meth : Method} {c : Code} {A : Nat → Prop} {dC : Nat → ClassId} {dI : Nat → Nat → Nat} {cc : Nat → ClassId} {ak : Nat → Nat} (C0 : CT p s m args meth c A dC dI cc ak cX9_stepOn 2 none RX9) (oM : Nat) (aM : Nat → Nat)  (M_values : Int32) (M_code : Int32) (M_taped : Int32) (M_size : Int32) (M_token : Int32) (M_begins : Int32) (M_stops : Int32) (M_bad : Int32) (M_badPlace : Int32) (M_faultPlace : Int32) (M_ofVoting : Int32) (M_hour : Int32) (M_oil : Int32) (M_weight : Int32) (M_spider : Int32) (M_treasury : Int32) (M_joy : Int32) (M_passed : Int32) (M_acts : Int32) (M_seen : Int32) (M_never : Int32) (M_said : Int32) (M_hoarse : Int32) (M_fitMany : Int32) (M_seedNow : Int32) (M_hasImage : Int32) (M_actsThen : Int32) (M_seenThen : Int32) (M_tape : Nat → Int32)  {out : Int32 × Int32 × Int32 × Int32 × Int32} (ke123_178 : Int32 → Int32 → Option (Int32 × Int32 × Int32 × Int32 × Int32)) (hke123_178 : ∀ (M_at' : Int32) (M_number' : Int32), ke123_178 M_at' M_number' = some out → ∀ (H : Heap) (locs : List Loc), va_P (dC, dI) cLs [(oM, .inr (9, mkX9 aM M_values M_code M_taped M_at' M_size M_token M_number' M_begins M_stops M_bad M_badPlace M_faultPlace M_ofVoting M_hour M_oil M_weight M_spider M_treasury M_joy M_passed M_acts M_seen M_never M_said M_hoarse M_fitMany M_seedNow M_hasImage M_actsThen M_seenThen)), ((aM 16), .inl (cc 0, 700, .inl M_tape))] H → va_D A [(oM, .inr (9, mkX9 aM M_values M_code M_taped M_at' M_size M_token M_number' M_begins M_stops M_bad M_badPlace M_faultPlace M_ofVoting M_hour M_oil M_weight M_spider M_treasury M_joy M_passed M_acts M_seen M_never M_said M_hoarse M_fitMany M_seedNow M_hasImage M_actsThen M_seenThen)), ((aM 16), .inl (cc 0, 700, .inl M_tape))] → va_S A s.heap H locs → ∀ ls : Array Slot, lv_has ls 2 [(0, .ref oM)] → W p l e rmX9_stepOn s m args below meth c H locs 0 0 (MQ below (QV dC dI cc [(oM, .inr (9, mkX9 aM M_values M_code M_taped out.1 M_size out.2.1 out.2.2.1 out.2.2.2.1 out.2.2.2.2 M_bad M_badPlace M_faultPlace M_ofVoting M_hour M_oil M_weight M_spider M_treasury M_joy M_passed M_acts M_seen M_never M_said M_hoarse M_fitMany M_seedNow M_hasImage M_actsThen M_seenThen)), ((aM 16), .inl (cc 0, 700, .inl M_tape))] A) args s 0 0 A) (F0 m 178 ls [])) : ∀ (n : Nat) (M_at : Int32) (M_number : Int32) (hf : lX9_stepOn_123 ke123_178 M_size M_tape n M_at M_number = some out) (H : Heap) (locs : List Loc) (hP : va_P (dC, dI) cLs [(oM, .inr (9, mkX9 aM M_values M_code M_taped M_at M_size M_token M_number M_begins M_stops M_bad M_badPlace M_faultPlace M_ofVoting M_hour M_oil M_weight M_spider M_treasury M_joy M_passed M_acts M_seen M_never M_said M_hoarse M_fitMany M_seedNow M_hasImage M_actsThen M_seenThen)), ((aM 16), .inl (cc 0, 700, .inl M_tape))] H) (hD : va_D A [(oM, .inr (9, mkX9 aM M_values M_code M_taped M_at M_size M_token M_number M_begins M_stops M_bad M_badPlace M_faultPlace M_ofVoting M_hour M_oil M_weight M_spider M_treasury M_joy M_passed M_acts M_seen M_never M_said M_hoarse M_fitMany M_seedNow M_hasImage M_actsThen M_seenThen)), ((aM 16), .inl (cc 0, 700, .inl M_tape))]) (hS : va_S A s.heap H locs) (ls : Array Slot) (hl : lv_has ls 2 [(0, .ref oM)]), W p l e rmX9_stepOn s m args below meth c H locs 0 0 (MQ below (QV dC dI cc [(oM, .inr (9, mkX9 aM M_values M_code M_taped out.1 M_size out.2.1 out.2.2.1 out.2.2.2.1 out.2.2.2.2 M_bad M_badPlace M_faultPlace M_ofVoting M_hour M_oil M_weight M_spider M_treasury M_joy M_passed M_acts M_seen M_never M_said M_hoarse M_fitMany M_seedNow M_hasImage M_actsThen M_seenThen)), ((aM 16), .inl (cc 0, 700, .inl M_tape))] A) args s 0 0 A) (F0 m 123 ls []) := by
  obtain ⟨hx, hb, hml, hr, hlocks, hown, hG, hK, hA, hE⟩ := id C0
  intro n
  induction n with
  | zero => intro M_at M_number hf; cases hf
  | succ n ih =>
    intro M_at M_number hf H locs hP hD hS ls hl
    unfold lX9_stepOn_123 at hf
    refine lv_aload_n hx hb dX9_stepOn_123 rfl (lv_at hl 0 rfl) ?_
    refine lv_aload_n hx hb dX9_stepOn_124 rfl (lv_at hl 0 rfl) ?_
    refine va_get (D := (dC, dI)) (ci := 9) (v := .int M_at) (C := RX9) (T := TX9) (N := 63) hx hb hG kinX9 hown hK hP 0 rfl rfl 18 (by decide) (hG _ kfX9_165) (fun _ h9 => h9) rfl dX9_stepOn_125 ?_
    refine bd_el hf (fun v24 hv24 hf => ?_)
    refine callVi (As := [.int M_at]) (rest := []) (wr := []) (wn := [(oM, .inr (9, mkX9 aM M_values M_code M_taped M_at M_size M_token M_number M_begins M_stops M_bad M_badPlace M_faultPlace M_ofVoting M_hour M_oil M_weight M_spider M_treasury M_joy M_passed M_acts M_seen M_never M_said M_hoarse M_fitMany M_seedNow M_hasImage M_actsThen M_seenThen)), ((aM 16), .inl (cc 0, 700, .inl M_tape))]) C0 kvX9_byteAt kmX9_168 hP hD hS (mX9_byteAt l dC dI cc ak oM aM _  M_values M_code M_taped M_at M_size M_token M_number M_begins M_stops M_bad M_badPlace M_faultPlace M_ofVoting M_hour M_oil M_weight M_spider M_treasury M_joy M_passed M_acts M_seen M_never M_said M_hoarse M_fitMany M_seedNow M_hasImage M_actsThen M_seenThen M_tape M_at hv24) ⟨rfl, rfl⟩ ⟨Nat.le_of_ble_eq_true rfl, Nat.le_of_ble_eq_true rfl⟩ [0, 1] [] [0, 1] rfl rfl rfl rfl (va_recv hK hP (ci := 9) (q0 := 0) rfl rfl) rfl hl.1 rfl (Nat.le_of_ble_eq_true rfl) ⟨Nat.zero_le _, Nat.zero_le _⟩ dX9_stepOn_128 (fun H locs hP hD hS => ?_)
    refine bd_el hf (fun v26 hv26 hf => ?_)
    refine callSi (As := [.int v24]) (rest := []) (wr := [(oM, .inr (9, mkX9 aM M_values M_code M_taped M_at M_size M_token M_number M_begins M_stops M_bad M_badPlace M_faultPlace M_ofVoting M_hour M_oil M_weight M_spider M_treasury M_joy M_passed M_acts M_seen M_never M_said M_hoarse M_fitMany M_seedNow M_hasImage M_actsThen M_seenThen)), ((aM 16), .inl (cc 0, 700, .inl M_tape))]) (wn := [(oM, .inr (9, mkX9 aM M_values M_code M_taped M_at M_size M_token M_number M_begins M_stops M_bad M_badPlace M_faultPlace M_ofVoting M_hour M_oil M_weight M_spider M_treasury M_joy M_passed M_acts M_seen M_never M_said M_hoarse M_fitMany M_seedNow M_hasImage M_actsThen M_seenThen)), ((aM 16), .inl (cc 0, 700, .inl M_tape))]) C0 ksX9_isDigit kmX9_182 hP hD hS (mX9_isDigit l dC dI cc ak  _  v24 hv26) ⟨rfl, rfl⟩ ⟨Nat.le_of_ble_eq_true rfl, Nat.le_of_ble_eq_true rfl⟩ [] [0, 1] [0, 1] rfl rfl rfl rfl rfl hl.1 rfl (Nat.le_of_ble_eq_true rfl) ⟨Nat.zero_le _, Nat.zero_le _⟩ dX9_stepOn_131 (fun H locs hP hD hS => ?_)
    refine lv_if_eq (tgt := 178) hx hb dX9_stepOn_134 (by decide) (fun c27 => ?_) (fun c27 => ?_)
    · have hf := ift c27 hf
      exact hke123_178 M_at M_number hf _ _ hP hD hS _ (lv_sub hl [0] rfl)
    · have hf := iff_ c27 hf
      refine lv_aload_n hx hb dX9_stepOn_137 rfl (lv_at hl 0 rfl) ?_
      refine lv_ldc hx hb hown (hG _ kcX9_188) dX9_stepOn_138 ?_
      refine lv_bipush (v := 10) hx hb dX9_stepOn_140 (by decide) ?_
      refine lv_aload_n hx hb dX9_stepOn_142 rfl (lv_at hl 0 rfl) ?_
      refine va_get (D := (dC, dI)) (ci := 9) (v := .int M_number) (C := RX9) (T := TX9) (N := 63) hx hb hG kinX9 hown hK hP 0 rfl rfl 21 (by decide) (hG _ kfX9_185) (fun _ h9 => h9) rfl dX9_stepOn_143 ?_
      refine lv_imul hx hb dX9_stepOn_146 ?_
      refine lv_aload_n hx hb dX9_stepOn_147 rfl (lv_at hl 0 rfl) ?_
      refine lv_aload_n hx hb dX9_stepOn_148 rfl (lv_at hl 0 rfl) ?_
      refine va_get (D := (dC, dI)) (ci := 9) (v := .int M_at) (C := RX9) (T := TX9) (N := 63) hx hb hG kinX9 hown hK hP 0 rfl rfl 18 (by decide) (hG _ kfX9_165) (fun _ h9 => h9) rfl dX9_stepOn_149 ?_
      refine bd_el hf (fun v29 hv29 hf => ?_)
      refine callVi (As := [.int M_at]) (rest := [.int ((10 : Int32) * M_number), .int 100000, .ref oM]) (wr := []) (wn := [(oM, .inr (9, mkX9 aM M_values M_code M_taped M_at M_size M_token M_number M_begins M_stops M_bad M_badPlace M_faultPlace M_ofVoting M_hour M_oil M_weight M_spider M_treasury M_joy M_passed M_acts M_seen M_never M_said M_hoarse M_fitMany M_seedNow M_hasImage M_actsThen M_seenThen)), ((aM 16), .inl (cc 0, 700, .inl M_tape))]) C0 kvX9_byteAt kmX9_168 hP hD hS (mX9_byteAt l dC dI cc ak oM aM _  M_values M_code M_taped M_at M_size M_token M_number M_begins M_stops M_bad M_badPlace M_faultPlace M_ofVoting M_hour M_oil M_weight M_spider M_treasury M_joy M_passed M_acts M_seen M_never M_said M_hoarse M_fitMany M_seedNow M_hasImage M_actsThen M_seenThen M_tape M_at hv29) ⟨rfl, rfl⟩ ⟨Nat.le_of_ble_eq_true rfl, Nat.le_of_ble_eq_true rfl⟩ [0, 1] [] [0, 1] rfl rfl rfl rfl (va_recv hK hP (ci := 9) (q0 := 0) rfl rfl) rfl hl.1 rfl (Nat.le_of_ble_eq_true rfl) ⟨Nat.zero_le _, Nat.zero_le _⟩ dX9_stepOn_152 (fun H locs hP hD hS => ?_)
      refine lv_iadd hx hb dX9_stepOn_155 ?_
      refine lv_bipush (v := 48) hx hb dX9_stepOn_156 (by decide) ?_
      refine lv_isub hx hb dX9_stepOn_158 ?_
      refine va_mmin hx hb (hml.trans hl.1.symm) hown (hG _ kmX9_189) (hG _ k_min_s) (hG _ k_math_i) (hG _ k_min_c) (Nat.le_of_ble_eq_true rfl) (Nat.le_of_ble_eq_true rfl) (Nat.le_of_ble_eq_true rfl) (Nat.le_of_ble_eq_true rfl) dX9_stepOn_159 ?_
      refine va_put (D := (dC, dI)) (ci := 9) (v := .int (if ((((10 : Int32) * M_number) + v29) - (48 : Int32)) < 100000 then ((((10 : Int32) * M_number) + v29) - (48 : Int32)) else 100000)) (ty := .int) (C := RX9) (T := TX9) (N := 63) hx hb hG kinX9 tyX9 tyX9_ok nmX9 hown hK hP hD hS 0 rfl rfl 21 (by decide) (hG _ kfX9_185) (fun _ h9 => h9) rfl (by decide +kernel) rfl rfl (Nat.le_of_ble_eq_true rfl) dX9_stepOn_162 (fun H locs hP hD hS => ?_)
      have hP : va_P (dC, dI) cLs [(oM, .inr (9, mkX9 aM M_values M_code M_taped M_at M_size M_token (if ((((10 : Int32) * M_number) + v29) - (48 : Int32)) < 100000 then ((((10 : Int32) * M_number) + v29) - (48 : Int32)) else 100000) M_begins M_stops M_bad M_badPlace M_faultPlace M_ofVoting M_hour M_oil M_weight M_spider M_treasury M_joy M_passed M_acts M_seen M_never M_said M_hoarse M_fitMany M_seedNow M_hasImage M_actsThen M_seenThen)), ((aM 16), .inl (cc 0, 700, .inl M_tape))] _ := hP
      have hD : va_D A [(oM, .inr (9, mkX9 aM M_values M_code M_taped M_at M_size M_token (if ((((10 : Int32) * M_number) + v29) - (48 : Int32)) < 100000 then ((((10 : Int32) * M_number) + v29) - (48 : Int32)) else 100000) M_begins M_stops M_bad M_badPlace M_faultPlace M_ofVoting M_hour M_oil M_weight M_spider M_treasury M_joy M_passed M_acts M_seen M_never M_said M_hoarse M_fitMany M_seedNow M_hasImage M_actsThen M_seenThen)), ((aM 16), .inl (cc 0, 700, .inl M_tape))] := hD
      refine lv_aload_n hx hb dX9_stepOn_165 rfl (lv_at hl 0 rfl) ?_
      refine lv_dup hx hb dX9_stepOn_166 rfl ?_
      refine va_get (D := (dC, dI)) (ci := 9) (v := .int M_at) (C := RX9) (T := TX9) (N := 63) hx hb hG kinX9 hown hK hP 0 rfl rfl 18 (by decide) (hG _ kfX9_165) (fun _ h9 => h9) rfl dX9_stepOn_167 ?_
      refine lv_iconst (v := 1) hx hb dX9_stepOn_170 (by decide) ?_
      refine lv_iadd hx hb dX9_stepOn_171 ?_
      refine va_put (D := (dC, dI)) (ci := 9) (v := .int (M_at + (1 : Int32))) (ty := .int) (C := RX9) (T := TX9) (N := 63) hx hb hG kinX9 tyX9 tyX9_ok nmX9 hown hK hP hD hS 0 rfl rfl 18 (by decide) (hG _ kfX9_165) (fun _ h9 => h9) rfl (by decide +kernel) rfl rfl (Nat.le_of_ble_eq_true rfl) dX9_stepOn_172 (fun H locs hP hD hS => ?_)
      have hP : va_P (dC, dI) cLs [(oM, .inr (9, mkX9 aM M_values M_code M_taped (M_at + (1 : Int32)) M_size M_token (if ((((10 : Int32) * M_number) + v29) - (48 : Int32)) < 100000 then ((((10 : Int32) * M_number) + v29) - (48 : Int32)) else 100000) M_begins M_stops M_bad M_badPlace M_faultPlace M_ofVoting M_hour M_oil M_weight M_spider M_treasury M_joy M_passed M_acts M_seen M_never M_said M_hoarse M_fitMany M_seedNow M_hasImage M_actsThen M_seenThen)), ((aM 16), .inl (cc 0, 700, .inl M_tape))] _ := hP
      have hD : va_D A [(oM, .inr (9, mkX9 aM M_values M_code M_taped (M_at + (1 : Int32)) M_size M_token (if ((((10 : Int32) * M_number) + v29) - (48 : Int32)) < 100000 then ((((10 : Int32) * M_number) + v29) - (48 : Int32)) else 100000) M_begins M_stops M_bad M_badPlace M_faultPlace M_ofVoting M_hour M_oil M_weight M_spider M_treasury M_joy M_passed M_acts M_seen M_never M_said M_hoarse M_fitMany M_seedNow M_hasImage M_actsThen M_seenThen)), ((aM 16), .inl (cc 0, 700, .inl M_tape))] := hD
      refine lv_goto (tgt := 123) hx hb dX9_stepOn_175 (by decide) ?_
      exact ih (M_at + (1 : Int32)) (if ((((10 : Int32) * M_number) + v29) - (48 : Int32)) < 100000 then ((((10 : Int32) * M_number) + v29) - (48 : Int32)) else 100000) hf _ _ hP hD hS _ (lv_sub hl [0] rfl)
def lX9_stepOn_76  (ke76_103 : Int32 → Option (Int32 × Int32 × Int32 × Int32 × Int32))  (M_size : Int32) (M_tape : Nat → Int32) : Nat → Int32 → Option (Int32 × Int32 × Int32 × Int32 × Int32)
  | 0, _ => none
  | n+1, M_at =>
    (fX9_byteAt  M_size M_tape M_at).bind fun v33 =>
    (fX9_isLetter  v33).bind fun v35 =>
    if v35 = 0 then
      ke76_103 M_at
    else
      lX9_stepOn_76 ke76_103 M_size M_tape n (M_at + (1 : Int32))
set_option maxHeartbeats 4000000 in
set_option maxRecDepth 100000 in
theorem wlX9_stepOn_76 {p : Program} {l : Launch} {e : Env} {s : State} {m : MethodId} {args : Array Value} {below : List Frame} {meth : Method} {c : Code} {A : Nat → Prop} {dC : Nat → ClassId} {dI : Nat → Nat → Nat} {cc : Nat → ClassId} {ak : Nat → Nat} (C0 : CT p s m args meth c A dC dI cc ak cX9_stepOn 2 none RX9) (oM : Nat) (aM : Nat → Nat)  (M_values : Int32) (M_code : Int32) (M_taped : Int32) (M_size : Int32) (M_token : Int32) (M_number : Int32) (M_begins : Int32) (M_stops : Int32) (M_bad : Int32) (M_badPlace : Int32) (M_faultPlace : Int32) (M_ofVoting : Int32) (M_hour : Int32) (M_oil : Int32) (M_weight : Int32) (M_spider : Int32) (M_treasury : Int32) (M_joy : Int32) (M_passed : Int32) (M_acts : Int32) (M_seen : Int32) (M_never : Int32) (M_said : Int32) (M_hoarse : Int32) (M_fitMany : Int32) (M_seedNow : Int32) (M_hasImage : Int32) (M_actsThen : Int32) (M_seenThen : Int32) (M_tape : Nat → Int32)  {out : Int32 × Int32 × Int32 × Int32 × Int32} (ke76_103 : Int32 → Option (Int32 × Int32 × Int32 × Int32 × Int32)) (hke76_103 : ∀ (M_at' : Int32), ke76_103 M_at' = some out → ∀ (H : Heap) (locs : List Loc), va_P (dC, dI) cLs [(oM, .inr (9, mkX9 aM M_values M_code M_taped M_at' M_size M_token M_number M_begins M_stops M_bad M_badPlace M_faultPlace M_ofVoting M_hour M_oil M_weight M_spider M_treasury M_joy M_passed M_acts M_seen M_never M_said M_hoarse M_fitMany M_seedNow M_hasImage M_actsThen M_seenThen)), ((aM 16), .inl (cc 0, 700, .inl M_tape))] H → va_D A [(oM, .inr (9, mkX9 aM M_values M_code M_taped M_at' M_size M_token M_number M_begins M_stops M_bad M_badPlace M_faultPlace M_ofVoting M_hour M_oil M_weight M_spider M_treasury M_joy M_passed M_acts M_seen M_never M_said M_hoarse M_fitMany M_seedNow M_hasImage M_actsThen M_seenThen)), ((aM 16), .inl (cc 0, 700, .inl M_tape))] → va_S A s.heap H locs → ∀ ls : Array Slot, lv_has ls 2 [(0, .ref oM)] → W p l e rmX9_stepOn s m args below meth c H locs 0 0 (MQ below (QV dC dI cc [(oM, .inr (9, mkX9 aM M_values M_code M_taped out.1 M_size out.2.1 out.2.2.1 out.2.2.2.1 out.2.2.2.2 M_bad M_badPlace M_faultPlace M_ofVoting M_hour M_oil M_weight M_spider M_treasury M_joy M_passed M_acts M_seen M_never M_said M_hoarse M_fitMany M_seedNow M_hasImage M_actsThen M_seenThen)), ((aM 16), .inl (cc 0, 700, .inl M_tape))] A) args s 0 0 A) (F0 m 103 ls [])) : ∀ (n : Nat) (M_at : Int32) (hf : lX9_stepOn_76 ke76_103 M_size M_tape n M_at = some out) (H : Heap) (locs : List Loc) (hP : va_P (dC, dI) cLs [(oM, .inr (9, mkX9 aM M_values M_code M_taped M_at M_size M_token M_number M_begins M_stops M_bad M_badPlace M_faultPlace M_ofVoting M_hour M_oil M_weight M_spider M_treasury M_joy M_passed M_acts M_seen M_never M_said M_hoarse M_fitMany M_seedNow M_hasImage M_actsThen M_seenThen)), ((aM 16), .inl (cc 0, 700, .inl M_tape))] H) (hD : va_D A [(oM, .inr (9, mkX9 aM M_values M_code M_taped M_at M_size M_token M_number M_begins M_stops M_bad M_badPlace M_faultPlace M_ofVoting M_hour M_oil M_weight M_spider M_treasury M_joy M_passed M_acts M_seen M_never M_said M_hoarse M_fitMany M_seedNow M_hasImage M_actsThen M_seenThen)), ((aM 16), .inl (cc 0, 700, .inl M_tape))]) (hS : va_S A s.heap H locs) (ls : Array Slot) (hl : lv_has ls 2 [(0, .ref oM)]), W p l e rmX9_stepOn s m args below meth c H locs 0 0 (MQ below (QV dC dI cc [(oM, .inr (9, mkX9 aM M_values M_code M_taped out.1 M_size out.2.1 out.2.2.1 out.2.2.2.1 out.2.2.2.2 M_bad M_badPlace M_faultPlace M_ofVoting M_hour M_oil M_weight M_spider M_treasury M_joy M_passed M_acts M_seen M_never M_said M_hoarse M_fitMany M_seedNow M_hasImage M_actsThen M_seenThen)), ((aM 16), .inl (cc 0, 700, .inl M_tape))] A) args s 0 0 A) (F0 m 76 ls []) := by
  obtain ⟨hx, hb, hml, hr, hlocks, hown, hG, hK, hA, hE⟩ := id C0
  intro n
  induction n with
  | zero => intro M_at hf; cases hf
  | succ n ih =>
    intro M_at hf H locs hP hD hS ls hl
    unfold lX9_stepOn_76 at hf
    refine lv_aload_n hx hb dX9_stepOn_76 rfl (lv_at hl 0 rfl) ?_
    refine lv_aload_n hx hb dX9_stepOn_77 rfl (lv_at hl 0 rfl) ?_
    refine va_get (D := (dC, dI)) (ci := 9) (v := .int M_at) (C := RX9) (T := TX9) (N := 63) hx hb hG kinX9 hown hK hP 0 rfl rfl 18 (by decide) (hG _ kfX9_165) (fun _ h9 => h9) rfl dX9_stepOn_78 ?_
    refine bd_el hf (fun v33 hv33 hf => ?_)
    refine callVi (As := [.int M_at]) (rest := []) (wr := []) (wn := [(oM, .inr (9, mkX9 aM M_values M_code M_taped M_at M_size M_token M_number M_begins M_stops M_bad M_badPlace M_faultPlace M_ofVoting M_hour M_oil M_weight M_spider M_treasury M_joy M_passed M_acts M_seen M_never M_said M_hoarse M_fitMany M_seedNow M_hasImage M_actsThen M_seenThen)), ((aM 16), .inl (cc 0, 700, .inl M_tape))]) C0 kvX9_byteAt kmX9_168 hP hD hS (mX9_byteAt l dC dI cc ak oM aM _  M_values M_code M_taped M_at M_size M_token M_number M_begins M_stops M_bad M_badPlace M_faultPlace M_ofVoting M_hour M_oil M_weight M_spider M_treasury M_joy M_passed M_acts M_seen M_never M_said M_hoarse M_fitMany M_seedNow M_hasImage M_actsThen M_seenThen M_tape M_at hv33) ⟨rfl, rfl⟩ ⟨Nat.le_of_ble_eq_true rfl, Nat.le_of_ble_eq_true rfl⟩ [0, 1] [] [0, 1] rfl rfl rfl rfl (va_recv hK hP (ci := 9) (q0 := 0) rfl rfl) rfl hl.1 rfl (Nat.le_of_ble_eq_true rfl) ⟨Nat.zero_le _, Nat.zero_le _⟩ dX9_stepOn_81 (fun H locs hP hD hS => ?_)
    refine bd_el hf (fun v35 hv35 hf => ?_)
    refine callSi (As := [.int v33]) (rest := []) (wr := [(oM, .inr (9, mkX9 aM M_values M_code M_taped M_at M_size M_token M_number M_begins M_stops M_bad M_badPlace M_faultPlace M_ofVoting M_hour M_oil M_weight M_spider M_treasury M_joy M_passed M_acts M_seen M_never M_said M_hoarse M_fitMany M_seedNow M_hasImage M_actsThen M_seenThen)), ((aM 16), .inl (cc 0, 700, .inl M_tape))]) (wn := [(oM, .inr (9, mkX9 aM M_values M_code M_taped M_at M_size M_token M_number M_begins M_stops M_bad M_badPlace M_faultPlace M_ofVoting M_hour M_oil M_weight M_spider M_treasury M_joy M_passed M_acts M_seen M_never M_said M_hoarse M_fitMany M_seedNow M_hasImage M_actsThen M_seenThen)), ((aM 16), .inl (cc 0, 700, .inl M_tape))]) C0 ksX9_isLetter kmX9_178 hP hD hS (mX9_isLetter l dC dI cc ak  _  v33 hv35) ⟨rfl, rfl⟩ ⟨Nat.le_of_ble_eq_true rfl, Nat.le_of_ble_eq_true rfl⟩ [] [0, 1] [0, 1] rfl rfl rfl rfl rfl hl.1 rfl (Nat.le_of_ble_eq_true rfl) ⟨Nat.zero_le _, Nat.zero_le _⟩ dX9_stepOn_84 (fun H locs hP hD hS => ?_)
    refine lv_if_eq (tgt := 103) hx hb dX9_stepOn_87 (by decide) (fun c36 => ?_) (fun c36 => ?_)
    · have hf := ift c36 hf
      exact hke76_103 M_at hf _ _ hP hD hS _ (lv_sub hl [0] rfl)
    · have hf := iff_ c36 hf
      refine lv_aload_n hx hb dX9_stepOn_90 rfl (lv_at hl 0 rfl) ?_
      refine lv_dup hx hb dX9_stepOn_91 rfl ?_
      refine va_get (D := (dC, dI)) (ci := 9) (v := .int M_at) (C := RX9) (T := TX9) (N := 63) hx hb hG kinX9 hown hK hP 0 rfl rfl 18 (by decide) (hG _ kfX9_165) (fun _ h9 => h9) rfl dX9_stepOn_92 ?_
      refine lv_iconst (v := 1) hx hb dX9_stepOn_95 (by decide) ?_
      refine lv_iadd hx hb dX9_stepOn_96 ?_
      refine va_put (D := (dC, dI)) (ci := 9) (v := .int (M_at + (1 : Int32))) (ty := .int) (C := RX9) (T := TX9) (N := 63) hx hb hG kinX9 tyX9 tyX9_ok nmX9 hown hK hP hD hS 0 rfl rfl 18 (by decide) (hG _ kfX9_165) (fun _ h9 => h9) rfl (by decide +kernel) rfl rfl (Nat.le_of_ble_eq_true rfl) dX9_stepOn_97 (fun H locs hP hD hS => ?_)
      have hP : va_P (dC, dI) cLs [(oM, .inr (9, mkX9 aM M_values M_code M_taped (M_at + (1 : Int32)) M_size M_token M_number M_begins M_stops M_bad M_badPlace M_faultPlace M_ofVoting M_hour M_oil M_weight M_spider M_treasury M_joy M_passed M_acts M_seen M_never M_said M_hoarse M_fitMany M_seedNow M_hasImage M_actsThen M_seenThen)), ((aM 16), .inl (cc 0, 700, .inl M_tape))] _ := hP
      have hD : va_D A [(oM, .inr (9, mkX9 aM M_values M_code M_taped (M_at + (1 : Int32)) M_size M_token M_number M_begins M_stops M_bad M_badPlace M_faultPlace M_ofVoting M_hour M_oil M_weight M_spider M_treasury M_joy M_passed M_acts M_seen M_never M_said M_hoarse M_fitMany M_seedNow M_hasImage M_actsThen M_seenThen)), ((aM 16), .inl (cc 0, 700, .inl M_tape))] := hD
      refine lv_goto (tgt := 76) hx hb dX9_stepOn_100 (by decide) ?_
      exact ih (M_at + (1 : Int32)) hf _ _ hP hD hS _ (lv_sub hl [0] rfl)
def jX9_stepOn_26    (M_at : Int32) (M_size : Int32) (M_token : Int32) (M_number : Int32) (M_begins : Int32) (M_stops : Int32) (M_tape : Nat → Int32)  : Option (Int32 × Int32 × Int32 × Int32 × Int32) :=
  lX9_stepOn_0 (fun (M_at_10 : Int32) =>
    (fX9_byteAt  M_size M_tape M_at_10).bind fun v12 =>
    if v12 = (-1) then
      some (M_at_10, 0, M_number, M_at_10, M_at_10)
    else
      (fX9_isLetter  v12).bind fun v15 =>
      if v15 = 0 then
        (fX9_isDigit  v12).bind fun v18 =>
        if v18 = 0 then
          (fX9_isMark  v12).bind fun v21 =>
          if v21 = 0 then
            some ((M_at_10 + (1 : Int32)), 4, M_number, M_at_10, (M_at_10 + (1 : Int32)))
          else
            some ((M_at_10 + (1 : Int32)), 3, M_number, M_at_10, (M_at_10 + (1 : Int32)))
        else
          lX9_stepOn_123 (fun (M_at_30 : Int32) (M_number_31 : Int32) =>
            some (M_at_30, 2, M_number_31, M_at_10, M_at_30)) M_size M_tape FU M_at_10 0
      else
        lX9_stepOn_76 (fun (M_at_37 : Int32) =>
          some (M_at_37, 1, M_number, M_at_10, M_at_37)) M_size M_tape FU M_at_10) M_size M_tape FU (M_at + (1 : Int32))
set_option maxHeartbeats 4000000 in
set_option maxRecDepth 100000 in
theorem wjX9_stepOn_26 {p : Program} {l : Launch} {e : Env} {s : State} {m : MethodId} {args : Array Value} {below : List Frame} {meth : Method} {c : Code} {A : Nat → Prop} {dC : Nat → ClassId} {dI : Nat → Nat → Nat} {cc : Nat → ClassId} {ak : Nat → Nat} (C0 : CT p s m args meth c A dC dI cc ak cX9_stepOn 2 none RX9) (oM : Nat) (aM : Nat → Nat)  (M_values : Int32) (M_code : Int32) (M_taped : Int32) (M_at : Int32) (M_size : Int32) (M_token : Int32) (M_number : Int32) (M_begins : Int32) (M_stops : Int32) (M_bad : Int32) (M_badPlace : Int32) (M_faultPlace : Int32) (M_ofVoting : Int32) (M_hour : Int32) (M_oil : Int32) (M_weight : Int32) (M_spider : Int32) (M_treasury : Int32) (M_joy : Int32) (M_passed : Int32) (M_acts : Int32) (M_seen : Int32) (M_never : Int32) (M_said : Int32) (M_hoarse : Int32) (M_fitMany : Int32) (M_seedNow : Int32) (M_hasImage : Int32) (M_actsThen : Int32) (M_seenThen : Int32) (M_tape : Nat → Int32)  {out : Int32 × Int32 × Int32 × Int32 × Int32}    (hf : jX9_stepOn_26  M_at M_size M_token M_number M_begins M_stops M_tape  = some out) (H : Heap) (locs : List Loc) (hP : va_P (dC, dI) cLs [(oM, .inr (9, mkX9 aM M_values M_code M_taped M_at M_size M_token M_number M_begins M_stops M_bad M_badPlace M_faultPlace M_ofVoting M_hour M_oil M_weight M_spider M_treasury M_joy M_passed M_acts M_seen M_never M_said M_hoarse M_fitMany M_seedNow M_hasImage M_actsThen M_seenThen)), ((aM 16), .inl (cc 0, 700, .inl M_tape))] H) (hD : va_D A [(oM, .inr (9, mkX9 aM M_values M_code M_taped M_at M_size M_token M_number M_begins M_stops M_bad M_badPlace M_faultPlace M_ofVoting M_hour M_oil M_weight M_spider M_treasury M_joy M_passed M_acts M_seen M_never M_said M_hoarse M_fitMany M_seedNow M_hasImage M_actsThen M_seenThen)), ((aM 16), .inl (cc 0, 700, .inl M_tape))]) (hS : va_S A s.heap H locs) (ls : Array Slot) (hl : lv_has ls 2 [(0, .ref oM)]) : W p l e rmX9_stepOn s m args below meth c H locs 0 0 (MQ below (QV dC dI cc [(oM, .inr (9, mkX9 aM M_values M_code M_taped out.1 M_size out.2.1 out.2.2.1 out.2.2.2.1 out.2.2.2.2 M_bad M_badPlace M_faultPlace M_ofVoting M_hour M_oil M_weight M_spider M_treasury M_joy M_passed M_acts M_seen M_never M_said M_hoarse M_fitMany M_seedNow M_hasImage M_actsThen M_seenThen)), ((aM 16), .inl (cc 0, 700, .inl M_tape))] A) args s 0 0 A) (F0 m 26 ls []) := by
  obtain ⟨hx, hb, hml, hr, hlocks, hown, hG, hK, hA, hE⟩ := id C0
  unfold jX9_stepOn_26 at hf
  refine lv_aload_n hx hb dX9_stepOn_26 rfl (lv_at hl 0 rfl) ?_
  refine lv_dup hx hb dX9_stepOn_27 rfl ?_
  refine va_get (D := (dC, dI)) (ci := 9) (v := .int M_at) (C := RX9) (T := TX9) (N := 63) hx hb hG kinX9 hown hK hP 0 rfl rfl 18 (by decide) (hG _ kfX9_165) (fun _ h9 => h9) rfl dX9_stepOn_28 ?_
  refine lv_iconst (v := 1) hx hb dX9_stepOn_31 (by decide) ?_
  refine lv_iadd hx hb dX9_stepOn_32 ?_
  refine va_put (D := (dC, dI)) (ci := 9) (v := .int (M_at + (1 : Int32))) (ty := .int) (C := RX9) (T := TX9) (N := 63) hx hb hG kinX9 tyX9 tyX9_ok nmX9 hown hK hP hD hS 0 rfl rfl 18 (by decide) (hG _ kfX9_165) (fun _ h9 => h9) rfl (by decide +kernel) rfl rfl (Nat.le_of_ble_eq_true rfl) dX9_stepOn_33 (fun H locs hP hD hS => ?_)
  have hP : va_P (dC, dI) cLs [(oM, .inr (9, mkX9 aM M_values M_code M_taped (M_at + (1 : Int32)) M_size M_token M_number M_begins M_stops M_bad M_badPlace M_faultPlace M_ofVoting M_hour M_oil M_weight M_spider M_treasury M_joy M_passed M_acts M_seen M_never M_said M_hoarse M_fitMany M_seedNow M_hasImage M_actsThen M_seenThen)), ((aM 16), .inl (cc 0, 700, .inl M_tape))] _ := hP
  have hD : va_D A [(oM, .inr (9, mkX9 aM M_values M_code M_taped (M_at + (1 : Int32)) M_size M_token M_number M_begins M_stops M_bad M_badPlace M_faultPlace M_ofVoting M_hour M_oil M_weight M_spider M_treasury M_joy M_passed M_acts M_seen M_never M_said M_hoarse M_fitMany M_seedNow M_hasImage M_actsThen M_seenThen)), ((aM 16), .inl (cc 0, 700, .inl M_tape))] := hD
  refine lv_goto (tgt := 0) hx hb dX9_stepOn_36 (by decide) ?_
  refine wlX9_stepOn_0 C0 oM aM M_values M_code M_taped M_size M_token M_number M_begins M_stops M_bad M_badPlace M_faultPlace M_ofVoting M_hour M_oil M_weight M_spider M_treasury M_joy M_passed M_acts M_seen M_never M_said M_hoarse M_fitMany M_seedNow M_hasImage M_actsThen M_seenThen M_tape _ ?_ FU (M_at + (1 : Int32)) hf _ _ hP hD hS _ (lv_sub hl [0] rfl)
  · intro M_at_10 hf H locs hP hD hS ls hl
    refine lv_aload_n hx hb dX9_stepOn_39 rfl (lv_at hl 0 rfl) ?_
    refine lv_aload_n hx hb dX9_stepOn_40 rfl (lv_at hl 0 rfl) ?_
    refine va_get (D := (dC, dI)) (ci := 9) (v := .int M_at_10) (C := RX9) (T := TX9) (N := 63) hx hb hG kinX9 hown hK hP 0 rfl rfl 18 (by decide) (hG _ kfX9_165) (fun _ h9 => h9) rfl dX9_stepOn_41 ?_
    refine va_put (D := (dC, dI)) (ci := 9) (v := .int M_at_10) (ty := .int) (C := RX9) (T := TX9) (N := 63) hx hb hG kinX9 tyX9 tyX9_ok nmX9 hown hK hP hD hS 0 rfl rfl 22 (by decide) (hG _ kfX9_172) (fun _ h9 => h9) rfl (by decide +kernel) rfl rfl (Nat.le_of_ble_eq_true rfl) dX9_stepOn_44 (fun H locs hP hD hS => ?_)
    have hP : va_P (dC, dI) cLs [(oM, .inr (9, mkX9 aM M_values M_code M_taped M_at_10 M_size M_token M_number M_at_10 M_stops M_bad M_badPlace M_faultPlace M_ofVoting M_hour M_oil M_weight M_spider M_treasury M_joy M_passed M_acts M_seen M_never M_said M_hoarse M_fitMany M_seedNow M_hasImage M_actsThen M_seenThen)), ((aM 16), .inl (cc 0, 700, .inl M_tape))] _ := hP
    have hD : va_D A [(oM, .inr (9, mkX9 aM M_values M_code M_taped M_at_10 M_size M_token M_number M_at_10 M_stops M_bad M_badPlace M_faultPlace M_ofVoting M_hour M_oil M_weight M_spider M_treasury M_joy M_passed M_acts M_seen M_never M_said M_hoarse M_fitMany M_seedNow M_hasImage M_actsThen M_seenThen)), ((aM 16), .inl (cc 0, 700, .inl M_tape))] := hD
    refine lv_aload_n hx hb dX9_stepOn_47 rfl (lv_at hl 0 rfl) ?_
    refine lv_aload_n hx hb dX9_stepOn_48 rfl (lv_at hl 0 rfl) ?_
    refine va_get (D := (dC, dI)) (ci := 9) (v := .int M_at_10) (C := RX9) (T := TX9) (N := 63) hx hb hG kinX9 hown hK hP 0 rfl rfl 18 (by decide) (hG _ kfX9_165) (fun _ h9 => h9) rfl dX9_stepOn_49 ?_
    refine bd_el hf (fun v12 hv12 hf => ?_)
    refine callVi (As := [.int M_at_10]) (rest := []) (wr := []) (wn := [(oM, .inr (9, mkX9 aM M_values M_code M_taped M_at_10 M_size M_token M_number M_at_10 M_stops M_bad M_badPlace M_faultPlace M_ofVoting M_hour M_oil M_weight M_spider M_treasury M_joy M_passed M_acts M_seen M_never M_said M_hoarse M_fitMany M_seedNow M_hasImage M_actsThen M_seenThen)), ((aM 16), .inl (cc 0, 700, .inl M_tape))]) C0 kvX9_byteAt kmX9_168 hP hD hS (mX9_byteAt l dC dI cc ak oM aM _  M_values M_code M_taped M_at_10 M_size M_token M_number M_at_10 M_stops M_bad M_badPlace M_faultPlace M_ofVoting M_hour M_oil M_weight M_spider M_treasury M_joy M_passed M_acts M_seen M_never M_said M_hoarse M_fitMany M_seedNow M_hasImage M_actsThen M_seenThen M_tape M_at_10 hv12) ⟨rfl, rfl⟩ ⟨Nat.le_of_ble_eq_true rfl, Nat.le_of_ble_eq_true rfl⟩ [0, 1] [] [0, 1] rfl rfl rfl rfl (va_recv hK hP (ci := 9) (q0 := 0) rfl rfl) rfl hl.1 rfl (Nat.le_of_ble_eq_true rfl) ⟨Nat.zero_le _, Nat.zero_le _⟩ dX9_stepOn_52 (fun H locs hP hD hS => ?_)
    refine lv_istore_n (lv' := [(1, .int v12), (0, .ref oM)]) hx hb dX9_stepOn_55 rfl hl (by decide) rfl (fun ls hl => ?_)
    refine lv_iload_n hx hb dX9_stepOn_56 rfl (lv_at hl 0 rfl) ?_
    refine lv_iconst (v := (-1)) hx hb dX9_stepOn_57 (by decide) ?_
    refine lv_icmp_ne (tgt := 69) hx hb dX9_stepOn_58 (by decide) (fun c13 => ?_) (fun c13 => ?_)
    · have hf := iff_ c13 hf
      refine lv_iload_n hx hb dX9_stepOn_69 rfl (lv_at hl 0 rfl) ?_
      refine bd_el hf (fun v15 hv15 hf => ?_)
      refine callSi (As := [.int v12]) (rest := []) (wr := [(oM, .inr (9, mkX9 aM M_values M_code M_taped M_at_10 M_size M_token M_number M_at_10 M_stops M_bad M_badPlace M_faultPlace M_ofVoting M_hour M_oil M_weight M_spider M_treasury M_joy M_passed M_acts M_seen M_never M_said M_hoarse M_fitMany M_seedNow M_hasImage M_actsThen M_seenThen)), ((aM 16), .inl (cc 0, 700, .inl M_tape))]) (wn := [(oM, .inr (9, mkX9 aM M_values M_code M_taped M_at_10 M_size M_token M_number M_at_10 M_stops M_bad M_badPlace M_faultPlace M_ofVoting M_hour M_oil M_weight M_spider M_treasury M_joy M_passed M_acts M_seen M_never M_said M_hoarse M_fitMany M_seedNow M_hasImage M_actsThen M_seenThen)), ((aM 16), .inl (cc 0, 700, .inl M_tape))]) C0 ksX9_isLetter kmX9_178 hP hD hS (mX9_isLetter l dC dI cc ak  _  v12 hv15) ⟨rfl, rfl⟩ ⟨Nat.le_of_ble_eq_true rfl, Nat.le_of_ble_eq_true rfl⟩ [] [0, 1] [0, 1] rfl rfl rfl rfl rfl hl.1 rfl (Nat.le_of_ble_eq_true rfl) ⟨Nat.zero_le _, Nat.zero_le _⟩ dX9_stepOn_70 (fun H locs hP hD hS => ?_)
      refine lv_if_eq (tgt := 111) hx hb dX9_stepOn_73 (by decide) (fun c16 => ?_) (fun c16 => ?_)
      · have hf := ift c16 hf
        refine lv_iload_n hx hb dX9_stepOn_111 rfl (lv_at hl 0 rfl) ?_
        refine bd_el hf (fun v18 hv18 hf => ?_)
        refine callSi (As := [.int v12]) (rest := []) (wr := [(oM, .inr (9, mkX9 aM M_values M_code M_taped M_at_10 M_size M_token M_number M_at_10 M_stops M_bad M_badPlace M_faultPlace M_ofVoting M_hour M_oil M_weight M_spider M_treasury M_joy M_passed M_acts M_seen M_never M_said M_hoarse M_fitMany M_seedNow M_hasImage M_actsThen M_seenThen)), ((aM 16), .inl (cc 0, 700, .inl M_tape))]) (wn := [(oM, .inr (9, mkX9 aM M_values M_code M_taped M_at_10 M_size M_token M_number M_at_10 M_stops M_bad M_badPlace M_faultPlace M_ofVoting M_hour M_oil M_weight M_spider M_treasury M_joy M_passed M_acts M_seen M_never M_said M_hoarse M_fitMany M_seedNow M_hasImage M_actsThen M_seenThen)), ((aM 16), .inl (cc 0, 700, .inl M_tape))]) C0 ksX9_isDigit kmX9_182 hP hD hS (mX9_isDigit l dC dI cc ak  _  v12 hv18) ⟨rfl, rfl⟩ ⟨Nat.le_of_ble_eq_true rfl, Nat.le_of_ble_eq_true rfl⟩ [] [0, 1] [0, 1] rfl rfl rfl rfl rfl hl.1 rfl (Nat.le_of_ble_eq_true rfl) ⟨Nat.zero_le _, Nat.zero_le _⟩ dX9_stepOn_112 (fun H locs hP hD hS => ?_)
        refine lv_if_eq (tgt := 186) hx hb dX9_stepOn_115 (by decide) (fun c19 => ?_) (fun c19 => ?_)
        · have hf := ift c19 hf
          refine lv_aload_n hx hb dX9_stepOn_186 rfl (lv_at hl 1 rfl) ?_
          refine lv_dup hx hb dX9_stepOn_187 rfl ?_
          refine va_get (D := (dC, dI)) (ci := 9) (v := .int M_at_10) (C := RX9) (T := TX9) (N := 63) hx hb hG kinX9 hown hK hP 0 rfl rfl 18 (by decide) (hG _ kfX9_165) (fun _ h9 => h9) rfl dX9_stepOn_188 ?_
          refine lv_iconst (v := 1) hx hb dX9_stepOn_191 (by decide) ?_
          refine lv_iadd hx hb dX9_stepOn_192 ?_
          refine va_put (D := (dC, dI)) (ci := 9) (v := .int (M_at_10 + (1 : Int32))) (ty := .int) (C := RX9) (T := TX9) (N := 63) hx hb hG kinX9 tyX9 tyX9_ok nmX9 hown hK hP hD hS 0 rfl rfl 18 (by decide) (hG _ kfX9_165) (fun _ h9 => h9) rfl (by decide +kernel) rfl rfl (Nat.le_of_ble_eq_true rfl) dX9_stepOn_193 (fun H locs hP hD hS => ?_)
          have hP : va_P (dC, dI) cLs [(oM, .inr (9, mkX9 aM M_values M_code M_taped (M_at_10 + (1 : Int32)) M_size M_token M_number M_at_10 M_stops M_bad M_badPlace M_faultPlace M_ofVoting M_hour M_oil M_weight M_spider M_treasury M_joy M_passed M_acts M_seen M_never M_said M_hoarse M_fitMany M_seedNow M_hasImage M_actsThen M_seenThen)), ((aM 16), .inl (cc 0, 700, .inl M_tape))] _ := hP
          have hD : va_D A [(oM, .inr (9, mkX9 aM M_values M_code M_taped (M_at_10 + (1 : Int32)) M_size M_token M_number M_at_10 M_stops M_bad M_badPlace M_faultPlace M_ofVoting M_hour M_oil M_weight M_spider M_treasury M_joy M_passed M_acts M_seen M_never M_said M_hoarse M_fitMany M_seedNow M_hasImage M_actsThen M_seenThen)), ((aM 16), .inl (cc 0, 700, .inl M_tape))] := hD
          refine lv_aload_n hx hb dX9_stepOn_196 rfl (lv_at hl 1 rfl) ?_
          refine lv_iload_n hx hb dX9_stepOn_197 rfl (lv_at hl 0 rfl) ?_
          refine bd_el hf (fun v21 hv21 hf => ?_)
          refine callSi (As := [.int v12]) (rest := [.ref oM]) (wr := [(oM, .inr (9, mkX9 aM M_values M_code M_taped (M_at_10 + (1 : Int32)) M_size M_token M_number M_at_10 M_stops M_bad M_badPlace M_faultPlace M_ofVoting M_hour M_oil M_weight M_spider M_treasury M_joy M_passed M_acts M_seen M_never M_said M_hoarse M_fitMany M_seedNow M_hasImage M_actsThen M_seenThen)), ((aM 16), .inl (cc 0, 700, .inl M_tape))]) (wn := [(oM, .inr (9, mkX9 aM M_values M_code M_taped (M_at_10 + (1 : Int32)) M_size M_token M_number M_at_10 M_stops M_bad M_badPlace M_faultPlace M_ofVoting M_hour M_oil M_weight M_spider M_treasury M_joy M_passed M_acts M_seen M_never M_said M_hoarse M_fitMany M_seedNow M_hasImage M_actsThen M_seenThen)), ((aM 16), .inl (cc 0, 700, .inl M_tape))]) C0 ksX9_isMark kmX9_195 hP hD hS (mX9_isMark l dC dI cc ak  _  v12 hv21) ⟨rfl, rfl⟩ ⟨Nat.le_of_ble_eq_true rfl, Nat.le_of_ble_eq_true rfl⟩ [] [0, 1] [0, 1] rfl rfl rfl rfl rfl hl.1 rfl (Nat.le_of_ble_eq_true rfl) ⟨Nat.zero_le _, Nat.zero_le _⟩ dX9_stepOn_198 (fun H locs hP hD hS => ?_)
          refine lv_if_eq (tgt := 208) hx hb dX9_stepOn_201 (by decide) (fun c22 => ?_) (fun c22 => ?_)
          · have hf := ift c22 hf
            refine lv_iconst (v := 4) hx hb dX9_stepOn_208 (by decide) ?_
            refine va_put (D := (dC, dI)) (ci := 9) (v := .int 4) (ty := .int) (C := RX9) (T := TX9) (N := 63) hx hb hG kinX9 tyX9 tyX9_ok nmX9 hown hK hP hD hS 0 rfl rfl 20 (by decide) (hG _ kfX9_175) (fun _ h9 => h9) rfl (by decide +kernel) rfl rfl (Nat.le_of_ble_eq_true rfl) dX9_stepOn_209 (fun H locs hP hD hS => ?_)
            have hP : va_P (dC, dI) cLs [(oM, .inr (9, mkX9 aM M_values M_code M_taped (M_at_10 + (1 : Int32)) M_size 4 M_number M_at_10 M_stops M_bad M_badPlace M_faultPlace M_ofVoting M_hour M_oil M_weight M_spider M_treasury M_joy M_passed M_acts M_seen M_never M_said M_hoarse M_fitMany M_seedNow M_hasImage M_actsThen M_seenThen)), ((aM 16), .inl (cc 0, 700, .inl M_tape))] _ := hP
            have hD : va_D A [(oM, .inr (9, mkX9 aM M_values M_code M_taped (M_at_10 + (1 : Int32)) M_size 4 M_number M_at_10 M_stops M_bad M_badPlace M_faultPlace M_ofVoting M_hour M_oil M_weight M_spider M_treasury M_joy M_passed M_acts M_seen M_never M_said M_hoarse M_fitMany M_seedNow M_hasImage M_actsThen M_seenThen)), ((aM 16), .inl (cc 0, 700, .inl M_tape))] := hD
            refine lv_aload_n hx hb dX9_stepOn_212 rfl (lv_at hl 1 rfl) ?_
            refine lv_aload_n hx hb dX9_stepOn_213 rfl (lv_at hl 1 rfl) ?_
            refine va_get (D := (dC, dI)) (ci := 9) (v := .int (M_at_10 + (1 : Int32))) (C := RX9) (T := TX9) (N := 63) hx hb hG kinX9 hown hK hP 0 rfl rfl 18 (by decide) (hG _ kfX9_165) (fun _ h9 => h9) rfl dX9_stepOn_214 ?_
            refine va_put (D := (dC, dI)) (ci := 9) (v := .int (M_at_10 + (1 : Int32))) (ty := .int) (C := RX9) (T := TX9) (N := 63) hx hb hG kinX9 tyX9 tyX9_ok nmX9 hown hK hP hD hS 0 rfl rfl 23 (by decide) (hG _ kfX9_198) (fun _ h9 => h9) rfl (by decide +kernel) rfl rfl (Nat.le_of_ble_eq_true rfl) dX9_stepOn_217 (fun H locs hP hD hS => ?_)
            have hP : va_P (dC, dI) cLs [(oM, .inr (9, mkX9 aM M_values M_code M_taped (M_at_10 + (1 : Int32)) M_size 4 M_number M_at_10 (M_at_10 + (1 : Int32)) M_bad M_badPlace M_faultPlace M_ofVoting M_hour M_oil M_weight M_spider M_treasury M_joy M_passed M_acts M_seen M_never M_said M_hoarse M_fitMany M_seedNow M_hasImage M_actsThen M_seenThen)), ((aM 16), .inl (cc 0, 700, .inl M_tape))] _ := hP
            have hD : va_D A [(oM, .inr (9, mkX9 aM M_values M_code M_taped (M_at_10 + (1 : Int32)) M_size 4 M_number M_at_10 (M_at_10 + (1 : Int32)) M_bad M_badPlace M_faultPlace M_ofVoting M_hour M_oil M_weight M_spider M_treasury M_joy M_passed M_acts M_seen M_never M_said M_hoarse M_fitMany M_seedNow M_hasImage M_actsThen M_seenThen)), ((aM 16), .inl (cc 0, 700, .inl M_tape))] := hD
            obtain rfl := Option.some.inj hf
            exact retV C0 hP hD hS dX9_stepOn_220
          · have hf := iff_ c22 hf
            refine lv_iconst (v := 3) hx hb dX9_stepOn_204 (by decide) ?_
            refine lv_goto (tgt := 209) hx hb dX9_stepOn_205 (by decide) ?_
            refine va_put (D := (dC, dI)) (ci := 9) (v := .int 3) (ty := .int) (C := RX9) (T := TX9) (N := 63) hx hb hG kinX9 tyX9 tyX9_ok nmX9 hown hK hP hD hS 0 rfl rfl 20 (by decide) (hG _ kfX9_175) (fun _ h9 => h9) rfl (by decide +kernel) rfl rfl (Nat.le_of_ble_eq_true rfl) dX9_stepOn_209 (fun H locs hP hD hS => ?_)
            have hP : va_P (dC, dI) cLs [(oM, .inr (9, mkX9 aM M_values M_code M_taped (M_at_10 + (1 : Int32)) M_size 3 M_number M_at_10 M_stops M_bad M_badPlace M_faultPlace M_ofVoting M_hour M_oil M_weight M_spider M_treasury M_joy M_passed M_acts M_seen M_never M_said M_hoarse M_fitMany M_seedNow M_hasImage M_actsThen M_seenThen)), ((aM 16), .inl (cc 0, 700, .inl M_tape))] _ := hP
            have hD : va_D A [(oM, .inr (9, mkX9 aM M_values M_code M_taped (M_at_10 + (1 : Int32)) M_size 3 M_number M_at_10 M_stops M_bad M_badPlace M_faultPlace M_ofVoting M_hour M_oil M_weight M_spider M_treasury M_joy M_passed M_acts M_seen M_never M_said M_hoarse M_fitMany M_seedNow M_hasImage M_actsThen M_seenThen)), ((aM 16), .inl (cc 0, 700, .inl M_tape))] := hD
            refine lv_aload_n hx hb dX9_stepOn_212 rfl (lv_at hl 1 rfl) ?_
            refine lv_aload_n hx hb dX9_stepOn_213 rfl (lv_at hl 1 rfl) ?_
            refine va_get (D := (dC, dI)) (ci := 9) (v := .int (M_at_10 + (1 : Int32))) (C := RX9) (T := TX9) (N := 63) hx hb hG kinX9 hown hK hP 0 rfl rfl 18 (by decide) (hG _ kfX9_165) (fun _ h9 => h9) rfl dX9_stepOn_214 ?_
            refine va_put (D := (dC, dI)) (ci := 9) (v := .int (M_at_10 + (1 : Int32))) (ty := .int) (C := RX9) (T := TX9) (N := 63) hx hb hG kinX9 tyX9 tyX9_ok nmX9 hown hK hP hD hS 0 rfl rfl 23 (by decide) (hG _ kfX9_198) (fun _ h9 => h9) rfl (by decide +kernel) rfl rfl (Nat.le_of_ble_eq_true rfl) dX9_stepOn_217 (fun H locs hP hD hS => ?_)
            have hP : va_P (dC, dI) cLs [(oM, .inr (9, mkX9 aM M_values M_code M_taped (M_at_10 + (1 : Int32)) M_size 3 M_number M_at_10 (M_at_10 + (1 : Int32)) M_bad M_badPlace M_faultPlace M_ofVoting M_hour M_oil M_weight M_spider M_treasury M_joy M_passed M_acts M_seen M_never M_said M_hoarse M_fitMany M_seedNow M_hasImage M_actsThen M_seenThen)), ((aM 16), .inl (cc 0, 700, .inl M_tape))] _ := hP
            have hD : va_D A [(oM, .inr (9, mkX9 aM M_values M_code M_taped (M_at_10 + (1 : Int32)) M_size 3 M_number M_at_10 (M_at_10 + (1 : Int32)) M_bad M_badPlace M_faultPlace M_ofVoting M_hour M_oil M_weight M_spider M_treasury M_joy M_passed M_acts M_seen M_never M_said M_hoarse M_fitMany M_seedNow M_hasImage M_actsThen M_seenThen)), ((aM 16), .inl (cc 0, 700, .inl M_tape))] := hD
            obtain rfl := Option.some.inj hf
            exact retV C0 hP hD hS dX9_stepOn_220
        · have hf := iff_ c19 hf
          refine lv_aload_n hx hb dX9_stepOn_118 rfl (lv_at hl 1 rfl) ?_
          refine lv_iconst (v := 0) hx hb dX9_stepOn_119 (by decide) ?_
          refine va_put (D := (dC, dI)) (ci := 9) (v := .int 0) (ty := .int) (C := RX9) (T := TX9) (N := 63) hx hb hG kinX9 tyX9 tyX9_ok nmX9 hown hK hP hD hS 0 rfl rfl 21 (by decide) (hG _ kfX9_185) (fun _ h9 => h9) rfl (by decide +kernel) rfl rfl (Nat.le_of_ble_eq_true rfl) dX9_stepOn_120 (fun H locs hP hD hS => ?_)
          have hP : va_P (dC, dI) cLs [(oM, .inr (9, mkX9 aM M_values M_code M_taped M_at_10 M_size M_token 0 M_at_10 M_stops M_bad M_badPlace M_faultPlace M_ofVoting M_hour M_oil M_weight M_spider M_treasury M_joy M_passed M_acts M_seen M_never M_said M_hoarse M_fitMany M_seedNow M_hasImage M_actsThen M_seenThen)), ((aM 16), .inl (cc 0, 700, .inl M_tape))] _ := hP
          have hD : va_D A [(oM, .inr (9, mkX9 aM M_values M_code M_taped M_at_10 M_size M_token 0 M_at_10 M_stops M_bad M_badPlace M_faultPlace M_ofVoting M_hour M_oil M_weight M_spider M_treasury M_joy M_passed M_acts M_seen M_never M_said M_hoarse M_fitMany M_seedNow M_hasImage M_actsThen M_seenThen)), ((aM 16), .inl (cc 0, 700, .inl M_tape))] := hD
          refine wlX9_stepOn_123 C0 oM aM M_values M_code M_taped M_size M_token M_at_10 M_stops M_bad M_badPlace M_faultPlace M_ofVoting M_hour M_oil M_weight M_spider M_treasury M_joy M_passed M_acts M_seen M_never M_said M_hoarse M_fitMany M_seedNow M_hasImage M_actsThen M_seenThen M_tape _ ?_ FU M_at_10 0 hf _ _ hP hD hS _ (lv_sub hl [1] rfl)
          · intro M_at_30 M_number_31 hf H locs hP hD hS ls hl
            refine lv_aload_n hx hb dX9_stepOn_178 rfl (lv_at hl 0 rfl) ?_
            refine lv_iconst (v := 2) hx hb dX9_stepOn_179 (by decide) ?_
            refine va_put (D := (dC, dI)) (ci := 9) (v := .int 2) (ty := .int) (C := RX9) (T := TX9) (N := 63) hx hb hG kinX9 tyX9 tyX9_ok nmX9 hown hK hP hD hS 0 rfl rfl 20 (by decide) (hG _ kfX9_175) (fun _ h9 => h9) rfl (by decide +kernel) rfl rfl (Nat.le_of_ble_eq_true rfl) dX9_stepOn_180 (fun H locs hP hD hS => ?_)
            have hP : va_P (dC, dI) cLs [(oM, .inr (9, mkX9 aM M_values M_code M_taped M_at_30 M_size 2 M_number_31 M_at_10 M_stops M_bad M_badPlace M_faultPlace M_ofVoting M_hour M_oil M_weight M_spider M_treasury M_joy M_passed M_acts M_seen M_never M_said M_hoarse M_fitMany M_seedNow M_hasImage M_actsThen M_seenThen)), ((aM 16), .inl (cc 0, 700, .inl M_tape))] _ := hP
            have hD : va_D A [(oM, .inr (9, mkX9 aM M_values M_code M_taped M_at_30 M_size 2 M_number_31 M_at_10 M_stops M_bad M_badPlace M_faultPlace M_ofVoting M_hour M_oil M_weight M_spider M_treasury M_joy M_passed M_acts M_seen M_never M_said M_hoarse M_fitMany M_seedNow M_hasImage M_actsThen M_seenThen)), ((aM 16), .inl (cc 0, 700, .inl M_tape))] := hD
            refine lv_goto (tgt := 212) hx hb dX9_stepOn_183 (by decide) ?_
            refine lv_aload_n hx hb dX9_stepOn_212 rfl (lv_at hl 0 rfl) ?_
            refine lv_aload_n hx hb dX9_stepOn_213 rfl (lv_at hl 0 rfl) ?_
            refine va_get (D := (dC, dI)) (ci := 9) (v := .int M_at_30) (C := RX9) (T := TX9) (N := 63) hx hb hG kinX9 hown hK hP 0 rfl rfl 18 (by decide) (hG _ kfX9_165) (fun _ h9 => h9) rfl dX9_stepOn_214 ?_
            refine va_put (D := (dC, dI)) (ci := 9) (v := .int M_at_30) (ty := .int) (C := RX9) (T := TX9) (N := 63) hx hb hG kinX9 tyX9 tyX9_ok nmX9 hown hK hP hD hS 0 rfl rfl 23 (by decide) (hG _ kfX9_198) (fun _ h9 => h9) rfl (by decide +kernel) rfl rfl (Nat.le_of_ble_eq_true rfl) dX9_stepOn_217 (fun H locs hP hD hS => ?_)
            have hP : va_P (dC, dI) cLs [(oM, .inr (9, mkX9 aM M_values M_code M_taped M_at_30 M_size 2 M_number_31 M_at_10 M_at_30 M_bad M_badPlace M_faultPlace M_ofVoting M_hour M_oil M_weight M_spider M_treasury M_joy M_passed M_acts M_seen M_never M_said M_hoarse M_fitMany M_seedNow M_hasImage M_actsThen M_seenThen)), ((aM 16), .inl (cc 0, 700, .inl M_tape))] _ := hP
            have hD : va_D A [(oM, .inr (9, mkX9 aM M_values M_code M_taped M_at_30 M_size 2 M_number_31 M_at_10 M_at_30 M_bad M_badPlace M_faultPlace M_ofVoting M_hour M_oil M_weight M_spider M_treasury M_joy M_passed M_acts M_seen M_never M_said M_hoarse M_fitMany M_seedNow M_hasImage M_actsThen M_seenThen)), ((aM 16), .inl (cc 0, 700, .inl M_tape))] := hD
            obtain rfl := Option.some.inj hf
            exact retV C0 hP hD hS dX9_stepOn_220
      · have hf := iff_ c16 hf
        refine wlX9_stepOn_76 C0 oM aM M_values M_code M_taped M_size M_token M_number M_at_10 M_stops M_bad M_badPlace M_faultPlace M_ofVoting M_hour M_oil M_weight M_spider M_treasury M_joy M_passed M_acts M_seen M_never M_said M_hoarse M_fitMany M_seedNow M_hasImage M_actsThen M_seenThen M_tape _ ?_ FU M_at_10 hf _ _ hP hD hS _ (lv_sub hl [1] rfl)
        · intro M_at_37 hf H locs hP hD hS ls hl
          refine lv_aload_n hx hb dX9_stepOn_103 rfl (lv_at hl 0 rfl) ?_
          refine lv_iconst (v := 1) hx hb dX9_stepOn_104 (by decide) ?_
          refine va_put (D := (dC, dI)) (ci := 9) (v := .int 1) (ty := .int) (C := RX9) (T := TX9) (N := 63) hx hb hG kinX9 tyX9 tyX9_ok nmX9 hown hK hP hD hS 0 rfl rfl 20 (by decide) (hG _ kfX9_175) (fun _ h9 => h9) rfl (by decide +kernel) rfl rfl (Nat.le_of_ble_eq_true rfl) dX9_stepOn_105 (fun H locs hP hD hS => ?_)
          have hP : va_P (dC, dI) cLs [(oM, .inr (9, mkX9 aM M_values M_code M_taped M_at_37 M_size 1 M_number M_at_10 M_stops M_bad M_badPlace M_faultPlace M_ofVoting M_hour M_oil M_weight M_spider M_treasury M_joy M_passed M_acts M_seen M_never M_said M_hoarse M_fitMany M_seedNow M_hasImage M_actsThen M_seenThen)), ((aM 16), .inl (cc 0, 700, .inl M_tape))] _ := hP
          have hD : va_D A [(oM, .inr (9, mkX9 aM M_values M_code M_taped M_at_37 M_size 1 M_number M_at_10 M_stops M_bad M_badPlace M_faultPlace M_ofVoting M_hour M_oil M_weight M_spider M_treasury M_joy M_passed M_acts M_seen M_never M_said M_hoarse M_fitMany M_seedNow M_hasImage M_actsThen M_seenThen)), ((aM 16), .inl (cc 0, 700, .inl M_tape))] := hD
          refine lv_goto (tgt := 212) hx hb dX9_stepOn_108 (by decide) ?_
          refine lv_aload_n hx hb dX9_stepOn_212 rfl (lv_at hl 0 rfl) ?_
          refine lv_aload_n hx hb dX9_stepOn_213 rfl (lv_at hl 0 rfl) ?_
          refine va_get (D := (dC, dI)) (ci := 9) (v := .int M_at_37) (C := RX9) (T := TX9) (N := 63) hx hb hG kinX9 hown hK hP 0 rfl rfl 18 (by decide) (hG _ kfX9_165) (fun _ h9 => h9) rfl dX9_stepOn_214 ?_
          refine va_put (D := (dC, dI)) (ci := 9) (v := .int M_at_37) (ty := .int) (C := RX9) (T := TX9) (N := 63) hx hb hG kinX9 tyX9 tyX9_ok nmX9 hown hK hP hD hS 0 rfl rfl 23 (by decide) (hG _ kfX9_198) (fun _ h9 => h9) rfl (by decide +kernel) rfl rfl (Nat.le_of_ble_eq_true rfl) dX9_stepOn_217 (fun H locs hP hD hS => ?_)
          have hP : va_P (dC, dI) cLs [(oM, .inr (9, mkX9 aM M_values M_code M_taped M_at_37 M_size 1 M_number M_at_10 M_at_37 M_bad M_badPlace M_faultPlace M_ofVoting M_hour M_oil M_weight M_spider M_treasury M_joy M_passed M_acts M_seen M_never M_said M_hoarse M_fitMany M_seedNow M_hasImage M_actsThen M_seenThen)), ((aM 16), .inl (cc 0, 700, .inl M_tape))] _ := hP
          have hD : va_D A [(oM, .inr (9, mkX9 aM M_values M_code M_taped M_at_37 M_size 1 M_number M_at_10 M_at_37 M_bad M_badPlace M_faultPlace M_ofVoting M_hour M_oil M_weight M_spider M_treasury M_joy M_passed M_acts M_seen M_never M_said M_hoarse M_fitMany M_seedNow M_hasImage M_actsThen M_seenThen)), ((aM 16), .inl (cc 0, 700, .inl M_tape))] := hD
          obtain rfl := Option.some.inj hf
          exact retV C0 hP hD hS dX9_stepOn_220
    · have hf := ift c13 hf
      refine lv_aload_n hx hb dX9_stepOn_61 rfl (lv_at hl 1 rfl) ?_
      refine lv_iconst (v := 0) hx hb dX9_stepOn_62 (by decide) ?_
      refine va_put (D := (dC, dI)) (ci := 9) (v := .int 0) (ty := .int) (C := RX9) (T := TX9) (N := 63) hx hb hG kinX9 tyX9 tyX9_ok nmX9 hown hK hP hD hS 0 rfl rfl 20 (by decide) (hG _ kfX9_175) (fun _ h9 => h9) rfl (by decide +kernel) rfl rfl (Nat.le_of_ble_eq_true rfl) dX9_stepOn_63 (fun H locs hP hD hS => ?_)
      have hP : va_P (dC, dI) cLs [(oM, .inr (9, mkX9 aM M_values M_code M_taped M_at_10 M_size 0 M_number M_at_10 M_stops M_bad M_badPlace M_faultPlace M_ofVoting M_hour M_oil M_weight M_spider M_treasury M_joy M_passed M_acts M_seen M_never M_said M_hoarse M_fitMany M_seedNow M_hasImage M_actsThen M_seenThen)), ((aM 16), .inl (cc 0, 700, .inl M_tape))] _ := hP
      have hD : va_D A [(oM, .inr (9, mkX9 aM M_values M_code M_taped M_at_10 M_size 0 M_number M_at_10 M_stops M_bad M_badPlace M_faultPlace M_ofVoting M_hour M_oil M_weight M_spider M_treasury M_joy M_passed M_acts M_seen M_never M_said M_hoarse M_fitMany M_seedNow M_hasImage M_actsThen M_seenThen)), ((aM 16), .inl (cc 0, 700, .inl M_tape))] := hD
      refine lv_goto (tgt := 212) hx hb dX9_stepOn_66 (by decide) ?_
      refine lv_aload_n hx hb dX9_stepOn_212 rfl (lv_at hl 1 rfl) ?_
      refine lv_aload_n hx hb dX9_stepOn_213 rfl (lv_at hl 1 rfl) ?_
      refine va_get (D := (dC, dI)) (ci := 9) (v := .int M_at_10) (C := RX9) (T := TX9) (N := 63) hx hb hG kinX9 hown hK hP 0 rfl rfl 18 (by decide) (hG _ kfX9_165) (fun _ h9 => h9) rfl dX9_stepOn_214 ?_
      refine va_put (D := (dC, dI)) (ci := 9) (v := .int M_at_10) (ty := .int) (C := RX9) (T := TX9) (N := 63) hx hb hG kinX9 tyX9 tyX9_ok nmX9 hown hK hP hD hS 0 rfl rfl 23 (by decide) (hG _ kfX9_198) (fun _ h9 => h9) rfl (by decide +kernel) rfl rfl (Nat.le_of_ble_eq_true rfl) dX9_stepOn_217 (fun H locs hP hD hS => ?_)
      have hP : va_P (dC, dI) cLs [(oM, .inr (9, mkX9 aM M_values M_code M_taped M_at_10 M_size 0 M_number M_at_10 M_at_10 M_bad M_badPlace M_faultPlace M_ofVoting M_hour M_oil M_weight M_spider M_treasury M_joy M_passed M_acts M_seen M_never M_said M_hoarse M_fitMany M_seedNow M_hasImage M_actsThen M_seenThen)), ((aM 16), .inl (cc 0, 700, .inl M_tape))] _ := hP
      have hD : va_D A [(oM, .inr (9, mkX9 aM M_values M_code M_taped M_at_10 M_size 0 M_number M_at_10 M_at_10 M_bad M_badPlace M_faultPlace M_ofVoting M_hour M_oil M_weight M_spider M_treasury M_joy M_passed M_acts M_seen M_never M_said M_hoarse M_fitMany M_seedNow M_hasImage M_actsThen M_seenThen)), ((aM 16), .inl (cc 0, 700, .inl M_tape))] := hD
      obtain rfl := Option.some.inj hf
      exact retV C0 hP hD hS dX9_stepOn_220
def fX9_stepOn   (M_at : Int32) (M_size : Int32) (M_token : Int32) (M_number : Int32) (M_begins : Int32) (M_stops : Int32) (M_tape : Nat → Int32)  : Option (Int32 × Int32 × Int32 × Int32 × Int32) :=
  (fX9_byteAt  M_size M_tape M_at).bind fun v2 =>
  if v2 = 32 then
    jX9_stepOn_26 M_at M_size M_token M_number M_begins M_stops M_tape
  else
    (fX9_byteAt  M_size M_tape M_at).bind fun v39 =>
    if v39 = 10 then
      jX9_stepOn_26 M_at M_size M_token M_number M_begins M_stops M_tape
    else
      (fX9_byteAt  M_size M_tape M_at).bind fun v42 =>
      if v42 = (-1) then
        some (M_at, 0, M_number, M_at, M_at)
      else
        (fX9_isLetter  v42).bind fun v45 =>
        if v45 = 0 then
          (fX9_isDigit  v42).bind fun v48 =>
          if v48 = 0 then
            (fX9_isMark  v42).bind fun v51 =>
            if v51 = 0 then
              some ((M_at + (1 : Int32)), 4, M_number, M_at, (M_at + (1 : Int32)))
            else
              some ((M_at + (1 : Int32)), 3, M_number, M_at, (M_at + (1 : Int32)))
          else
            lX9_stepOn_123 (fun (M_at_53 : Int32) (M_number_54 : Int32) =>
              some (M_at_53, 2, M_number_54, M_at, M_at_53)) M_size M_tape FU M_at 0
        else
          lX9_stepOn_76 (fun (M_at_55 : Int32) =>
            some (M_at_55, 1, M_number, M_at, M_at_55)) M_size M_tape FU M_at
set_option maxHeartbeats 4000000 in
set_option maxRecDepth 100000 in
theorem bX9_stepOn {p : Program} {l : Launch} {e : Env} {s : State} {m : MethodId} {args : Array Value} {below : List Frame} {meth : Method} {c : Code} {A : Nat → Prop} {dC : Nat → ClassId} {dI : Nat → Nat → Nat} {cc : Nat → ClassId} {ak : Nat → Nat} (C0 : CT p s m args meth c A dC dI cc ak cX9_stepOn 2 none RX9) (oM : Nat) (aM : Nat → Nat)  (M_values : Int32) (M_code : Int32) (M_taped : Int32) (M_at : Int32) (M_size : Int32) (M_token : Int32) (M_number : Int32) (M_begins : Int32) (M_stops : Int32) (M_bad : Int32) (M_badPlace : Int32) (M_faultPlace : Int32) (M_ofVoting : Int32) (M_hour : Int32) (M_oil : Int32) (M_weight : Int32) (M_spider : Int32) (M_treasury : Int32) (M_joy : Int32) (M_passed : Int32) (M_acts : Int32) (M_seen : Int32) (M_never : Int32) (M_said : Int32) (M_hoarse : Int32) (M_fitMany : Int32) (M_seedNow : Int32) (M_hasImage : Int32) (M_actsThen : Int32) (M_seenThen : Int32) (M_tape : Nat → Int32)  {out : Int32 × Int32 × Int32 × Int32 × Int32} (hf : fX9_stepOn M_at M_size M_token M_number M_begins M_stops M_tape = some out) {H : Heap} {locs : List Loc} (hP : va_P (dC, dI) cLs [(oM, .inr (9, mkX9 aM M_values M_code M_taped M_at M_size M_token M_number M_begins M_stops M_bad M_badPlace M_faultPlace M_ofVoting M_hour M_oil M_weight M_spider M_treasury M_joy M_passed M_acts M_seen M_never M_said M_hoarse M_fitMany M_seedNow M_hasImage M_actsThen M_seenThen)), ((aM 16), .inl (cc 0, 700, .inl M_tape))] H) (hD : va_D A [(oM, .inr (9, mkX9 aM M_values M_code M_taped M_at M_size M_token M_number M_begins M_stops M_bad M_badPlace M_faultPlace M_ofVoting M_hour M_oil M_weight M_spider M_treasury M_joy M_passed M_acts M_seen M_never M_said M_hoarse M_fitMany M_seedNow M_hasImage M_actsThen M_seenThen)), ((aM 16), .inl (cc 0, 700, .inl M_tape))]) (hS : va_S A s.heap H locs) {ls : Array Slot} (hl : lv_has ls 2 [(0, .ref oM)]) : W p l e rmX9_stepOn s m args below meth c H locs 0 0 (MQ below (QV dC dI cc [(oM, .inr (9, mkX9 aM M_values M_code M_taped out.1 M_size out.2.1 out.2.2.1 out.2.2.2.1 out.2.2.2.2 M_bad M_badPlace M_faultPlace M_ofVoting M_hour M_oil M_weight M_spider M_treasury M_joy M_passed M_acts M_seen M_never M_said M_hoarse M_fitMany M_seedNow M_hasImage M_actsThen M_seenThen)), ((aM 16), .inl (cc 0, 700, .inl M_tape))] A) args s 0 0 A) (F0 m 0 ls []) := by
  obtain ⟨hx, hb, hml, hr, hlocks, hown, hG, hK, hA, hE⟩ := id C0
  unfold fX9_stepOn at hf
  refine lv_aload_n hx hb dX9_stepOn_0 rfl (lv_at hl 0 rfl) ?_
  refine lv_aload_n hx hb dX9_stepOn_1 rfl (lv_at hl 0 rfl) ?_
  refine va_get (D := (dC, dI)) (ci := 9) (v := .int M_at) (C := RX9) (T := TX9) (N := 63) hx hb hG kinX9 hown hK hP 0 rfl rfl 18 (by decide) (hG _ kfX9_165) (fun _ h9 => h9) rfl dX9_stepOn_2 ?_
  refine bd_el hf (fun v2 hv2 hf => ?_)
  refine callVi (As := [.int M_at]) (rest := []) (wr := []) (wn := [(oM, .inr (9, mkX9 aM M_values M_code M_taped M_at M_size M_token M_number M_begins M_stops M_bad M_badPlace M_faultPlace M_ofVoting M_hour M_oil M_weight M_spider M_treasury M_joy M_passed M_acts M_seen M_never M_said M_hoarse M_fitMany M_seedNow M_hasImage M_actsThen M_seenThen)), ((aM 16), .inl (cc 0, 700, .inl M_tape))]) C0 kvX9_byteAt kmX9_168 hP hD hS (mX9_byteAt l dC dI cc ak oM aM _  M_values M_code M_taped M_at M_size M_token M_number M_begins M_stops M_bad M_badPlace M_faultPlace M_ofVoting M_hour M_oil M_weight M_spider M_treasury M_joy M_passed M_acts M_seen M_never M_said M_hoarse M_fitMany M_seedNow M_hasImage M_actsThen M_seenThen M_tape M_at hv2) ⟨rfl, rfl⟩ ⟨Nat.le_of_ble_eq_true rfl, Nat.le_of_ble_eq_true rfl⟩ [0, 1] [] [0, 1] rfl rfl rfl rfl (va_recv hK hP (ci := 9) (q0 := 0) rfl rfl) rfl hl.1 rfl (Nat.le_of_ble_eq_true rfl) ⟨Nat.zero_le _, Nat.zero_le _⟩ dX9_stepOn_5 (fun H locs hP hD hS => ?_)
  refine lv_bipush (v := 32) hx hb dX9_stepOn_8 (by decide) ?_
  refine lv_icmp_eq (tgt := 26) hx hb dX9_stepOn_10 (by decide) (fun c3 => ?_) (fun c3 => ?_)
  · have hf := ift c3 hf
    exact wjX9_stepOn_26 C0 oM aM M_values M_code M_taped M_at M_size M_token M_number M_begins M_stops M_bad M_badPlace M_faultPlace M_ofVoting M_hour M_oil M_weight M_spider M_treasury M_joy M_passed M_acts M_seen M_never M_said M_hoarse M_fitMany M_seedNow M_hasImage M_actsThen M_seenThen M_tape    hf _ _ hP hD hS _ (lv_sub hl [0] rfl)
  · have hf := iff_ c3 hf
    refine lv_aload_n hx hb dX9_stepOn_13 rfl (lv_at hl 0 rfl) ?_
    refine lv_aload_n hx hb dX9_stepOn_14 rfl (lv_at hl 0 rfl) ?_
    refine va_get (D := (dC, dI)) (ci := 9) (v := .int M_at) (C := RX9) (T := TX9) (N := 63) hx hb hG kinX9 hown hK hP 0 rfl rfl 18 (by decide) (hG _ kfX9_165) (fun _ h9 => h9) rfl dX9_stepOn_15 ?_
    refine bd_el hf (fun v39 hv39 hf => ?_)
    refine callVi (As := [.int M_at]) (rest := []) (wr := []) (wn := [(oM, .inr (9, mkX9 aM M_values M_code M_taped M_at M_size M_token M_number M_begins M_stops M_bad M_badPlace M_faultPlace M_ofVoting M_hour M_oil M_weight M_spider M_treasury M_joy M_passed M_acts M_seen M_never M_said M_hoarse M_fitMany M_seedNow M_hasImage M_actsThen M_seenThen)), ((aM 16), .inl (cc 0, 700, .inl M_tape))]) C0 kvX9_byteAt kmX9_168 hP hD hS (mX9_byteAt l dC dI cc ak oM aM _  M_values M_code M_taped M_at M_size M_token M_number M_begins M_stops M_bad M_badPlace M_faultPlace M_ofVoting M_hour M_oil M_weight M_spider M_treasury M_joy M_passed M_acts M_seen M_never M_said M_hoarse M_fitMany M_seedNow M_hasImage M_actsThen M_seenThen M_tape M_at hv39) ⟨rfl, rfl⟩ ⟨Nat.le_of_ble_eq_true rfl, Nat.le_of_ble_eq_true rfl⟩ [0, 1] [] [0, 1] rfl rfl rfl rfl (va_recv hK hP (ci := 9) (q0 := 0) rfl rfl) rfl hl.1 rfl (Nat.le_of_ble_eq_true rfl) ⟨Nat.zero_le _, Nat.zero_le _⟩ dX9_stepOn_18 (fun H locs hP hD hS => ?_)
    refine lv_bipush (v := 10) hx hb dX9_stepOn_21 (by decide) ?_
    refine lv_icmp_ne (tgt := 39) hx hb dX9_stepOn_23 (by decide) (fun c40 => ?_) (fun c40 => ?_)
    · have hf := iff_ c40 hf
      refine lv_aload_n hx hb dX9_stepOn_39 rfl (lv_at hl 0 rfl) ?_
      refine lv_aload_n hx hb dX9_stepOn_40 rfl (lv_at hl 0 rfl) ?_
      refine va_get (D := (dC, dI)) (ci := 9) (v := .int M_at) (C := RX9) (T := TX9) (N := 63) hx hb hG kinX9 hown hK hP 0 rfl rfl 18 (by decide) (hG _ kfX9_165) (fun _ h9 => h9) rfl dX9_stepOn_41 ?_
      refine va_put (D := (dC, dI)) (ci := 9) (v := .int M_at) (ty := .int) (C := RX9) (T := TX9) (N := 63) hx hb hG kinX9 tyX9 tyX9_ok nmX9 hown hK hP hD hS 0 rfl rfl 22 (by decide) (hG _ kfX9_172) (fun _ h9 => h9) rfl (by decide +kernel) rfl rfl (Nat.le_of_ble_eq_true rfl) dX9_stepOn_44 (fun H locs hP hD hS => ?_)
      have hP : va_P (dC, dI) cLs [(oM, .inr (9, mkX9 aM M_values M_code M_taped M_at M_size M_token M_number M_at M_stops M_bad M_badPlace M_faultPlace M_ofVoting M_hour M_oil M_weight M_spider M_treasury M_joy M_passed M_acts M_seen M_never M_said M_hoarse M_fitMany M_seedNow M_hasImage M_actsThen M_seenThen)), ((aM 16), .inl (cc 0, 700, .inl M_tape))] _ := hP
      have hD : va_D A [(oM, .inr (9, mkX9 aM M_values M_code M_taped M_at M_size M_token M_number M_at M_stops M_bad M_badPlace M_faultPlace M_ofVoting M_hour M_oil M_weight M_spider M_treasury M_joy M_passed M_acts M_seen M_never M_said M_hoarse M_fitMany M_seedNow M_hasImage M_actsThen M_seenThen)), ((aM 16), .inl (cc 0, 700, .inl M_tape))] := hD
      refine lv_aload_n hx hb dX9_stepOn_47 rfl (lv_at hl 0 rfl) ?_
      refine lv_aload_n hx hb dX9_stepOn_48 rfl (lv_at hl 0 rfl) ?_
      refine va_get (D := (dC, dI)) (ci := 9) (v := .int M_at) (C := RX9) (T := TX9) (N := 63) hx hb hG kinX9 hown hK hP 0 rfl rfl 18 (by decide) (hG _ kfX9_165) (fun _ h9 => h9) rfl dX9_stepOn_49 ?_
      refine bd_el hf (fun v42 hv42 hf => ?_)
      refine callVi (As := [.int M_at]) (rest := []) (wr := []) (wn := [(oM, .inr (9, mkX9 aM M_values M_code M_taped M_at M_size M_token M_number M_at M_stops M_bad M_badPlace M_faultPlace M_ofVoting M_hour M_oil M_weight M_spider M_treasury M_joy M_passed M_acts M_seen M_never M_said M_hoarse M_fitMany M_seedNow M_hasImage M_actsThen M_seenThen)), ((aM 16), .inl (cc 0, 700, .inl M_tape))]) C0 kvX9_byteAt kmX9_168 hP hD hS (mX9_byteAt l dC dI cc ak oM aM _  M_values M_code M_taped M_at M_size M_token M_number M_at M_stops M_bad M_badPlace M_faultPlace M_ofVoting M_hour M_oil M_weight M_spider M_treasury M_joy M_passed M_acts M_seen M_never M_said M_hoarse M_fitMany M_seedNow M_hasImage M_actsThen M_seenThen M_tape M_at hv42) ⟨rfl, rfl⟩ ⟨Nat.le_of_ble_eq_true rfl, Nat.le_of_ble_eq_true rfl⟩ [0, 1] [] [0, 1] rfl rfl rfl rfl (va_recv hK hP (ci := 9) (q0 := 0) rfl rfl) rfl hl.1 rfl (Nat.le_of_ble_eq_true rfl) ⟨Nat.zero_le _, Nat.zero_le _⟩ dX9_stepOn_52 (fun H locs hP hD hS => ?_)
      refine lv_istore_n (lv' := [(1, .int v42), (0, .ref oM)]) hx hb dX9_stepOn_55 rfl hl (by decide) rfl (fun ls hl => ?_)
      refine lv_iload_n hx hb dX9_stepOn_56 rfl (lv_at hl 0 rfl) ?_
      refine lv_iconst (v := (-1)) hx hb dX9_stepOn_57 (by decide) ?_
      refine lv_icmp_ne (tgt := 69) hx hb dX9_stepOn_58 (by decide) (fun c43 => ?_) (fun c43 => ?_)
      · have hf := iff_ c43 hf
        refine lv_iload_n hx hb dX9_stepOn_69 rfl (lv_at hl 0 rfl) ?_
        refine bd_el hf (fun v45 hv45 hf => ?_)
        refine callSi (As := [.int v42]) (rest := []) (wr := [(oM, .inr (9, mkX9 aM M_values M_code M_taped M_at M_size M_token M_number M_at M_stops M_bad M_badPlace M_faultPlace M_ofVoting M_hour M_oil M_weight M_spider M_treasury M_joy M_passed M_acts M_seen M_never M_said M_hoarse M_fitMany M_seedNow M_hasImage M_actsThen M_seenThen)), ((aM 16), .inl (cc 0, 700, .inl M_tape))]) (wn := [(oM, .inr (9, mkX9 aM M_values M_code M_taped M_at M_size M_token M_number M_at M_stops M_bad M_badPlace M_faultPlace M_ofVoting M_hour M_oil M_weight M_spider M_treasury M_joy M_passed M_acts M_seen M_never M_said M_hoarse M_fitMany M_seedNow M_hasImage M_actsThen M_seenThen)), ((aM 16), .inl (cc 0, 700, .inl M_tape))]) C0 ksX9_isLetter kmX9_178 hP hD hS (mX9_isLetter l dC dI cc ak  _  v42 hv45) ⟨rfl, rfl⟩ ⟨Nat.le_of_ble_eq_true rfl, Nat.le_of_ble_eq_true rfl⟩ [] [0, 1] [0, 1] rfl rfl rfl rfl rfl hl.1 rfl (Nat.le_of_ble_eq_true rfl) ⟨Nat.zero_le _, Nat.zero_le _⟩ dX9_stepOn_70 (fun H locs hP hD hS => ?_)
        refine lv_if_eq (tgt := 111) hx hb dX9_stepOn_73 (by decide) (fun c46 => ?_) (fun c46 => ?_)
        · have hf := ift c46 hf
          refine lv_iload_n hx hb dX9_stepOn_111 rfl (lv_at hl 0 rfl) ?_
          refine bd_el hf (fun v48 hv48 hf => ?_)
          refine callSi (As := [.int v42]) (rest := []) (wr := [(oM, .inr (9, mkX9 aM M_values M_code M_taped M_at M_size M_token M_number M_at M_stops M_bad M_badPlace M_faultPlace M_ofVoting M_hour M_oil M_weight M_spider M_treasury M_joy M_passed M_acts M_seen M_never M_said M_hoarse M_fitMany M_seedNow M_hasImage M_actsThen M_seenThen)), ((aM 16), .inl (cc 0, 700, .inl M_tape))]) (wn := [(oM, .inr (9, mkX9 aM M_values M_code M_taped M_at M_size M_token M_number M_at M_stops M_bad M_badPlace M_faultPlace M_ofVoting M_hour M_oil M_weight M_spider M_treasury M_joy M_passed M_acts M_seen M_never M_said M_hoarse M_fitMany M_seedNow M_hasImage M_actsThen M_seenThen)), ((aM 16), .inl (cc 0, 700, .inl M_tape))]) C0 ksX9_isDigit kmX9_182 hP hD hS (mX9_isDigit l dC dI cc ak  _  v42 hv48) ⟨rfl, rfl⟩ ⟨Nat.le_of_ble_eq_true rfl, Nat.le_of_ble_eq_true rfl⟩ [] [0, 1] [0, 1] rfl rfl rfl rfl rfl hl.1 rfl (Nat.le_of_ble_eq_true rfl) ⟨Nat.zero_le _, Nat.zero_le _⟩ dX9_stepOn_112 (fun H locs hP hD hS => ?_)
          refine lv_if_eq (tgt := 186) hx hb dX9_stepOn_115 (by decide) (fun c49 => ?_) (fun c49 => ?_)
          · have hf := ift c49 hf
            refine lv_aload_n hx hb dX9_stepOn_186 rfl (lv_at hl 1 rfl) ?_
            refine lv_dup hx hb dX9_stepOn_187 rfl ?_
            refine va_get (D := (dC, dI)) (ci := 9) (v := .int M_at) (C := RX9) (T := TX9) (N := 63) hx hb hG kinX9 hown hK hP 0 rfl rfl 18 (by decide) (hG _ kfX9_165) (fun _ h9 => h9) rfl dX9_stepOn_188 ?_
            refine lv_iconst (v := 1) hx hb dX9_stepOn_191 (by decide) ?_
            refine lv_iadd hx hb dX9_stepOn_192 ?_
            refine va_put (D := (dC, dI)) (ci := 9) (v := .int (M_at + (1 : Int32))) (ty := .int) (C := RX9) (T := TX9) (N := 63) hx hb hG kinX9 tyX9 tyX9_ok nmX9 hown hK hP hD hS 0 rfl rfl 18 (by decide) (hG _ kfX9_165) (fun _ h9 => h9) rfl (by decide +kernel) rfl rfl (Nat.le_of_ble_eq_true rfl) dX9_stepOn_193 (fun H locs hP hD hS => ?_)
            have hP : va_P (dC, dI) cLs [(oM, .inr (9, mkX9 aM M_values M_code M_taped (M_at + (1 : Int32)) M_size M_token M_number M_at M_stops M_bad M_badPlace M_faultPlace M_ofVoting M_hour M_oil M_weight M_spider M_treasury M_joy M_passed M_acts M_seen M_never M_said M_hoarse M_fitMany M_seedNow M_hasImage M_actsThen M_seenThen)), ((aM 16), .inl (cc 0, 700, .inl M_tape))] _ := hP
            have hD : va_D A [(oM, .inr (9, mkX9 aM M_values M_code M_taped (M_at + (1 : Int32)) M_size M_token M_number M_at M_stops M_bad M_badPlace M_faultPlace M_ofVoting M_hour M_oil M_weight M_spider M_treasury M_joy M_passed M_acts M_seen M_never M_said M_hoarse M_fitMany M_seedNow M_hasImage M_actsThen M_seenThen)), ((aM 16), .inl (cc 0, 700, .inl M_tape))] := hD
            refine lv_aload_n hx hb dX9_stepOn_196 rfl (lv_at hl 1 rfl) ?_
            refine lv_iload_n hx hb dX9_stepOn_197 rfl (lv_at hl 0 rfl) ?_
            refine bd_el hf (fun v51 hv51 hf => ?_)
            refine callSi (As := [.int v42]) (rest := [.ref oM]) (wr := [(oM, .inr (9, mkX9 aM M_values M_code M_taped (M_at + (1 : Int32)) M_size M_token M_number M_at M_stops M_bad M_badPlace M_faultPlace M_ofVoting M_hour M_oil M_weight M_spider M_treasury M_joy M_passed M_acts M_seen M_never M_said M_hoarse M_fitMany M_seedNow M_hasImage M_actsThen M_seenThen)), ((aM 16), .inl (cc 0, 700, .inl M_tape))]) (wn := [(oM, .inr (9, mkX9 aM M_values M_code M_taped (M_at + (1 : Int32)) M_size M_token M_number M_at M_stops M_bad M_badPlace M_faultPlace M_ofVoting M_hour M_oil M_weight M_spider M_treasury M_joy M_passed M_acts M_seen M_never M_said M_hoarse M_fitMany M_seedNow M_hasImage M_actsThen M_seenThen)), ((aM 16), .inl (cc 0, 700, .inl M_tape))]) C0 ksX9_isMark kmX9_195 hP hD hS (mX9_isMark l dC dI cc ak  _  v42 hv51) ⟨rfl, rfl⟩ ⟨Nat.le_of_ble_eq_true rfl, Nat.le_of_ble_eq_true rfl⟩ [] [0, 1] [0, 1] rfl rfl rfl rfl rfl hl.1 rfl (Nat.le_of_ble_eq_true rfl) ⟨Nat.zero_le _, Nat.zero_le _⟩ dX9_stepOn_198 (fun H locs hP hD hS => ?_)
            refine lv_if_eq (tgt := 208) hx hb dX9_stepOn_201 (by decide) (fun c52 => ?_) (fun c52 => ?_)
            · have hf := ift c52 hf
              refine lv_iconst (v := 4) hx hb dX9_stepOn_208 (by decide) ?_
              refine va_put (D := (dC, dI)) (ci := 9) (v := .int 4) (ty := .int) (C := RX9) (T := TX9) (N := 63) hx hb hG kinX9 tyX9 tyX9_ok nmX9 hown hK hP hD hS 0 rfl rfl 20 (by decide) (hG _ kfX9_175) (fun _ h9 => h9) rfl (by decide +kernel) rfl rfl (Nat.le_of_ble_eq_true rfl) dX9_stepOn_209 (fun H locs hP hD hS => ?_)
              have hP : va_P (dC, dI) cLs [(oM, .inr (9, mkX9 aM M_values M_code M_taped (M_at + (1 : Int32)) M_size 4 M_number M_at M_stops M_bad M_badPlace M_faultPlace M_ofVoting M_hour M_oil M_weight M_spider M_treasury M_joy M_passed M_acts M_seen M_never M_said M_hoarse M_fitMany M_seedNow M_hasImage M_actsThen M_seenThen)), ((aM 16), .inl (cc 0, 700, .inl M_tape))] _ := hP
              have hD : va_D A [(oM, .inr (9, mkX9 aM M_values M_code M_taped (M_at + (1 : Int32)) M_size 4 M_number M_at M_stops M_bad M_badPlace M_faultPlace M_ofVoting M_hour M_oil M_weight M_spider M_treasury M_joy M_passed M_acts M_seen M_never M_said M_hoarse M_fitMany M_seedNow M_hasImage M_actsThen M_seenThen)), ((aM 16), .inl (cc 0, 700, .inl M_tape))] := hD
              refine lv_aload_n hx hb dX9_stepOn_212 rfl (lv_at hl 1 rfl) ?_
              refine lv_aload_n hx hb dX9_stepOn_213 rfl (lv_at hl 1 rfl) ?_
              refine va_get (D := (dC, dI)) (ci := 9) (v := .int (M_at + (1 : Int32))) (C := RX9) (T := TX9) (N := 63) hx hb hG kinX9 hown hK hP 0 rfl rfl 18 (by decide) (hG _ kfX9_165) (fun _ h9 => h9) rfl dX9_stepOn_214 ?_
              refine va_put (D := (dC, dI)) (ci := 9) (v := .int (M_at + (1 : Int32))) (ty := .int) (C := RX9) (T := TX9) (N := 63) hx hb hG kinX9 tyX9 tyX9_ok nmX9 hown hK hP hD hS 0 rfl rfl 23 (by decide) (hG _ kfX9_198) (fun _ h9 => h9) rfl (by decide +kernel) rfl rfl (Nat.le_of_ble_eq_true rfl) dX9_stepOn_217 (fun H locs hP hD hS => ?_)
              have hP : va_P (dC, dI) cLs [(oM, .inr (9, mkX9 aM M_values M_code M_taped (M_at + (1 : Int32)) M_size 4 M_number M_at (M_at + (1 : Int32)) M_bad M_badPlace M_faultPlace M_ofVoting M_hour M_oil M_weight M_spider M_treasury M_joy M_passed M_acts M_seen M_never M_said M_hoarse M_fitMany M_seedNow M_hasImage M_actsThen M_seenThen)), ((aM 16), .inl (cc 0, 700, .inl M_tape))] _ := hP
              have hD : va_D A [(oM, .inr (9, mkX9 aM M_values M_code M_taped (M_at + (1 : Int32)) M_size 4 M_number M_at (M_at + (1 : Int32)) M_bad M_badPlace M_faultPlace M_ofVoting M_hour M_oil M_weight M_spider M_treasury M_joy M_passed M_acts M_seen M_never M_said M_hoarse M_fitMany M_seedNow M_hasImage M_actsThen M_seenThen)), ((aM 16), .inl (cc 0, 700, .inl M_tape))] := hD
              obtain rfl := Option.some.inj hf
              exact retV C0 hP hD hS dX9_stepOn_220
            · have hf := iff_ c52 hf
              refine lv_iconst (v := 3) hx hb dX9_stepOn_204 (by decide) ?_
              refine lv_goto (tgt := 209) hx hb dX9_stepOn_205 (by decide) ?_
              refine va_put (D := (dC, dI)) (ci := 9) (v := .int 3) (ty := .int) (C := RX9) (T := TX9) (N := 63) hx hb hG kinX9 tyX9 tyX9_ok nmX9 hown hK hP hD hS 0 rfl rfl 20 (by decide) (hG _ kfX9_175) (fun _ h9 => h9) rfl (by decide +kernel) rfl rfl (Nat.le_of_ble_eq_true rfl) dX9_stepOn_209 (fun H locs hP hD hS => ?_)
              have hP : va_P (dC, dI) cLs [(oM, .inr (9, mkX9 aM M_values M_code M_taped (M_at + (1 : Int32)) M_size 3 M_number M_at M_stops M_bad M_badPlace M_faultPlace M_ofVoting M_hour M_oil M_weight M_spider M_treasury M_joy M_passed M_acts M_seen M_never M_said M_hoarse M_fitMany M_seedNow M_hasImage M_actsThen M_seenThen)), ((aM 16), .inl (cc 0, 700, .inl M_tape))] _ := hP
              have hD : va_D A [(oM, .inr (9, mkX9 aM M_values M_code M_taped (M_at + (1 : Int32)) M_size 3 M_number M_at M_stops M_bad M_badPlace M_faultPlace M_ofVoting M_hour M_oil M_weight M_spider M_treasury M_joy M_passed M_acts M_seen M_never M_said M_hoarse M_fitMany M_seedNow M_hasImage M_actsThen M_seenThen)), ((aM 16), .inl (cc 0, 700, .inl M_tape))] := hD
              refine lv_aload_n hx hb dX9_stepOn_212 rfl (lv_at hl 1 rfl) ?_
              refine lv_aload_n hx hb dX9_stepOn_213 rfl (lv_at hl 1 rfl) ?_
              refine va_get (D := (dC, dI)) (ci := 9) (v := .int (M_at + (1 : Int32))) (C := RX9) (T := TX9) (N := 63) hx hb hG kinX9 hown hK hP 0 rfl rfl 18 (by decide) (hG _ kfX9_165) (fun _ h9 => h9) rfl dX9_stepOn_214 ?_
              refine va_put (D := (dC, dI)) (ci := 9) (v := .int (M_at + (1 : Int32))) (ty := .int) (C := RX9) (T := TX9) (N := 63) hx hb hG kinX9 tyX9 tyX9_ok nmX9 hown hK hP hD hS 0 rfl rfl 23 (by decide) (hG _ kfX9_198) (fun _ h9 => h9) rfl (by decide +kernel) rfl rfl (Nat.le_of_ble_eq_true rfl) dX9_stepOn_217 (fun H locs hP hD hS => ?_)
              have hP : va_P (dC, dI) cLs [(oM, .inr (9, mkX9 aM M_values M_code M_taped (M_at + (1 : Int32)) M_size 3 M_number M_at (M_at + (1 : Int32)) M_bad M_badPlace M_faultPlace M_ofVoting M_hour M_oil M_weight M_spider M_treasury M_joy M_passed M_acts M_seen M_never M_said M_hoarse M_fitMany M_seedNow M_hasImage M_actsThen M_seenThen)), ((aM 16), .inl (cc 0, 700, .inl M_tape))] _ := hP
              have hD : va_D A [(oM, .inr (9, mkX9 aM M_values M_code M_taped (M_at + (1 : Int32)) M_size 3 M_number M_at (M_at + (1 : Int32)) M_bad M_badPlace M_faultPlace M_ofVoting M_hour M_oil M_weight M_spider M_treasury M_joy M_passed M_acts M_seen M_never M_said M_hoarse M_fitMany M_seedNow M_hasImage M_actsThen M_seenThen)), ((aM 16), .inl (cc 0, 700, .inl M_tape))] := hD
              obtain rfl := Option.some.inj hf
              exact retV C0 hP hD hS dX9_stepOn_220
          · have hf := iff_ c49 hf
            refine lv_aload_n hx hb dX9_stepOn_118 rfl (lv_at hl 1 rfl) ?_
            refine lv_iconst (v := 0) hx hb dX9_stepOn_119 (by decide) ?_
            refine va_put (D := (dC, dI)) (ci := 9) (v := .int 0) (ty := .int) (C := RX9) (T := TX9) (N := 63) hx hb hG kinX9 tyX9 tyX9_ok nmX9 hown hK hP hD hS 0 rfl rfl 21 (by decide) (hG _ kfX9_185) (fun _ h9 => h9) rfl (by decide +kernel) rfl rfl (Nat.le_of_ble_eq_true rfl) dX9_stepOn_120 (fun H locs hP hD hS => ?_)
            have hP : va_P (dC, dI) cLs [(oM, .inr (9, mkX9 aM M_values M_code M_taped M_at M_size M_token 0 M_at M_stops M_bad M_badPlace M_faultPlace M_ofVoting M_hour M_oil M_weight M_spider M_treasury M_joy M_passed M_acts M_seen M_never M_said M_hoarse M_fitMany M_seedNow M_hasImage M_actsThen M_seenThen)), ((aM 16), .inl (cc 0, 700, .inl M_tape))] _ := hP
            have hD : va_D A [(oM, .inr (9, mkX9 aM M_values M_code M_taped M_at M_size M_token 0 M_at M_stops M_bad M_badPlace M_faultPlace M_ofVoting M_hour M_oil M_weight M_spider M_treasury M_joy M_passed M_acts M_seen M_never M_said M_hoarse M_fitMany M_seedNow M_hasImage M_actsThen M_seenThen)), ((aM 16), .inl (cc 0, 700, .inl M_tape))] := hD
            refine wlX9_stepOn_123 C0 oM aM M_values M_code M_taped M_size M_token M_at M_stops M_bad M_badPlace M_faultPlace M_ofVoting M_hour M_oil M_weight M_spider M_treasury M_joy M_passed M_acts M_seen M_never M_said M_hoarse M_fitMany M_seedNow M_hasImage M_actsThen M_seenThen M_tape _ ?_ FU M_at 0 hf _ _ hP hD hS _ (lv_sub hl [1] rfl)
            · intro M_at_53 M_number_54 hf H locs hP hD hS ls hl
              refine lv_aload_n hx hb dX9_stepOn_178 rfl (lv_at hl 0 rfl) ?_
              refine lv_iconst (v := 2) hx hb dX9_stepOn_179 (by decide) ?_
              refine va_put (D := (dC, dI)) (ci := 9) (v := .int 2) (ty := .int) (C := RX9) (T := TX9) (N := 63) hx hb hG kinX9 tyX9 tyX9_ok nmX9 hown hK hP hD hS 0 rfl rfl 20 (by decide) (hG _ kfX9_175) (fun _ h9 => h9) rfl (by decide +kernel) rfl rfl (Nat.le_of_ble_eq_true rfl) dX9_stepOn_180 (fun H locs hP hD hS => ?_)
              have hP : va_P (dC, dI) cLs [(oM, .inr (9, mkX9 aM M_values M_code M_taped M_at_53 M_size 2 M_number_54 M_at M_stops M_bad M_badPlace M_faultPlace M_ofVoting M_hour M_oil M_weight M_spider M_treasury M_joy M_passed M_acts M_seen M_never M_said M_hoarse M_fitMany M_seedNow M_hasImage M_actsThen M_seenThen)), ((aM 16), .inl (cc 0, 700, .inl M_tape))] _ := hP
              have hD : va_D A [(oM, .inr (9, mkX9 aM M_values M_code M_taped M_at_53 M_size 2 M_number_54 M_at M_stops M_bad M_badPlace M_faultPlace M_ofVoting M_hour M_oil M_weight M_spider M_treasury M_joy M_passed M_acts M_seen M_never M_said M_hoarse M_fitMany M_seedNow M_hasImage M_actsThen M_seenThen)), ((aM 16), .inl (cc 0, 700, .inl M_tape))] := hD
              refine lv_goto (tgt := 212) hx hb dX9_stepOn_183 (by decide) ?_
              refine lv_aload_n hx hb dX9_stepOn_212 rfl (lv_at hl 0 rfl) ?_
              refine lv_aload_n hx hb dX9_stepOn_213 rfl (lv_at hl 0 rfl) ?_
              refine va_get (D := (dC, dI)) (ci := 9) (v := .int M_at_53) (C := RX9) (T := TX9) (N := 63) hx hb hG kinX9 hown hK hP 0 rfl rfl 18 (by decide) (hG _ kfX9_165) (fun _ h9 => h9) rfl dX9_stepOn_214 ?_
              refine va_put (D := (dC, dI)) (ci := 9) (v := .int M_at_53) (ty := .int) (C := RX9) (T := TX9) (N := 63) hx hb hG kinX9 tyX9 tyX9_ok nmX9 hown hK hP hD hS 0 rfl rfl 23 (by decide) (hG _ kfX9_198) (fun _ h9 => h9) rfl (by decide +kernel) rfl rfl (Nat.le_of_ble_eq_true rfl) dX9_stepOn_217 (fun H locs hP hD hS => ?_)
              have hP : va_P (dC, dI) cLs [(oM, .inr (9, mkX9 aM M_values M_code M_taped M_at_53 M_size 2 M_number_54 M_at M_at_53 M_bad M_badPlace M_faultPlace M_ofVoting M_hour M_oil M_weight M_spider M_treasury M_joy M_passed M_acts M_seen M_never M_said M_hoarse M_fitMany M_seedNow M_hasImage M_actsThen M_seenThen)), ((aM 16), .inl (cc 0, 700, .inl M_tape))] _ := hP
              have hD : va_D A [(oM, .inr (9, mkX9 aM M_values M_code M_taped M_at_53 M_size 2 M_number_54 M_at M_at_53 M_bad M_badPlace M_faultPlace M_ofVoting M_hour M_oil M_weight M_spider M_treasury M_joy M_passed M_acts M_seen M_never M_said M_hoarse M_fitMany M_seedNow M_hasImage M_actsThen M_seenThen)), ((aM 16), .inl (cc 0, 700, .inl M_tape))] := hD
              obtain rfl := Option.some.inj hf
              exact retV C0 hP hD hS dX9_stepOn_220
        · have hf := iff_ c46 hf
          refine wlX9_stepOn_76 C0 oM aM M_values M_code M_taped M_size M_token M_number M_at M_stops M_bad M_badPlace M_faultPlace M_ofVoting M_hour M_oil M_weight M_spider M_treasury M_joy M_passed M_acts M_seen M_never M_said M_hoarse M_fitMany M_seedNow M_hasImage M_actsThen M_seenThen M_tape _ ?_ FU M_at hf _ _ hP hD hS _ (lv_sub hl [1] rfl)
          · intro M_at_55 hf H locs hP hD hS ls hl
            refine lv_aload_n hx hb dX9_stepOn_103 rfl (lv_at hl 0 rfl) ?_
            refine lv_iconst (v := 1) hx hb dX9_stepOn_104 (by decide) ?_
            refine va_put (D := (dC, dI)) (ci := 9) (v := .int 1) (ty := .int) (C := RX9) (T := TX9) (N := 63) hx hb hG kinX9 tyX9 tyX9_ok nmX9 hown hK hP hD hS 0 rfl rfl 20 (by decide) (hG _ kfX9_175) (fun _ h9 => h9) rfl (by decide +kernel) rfl rfl (Nat.le_of_ble_eq_true rfl) dX9_stepOn_105 (fun H locs hP hD hS => ?_)
            have hP : va_P (dC, dI) cLs [(oM, .inr (9, mkX9 aM M_values M_code M_taped M_at_55 M_size 1 M_number M_at M_stops M_bad M_badPlace M_faultPlace M_ofVoting M_hour M_oil M_weight M_spider M_treasury M_joy M_passed M_acts M_seen M_never M_said M_hoarse M_fitMany M_seedNow M_hasImage M_actsThen M_seenThen)), ((aM 16), .inl (cc 0, 700, .inl M_tape))] _ := hP
            have hD : va_D A [(oM, .inr (9, mkX9 aM M_values M_code M_taped M_at_55 M_size 1 M_number M_at M_stops M_bad M_badPlace M_faultPlace M_ofVoting M_hour M_oil M_weight M_spider M_treasury M_joy M_passed M_acts M_seen M_never M_said M_hoarse M_fitMany M_seedNow M_hasImage M_actsThen M_seenThen)), ((aM 16), .inl (cc 0, 700, .inl M_tape))] := hD
            refine lv_goto (tgt := 212) hx hb dX9_stepOn_108 (by decide) ?_
            refine lv_aload_n hx hb dX9_stepOn_212 rfl (lv_at hl 0 rfl) ?_
            refine lv_aload_n hx hb dX9_stepOn_213 rfl (lv_at hl 0 rfl) ?_
            refine va_get (D := (dC, dI)) (ci := 9) (v := .int M_at_55) (C := RX9) (T := TX9) (N := 63) hx hb hG kinX9 hown hK hP 0 rfl rfl 18 (by decide) (hG _ kfX9_165) (fun _ h9 => h9) rfl dX9_stepOn_214 ?_
            refine va_put (D := (dC, dI)) (ci := 9) (v := .int M_at_55) (ty := .int) (C := RX9) (T := TX9) (N := 63) hx hb hG kinX9 tyX9 tyX9_ok nmX9 hown hK hP hD hS 0 rfl rfl 23 (by decide) (hG _ kfX9_198) (fun _ h9 => h9) rfl (by decide +kernel) rfl rfl (Nat.le_of_ble_eq_true rfl) dX9_stepOn_217 (fun H locs hP hD hS => ?_)
            have hP : va_P (dC, dI) cLs [(oM, .inr (9, mkX9 aM M_values M_code M_taped M_at_55 M_size 1 M_number M_at M_at_55 M_bad M_badPlace M_faultPlace M_ofVoting M_hour M_oil M_weight M_spider M_treasury M_joy M_passed M_acts M_seen M_never M_said M_hoarse M_fitMany M_seedNow M_hasImage M_actsThen M_seenThen)), ((aM 16), .inl (cc 0, 700, .inl M_tape))] _ := hP
            have hD : va_D A [(oM, .inr (9, mkX9 aM M_values M_code M_taped M_at_55 M_size 1 M_number M_at M_at_55 M_bad M_badPlace M_faultPlace M_ofVoting M_hour M_oil M_weight M_spider M_treasury M_joy M_passed M_acts M_seen M_never M_said M_hoarse M_fitMany M_seedNow M_hasImage M_actsThen M_seenThen)), ((aM 16), .inl (cc 0, 700, .inl M_tape))] := hD
            obtain rfl := Option.some.inj hf
            exact retV C0 hP hD hS dX9_stepOn_220
      · have hf := ift c43 hf
        refine lv_aload_n hx hb dX9_stepOn_61 rfl (lv_at hl 1 rfl) ?_
        refine lv_iconst (v := 0) hx hb dX9_stepOn_62 (by decide) ?_
        refine va_put (D := (dC, dI)) (ci := 9) (v := .int 0) (ty := .int) (C := RX9) (T := TX9) (N := 63) hx hb hG kinX9 tyX9 tyX9_ok nmX9 hown hK hP hD hS 0 rfl rfl 20 (by decide) (hG _ kfX9_175) (fun _ h9 => h9) rfl (by decide +kernel) rfl rfl (Nat.le_of_ble_eq_true rfl) dX9_stepOn_63 (fun H locs hP hD hS => ?_)
        have hP : va_P (dC, dI) cLs [(oM, .inr (9, mkX9 aM M_values M_code M_taped M_at M_size 0 M_number M_at M_stops M_bad M_badPlace M_faultPlace M_ofVoting M_hour M_oil M_weight M_spider M_treasury M_joy M_passed M_acts M_seen M_never M_said M_hoarse M_fitMany M_seedNow M_hasImage M_actsThen M_seenThen)), ((aM 16), .inl (cc 0, 700, .inl M_tape))] _ := hP
        have hD : va_D A [(oM, .inr (9, mkX9 aM M_values M_code M_taped M_at M_size 0 M_number M_at M_stops M_bad M_badPlace M_faultPlace M_ofVoting M_hour M_oil M_weight M_spider M_treasury M_joy M_passed M_acts M_seen M_never M_said M_hoarse M_fitMany M_seedNow M_hasImage M_actsThen M_seenThen)), ((aM 16), .inl (cc 0, 700, .inl M_tape))] := hD
        refine lv_goto (tgt := 212) hx hb dX9_stepOn_66 (by decide) ?_
        refine lv_aload_n hx hb dX9_stepOn_212 rfl (lv_at hl 1 rfl) ?_
        refine lv_aload_n hx hb dX9_stepOn_213 rfl (lv_at hl 1 rfl) ?_
        refine va_get (D := (dC, dI)) (ci := 9) (v := .int M_at) (C := RX9) (T := TX9) (N := 63) hx hb hG kinX9 hown hK hP 0 rfl rfl 18 (by decide) (hG _ kfX9_165) (fun _ h9 => h9) rfl dX9_stepOn_214 ?_
        refine va_put (D := (dC, dI)) (ci := 9) (v := .int M_at) (ty := .int) (C := RX9) (T := TX9) (N := 63) hx hb hG kinX9 tyX9 tyX9_ok nmX9 hown hK hP hD hS 0 rfl rfl 23 (by decide) (hG _ kfX9_198) (fun _ h9 => h9) rfl (by decide +kernel) rfl rfl (Nat.le_of_ble_eq_true rfl) dX9_stepOn_217 (fun H locs hP hD hS => ?_)
        have hP : va_P (dC, dI) cLs [(oM, .inr (9, mkX9 aM M_values M_code M_taped M_at M_size 0 M_number M_at M_at M_bad M_badPlace M_faultPlace M_ofVoting M_hour M_oil M_weight M_spider M_treasury M_joy M_passed M_acts M_seen M_never M_said M_hoarse M_fitMany M_seedNow M_hasImage M_actsThen M_seenThen)), ((aM 16), .inl (cc 0, 700, .inl M_tape))] _ := hP
        have hD : va_D A [(oM, .inr (9, mkX9 aM M_values M_code M_taped M_at M_size 0 M_number M_at M_at M_bad M_badPlace M_faultPlace M_ofVoting M_hour M_oil M_weight M_spider M_treasury M_joy M_passed M_acts M_seen M_never M_said M_hoarse M_fitMany M_seedNow M_hasImage M_actsThen M_seenThen)), ((aM 16), .inl (cc 0, 700, .inl M_tape))] := hD
        obtain rfl := Option.some.inj hf
        exact retV C0 hP hD hS dX9_stepOn_220
    · have hf := ift c40 hf
      exact wjX9_stepOn_26 C0 oM aM M_values M_code M_taped M_at M_size M_token M_number M_begins M_stops M_bad M_badPlace M_faultPlace M_ofVoting M_hour M_oil M_weight M_spider M_treasury M_joy M_passed M_acts M_seen M_never M_said M_hoarse M_fitMany M_seedNow M_hasImage M_actsThen M_seenThen M_tape    hf _ _ hP hD hS _ (lv_sub hl [0] rfl)
theorem mX9_stepOn (l : Launch) (dC : Nat → ClassId) (dI : Nat → Nat → Nat) (cc : Nat → ClassId) (ak : Nat → Nat) (oM : Nat) (aM : Nat → Nat) (sz : Nat)  (M_values : Int32) (M_code : Int32) (M_taped : Int32) (M_at : Int32) (M_size : Int32) (M_token : Int32) (M_number : Int32) (M_begins : Int32) (M_stops : Int32) (M_bad : Int32) (M_badPlace : Int32) (M_faultPlace : Int32) (M_ofVoting : Int32) (M_hour : Int32) (M_oil : Int32) (M_weight : Int32) (M_spider : Int32) (M_treasury : Int32) (M_joy : Int32) (M_passed : Int32) (M_acts : Int32) (M_seen : Int32) (M_never : Int32) (M_said : Int32) (M_hoarse : Int32) (M_fitMany : Int32) (M_seedNow : Int32) (M_hasImage : Int32) (M_actsThen : Int32) (M_seenThen : Int32) (M_tape : Nat → Int32)  {out : Int32 × Int32 × Int32 × Int32 × Int32} (hf : fX9_stepOn M_at M_size M_token M_number M_begins M_stops M_tape = some out) : Met l yX9_stepOn (Cond.code yX9_stepOn cX9_stepOn 2 none :: GW) rmX9_stepOn (PI dC dI cc ak [.ref oM] [(oM, .inr (9, mkX9 aM M_values M_code M_taped M_at M_size M_token M_number M_begins M_stops M_bad M_badPlace M_faultPlace M_ofVoting M_hour M_oil M_weight M_spider M_treasury M_joy M_passed M_acts M_seen M_never M_said M_hoarse M_fitMany M_seedNow M_hasImage M_actsThen M_seenThen)), ((aM 16), .inl (cc 0, 700, .inl M_tape))] sz) (QV dC dI cc [(oM, .inr (9, mkX9 aM M_values M_code M_taped out.1 M_size out.2.1 out.2.2.1 out.2.2.2.1 out.2.2.2.2 M_bad M_badPlace M_faultPlace M_ofVoting M_hour M_oil M_weight M_spider M_treasury M_joy M_passed M_acts M_seen M_never M_said M_hoarse M_fitMany M_seedNow M_hasImage M_actsThen M_seenThen)), ((aM 16), .inl (cc 0, 700, .inl M_tape))] (va_A [(oM, .inr (9, mkX9 aM M_values M_code M_taped M_at M_size M_token M_number M_begins M_stops M_bad M_badPlace M_faultPlace M_ofVoting M_hour M_oil M_weight M_spider M_treasury M_joy M_passed M_acts M_seen M_never M_said M_hoarse M_fitMany M_seedNow M_hasImage M_actsThen M_seenThen)), ((aM 16), .inl (cc 0, 700, .inl M_tape))] sz)) 0 0 (va_A [(oM, .inr (9, mkX9 aM M_values M_code M_taped M_at M_size M_token M_number M_begins M_stops M_bad M_badPlace M_faultPlace M_ofVoting M_hour M_oil M_weight M_spider M_treasury M_joy M_passed M_acts M_seen M_never M_said M_hoarse M_fitMany M_seedNow M_hasImage M_actsThen M_seenThen)), ((aM 16), .inl (cc 0, 700, .inl M_tape))] sz) :=
  met_of (Q := fun A => QV dC dI cc [(oM, .inr (9, mkX9 aM M_values M_code M_taped out.1 M_size out.2.1 out.2.2.1 out.2.2.2.1 out.2.2.2.2 M_bad M_badPlace M_faultPlace M_ofVoting M_hour M_oil M_weight M_spider M_treasury M_joy M_passed M_acts M_seen M_never M_said M_hoarse M_fitMany M_seedNow M_hasImage M_actsThen M_seenThen)), ((aM 16), .inl (cc 0, 700, .inl M_tape))] A) (by decide) rfl (Nat.le_of_ble_eq_true rfl) (fun p e s m below meth c A C0 hP hD hS ls hl => bX9_stepOn C0 oM aM M_values M_code M_taped M_at M_size M_token M_number M_begins M_stops M_bad M_badPlace M_faultPlace M_ofVoting M_hour M_oil M_weight M_spider M_treasury M_joy M_passed M_acts M_seen M_never M_said M_hoarse M_fitMany M_seedNow M_hasImage M_actsThen M_seenThen M_tape hf hP hD hS hl)
abbrev rmX9_readNumber : Room := { frames := 2, cells := 0, slots := 0, locals := 43 }
def fX9_readNumber   (M_at : Int32) (M_size : Int32) (M_token : Int32) (M_number : Int32) (M_begins : Int32) (M_stops : Int32) (M_bad : Int32) (M_badPlace : Int32) (M_tape : Nat → Int32) (p0 : Int32) (p1 : Int32) : Option (Int32 × Int32 × Int32 × Int32 × Int32 × Int32 × Int32 × Int32) :=
  (fX9_numberNow  M_token M_number M_begins M_stops M_bad M_badPlace p0 p1).bind fun v2 =>
  if v2.2.1 = 0 then
    (fX9_stepOn  M_at M_size M_token M_number M_begins M_stops M_tape).bind fun v5 =>
    some (v2.1, v5.1, v5.2.1, v5.2.2.1, v5.2.2.2.1, v5.2.2.2.2, v2.2.1, v2.2.2)
  else
    some (v2.1, M_at, M_token, M_number, M_begins, M_stops, v2.2.1, v2.2.2)
set_option maxHeartbeats 4000000 in
set_option maxRecDepth 100000 in
theorem bX9_readNumber {p : Program} {l : Launch} {e : Env} {s : State} {m : MethodId} {args : Array Value} {below : List Frame} {meth : Method} {c : Code} {A : Nat → Prop} {dC : Nat → ClassId} {dI : Nat → Nat → Nat} {cc : Nat → ClassId} {ak : Nat → Nat} (C0 : CT p s m args meth c A dC dI cc ak cX9_readNumber 4 (some .int) RX9) (oM : Nat) (aM : Nat → Nat)  (M_values : Int32) (M_code : Int32) (M_taped : Int32) (M_at : Int32) (M_size : Int32) (M_token : Int32) (M_number : Int32) (M_begins : Int32) (M_stops : Int32) (M_bad : Int32) (M_badPlace : Int32) (M_faultPlace : Int32) (M_ofVoting : Int32) (M_hour : Int32) (M_oil : Int32) (M_weight : Int32) (M_spider : Int32) (M_treasury : Int32) (M_joy : Int32) (M_passed : Int32) (M_acts : Int32) (M_seen : Int32) (M_never : Int32) (M_said : Int32) (M_hoarse : Int32) (M_fitMany : Int32) (M_seedNow : Int32) (M_hasImage : Int32) (M_actsThen : Int32) (M_seenThen : Int32) (M_tape : Nat → Int32) (p0 : Int32) (p1 : Int32) {out : Int32 × Int32 × Int32 × Int32 × Int32 × Int32 × Int32 × Int32} (hf : fX9_readNumber M_at M_size M_token M_number M_begins M_stops M_bad M_badPlace M_tape p0 p1 = some out) {H : Heap} {locs : List Loc} (hP : va_P (dC, dI) cLs [(oM, .inr (9, mkX9 aM M_values M_code M_taped M_at M_size M_token M_number M_begins M_stops M_bad M_badPlace M_faultPlace M_ofVoting M_hour M_oil M_weight M_spider M_treasury M_joy M_passed M_acts M_seen M_never M_said M_hoarse M_fitMany M_seedNow M_hasImage M_actsThen M_seenThen)), ((aM 16), .inl (cc 0, 700, .inl M_tape))] H) (hD : va_D A [(oM, .inr (9, mkX9 aM M_values M_code M_taped M_at M_size M_token M_number M_begins M_stops M_bad M_badPlace M_faultPlace M_ofVoting M_hour M_oil M_weight M_spider M_treasury M_joy M_passed M_acts M_seen M_never M_said M_hoarse M_fitMany M_seedNow M_hasImage M_actsThen M_seenThen)), ((aM 16), .inl (cc 0, 700, .inl M_tape))]) (hS : va_S A s.heap H locs) {ls : Array Slot} (hl : lv_has ls 4 [(0, .ref oM), (1, .int p0), (2, .int p1)]) : W p l e rmX9_readNumber s m args below meth c H locs 0 0 (MQ below (QI dC dI cc out.1 [(oM, .inr (9, mkX9 aM M_values M_code M_taped out.2.1 M_size out.2.2.1 out.2.2.2.1 out.2.2.2.2.1 out.2.2.2.2.2.1 out.2.2.2.2.2.2.1 out.2.2.2.2.2.2.2 M_faultPlace M_ofVoting M_hour M_oil M_weight M_spider M_treasury M_joy M_passed M_acts M_seen M_never M_said M_hoarse M_fitMany M_seedNow M_hasImage M_actsThen M_seenThen)), ((aM 16), .inl (cc 0, 700, .inl M_tape))] A) args s 0 0 A) (F0 m 0 ls []) := by
  obtain ⟨hx, hb, hml, hr, hlocks, hown, hG, hK, hA, hE⟩ := id C0
  unfold fX9_readNumber at hf
  refine lv_aload_n hx hb dX9_readNumber_0 rfl (lv_at hl 0 rfl) ?_
  refine lv_iload_n hx hb dX9_readNumber_1 rfl (lv_at hl 1 rfl) ?_
  refine lv_iload_n hx hb dX9_readNumber_2 rfl (lv_at hl 2 rfl) ?_
  refine bd_el hf (fun v2 hv2 hf => ?_)
  refine callVi (As := [.int p0, .int p1]) (rest := []) (wr := [((aM 16), .inl (cc 0, 700, .inl M_tape))]) (wn := [(oM, .inr (9, mkX9 aM M_values M_code M_taped M_at M_size M_token M_number M_begins M_stops v2.2.1 v2.2.2 M_faultPlace M_ofVoting M_hour M_oil M_weight M_spider M_treasury M_joy M_passed M_acts M_seen M_never M_said M_hoarse M_fitMany M_seedNow M_hasImage M_actsThen M_seenThen)), ((aM 16), .inl (cc 0, 700, .inl M_tape))]) C0 kvX9_numberNow kmX9_229 hP hD hS (mX9_numberNow l dC dI cc ak oM aM _  M_values M_code M_taped M_at M_size M_token M_number M_begins M_stops M_bad M_badPlace M_faultPlace M_ofVoting M_hour M_oil M_weight M_spider M_treasury M_joy M_passed M_acts M_seen M_never M_said M_hoarse M_fitMany M_seedNow M_hasImage M_actsThen M_seenThen p0 p1 hv2) ⟨rfl, rfl⟩ ⟨Nat.le_of_ble_eq_true rfl, Nat.le_of_ble_eq_true rfl⟩ [0] [1] [1, 0] rfl rfl rfl rfl (va_recv hK hP (ci := 9) (q0 := 0) rfl rfl) rfl hl.1 rfl (Nat.le_of_ble_eq_true rfl) ⟨Nat.zero_le _, Nat.zero_le _⟩ dX9_readNumber_3 (fun H locs hP hD hS => ?_)
  refine lv_istore_n (lv' := [(3, .int v2.1), (0, .ref oM), (1, .int p0), (2, .int p1)]) hx hb dX9_readNumber_6 rfl hl (by decide) rfl (fun ls hl => ?_)
  refine lv_aload_n hx hb dX9_readNumber_7 rfl (lv_at hl 1 rfl) ?_
  refine va_get (D := (dC, dI)) (ci := 9) (v := .int v2.2.1) (C := RX9) (T := TX9) (N := 63) hx hb hG kinX9 hown hK hP 0 rfl rfl 24 (by decide) (hG _ kfX9_201) (fun _ h9 => h9) rfl dX9_readNumber_8 ?_
  refine lv_if_ne (tgt := 18) hx hb dX9_readNumber_11 (by decide) (fun c3 => ?_) (fun c3 => ?_)
  · have hf := iff_ c3 hf
    refine lv_iload_n hx hb dX9_readNumber_18 rfl (lv_at hl 0 rfl) ?_
    obtain rfl := Option.some.inj hf
    exact retI C0 hP hD hS rfl dX9_readNumber_19
  · have hf := ift c3 hf
    refine lv_aload_n hx hb dX9_readNumber_14 rfl (lv_at hl 1 rfl) ?_
    refine bd_el hf (fun v5 hv5 hf => ?_)
    refine callVv (As := []) (rest := []) (wr := []) (wn := [(oM, .inr (9, mkX9 aM M_values M_code M_taped v5.1 M_size v5.2.1 v5.2.2.1 v5.2.2.2.1 v5.2.2.2.2 v2.2.1 v2.2.2 M_faultPlace M_ofVoting M_hour M_oil M_weight M_spider M_treasury M_joy M_passed M_acts M_seen M_never M_said M_hoarse M_fitMany M_seedNow M_hasImage M_actsThen M_seenThen)), ((aM 16), .inl (cc 0, 700, .inl M_tape))]) C0 kvX9_stepOn kmX9_226 hP hD hS (mX9_stepOn l dC dI cc ak oM aM _  M_values M_code M_taped M_at M_size M_token M_number M_begins M_stops v2.2.1 v2.2.2 M_faultPlace M_ofVoting M_hour M_oil M_weight M_spider M_treasury M_joy M_passed M_acts M_seen M_never M_said M_hoarse M_fitMany M_seedNow M_hasImage M_actsThen M_seenThen M_tape hv5) ⟨rfl, rfl⟩ ⟨Nat.le_of_ble_eq_true rfl, Nat.le_of_ble_eq_true rfl⟩ [0, 1] [] [0, 1] rfl rfl rfl rfl (va_recv hK hP (ci := 9) (q0 := 0) rfl rfl) rfl hl.1 rfl (Nat.le_of_ble_eq_true rfl) ⟨Nat.zero_le _, Nat.zero_le _⟩ dX9_readNumber_15 (fun H locs hP hD hS => ?_)
    refine lv_iload_n hx hb dX9_readNumber_18 rfl (lv_at hl 0 rfl) ?_
    obtain rfl := Option.some.inj hf
    exact retI C0 hP hD hS rfl dX9_readNumber_19
theorem mX9_readNumber (l : Launch) (dC : Nat → ClassId) (dI : Nat → Nat → Nat) (cc : Nat → ClassId) (ak : Nat → Nat) (oM : Nat) (aM : Nat → Nat) (sz : Nat)  (M_values : Int32) (M_code : Int32) (M_taped : Int32) (M_at : Int32) (M_size : Int32) (M_token : Int32) (M_number : Int32) (M_begins : Int32) (M_stops : Int32) (M_bad : Int32) (M_badPlace : Int32) (M_faultPlace : Int32) (M_ofVoting : Int32) (M_hour : Int32) (M_oil : Int32) (M_weight : Int32) (M_spider : Int32) (M_treasury : Int32) (M_joy : Int32) (M_passed : Int32) (M_acts : Int32) (M_seen : Int32) (M_never : Int32) (M_said : Int32) (M_hoarse : Int32) (M_fitMany : Int32) (M_seedNow : Int32) (M_hasImage : Int32) (M_actsThen : Int32) (M_seenThen : Int32) (M_tape : Nat → Int32) (p0 : Int32) (p1 : Int32) {out : Int32 × Int32 × Int32 × Int32 × Int32 × Int32 × Int32 × Int32} (hf : fX9_readNumber M_at M_size M_token M_number M_begins M_stops M_bad M_badPlace M_tape p0 p1 = some out) : Met l yX9_readNumber (Cond.code yX9_readNumber cX9_readNumber 4 (some .int) :: GW) rmX9_readNumber (PI dC dI cc ak [.ref oM, .int p0, .int p1] [(oM, .inr (9, mkX9 aM M_values M_code M_taped M_at M_size M_token M_number M_begins M_stops M_bad M_badPlace M_faultPlace M_ofVoting M_hour M_oil M_weight M_spider M_treasury M_joy M_passed M_acts M_seen M_never M_said M_hoarse M_fitMany M_seedNow M_hasImage M_actsThen M_seenThen)), ((aM 16), .inl (cc 0, 700, .inl M_tape))] sz) (QI dC dI cc out.1 [(oM, .inr (9, mkX9 aM M_values M_code M_taped out.2.1 M_size out.2.2.1 out.2.2.2.1 out.2.2.2.2.1 out.2.2.2.2.2.1 out.2.2.2.2.2.2.1 out.2.2.2.2.2.2.2 M_faultPlace M_ofVoting M_hour M_oil M_weight M_spider M_treasury M_joy M_passed M_acts M_seen M_never M_said M_hoarse M_fitMany M_seedNow M_hasImage M_actsThen M_seenThen)), ((aM 16), .inl (cc 0, 700, .inl M_tape))] (va_A [(oM, .inr (9, mkX9 aM M_values M_code M_taped M_at M_size M_token M_number M_begins M_stops M_bad M_badPlace M_faultPlace M_ofVoting M_hour M_oil M_weight M_spider M_treasury M_joy M_passed M_acts M_seen M_never M_said M_hoarse M_fitMany M_seedNow M_hasImage M_actsThen M_seenThen)), ((aM 16), .inl (cc 0, 700, .inl M_tape))] sz)) 0 0 (va_A [(oM, .inr (9, mkX9 aM M_values M_code M_taped M_at M_size M_token M_number M_begins M_stops M_bad M_badPlace M_faultPlace M_ofVoting M_hour M_oil M_weight M_spider M_treasury M_joy M_passed M_acts M_seen M_never M_said M_hoarse M_fitMany M_seedNow M_hasImage M_actsThen M_seenThen)), ((aM 16), .inl (cc 0, 700, .inl M_tape))] sz) :=
  met_of (Q := fun A => QI dC dI cc out.1 [(oM, .inr (9, mkX9 aM M_values M_code M_taped out.2.1 M_size out.2.2.1 out.2.2.2.1 out.2.2.2.2.1 out.2.2.2.2.2.1 out.2.2.2.2.2.2.1 out.2.2.2.2.2.2.2 M_faultPlace M_ofVoting M_hour M_oil M_weight M_spider M_treasury M_joy M_passed M_acts M_seen M_never M_said M_hoarse M_fitMany M_seedNow M_hasImage M_actsThen M_seenThen)), ((aM 16), .inl (cc 0, 700, .inl M_tape))] A) (by decide) rfl (Nat.le_of_ble_eq_true rfl) (fun p e s m below meth c A C0 hP hD hS ls hl => bX9_readNumber C0 oM aM M_values M_code M_taped M_at M_size M_token M_number M_begins M_stops M_bad M_badPlace M_faultPlace M_ofVoting M_hour M_oil M_weight M_spider M_treasury M_joy M_passed M_acts M_seen M_never M_said M_hoarse M_fitMany M_seedNow M_hasImage M_actsThen M_seenThen M_tape p0 p1 hf hP hD hS hl)
abbrev rmX9_lay : Room := { frames := 0, cells := 0, slots := 0, locals := 0 }
def jX9_lay_43    (M_told : Nat → Int32) (M_signsSays : Nat → Int32) (M_signsVotes : Nat → Int32) (x1 : Int32) (x2 : Int32)  : Option ((Nat → Int32) × (Nat → Int32) × (Nat → Int32)) :=
  ck (inb x2 14) <|
  ck (inb ((700 : Int32) + (M_told (x2 : Int32).toNatClampNeg)) 1400) <|
  ck (inb x2 14) <|
  ck (inb x2 14) <|
  some ((upd M_told (x2 : Int32).toNatClampNeg ((M_told (x2 : Int32).toNatClampNeg) + (1 : Int32))), (upd M_signsSays (((700 : Int32) + (M_told (x2 : Int32).toNatClampNeg)) : Int32).toNatClampNeg x1), M_signsVotes)
set_option maxHeartbeats 4000000 in
set_option maxRecDepth 100000 in
theorem wjX9_lay_43 {p : Program} {l : Launch} {e : Env} {s : State} {m : MethodId} {args : Array Value} {below : List Frame} {meth : Method} {c : Code} {A : Nat → Prop} {dC : Nat → ClassId} {dI : Nat → Nat → Nat} {cc : Nat → ClassId} {ak : Nat → Nat} (C0 : CT p s m args meth c A dC dI cc ak cX9_lay 4 none RX9) (oM : Nat) (aM : Nat → Nat)  (M_values : Int32) (M_code : Int32) (M_taped : Int32) (M_at : Int32) (M_size : Int32) (M_token : Int32) (M_number : Int32) (M_begins : Int32) (M_stops : Int32) (M_bad : Int32) (M_badPlace : Int32) (M_faultPlace : Int32) (M_ofVoting : Int32) (M_hour : Int32) (M_oil : Int32) (M_weight : Int32) (M_spider : Int32) (M_treasury : Int32) (M_joy : Int32) (M_passed : Int32) (M_acts : Int32) (M_seen : Int32) (M_never : Int32) (M_said : Int32) (M_hoarse : Int32) (M_fitMany : Int32) (M_seedNow : Int32) (M_hasImage : Int32) (M_actsThen : Int32) (M_seenThen : Int32) (M_told : Nat → Int32) (M_signsSays : Nat → Int32) (M_signsVotes : Nat → Int32) (x1 : Int32) (x2 : Int32) {out : (Nat → Int32) × (Nat → Int32) × (Nat → Int32)}    (hf : jX9_lay_43  M_told M_signsSays M_signsVotes x1 x2  = some out) (H : Heap) (locs : List Loc) (hP : va_P (dC, dI) cLs [(oM, .inr (9, mkX9 aM M_values M_code M_taped M_at M_size M_token M_number M_begins M_stops M_bad M_badPlace M_faultPlace M_ofVoting M_hour M_oil M_weight M_spider M_treasury M_joy M_passed M_acts M_seen M_never M_said M_hoarse M_fitMany M_seedNow M_hasImage M_actsThen M_seenThen)), ((aM 5), .inl (cc 0, 14, .inl M_told)), ((aM 13), .inl (cc 0, 1400, .inl M_signsSays)), ((aM 14), .inl (cc 0, 1400, .inl M_signsVotes))] H) (hD : va_D A [(oM, .inr (9, mkX9 aM M_values M_code M_taped M_at M_size M_token M_number M_begins M_stops M_bad M_badPlace M_faultPlace M_ofVoting M_hour M_oil M_weight M_spider M_treasury M_joy M_passed M_acts M_seen M_never M_said M_hoarse M_fitMany M_seedNow M_hasImage M_actsThen M_seenThen)), ((aM 5), .inl (cc 0, 14, .inl M_told)), ((aM 13), .inl (cc 0, 1400, .inl M_signsSays)), ((aM 14), .inl (cc 0, 1400, .inl M_signsVotes))]) (hS : va_S A s.heap H locs) (ls : Array Slot) (hl : lv_has ls 4 [(0, .ref oM), (1, .int x1), (2, .int x2)]) : W p l e rmX9_lay s m args below meth c H locs 0 0 (MQ below (QV dC dI cc [(oM, .inr (9, mkX9 aM M_values M_code M_taped M_at M_size M_token M_number M_begins M_stops M_bad M_badPlace M_faultPlace M_ofVoting M_hour M_oil M_weight M_spider M_treasury M_joy M_passed M_acts M_seen M_never M_said M_hoarse M_fitMany M_seedNow M_hasImage M_actsThen M_seenThen)), ((aM 5), .inl (cc 0, 14, .inl out.1)), ((aM 13), .inl (cc 0, 1400, .inl out.2.1)), ((aM 14), .inl (cc 0, 1400, .inl out.2.2))] A) args s 0 0 A) (F0 m 43 ls [.ref (aM 13)]) := by
  obtain ⟨hx, hb, hml, hr, hlocks, hown, hG, hK, hA, hE⟩ := id C0
  unfold jX9_lay_43 at hf
  refine lv_astore_n (lv' := [(3, .ref (aM 13)), (0, .ref oM), (1, .int x1), (2, .int x2)]) hx hb dX9_lay_43 rfl hl (by decide) rfl (fun ls hl => ?_)
  refine lv_aload_n hx hb dX9_lay_44 rfl (lv_at hl 0 rfl) ?_
  refine lv_sipush (v := 700) hx hb dX9_lay_45 (by decide) ?_
  refine lv_aload_n hx hb dX9_lay_48 rfl (lv_at hl 1 rfl) ?_
  refine va_get (D := (dC, dI)) (ci := 9) (v := .ref (aM 5)) (C := RX9) (T := TX9) (N := 63) hx hb hG kinX9 hown hK hP 0 rfl rfl 5 (by decide) (hG _ kfX9_50) (fun _ h9 => h9) rfl dX9_lay_49 ?_
  refine lv_iload_n hx hb dX9_lay_52 rfl (lv_at hl 3 rfl) ?_
  refine ck_el hf (fun g4 hf => ?_)
  refine va_iald hx hb hK hP 1 0 rfl rfl (inb_in g4) dX9_lay_53 ?_
  refine lv_iadd hx hb dX9_lay_54 ?_
  refine lv_iload_n hx hb dX9_lay_55 rfl (lv_at hl 2 rfl) ?_
  refine ck_el hf (fun g5 hf => ?_)
  refine va_iast hx hb hK hP hD hS 2 0 rfl rfl (inb_in g5) dX9_lay_56 (fun H locs hP hD hS => ?_)
  have hP : va_P (dC, dI) cLs [(oM, .inr (9, mkX9 aM M_values M_code M_taped M_at M_size M_token M_number M_begins M_stops M_bad M_badPlace M_faultPlace M_ofVoting M_hour M_oil M_weight M_spider M_treasury M_joy M_passed M_acts M_seen M_never M_said M_hoarse M_fitMany M_seedNow M_hasImage M_actsThen M_seenThen)), ((aM 5), .inl (cc 0, 14, .inl M_told)), ((aM 13), .inl (cc 0, 1400, .inl (upd M_signsSays (((700 : Int32) + (M_told (x2 : Int32).toNatClampNeg)) : Int32).toNatClampNeg x1))), ((aM 14), .inl (cc 0, 1400, .inl M_signsVotes))] _ := hP
  have hD : va_D A [(oM, .inr (9, mkX9 aM M_values M_code M_taped M_at M_size M_token M_number M_begins M_stops M_bad M_badPlace M_faultPlace M_ofVoting M_hour M_oil M_weight M_spider M_treasury M_joy M_passed M_acts M_seen M_never M_said M_hoarse M_fitMany M_seedNow M_hasImage M_actsThen M_seenThen)), ((aM 5), .inl (cc 0, 14, .inl M_told)), ((aM 13), .inl (cc 0, 1400, .inl (upd M_signsSays (((700 : Int32) + (M_told (x2 : Int32).toNatClampNeg)) : Int32).toNatClampNeg x1))), ((aM 14), .inl (cc 0, 1400, .inl M_signsVotes))] := hD
  refine lv_aload_n hx hb dX9_lay_57 rfl (lv_at hl 1 rfl) ?_
  refine va_get (D := (dC, dI)) (ci := 9) (v := .ref (aM 5)) (C := RX9) (T := TX9) (N := 63) hx hb hG kinX9 hown hK hP 0 rfl rfl 5 (by decide) (hG _ kfX9_50) (fun _ h9 => h9) rfl dX9_lay_58 ?_
  refine lv_iload_n hx hb dX9_lay_61 rfl (lv_at hl 3 rfl) ?_
  refine lv_dup2_11 hx hb dX9_lay_62 rfl rfl ?_
  refine ck_el hf (fun g6 hf => ?_)
  refine va_iald hx hb hK hP 1 0 rfl rfl (inb_in g6) dX9_lay_63 ?_
  refine lv_iconst (v := 1) hx hb dX9_lay_64 (by decide) ?_
  refine lv_iadd hx hb dX9_lay_65 ?_
  refine ck_el hf (fun g7 hf => ?_)
  refine va_iast hx hb hK hP hD hS 1 0 rfl rfl (inb_in g7) dX9_lay_66 (fun H locs hP hD hS => ?_)
  have hP : va_P (dC, dI) cLs [(oM, .inr (9, mkX9 aM M_values M_code M_taped M_at M_size M_token M_number M_begins M_stops M_bad M_badPlace M_faultPlace M_ofVoting M_hour M_oil M_weight M_spider M_treasury M_joy M_passed M_acts M_seen M_never M_said M_hoarse M_fitMany M_seedNow M_hasImage M_actsThen M_seenThen)), ((aM 5), .inl (cc 0, 14, .inl (upd M_told (x2 : Int32).toNatClampNeg ((M_told (x2 : Int32).toNatClampNeg) + (1 : Int32))))), ((aM 13), .inl (cc 0, 1400, .inl (upd M_signsSays (((700 : Int32) + (M_told (x2 : Int32).toNatClampNeg)) : Int32).toNatClampNeg x1))), ((aM 14), .inl (cc 0, 1400, .inl M_signsVotes))] _ := hP
  have hD : va_D A [(oM, .inr (9, mkX9 aM M_values M_code M_taped M_at M_size M_token M_number M_begins M_stops M_bad M_badPlace M_faultPlace M_ofVoting M_hour M_oil M_weight M_spider M_treasury M_joy M_passed M_acts M_seen M_never M_said M_hoarse M_fitMany M_seedNow M_hasImage M_actsThen M_seenThen)), ((aM 5), .inl (cc 0, 14, .inl (upd M_told (x2 : Int32).toNatClampNeg ((M_told (x2 : Int32).toNatClampNeg) + (1 : Int32))))), ((aM 13), .inl (cc 0, 1400, .inl (upd M_signsSays (((700 : Int32) + (M_told (x2 : Int32).toNatClampNeg)) : Int32).toNatClampNeg x1))), ((aM 14), .inl (cc 0, 1400, .inl M_signsVotes))] := hD
  obtain rfl := Option.some.inj hf
  exact retV C0 hP hD hS dX9_lay_67
def jX9_lay_43_2    (M_told : Nat → Int32) (M_signsSays : Nat → Int32) (M_signsVotes : Nat → Int32) (x1 : Int32) (x2 : Int32)  : Option ((Nat → Int32) × (Nat → Int32) × (Nat → Int32)) :=
  ck (inb x2 14) <|
  ck (inb ((700 : Int32) + (M_told (x2 : Int32).toNatClampNeg)) 1400) <|
  ck (inb x2 14) <|
  ck (inb x2 14) <|
  some ((upd M_told (x2 : Int32).toNatClampNeg ((M_told (x2 : Int32).toNatClampNeg) + (1 : Int32))), M_signsSays, (upd M_signsVotes (((700 : Int32) + (M_told (x2 : Int32).toNatClampNeg)) : Int32).toNatClampNeg x1))
set_option maxHeartbeats 4000000 in
set_option maxRecDepth 100000 in
theorem wjX9_lay_43_2 {p : Program} {l : Launch} {e : Env} {s : State} {m : MethodId} {args : Array Value} {below : List Frame} {meth : Method} {c : Code} {A : Nat → Prop} {dC : Nat → ClassId} {dI : Nat → Nat → Nat} {cc : Nat → ClassId} {ak : Nat → Nat} (C0 : CT p s m args meth c A dC dI cc ak cX9_lay 4 none RX9) (oM : Nat) (aM : Nat → Nat)  (M_values : Int32) (M_code : Int32) (M_taped : Int32) (M_at : Int32) (M_size : Int32) (M_token : Int32) (M_number : Int32) (M_begins : Int32) (M_stops : Int32) (M_bad : Int32) (M_badPlace : Int32) (M_faultPlace : Int32) (M_ofVoting : Int32) (M_hour : Int32) (M_oil : Int32) (M_weight : Int32) (M_spider : Int32) (M_treasury : Int32) (M_joy : Int32) (M_passed : Int32) (M_acts : Int32) (M_seen : Int32) (M_never : Int32) (M_said : Int32) (M_hoarse : Int32) (M_fitMany : Int32) (M_seedNow : Int32) (M_hasImage : Int32) (M_actsThen : Int32) (M_seenThen : Int32) (M_told : Nat → Int32) (M_signsSays : Nat → Int32) (M_signsVotes : Nat → Int32) (x1 : Int32) (x2 : Int32) {out : (Nat → Int32) × (Nat → Int32) × (Nat → Int32)}    (hf : jX9_lay_43_2  M_told M_signsSays M_signsVotes x1 x2  = some out) (H : Heap) (locs : List Loc) (hP : va_P (dC, dI) cLs [(oM, .inr (9, mkX9 aM M_values M_code M_taped M_at M_size M_token M_number M_begins M_stops M_bad M_badPlace M_faultPlace M_ofVoting M_hour M_oil M_weight M_spider M_treasury M_joy M_passed M_acts M_seen M_never M_said M_hoarse M_fitMany M_seedNow M_hasImage M_actsThen M_seenThen)), ((aM 5), .inl (cc 0, 14, .inl M_told)), ((aM 13), .inl (cc 0, 1400, .inl M_signsSays)), ((aM 14), .inl (cc 0, 1400, .inl M_signsVotes))] H) (hD : va_D A [(oM, .inr (9, mkX9 aM M_values M_code M_taped M_at M_size M_token M_number M_begins M_stops M_bad M_badPlace M_faultPlace M_ofVoting M_hour M_oil M_weight M_spider M_treasury M_joy M_passed M_acts M_seen M_never M_said M_hoarse M_fitMany M_seedNow M_hasImage M_actsThen M_seenThen)), ((aM 5), .inl (cc 0, 14, .inl M_told)), ((aM 13), .inl (cc 0, 1400, .inl M_signsSays)), ((aM 14), .inl (cc 0, 1400, .inl M_signsVotes))]) (hS : va_S A s.heap H locs) (ls : Array Slot) (hl : lv_has ls 4 [(0, .ref oM), (1, .int x1), (2, .int x2)]) : W p l e rmX9_lay s m args below meth c H locs 0 0 (MQ below (QV dC dI cc [(oM, .inr (9, mkX9 aM M_values M_code M_taped M_at M_size M_token M_number M_begins M_stops M_bad M_badPlace M_faultPlace M_ofVoting M_hour M_oil M_weight M_spider M_treasury M_joy M_passed M_acts M_seen M_never M_said M_hoarse M_fitMany M_seedNow M_hasImage M_actsThen M_seenThen)), ((aM 5), .inl (cc 0, 14, .inl out.1)), ((aM 13), .inl (cc 0, 1400, .inl out.2.1)), ((aM 14), .inl (cc 0, 1400, .inl out.2.2))] A) args s 0 0 A) (F0 m 43 ls [.ref (aM 14)]) := by
  obtain ⟨hx, hb, hml, hr, hlocks, hown, hG, hK, hA, hE⟩ := id C0
  unfold jX9_lay_43_2 at hf
  refine lv_astore_n (lv' := [(3, .ref (aM 14)), (0, .ref oM), (1, .int x1), (2, .int x2)]) hx hb dX9_lay_43 rfl hl (by decide) rfl (fun ls hl => ?_)
  refine lv_aload_n hx hb dX9_lay_44 rfl (lv_at hl 0 rfl) ?_
  refine lv_sipush (v := 700) hx hb dX9_lay_45 (by decide) ?_
  refine lv_aload_n hx hb dX9_lay_48 rfl (lv_at hl 1 rfl) ?_
  refine va_get (D := (dC, dI)) (ci := 9) (v := .ref (aM 5)) (C := RX9) (T := TX9) (N := 63) hx hb hG kinX9 hown hK hP 0 rfl rfl 5 (by decide) (hG _ kfX9_50) (fun _ h9 => h9) rfl dX9_lay_49 ?_
  refine lv_iload_n hx hb dX9_lay_52 rfl (lv_at hl 3 rfl) ?_
  refine ck_el hf (fun g8 hf => ?_)
  refine va_iald hx hb hK hP 1 0 rfl rfl (inb_in g8) dX9_lay_53 ?_
  refine lv_iadd hx hb dX9_lay_54 ?_
  refine lv_iload_n hx hb dX9_lay_55 rfl (lv_at hl 2 rfl) ?_
  refine ck_el hf (fun g9 hf => ?_)
  refine va_iast hx hb hK hP hD hS 3 0 rfl rfl (inb_in g9) dX9_lay_56 (fun H locs hP hD hS => ?_)
  have hP : va_P (dC, dI) cLs [(oM, .inr (9, mkX9 aM M_values M_code M_taped M_at M_size M_token M_number M_begins M_stops M_bad M_badPlace M_faultPlace M_ofVoting M_hour M_oil M_weight M_spider M_treasury M_joy M_passed M_acts M_seen M_never M_said M_hoarse M_fitMany M_seedNow M_hasImage M_actsThen M_seenThen)), ((aM 5), .inl (cc 0, 14, .inl M_told)), ((aM 13), .inl (cc 0, 1400, .inl M_signsSays)), ((aM 14), .inl (cc 0, 1400, .inl (upd M_signsVotes (((700 : Int32) + (M_told (x2 : Int32).toNatClampNeg)) : Int32).toNatClampNeg x1)))] _ := hP
  have hD : va_D A [(oM, .inr (9, mkX9 aM M_values M_code M_taped M_at M_size M_token M_number M_begins M_stops M_bad M_badPlace M_faultPlace M_ofVoting M_hour M_oil M_weight M_spider M_treasury M_joy M_passed M_acts M_seen M_never M_said M_hoarse M_fitMany M_seedNow M_hasImage M_actsThen M_seenThen)), ((aM 5), .inl (cc 0, 14, .inl M_told)), ((aM 13), .inl (cc 0, 1400, .inl M_signsSays)), ((aM 14), .inl (cc 0, 1400, .inl (upd M_signsVotes (((700 : Int32) + (M_told (x2 : Int32).toNatClampNeg)) : Int32).toNatClampNeg x1)))] := hD
  refine lv_aload_n hx hb dX9_lay_57 rfl (lv_at hl 1 rfl) ?_
  refine va_get (D := (dC, dI)) (ci := 9) (v := .ref (aM 5)) (C := RX9) (T := TX9) (N := 63) hx hb hG kinX9 hown hK hP 0 rfl rfl 5 (by decide) (hG _ kfX9_50) (fun _ h9 => h9) rfl dX9_lay_58 ?_
  refine lv_iload_n hx hb dX9_lay_61 rfl (lv_at hl 3 rfl) ?_
  refine lv_dup2_11 hx hb dX9_lay_62 rfl rfl ?_
  refine ck_el hf (fun g10 hf => ?_)
  refine va_iald hx hb hK hP 1 0 rfl rfl (inb_in g10) dX9_lay_63 ?_
  refine lv_iconst (v := 1) hx hb dX9_lay_64 (by decide) ?_
  refine lv_iadd hx hb dX9_lay_65 ?_
  refine ck_el hf (fun g11 hf => ?_)
  refine va_iast hx hb hK hP hD hS 1 0 rfl rfl (inb_in g11) dX9_lay_66 (fun H locs hP hD hS => ?_)
  have hP : va_P (dC, dI) cLs [(oM, .inr (9, mkX9 aM M_values M_code M_taped M_at M_size M_token M_number M_begins M_stops M_bad M_badPlace M_faultPlace M_ofVoting M_hour M_oil M_weight M_spider M_treasury M_joy M_passed M_acts M_seen M_never M_said M_hoarse M_fitMany M_seedNow M_hasImage M_actsThen M_seenThen)), ((aM 5), .inl (cc 0, 14, .inl (upd M_told (x2 : Int32).toNatClampNeg ((M_told (x2 : Int32).toNatClampNeg) + (1 : Int32))))), ((aM 13), .inl (cc 0, 1400, .inl M_signsSays)), ((aM 14), .inl (cc 0, 1400, .inl (upd M_signsVotes (((700 : Int32) + (M_told (x2 : Int32).toNatClampNeg)) : Int32).toNatClampNeg x1)))] _ := hP
  have hD : va_D A [(oM, .inr (9, mkX9 aM M_values M_code M_taped M_at M_size M_token M_number M_begins M_stops M_bad M_badPlace M_faultPlace M_ofVoting M_hour M_oil M_weight M_spider M_treasury M_joy M_passed M_acts M_seen M_never M_said M_hoarse M_fitMany M_seedNow M_hasImage M_actsThen M_seenThen)), ((aM 5), .inl (cc 0, 14, .inl (upd M_told (x2 : Int32).toNatClampNeg ((M_told (x2 : Int32).toNatClampNeg) + (1 : Int32))))), ((aM 13), .inl (cc 0, 1400, .inl M_signsSays)), ((aM 14), .inl (cc 0, 1400, .inl (upd M_signsVotes (((700 : Int32) + (M_told (x2 : Int32).toNatClampNeg)) : Int32).toNatClampNeg x1)))] := hD
  obtain rfl := Option.some.inj hf
  exact retV C0 hP hD hS dX9_lay_67
def jX9_lay_23    (M_ofVoting : Int32) (M_told : Nat → Int32) (M_signsSays : Nat → Int32) (M_signsVotes : Nat → Int32) (x1 : Int32) (s0 : Int32) (s1 : Int32) : Option ((Nat → Int32) × (Nat → Int32) × (Nat → Int32)) :=
  if M_ofVoting = 0 then
    jX9_lay_43 M_told M_signsSays M_signsVotes x1 (s0 + s1)
  else
    jX9_lay_43_2 M_told M_signsSays M_signsVotes x1 (s0 + s1)
set_option maxHeartbeats 4000000 in
set_option maxRecDepth 100000 in
theorem wjX9_lay_23 {p : Program} {l : Launch} {e : Env} {s : State} {m : MethodId} {args : Array Value} {below : List Frame} {meth : Method} {c : Code} {A : Nat → Prop} {dC : Nat → ClassId} {dI : Nat → Nat → Nat} {cc : Nat → ClassId} {ak : Nat → Nat} (C0 : CT p s m args meth c A dC dI cc ak cX9_lay 4 none RX9) (oM : Nat) (aM : Nat → Nat)  (M_values : Int32) (M_code : Int32) (M_taped : Int32) (M_at : Int32) (M_size : Int32) (M_token : Int32) (M_number : Int32) (M_begins : Int32) (M_stops : Int32) (M_bad : Int32) (M_badPlace : Int32) (M_faultPlace : Int32) (M_ofVoting : Int32) (M_hour : Int32) (M_oil : Int32) (M_weight : Int32) (M_spider : Int32) (M_treasury : Int32) (M_joy : Int32) (M_passed : Int32) (M_acts : Int32) (M_seen : Int32) (M_never : Int32) (M_said : Int32) (M_hoarse : Int32) (M_fitMany : Int32) (M_seedNow : Int32) (M_hasImage : Int32) (M_actsThen : Int32) (M_seenThen : Int32) (M_told : Nat → Int32) (M_signsSays : Nat → Int32) (M_signsVotes : Nat → Int32) (x1 : Int32) {out : (Nat → Int32) × (Nat → Int32) × (Nat → Int32)}   (s0 : Int32) (s1 : Int32) (hf : jX9_lay_23  M_ofVoting M_told M_signsSays M_signsVotes x1 s0 s1 = some out) (H : Heap) (locs : List Loc) (hP : va_P (dC, dI) cLs [(oM, .inr (9, mkX9 aM M_values M_code M_taped M_at M_size M_token M_number M_begins M_stops M_bad M_badPlace M_faultPlace M_ofVoting M_hour M_oil M_weight M_spider M_treasury M_joy M_passed M_acts M_seen M_never M_said M_hoarse M_fitMany M_seedNow M_hasImage M_actsThen M_seenThen)), ((aM 5), .inl (cc 0, 14, .inl M_told)), ((aM 13), .inl (cc 0, 1400, .inl M_signsSays)), ((aM 14), .inl (cc 0, 1400, .inl M_signsVotes))] H) (hD : va_D A [(oM, .inr (9, mkX9 aM M_values M_code M_taped M_at M_size M_token M_number M_begins M_stops M_bad M_badPlace M_faultPlace M_ofVoting M_hour M_oil M_weight M_spider M_treasury M_joy M_passed M_acts M_seen M_never M_said M_hoarse M_fitMany M_seedNow M_hasImage M_actsThen M_seenThen)), ((aM 5), .inl (cc 0, 14, .inl M_told)), ((aM 13), .inl (cc 0, 1400, .inl M_signsSays)), ((aM 14), .inl (cc 0, 1400, .inl M_signsVotes))]) (hS : va_S A s.heap H locs) (ls : Array Slot) (hl : lv_has ls 4 [(0, .ref oM), (1, .int x1)]) : W p l e rmX9_lay s m args below meth c H locs 0 0 (MQ below (QV dC dI cc [(oM, .inr (9, mkX9 aM M_values M_code M_taped M_at M_size M_token M_number M_begins M_stops M_bad M_badPlace M_faultPlace M_ofVoting M_hour M_oil M_weight M_spider M_treasury M_joy M_passed M_acts M_seen M_never M_said M_hoarse M_fitMany M_seedNow M_hasImage M_actsThen M_seenThen)), ((aM 5), .inl (cc 0, 14, .inl out.1)), ((aM 13), .inl (cc 0, 1400, .inl out.2.1)), ((aM 14), .inl (cc 0, 1400, .inl out.2.2))] A) args s 0 0 A) (F0 m 23 ls [.int s1, .int s0]) := by
  obtain ⟨hx, hb, hml, hr, hlocks, hown, hG, hK, hA, hE⟩ := id C0
  unfold jX9_lay_23 at hf
  refine lv_iadd hx hb dX9_lay_23 ?_
  refine lv_istore_n (lv' := [(2, .int (s0 + s1)), (0, .ref oM), (1, .int x1)]) hx hb dX9_lay_24 rfl hl (by decide) rfl (fun ls hl => ?_)
  refine lv_aload_n hx hb dX9_lay_25 rfl (lv_at hl 1 rfl) ?_
  refine va_get (D := (dC, dI)) (ci := 9) (v := .int M_ofVoting) (C := RX9) (T := TX9) (N := 63) hx hb hG kinX9 hown hK hP 0 rfl rfl 27 (by decide) (hG _ kfX9_235) (fun _ h9 => h9) rfl dX9_lay_26 ?_
  refine lv_if_eq (tgt := 39) hx hb dX9_lay_29 (by decide) (fun c3 => ?_) (fun c3 => ?_)
  · have hf := ift c3 hf
    refine lv_aload_n hx hb dX9_lay_39 rfl (lv_at hl 1 rfl) ?_
    refine va_get (D := (dC, dI)) (ci := 9) (v := .ref (aM 13)) (C := RX9) (T := TX9) (N := 63) hx hb hG kinX9 hown hK hP 0 rfl rfl 13 (by decide) (hG _ kfX9_73) (fun _ h9 => h9) rfl dX9_lay_40 ?_
    exact wjX9_lay_43 C0 oM aM M_values M_code M_taped M_at M_size M_token M_number M_begins M_stops M_bad M_badPlace M_faultPlace M_ofVoting M_hour M_oil M_weight M_spider M_treasury M_joy M_passed M_acts M_seen M_never M_said M_hoarse M_fitMany M_seedNow M_hasImage M_actsThen M_seenThen M_told M_signsSays M_signsVotes x1 (s0 + s1)    hf _ _ hP hD hS _ (lv_sub hl [1, 2, 0] rfl)
  · have hf := iff_ c3 hf
    refine lv_aload_n hx hb dX9_lay_32 rfl (lv_at hl 1 rfl) ?_
    refine va_get (D := (dC, dI)) (ci := 9) (v := .ref (aM 14)) (C := RX9) (T := TX9) (N := 63) hx hb hG kinX9 hown hK hP 0 rfl rfl 14 (by decide) (hG _ kfX9_76) (fun _ h9 => h9) rfl dX9_lay_33 ?_
    refine lv_goto (tgt := 43) hx hb dX9_lay_36 (by decide) ?_
    exact wjX9_lay_43_2 C0 oM aM M_values M_code M_taped M_at M_size M_token M_number M_begins M_stops M_bad M_badPlace M_faultPlace M_ofVoting M_hour M_oil M_weight M_spider M_treasury M_joy M_passed M_acts M_seen M_never M_said M_hoarse M_fitMany M_seedNow M_hasImage M_actsThen M_seenThen M_told M_signsSays M_signsVotes x1 (s0 + s1)    hf _ _ hP hD hS _ (lv_sub hl [1, 2, 0] rfl)
def fX9_lay   (M_bad : Int32) (M_ofVoting : Int32) (M_told : Nat → Int32) (M_signsSays : Nat → Int32) (M_signsVotes : Nat → Int32) (p0 : Int32) : Option ((Nat → Int32) × (Nat → Int32) × (Nat → Int32)) :=
  if M_bad = 0 then
    if M_ofVoting = 0 then
      jX9_lay_23 M_ofVoting M_told M_signsSays M_signsVotes p0 7 5
    else
      jX9_lay_23 M_ofVoting M_told M_signsSays M_signsVotes p0 7 6
  else
    some (M_told, M_signsSays, M_signsVotes)
set_option maxHeartbeats 4000000 in
set_option maxRecDepth 100000 in
theorem bX9_lay {p : Program} {l : Launch} {e : Env} {s : State} {m : MethodId} {args : Array Value} {below : List Frame} {meth : Method} {c : Code} {A : Nat → Prop} {dC : Nat → ClassId} {dI : Nat → Nat → Nat} {cc : Nat → ClassId} {ak : Nat → Nat} (C0 : CT p s m args meth c A dC dI cc ak cX9_lay 4 none RX9) (oM : Nat) (aM : Nat → Nat)  (M_values : Int32) (M_code : Int32) (M_taped : Int32) (M_at : Int32) (M_size : Int32) (M_token : Int32) (M_number : Int32) (M_begins : Int32) (M_stops : Int32) (M_bad : Int32) (M_badPlace : Int32) (M_faultPlace : Int32) (M_ofVoting : Int32) (M_hour : Int32) (M_oil : Int32) (M_weight : Int32) (M_spider : Int32) (M_treasury : Int32) (M_joy : Int32) (M_passed : Int32) (M_acts : Int32) (M_seen : Int32) (M_never : Int32) (M_said : Int32) (M_hoarse : Int32) (M_fitMany : Int32) (M_seedNow : Int32) (M_hasImage : Int32) (M_actsThen : Int32) (M_seenThen : Int32) (M_told : Nat → Int32) (M_signsSays : Nat → Int32) (M_signsVotes : Nat → Int32) (p0 : Int32) {out : (Nat → Int32) × (Nat → Int32) × (Nat → Int32)} (hf : fX9_lay M_bad M_ofVoting M_told M_signsSays M_signsVotes p0 = some out) {H : Heap} {locs : List Loc} (hP : va_P (dC, dI) cLs [(oM, .inr (9, mkX9 aM M_values M_code M_taped M_at M_size M_token M_number M_begins M_stops M_bad M_badPlace M_faultPlace M_ofVoting M_hour M_oil M_weight M_spider M_treasury M_joy M_passed M_acts M_seen M_never M_said M_hoarse M_fitMany M_seedNow M_hasImage M_actsThen M_seenThen)), ((aM 5), .inl (cc 0, 14, .inl M_told)), ((aM 13), .inl (cc 0, 1400, .inl M_signsSays)), ((aM 14), .inl (cc 0, 1400, .inl M_signsVotes))] H) (hD : va_D A [(oM, .inr (9, mkX9 aM M_values M_code M_taped M_at M_size M_token M_number M_begins M_stops M_bad M_badPlace M_faultPlace M_ofVoting M_hour M_oil M_weight M_spider M_treasury M_joy M_passed M_acts M_seen M_never M_said M_hoarse M_fitMany M_seedNow M_hasImage M_actsThen M_seenThen)), ((aM 5), .inl (cc 0, 14, .inl M_told)), ((aM 13), .inl (cc 0, 1400, .inl M_signsSays)), ((aM 14), .inl (cc 0, 1400, .inl M_signsVotes))]) (hS : va_S A s.heap H locs) {ls : Array Slot} (hl : lv_has ls 4 [(0, .ref oM), (1, .int p0)]) : W p l e rmX9_lay s m args below meth c H locs 0 0 (MQ below (QV dC dI cc [(oM, .inr (9, mkX9 aM M_values M_code M_taped M_at M_size M_token M_number M_begins M_stops M_bad M_badPlace M_faultPlace M_ofVoting M_hour M_oil M_weight M_spider M_treasury M_joy M_passed M_acts M_seen M_never M_said M_hoarse M_fitMany M_seedNow M_hasImage M_actsThen M_seenThen)), ((aM 5), .inl (cc 0, 14, .inl out.1)), ((aM 13), .inl (cc 0, 1400, .inl out.2.1)), ((aM 14), .inl (cc 0, 1400, .inl out.2.2))] A) args s 0 0 A) (F0 m 0 ls []) := by
  obtain ⟨hx, hb, hml, hr, hlocks, hown, hG, hK, hA, hE⟩ := id C0
  unfold fX9_lay at hf
  refine lv_aload_n hx hb dX9_lay_0 rfl (lv_at hl 0 rfl) ?_
  refine va_get (D := (dC, dI)) (ci := 9) (v := .int M_bad) (C := RX9) (T := TX9) (N := 63) hx hb hG kinX9 hown hK hP 0 rfl rfl 24 (by decide) (hG _ kfX9_201) (fun _ h9 => h9) rfl dX9_lay_1 ?_
  refine lv_if_eq (tgt := 8) hx hb dX9_lay_4 (by decide) (fun c1 => ?_) (fun c1 => ?_)
  · have hf := ift c1 hf
    refine lv_bipush (v := 7) hx hb dX9_lay_8 (by decide) ?_
    refine lv_aload_n hx hb dX9_lay_10 rfl (lv_at hl 0 rfl) ?_
    refine va_get (D := (dC, dI)) (ci := 9) (v := .int M_ofVoting) (C := RX9) (T := TX9) (N := 63) hx hb hG kinX9 hown hK hP 0 rfl rfl 27 (by decide) (hG _ kfX9_235) (fun _ h9 => h9) rfl dX9_lay_11 ?_
    refine lv_if_eq (tgt := 22) hx hb dX9_lay_14 (by decide) (fun c2 => ?_) (fun c2 => ?_)
    · have hf := ift c2 hf
      refine lv_iconst (v := 5) hx hb dX9_lay_22 (by decide) ?_
      exact wjX9_lay_23 C0 oM aM M_values M_code M_taped M_at M_size M_token M_number M_begins M_stops M_bad M_badPlace M_faultPlace M_ofVoting M_hour M_oil M_weight M_spider M_treasury M_joy M_passed M_acts M_seen M_never M_said M_hoarse M_fitMany M_seedNow M_hasImage M_actsThen M_seenThen M_told M_signsSays M_signsVotes p0   7 5 hf _ _ hP hD hS _ (lv_sub hl [0, 1] rfl)
    · have hf := iff_ c2 hf
      refine lv_bipush (v := 6) hx hb dX9_lay_17 (by decide) ?_
      refine lv_goto (tgt := 23) hx hb dX9_lay_19 (by decide) ?_
      exact wjX9_lay_23 C0 oM aM M_values M_code M_taped M_at M_size M_token M_number M_begins M_stops M_bad M_badPlace M_faultPlace M_ofVoting M_hour M_oil M_weight M_spider M_treasury M_joy M_passed M_acts M_seen M_never M_said M_hoarse M_fitMany M_seedNow M_hasImage M_actsThen M_seenThen M_told M_signsSays M_signsVotes p0   7 6 hf _ _ hP hD hS _ (lv_sub hl [0, 1] rfl)
  · have hf := iff_ c1 hf
    obtain rfl := Option.some.inj hf
    exact retV C0 hP hD hS dX9_lay_7
theorem mX9_lay (l : Launch) (dC : Nat → ClassId) (dI : Nat → Nat → Nat) (cc : Nat → ClassId) (ak : Nat → Nat) (oM : Nat) (aM : Nat → Nat) (sz : Nat)  (M_values : Int32) (M_code : Int32) (M_taped : Int32) (M_at : Int32) (M_size : Int32) (M_token : Int32) (M_number : Int32) (M_begins : Int32) (M_stops : Int32) (M_bad : Int32) (M_badPlace : Int32) (M_faultPlace : Int32) (M_ofVoting : Int32) (M_hour : Int32) (M_oil : Int32) (M_weight : Int32) (M_spider : Int32) (M_treasury : Int32) (M_joy : Int32) (M_passed : Int32) (M_acts : Int32) (M_seen : Int32) (M_never : Int32) (M_said : Int32) (M_hoarse : Int32) (M_fitMany : Int32) (M_seedNow : Int32) (M_hasImage : Int32) (M_actsThen : Int32) (M_seenThen : Int32) (M_told : Nat → Int32) (M_signsSays : Nat → Int32) (M_signsVotes : Nat → Int32) (p0 : Int32) {out : (Nat → Int32) × (Nat → Int32) × (Nat → Int32)} (hf : fX9_lay M_bad M_ofVoting M_told M_signsSays M_signsVotes p0 = some out) : Met l yX9_lay (Cond.code yX9_lay cX9_lay 4 none :: GW) rmX9_lay (PI dC dI cc ak [.ref oM, .int p0] [(oM, .inr (9, mkX9 aM M_values M_code M_taped M_at M_size M_token M_number M_begins M_stops M_bad M_badPlace M_faultPlace M_ofVoting M_hour M_oil M_weight M_spider M_treasury M_joy M_passed M_acts M_seen M_never M_said M_hoarse M_fitMany M_seedNow M_hasImage M_actsThen M_seenThen)), ((aM 5), .inl (cc 0, 14, .inl M_told)), ((aM 13), .inl (cc 0, 1400, .inl M_signsSays)), ((aM 14), .inl (cc 0, 1400, .inl M_signsVotes))] sz) (QV dC dI cc [(oM, .inr (9, mkX9 aM M_values M_code M_taped M_at M_size M_token M_number M_begins M_stops M_bad M_badPlace M_faultPlace M_ofVoting M_hour M_oil M_weight M_spider M_treasury M_joy M_passed M_acts M_seen M_never M_said M_hoarse M_fitMany M_seedNow M_hasImage M_actsThen M_seenThen)), ((aM 5), .inl (cc 0, 14, .inl out.1)), ((aM 13), .inl (cc 0, 1400, .inl out.2.1)), ((aM 14), .inl (cc 0, 1400, .inl out.2.2))] (va_A [(oM, .inr (9, mkX9 aM M_values M_code M_taped M_at M_size M_token M_number M_begins M_stops M_bad M_badPlace M_faultPlace M_ofVoting M_hour M_oil M_weight M_spider M_treasury M_joy M_passed M_acts M_seen M_never M_said M_hoarse M_fitMany M_seedNow M_hasImage M_actsThen M_seenThen)), ((aM 5), .inl (cc 0, 14, .inl M_told)), ((aM 13), .inl (cc 0, 1400, .inl M_signsSays)), ((aM 14), .inl (cc 0, 1400, .inl M_signsVotes))] sz)) 0 0 (va_A [(oM, .inr (9, mkX9 aM M_values M_code M_taped M_at M_size M_token M_number M_begins M_stops M_bad M_badPlace M_faultPlace M_ofVoting M_hour M_oil M_weight M_spider M_treasury M_joy M_passed M_acts M_seen M_never M_said M_hoarse M_fitMany M_seedNow M_hasImage M_actsThen M_seenThen)), ((aM 5), .inl (cc 0, 14, .inl M_told)), ((aM 13), .inl (cc 0, 1400, .inl M_signsSays)), ((aM 14), .inl (cc 0, 1400, .inl M_signsVotes))] sz) :=
  met_of (Q := fun A => QV dC dI cc [(oM, .inr (9, mkX9 aM M_values M_code M_taped M_at M_size M_token M_number M_begins M_stops M_bad M_badPlace M_faultPlace M_ofVoting M_hour M_oil M_weight M_spider M_treasury M_joy M_passed M_acts M_seen M_never M_said M_hoarse M_fitMany M_seedNow M_hasImage M_actsThen M_seenThen)), ((aM 5), .inl (cc 0, 14, .inl out.1)), ((aM 13), .inl (cc 0, 1400, .inl out.2.1)), ((aM 14), .inl (cc 0, 1400, .inl out.2.2))] A) (by decide) rfl (Nat.le_of_ble_eq_true rfl) (fun p e s m below meth c A C0 hP hD hS ls hl => bX9_lay C0 oM aM M_values M_code M_taped M_at M_size M_token M_number M_begins M_stops M_bad M_badPlace M_faultPlace M_ofVoting M_hour M_oil M_weight M_spider M_treasury M_joy M_passed M_acts M_seen M_never M_said M_hoarse M_fitMany M_seedNow M_hasImage M_actsThen M_seenThen M_told M_signsSays M_signsVotes p0 hf hP hD hS hl)
abbrev rmX9_is : Room := { frames := 4, cells := 0, slots := 0, locals := 85 }
def lX9_is_39  (ke39_82 : Int32 → Option (Int32)) (i1 : Nat) (M_begins : Int32) (M_tape : Nat → Int32) : Nat → Int32 → Int32 → Option (Int32)
  | 0, _, _ => none
  | n+1, x2, x3 =>
    ck (i33 i1) <|
    if x2 = 0 then
      ke39_82 x2
    else
      (fJ0_length_8abf5  i1).bind fun v4 =>
      if v4 ≤ x3 then
        ke39_82 x2
      else
        (fJ0_charAt_5068e  i1 x3).bind fun v7 =>
        ck (inb (M_begins + x3) 700) <|
        if v7 = (M_tape ((M_begins + x3) : Int32).toNatClampNeg) then
          lX9_is_39 ke39_82 i1 M_begins M_tape n 1 (x3 + 1)
        else
          lX9_is_39 ke39_82 i1 M_begins M_tape n 0 (x3 + 1)
set_option maxHeartbeats 4000000 in
set_option maxRecDepth 100000 in
theorem wlX9_is_39 {p : Program} {l : Launch} {e : Env} {s : State} {m : MethodId} {args : Array Value} {below : List Frame} {meth : Method} {c : Code} {A : Nat → Prop} {dC : Nat → ClassId} {dI : Nat → Nat → Nat} {cc : Nat → ClassId} {ak : Nat → Nat} (C0 : CT p s m args meth c A dC dI cc ak cX9_is 4 (some .boolean) RX9) (oM : Nat) (aM : Nat → Nat) (i1 : Nat)  (M_values : Int32) (M_code : Int32) (M_taped : Int32) (M_at : Int32) (M_size : Int32) (M_token : Int32) (M_number : Int32) (M_begins : Int32) (M_stops : Int32) (M_bad : Int32) (M_badPlace : Int32) (M_faultPlace : Int32) (M_ofVoting : Int32) (M_hour : Int32) (M_oil : Int32) (M_weight : Int32) (M_spider : Int32) (M_treasury : Int32) (M_joy : Int32) (M_passed : Int32) (M_acts : Int32) (M_seen : Int32) (M_never : Int32) (M_said : Int32) (M_hoarse : Int32) (M_fitMany : Int32) (M_seedNow : Int32) (M_hasImage : Int32) (M_actsThen : Int32) (M_seenThen : Int32) (M_tape : Nat → Int32)  {out : Int32} (ke39_82 : Int32 → Option (Int32)) (hke39_82 : ∀ (x2' : Int32), ke39_82 x2' = some out → ∀ (H : Heap) (locs : List Loc), va_P (dC, dI) cLs [(oM, .inr (9, mkX9 aM M_values M_code M_taped M_at M_size M_token M_number M_begins M_stops M_bad M_badPlace M_faultPlace M_ofVoting M_hour M_oil M_weight M_spider M_treasury M_joy M_passed M_acts M_seen M_never M_said M_hoarse M_fitMany M_seedNow M_hasImage M_actsThen M_seenThen)), ((aM 16), .inl (cc 0, 700, .inl M_tape))] H → va_D A [(oM, .inr (9, mkX9 aM M_values M_code M_taped M_at M_size M_token M_number M_begins M_stops M_bad M_badPlace M_faultPlace M_ofVoting M_hour M_oil M_weight M_spider M_treasury M_joy M_passed M_acts M_seen M_never M_said M_hoarse M_fitMany M_seedNow M_hasImage M_actsThen M_seenThen)), ((aM 16), .inl (cc 0, 700, .inl M_tape))] → va_S A s.heap H locs → ∀ ls : Array Slot, lv_has ls 4 [(2, .int x2')] → W p l e rmX9_is s m args below meth c H locs 0 0 (MQ below (QI dC dI cc out [(oM, .inr (9, mkX9 aM M_values M_code M_taped M_at M_size M_token M_number M_begins M_stops M_bad M_badPlace M_faultPlace M_ofVoting M_hour M_oil M_weight M_spider M_treasury M_joy M_passed M_acts M_seen M_never M_said M_hoarse M_fitMany M_seedNow M_hasImage M_actsThen M_seenThen)), ((aM 16), .inl (cc 0, 700, .inl M_tape))] A) args s 0 0 A) (F0 m 82 ls [])) : ∀ (n : Nat) (x2 : Int32) (x3 : Int32) (hf : lX9_is_39 ke39_82 i1 M_begins M_tape n x2 x3 = some out) (H : Heap) (locs : List Loc) (hP : va_P (dC, dI) cLs [(oM, .inr (9, mkX9 aM M_values M_code M_taped M_at M_size M_token M_number M_begins M_stops M_bad M_badPlace M_faultPlace M_ofVoting M_hour M_oil M_weight M_spider M_treasury M_joy M_passed M_acts M_seen M_never M_said M_hoarse M_fitMany M_seedNow M_hasImage M_actsThen M_seenThen)), ((aM 16), .inl (cc 0, 700, .inl M_tape))] H) (hD : va_D A [(oM, .inr (9, mkX9 aM M_values M_code M_taped M_at M_size M_token M_number M_begins M_stops M_bad M_badPlace M_faultPlace M_ofVoting M_hour M_oil M_weight M_spider M_treasury M_joy M_passed M_acts M_seen M_never M_said M_hoarse M_fitMany M_seedNow M_hasImage M_actsThen M_seenThen)), ((aM 16), .inl (cc 0, 700, .inl M_tape))]) (hS : va_S A s.heap H locs) (ls : Array Slot) (hl : lv_has ls 4 [(0, .ref oM), (1, .ref (ak i1)), (2, .int x2), (3, .int x3)]), W p l e rmX9_is s m args below meth c H locs 0 0 (MQ below (QI dC dI cc out [(oM, .inr (9, mkX9 aM M_values M_code M_taped M_at M_size M_token M_number M_begins M_stops M_bad M_badPlace M_faultPlace M_ofVoting M_hour M_oil M_weight M_spider M_treasury M_joy M_passed M_acts M_seen M_never M_said M_hoarse M_fitMany M_seedNow M_hasImage M_actsThen M_seenThen)), ((aM 16), .inl (cc 0, 700, .inl M_tape))] A) args s 0 0 A) (F0 m 39 ls []) := by
  obtain ⟨hx, hb, hml, hr, hlocks, hown, hG, hK, hA, hE⟩ := id C0
  intro n
  induction n with
  | zero => intro x2 x3 hf; cases hf
  | succ n ih =>
    intro x2 x3 hf H locs hP hD hS ls hl
    unfold lX9_is_39 at hf
    refine ck_el hf (fun g33i1 hf => ?_)
    refine lv_iload_n hx hb dX9_is_39 rfl (lv_at hl 2 rfl) ?_
    refine lv_if_eq (tgt := 82) hx hb dX9_is_40 (by decide) (fun c2 => ?_) (fun c2 => ?_)
    · have hf := ift c2 hf
      exact hke39_82 x2 hf _ _ hP hD hS _ (lv_sub hl [2] rfl)
    · have hf := iff_ c2 hf
      refine lv_iload_n hx hb dX9_is_43 rfl (lv_at hl 3 rfl) ?_
      refine lv_aload_n hx hb dX9_is_44 rfl (lv_at hl 1 rfl) ?_
      refine bd_el hf (fun v4 hv4 hf => ?_)
      refine callVi (As := []) (rest := [.int x3]) (wr := [(oM, .inr (9, mkX9 aM M_values M_code M_taped M_at M_size M_token M_number M_begins M_stops M_bad M_badPlace M_faultPlace M_ofVoting M_hour M_oil M_weight M_spider M_treasury M_joy M_passed M_acts M_seen M_never M_said M_hoarse M_fitMany M_seedNow M_hasImage M_actsThen M_seenThen)), ((aM 16), .inl (cc 0, 700, .inl M_tape))]) (wn := [(oM, .inr (9, mkX9 aM M_values M_code M_taped M_at M_size M_token M_number M_begins M_stops M_bad M_badPlace M_faultPlace M_ofVoting M_hour M_oil M_weight M_spider M_treasury M_joy M_passed M_acts M_seen M_never M_said M_hoarse M_fitMany M_seedNow M_hasImage M_actsThen M_seenThen)), ((aM 16), .inl (cc 0, 700, .inl M_tape))]) C0 kvJ0_length_8abf5 kmX9_207 hP hD hS (mJ0_length_8abf5 l dC dI cc ak i1 _   hv4) ⟨rfl, rfl⟩ ⟨Nat.le_of_ble_eq_true rfl, Nat.le_of_ble_eq_true rfl⟩ [] [0, 1] [0, 1] rfl rfl rfl rfl (hE.recv hS (i33_lt g33i1)) rfl hl.1 rfl (Nat.le_of_ble_eq_true rfl) ⟨Nat.zero_le _, Nat.zero_le _⟩ dX9_is_45 (fun H locs hP hD hS => ?_)
      refine lv_icmp_ge (tgt := 82) hx hb dX9_is_48 (by decide) (fun c5 => ?_) (fun c5 => ?_)
      · have hf := ift c5 hf
        exact hke39_82 x2 hf _ _ hP hD hS _ (lv_sub hl [2] rfl)
      · have hf := iff_ c5 hf
        refine lv_aload_n hx hb dX9_is_51 rfl (lv_at hl 1 rfl) ?_
        refine lv_iload_n hx hb dX9_is_52 rfl (lv_at hl 3 rfl) ?_
        refine bd_el hf (fun v7 hv7 hf => ?_)
        refine callVi (As := [.int x3]) (rest := []) (wr := [(oM, .inr (9, mkX9 aM M_values M_code M_taped M_at M_size M_token M_number M_begins M_stops M_bad M_badPlace M_faultPlace M_ofVoting M_hour M_oil M_weight M_spider M_treasury M_joy M_passed M_acts M_seen M_never M_said M_hoarse M_fitMany M_seedNow M_hasImage M_actsThen M_seenThen)), ((aM 16), .inl (cc 0, 700, .inl M_tape))]) (wn := [(oM, .inr (9, mkX9 aM M_values M_code M_taped M_at M_size M_token M_number M_begins M_stops M_bad M_badPlace M_faultPlace M_ofVoting M_hour M_oil M_weight M_spider M_treasury M_joy M_passed M_acts M_seen M_never M_said M_hoarse M_fitMany M_seedNow M_hasImage M_actsThen M_seenThen)), ((aM 16), .inl (cc 0, 700, .inl M_tape))]) C0 kvJ0_charAt_5068e kmX9_211 hP hD hS (mJ0_charAt_5068e l dC dI cc ak i1 _  x3 hv7) ⟨rfl, rfl⟩ ⟨Nat.le_of_ble_eq_true rfl, Nat.le_of_ble_eq_true rfl⟩ [] [0, 1] [0, 1] rfl rfl rfl rfl (hE.recv hS (i33_lt g33i1)) rfl hl.1 rfl (Nat.le_of_ble_eq_true rfl) ⟨Nat.zero_le _, Nat.zero_le _⟩ dX9_is_53 (fun H locs hP hD hS => ?_)
        refine lv_aload_n hx hb dX9_is_56 rfl (lv_at hl 0 rfl) ?_
        refine va_get (D := (dC, dI)) (ci := 9) (v := .ref (aM 16)) (C := RX9) (T := TX9) (N := 63) hx hb hG kinX9 hown hK hP 0 rfl rfl 16 (by decide) (hG _ kfX9_82) (fun _ h9 => h9) rfl dX9_is_57 ?_
        refine lv_aload_n hx hb dX9_is_60 rfl (lv_at hl 0 rfl) ?_
        refine va_get (D := (dC, dI)) (ci := 9) (v := .int M_begins) (C := RX9) (T := TX9) (N := 63) hx hb hG kinX9 hown hK hP 0 rfl rfl 22 (by decide) (hG _ kfX9_172) (fun _ h9 => h9) rfl dX9_is_61 ?_
        refine lv_iload_n hx hb dX9_is_64 rfl (lv_at hl 3 rfl) ?_
        refine lv_iadd hx hb dX9_is_65 ?_
        refine ck_el hf (fun g8 hf => ?_)
        refine va_iald hx hb hK hP 1 0 rfl rfl (inb_in g8) dX9_is_66 ?_
        refine lv_icmp_ne (tgt := 74) hx hb dX9_is_67 (by decide) (fun c9 => ?_) (fun c9 => ?_)
        · have hf := iff_ c9 hf
          refine lv_iconst (v := 0) hx hb dX9_is_74 (by decide) ?_
          refine lv_istore_n (lv' := [(2, .int 0), (0, .ref oM), (1, .ref (ak i1)), (3, .int x3)]) hx hb dX9_is_75 rfl hl (by decide) rfl (fun ls hl => ?_)
          refine lv_iinc (v := (x3 + 1)) (lv' := [(3, .int (x3 + 1)), (2, .int 0), (0, .ref oM), (1, .ref (ak i1))]) hx hb dX9_is_76 hl (k := 3) rfl rfl (by decide) rfl (fun ls hl => ?_)
          refine lv_goto (tgt := 39) hx hb dX9_is_79 (by decide) ?_
          exact ih 0 (x3 + 1) hf _ _ hP hD hS _ (lv_sub hl [2, 3, 1, 0] rfl)
        · have hf := ift c9 hf
          refine lv_iconst (v := 1) hx hb dX9_is_70 (by decide) ?_
          refine lv_goto (tgt := 75) hx hb dX9_is_71 (by decide) ?_
          refine lv_istore_n (lv' := [(2, .int 1), (0, .ref oM), (1, .ref (ak i1)), (3, .int x3)]) hx hb dX9_is_75 rfl hl (by decide) rfl (fun ls hl => ?_)
          refine lv_iinc (v := (x3 + 1)) (lv' := [(3, .int (x3 + 1)), (2, .int 1), (0, .ref oM), (1, .ref (ak i1))]) hx hb dX9_is_76 hl (k := 3) rfl rfl (by decide) rfl (fun ls hl => ?_)
          refine lv_goto (tgt := 39) hx hb dX9_is_79 (by decide) ?_
          exact ih 1 (x3 + 1) hf _ _ hP hD hS _ (lv_sub hl [2, 3, 1, 0] rfl)
def jX9_is_36   (i1 : Nat) (M_begins : Int32) (M_tape : Nat → Int32) (s0 : Int32) : Option (Int32) :=
  ck (i33 i1) <|
  lX9_is_39 (fun (x2_10 : Int32) =>
    ck (isb x2_10) <|
    some x2_10) i1 M_begins M_tape FU s0 0
set_option maxHeartbeats 4000000 in
set_option maxRecDepth 100000 in
theorem wjX9_is_36 {p : Program} {l : Launch} {e : Env} {s : State} {m : MethodId} {args : Array Value} {below : List Frame} {meth : Method} {c : Code} {A : Nat → Prop} {dC : Nat → ClassId} {dI : Nat → Nat → Nat} {cc : Nat → ClassId} {ak : Nat → Nat} (C0 : CT p s m args meth c A dC dI cc ak cX9_is 4 (some .boolean) RX9) (oM : Nat) (aM : Nat → Nat) (i1 : Nat)  (M_values : Int32) (M_code : Int32) (M_taped : Int32) (M_at : Int32) (M_size : Int32) (M_token : Int32) (M_number : Int32) (M_begins : Int32) (M_stops : Int32) (M_bad : Int32) (M_badPlace : Int32) (M_faultPlace : Int32) (M_ofVoting : Int32) (M_hour : Int32) (M_oil : Int32) (M_weight : Int32) (M_spider : Int32) (M_treasury : Int32) (M_joy : Int32) (M_passed : Int32) (M_acts : Int32) (M_seen : Int32) (M_never : Int32) (M_said : Int32) (M_hoarse : Int32) (M_fitMany : Int32) (M_seedNow : Int32) (M_hasImage : Int32) (M_actsThen : Int32) (M_seenThen : Int32) (M_tape : Nat → Int32)  {out : Int32}   (s0 : Int32) (hf : jX9_is_36  i1 M_begins M_tape s0 = some out) (H : Heap) (locs : List Loc) (hP : va_P (dC, dI) cLs [(oM, .inr (9, mkX9 aM M_values M_code M_taped M_at M_size M_token M_number M_begins M_stops M_bad M_badPlace M_faultPlace M_ofVoting M_hour M_oil M_weight M_spider M_treasury M_joy M_passed M_acts M_seen M_never M_said M_hoarse M_fitMany M_seedNow M_hasImage M_actsThen M_seenThen)), ((aM 16), .inl (cc 0, 700, .inl M_tape))] H) (hD : va_D A [(oM, .inr (9, mkX9 aM M_values M_code M_taped M_at M_size M_token M_number M_begins M_stops M_bad M_badPlace M_faultPlace M_ofVoting M_hour M_oil M_weight M_spider M_treasury M_joy M_passed M_acts M_seen M_never M_said M_hoarse M_fitMany M_seedNow M_hasImage M_actsThen M_seenThen)), ((aM 16), .inl (cc 0, 700, .inl M_tape))]) (hS : va_S A s.heap H locs) (ls : Array Slot) (hl : lv_has ls 4 [(0, .ref oM), (1, .ref (ak i1))]) : W p l e rmX9_is s m args below meth c H locs 0 0 (MQ below (QI dC dI cc out [(oM, .inr (9, mkX9 aM M_values M_code M_taped M_at M_size M_token M_number M_begins M_stops M_bad M_badPlace M_faultPlace M_ofVoting M_hour M_oil M_weight M_spider M_treasury M_joy M_passed M_acts M_seen M_never M_said M_hoarse M_fitMany M_seedNow M_hasImage M_actsThen M_seenThen)), ((aM 16), .inl (cc 0, 700, .inl M_tape))] A) args s 0 0 A) (F0 m 36 ls [.int s0]) := by
  obtain ⟨hx, hb, hml, hr, hlocks, hown, hG, hK, hA, hE⟩ := id C0
  unfold jX9_is_36 at hf
  refine ck_el hf (fun g33i1 hf => ?_)
  refine lv_istore_n (lv' := [(2, .int s0), (0, .ref oM), (1, .ref (ak i1))]) hx hb dX9_is_36 rfl hl (by decide) rfl (fun ls hl => ?_)
  refine lv_iconst (v := 0) hx hb dX9_is_37 (by decide) ?_
  refine lv_istore_n (lv' := [(3, .int 0), (2, .int s0), (0, .ref oM), (1, .ref (ak i1))]) hx hb dX9_is_38 rfl hl (by decide) rfl (fun ls hl => ?_)
  refine wlX9_is_39 C0 oM aM i1 M_values M_code M_taped M_at M_size M_token M_number M_begins M_stops M_bad M_badPlace M_faultPlace M_ofVoting M_hour M_oil M_weight M_spider M_treasury M_joy M_passed M_acts M_seen M_never M_said M_hoarse M_fitMany M_seedNow M_hasImage M_actsThen M_seenThen M_tape _ ?_ FU s0 0 hf _ _ hP hD hS _ (lv_sub hl [2, 3, 1, 0] rfl)
  · intro x2_10 hf H locs hP hD hS ls hl
    refine lv_iload_n hx hb dX9_is_82 rfl (lv_at hl 0 rfl) ?_
    refine ck_el hf (fun g11 hf => ?_)
    obtain rfl := Option.some.inj hf
    exact retZ C0 hP hD hS (isb_n g11) rfl dX9_is_83
def jX9_is_35   (i1 : Nat) (M_begins : Int32) (M_tape : Nat → Int32)  : Option (Int32) :=
  ck (i33 i1) <|
  jX9_is_36 i1 M_begins M_tape 0
set_option maxHeartbeats 4000000 in
set_option maxRecDepth 100000 in
theorem wjX9_is_35 {p : Program} {l : Launch} {e : Env} {s : State} {m : MethodId} {args : Array Value} {below : List Frame} {meth : Method} {c : Code} {A : Nat → Prop} {dC : Nat → ClassId} {dI : Nat → Nat → Nat} {cc : Nat → ClassId} {ak : Nat → Nat} (C0 : CT p s m args meth c A dC dI cc ak cX9_is 4 (some .boolean) RX9) (oM : Nat) (aM : Nat → Nat) (i1 : Nat)  (M_values : Int32) (M_code : Int32) (M_taped : Int32) (M_at : Int32) (M_size : Int32) (M_token : Int32) (M_number : Int32) (M_begins : Int32) (M_stops : Int32) (M_bad : Int32) (M_badPlace : Int32) (M_faultPlace : Int32) (M_ofVoting : Int32) (M_hour : Int32) (M_oil : Int32) (M_weight : Int32) (M_spider : Int32) (M_treasury : Int32) (M_joy : Int32) (M_passed : Int32) (M_acts : Int32) (M_seen : Int32) (M_never : Int32) (M_said : Int32) (M_hoarse : Int32) (M_fitMany : Int32) (M_seedNow : Int32) (M_hasImage : Int32) (M_actsThen : Int32) (M_seenThen : Int32) (M_tape : Nat → Int32)  {out : Int32}    (hf : jX9_is_35  i1 M_begins M_tape  = some out) (H : Heap) (locs : List Loc) (hP : va_P (dC, dI) cLs [(oM, .inr (9, mkX9 aM M_values M_code M_taped M_at M_size M_token M_number M_begins M_stops M_bad M_badPlace M_faultPlace M_ofVoting M_hour M_oil M_weight M_spider M_treasury M_joy M_passed M_acts M_seen M_never M_said M_hoarse M_fitMany M_seedNow M_hasImage M_actsThen M_seenThen)), ((aM 16), .inl (cc 0, 700, .inl M_tape))] H) (hD : va_D A [(oM, .inr (9, mkX9 aM M_values M_code M_taped M_at M_size M_token M_number M_begins M_stops M_bad M_badPlace M_faultPlace M_ofVoting M_hour M_oil M_weight M_spider M_treasury M_joy M_passed M_acts M_seen M_never M_said M_hoarse M_fitMany M_seedNow M_hasImage M_actsThen M_seenThen)), ((aM 16), .inl (cc 0, 700, .inl M_tape))]) (hS : va_S A s.heap H locs) (ls : Array Slot) (hl : lv_has ls 4 [(0, .ref oM), (1, .ref (ak i1))]) : W p l e rmX9_is s m args below meth c H locs 0 0 (MQ below (QI dC dI cc out [(oM, .inr (9, mkX9 aM M_values M_code M_taped M_at M_size M_token M_number M_begins M_stops M_bad M_badPlace M_faultPlace M_ofVoting M_hour M_oil M_weight M_spider M_treasury M_joy M_passed M_acts M_seen M_never M_said M_hoarse M_fitMany M_seedNow M_hasImage M_actsThen M_seenThen)), ((aM 16), .inl (cc 0, 700, .inl M_tape))] A) args s 0 0 A) (F0 m 35 ls []) := by
  obtain ⟨hx, hb, hml, hr, hlocks, hown, hG, hK, hA, hE⟩ := id C0
  unfold jX9_is_35 at hf
  refine ck_el hf (fun g33i1 hf => ?_)
  refine lv_iconst (v := 0) hx hb dX9_is_35 (by decide) ?_
  exact wjX9_is_36 C0 oM aM i1 M_values M_code M_taped M_at M_size M_token M_number M_begins M_stops M_bad M_badPlace M_faultPlace M_ofVoting M_hour M_oil M_weight M_spider M_treasury M_joy M_passed M_acts M_seen M_never M_said M_hoarse M_fitMany M_seedNow M_hasImage M_actsThen M_seenThen M_tape   0 hf _ _ hP hD hS _ (lv_sub hl [0, 1] rfl)
def fX9_is  (i1 : Nat) (M_token : Int32) (M_begins : Int32) (M_stops : Int32) (M_bad : Int32) (M_tape : Nat → Int32)  : Option (Int32) :=
  ck (i33 i1) <|
  if M_bad = 0 then
    if M_token = 1 then
      (fJ0_length_8abf5  i1).bind fun v14 =>
      if v14 = (M_stops - M_begins) then
        jX9_is_36 i1 M_begins M_tape 1
      else
        jX9_is_35 i1 M_begins M_tape
    else
      jX9_is_35 i1 M_begins M_tape
  else
    jX9_is_35 i1 M_begins M_tape
set_option maxHeartbeats 4000000 in
set_option maxRecDepth 100000 in
theorem bX9_is {p : Program} {l : Launch} {e : Env} {s : State} {m : MethodId} {args : Array Value} {below : List Frame} {meth : Method} {c : Code} {A : Nat → Prop} {dC : Nat → ClassId} {dI : Nat → Nat → Nat} {cc : Nat → ClassId} {ak : Nat → Nat} (C0 : CT p s m args meth c A dC dI cc ak cX9_is 4 (some .boolean) RX9) (oM : Nat) (aM : Nat → Nat) (i1 : Nat)  (M_values : Int32) (M_code : Int32) (M_taped : Int32) (M_at : Int32) (M_size : Int32) (M_token : Int32) (M_number : Int32) (M_begins : Int32) (M_stops : Int32) (M_bad : Int32) (M_badPlace : Int32) (M_faultPlace : Int32) (M_ofVoting : Int32) (M_hour : Int32) (M_oil : Int32) (M_weight : Int32) (M_spider : Int32) (M_treasury : Int32) (M_joy : Int32) (M_passed : Int32) (M_acts : Int32) (M_seen : Int32) (M_never : Int32) (M_said : Int32) (M_hoarse : Int32) (M_fitMany : Int32) (M_seedNow : Int32) (M_hasImage : Int32) (M_actsThen : Int32) (M_seenThen : Int32) (M_tape : Nat → Int32)  {out : Int32} (hf : fX9_is i1 M_token M_begins M_stops M_bad M_tape = some out) {H : Heap} {locs : List Loc} (hP : va_P (dC, dI) cLs [(oM, .inr (9, mkX9 aM M_values M_code M_taped M_at M_size M_token M_number M_begins M_stops M_bad M_badPlace M_faultPlace M_ofVoting M_hour M_oil M_weight M_spider M_treasury M_joy M_passed M_acts M_seen M_never M_said M_hoarse M_fitMany M_seedNow M_hasImage M_actsThen M_seenThen)), ((aM 16), .inl (cc 0, 700, .inl M_tape))] H) (hD : va_D A [(oM, .inr (9, mkX9 aM M_values M_code M_taped M_at M_size M_token M_number M_begins M_stops M_bad M_badPlace M_faultPlace M_ofVoting M_hour M_oil M_weight M_spider M_treasury M_joy M_passed M_acts M_seen M_never M_said M_hoarse M_fitMany M_seedNow M_hasImage M_actsThen M_seenThen)), ((aM 16), .inl (cc 0, 700, .inl M_tape))]) (hS : va_S A s.heap H locs) {ls : Array Slot} (hl : lv_has ls 4 [(0, .ref oM), (1, .ref (ak i1))]) : W p l e rmX9_is s m args below meth c H locs 0 0 (MQ below (QI dC dI cc out [(oM, .inr (9, mkX9 aM M_values M_code M_taped M_at M_size M_token M_number M_begins M_stops M_bad M_badPlace M_faultPlace M_ofVoting M_hour M_oil M_weight M_spider M_treasury M_joy M_passed M_acts M_seen M_never M_said M_hoarse M_fitMany M_seedNow M_hasImage M_actsThen M_seenThen)), ((aM 16), .inl (cc 0, 700, .inl M_tape))] A) args s 0 0 A) (F0 m 0 ls []) := by
  obtain ⟨hx, hb, hml, hr, hlocks, hown, hG, hK, hA, hE⟩ := id C0
  unfold fX9_is at hf
  refine ck_el hf (fun g33i1 hf => ?_)
  refine lv_aload_n hx hb dX9_is_0 rfl (lv_at hl 0 rfl) ?_
  refine va_get (D := (dC, dI)) (ci := 9) (v := .int M_bad) (C := RX9) (T := TX9) (N := 63) hx hb hG kinX9 hown hK hP 0 rfl rfl 24 (by decide) (hG _ kfX9_201) (fun _ h9 => h9) rfl dX9_is_1 ?_
  refine lv_if_ne (tgt := 35) hx hb dX9_is_4 (by decide) (fun c1 => ?_) (fun c1 => ?_)
  · have hf := iff_ c1 hf
    exact wjX9_is_35 C0 oM aM i1 M_values M_code M_taped M_at M_size M_token M_number M_begins M_stops M_bad M_badPlace M_faultPlace M_ofVoting M_hour M_oil M_weight M_spider M_treasury M_joy M_passed M_acts M_seen M_never M_said M_hoarse M_fitMany M_seedNow M_hasImage M_actsThen M_seenThen M_tape    hf _ _ hP hD hS _ (lv_sub hl [0, 1] rfl)
  · have hf := ift c1 hf
    refine lv_aload_n hx hb dX9_is_7 rfl (lv_at hl 0 rfl) ?_
    refine va_get (D := (dC, dI)) (ci := 9) (v := .int M_token) (C := RX9) (T := TX9) (N := 63) hx hb hG kinX9 hown hK hP 0 rfl rfl 20 (by decide) (hG _ kfX9_175) (fun _ h9 => h9) rfl dX9_is_8 ?_
    refine lv_iconst (v := 1) hx hb dX9_is_11 (by decide) ?_
    refine lv_icmp_ne (tgt := 35) hx hb dX9_is_12 (by decide) (fun c12 => ?_) (fun c12 => ?_)
    · have hf := iff_ c12 hf
      exact wjX9_is_35 C0 oM aM i1 M_values M_code M_taped M_at M_size M_token M_number M_begins M_stops M_bad M_badPlace M_faultPlace M_ofVoting M_hour M_oil M_weight M_spider M_treasury M_joy M_passed M_acts M_seen M_never M_said M_hoarse M_fitMany M_seedNow M_hasImage M_actsThen M_seenThen M_tape    hf _ _ hP hD hS _ (lv_sub hl [0, 1] rfl)
    · have hf := ift c12 hf
      refine lv_aload_n hx hb dX9_is_15 rfl (lv_at hl 1 rfl) ?_
      refine bd_el hf (fun v14 hv14 hf => ?_)
      refine callVi (As := []) (rest := []) (wr := [(oM, .inr (9, mkX9 aM M_values M_code M_taped M_at M_size M_token M_number M_begins M_stops M_bad M_badPlace M_faultPlace M_ofVoting M_hour M_oil M_weight M_spider M_treasury M_joy M_passed M_acts M_seen M_never M_said M_hoarse M_fitMany M_seedNow M_hasImage M_actsThen M_seenThen)), ((aM 16), .inl (cc 0, 700, .inl M_tape))]) (wn := [(oM, .inr (9, mkX9 aM M_values M_code M_taped M_at M_size M_token M_number M_begins M_stops M_bad M_badPlace M_faultPlace M_ofVoting M_hour M_oil M_weight M_spider M_treasury M_joy M_passed M_acts M_seen M_never M_said M_hoarse M_fitMany M_seedNow M_hasImage M_actsThen M_seenThen)), ((aM 16), .inl (cc 0, 700, .inl M_tape))]) C0 kvJ0_length_8abf5 kmX9_207 hP hD hS (mJ0_length_8abf5 l dC dI cc ak i1 _   hv14) ⟨rfl, rfl⟩ ⟨Nat.le_of_ble_eq_true rfl, Nat.le_of_ble_eq_true rfl⟩ [] [0, 1] [0, 1] rfl rfl rfl rfl (hE.recv hS (i33_lt g33i1)) rfl hl.1 rfl (Nat.le_of_ble_eq_true rfl) ⟨Nat.zero_le _, Nat.zero_le _⟩ dX9_is_16 (fun H locs hP hD hS => ?_)
      refine lv_aload_n hx hb dX9_is_19 rfl (lv_at hl 0 rfl) ?_
      refine va_get (D := (dC, dI)) (ci := 9) (v := .int M_stops) (C := RX9) (T := TX9) (N := 63) hx hb hG kinX9 hown hK hP 0 rfl rfl 23 (by decide) (hG _ kfX9_198) (fun _ h9 => h9) rfl dX9_is_20 ?_
      refine lv_aload_n hx hb dX9_is_23 rfl (lv_at hl 0 rfl) ?_
      refine va_get (D := (dC, dI)) (ci := 9) (v := .int M_begins) (C := RX9) (T := TX9) (N := 63) hx hb hG kinX9 hown hK hP 0 rfl rfl 22 (by decide) (hG _ kfX9_172) (fun _ h9 => h9) rfl dX9_is_24 ?_
      refine lv_isub hx hb dX9_is_27 ?_
      refine lv_icmp_ne (tgt := 35) hx hb dX9_is_28 (by decide) (fun c15 => ?_) (fun c15 => ?_)
      · have hf := iff_ c15 hf
        exact wjX9_is_35 C0 oM aM i1 M_values M_code M_taped M_at M_size M_token M_number M_begins M_stops M_bad M_badPlace M_faultPlace M_ofVoting M_hour M_oil M_weight M_spider M_treasury M_joy M_passed M_acts M_seen M_never M_said M_hoarse M_fitMany M_seedNow M_hasImage M_actsThen M_seenThen M_tape    hf _ _ hP hD hS _ (lv_sub hl [0, 1] rfl)
      · have hf := ift c15 hf
        refine lv_iconst (v := 1) hx hb dX9_is_31 (by decide) ?_
        refine lv_goto (tgt := 36) hx hb dX9_is_32 (by decide) ?_
        exact wjX9_is_36 C0 oM aM i1 M_values M_code M_taped M_at M_size M_token M_number M_begins M_stops M_bad M_badPlace M_faultPlace M_ofVoting M_hour M_oil M_weight M_spider M_treasury M_joy M_passed M_acts M_seen M_never M_said M_hoarse M_fitMany M_seedNow M_hasImage M_actsThen M_seenThen M_tape   1 hf _ _ hP hD hS _ (lv_sub hl [0, 1] rfl)
theorem mX9_is (l : Launch) (dC : Nat → ClassId) (dI : Nat → Nat → Nat) (cc : Nat → ClassId) (ak : Nat → Nat) (oM : Nat) (aM : Nat → Nat) (i1 : Nat) (sz : Nat)  (M_values : Int32) (M_code : Int32) (M_taped : Int32) (M_at : Int32) (M_size : Int32) (M_token : Int32) (M_number : Int32) (M_begins : Int32) (M_stops : Int32) (M_bad : Int32) (M_badPlace : Int32) (M_faultPlace : Int32) (M_ofVoting : Int32) (M_hour : Int32) (M_oil : Int32) (M_weight : Int32) (M_spider : Int32) (M_treasury : Int32) (M_joy : Int32) (M_passed : Int32) (M_acts : Int32) (M_seen : Int32) (M_never : Int32) (M_said : Int32) (M_hoarse : Int32) (M_fitMany : Int32) (M_seedNow : Int32) (M_hasImage : Int32) (M_actsThen : Int32) (M_seenThen : Int32) (M_tape : Nat → Int32)  {out : Int32} (hf : fX9_is i1 M_token M_begins M_stops M_bad M_tape = some out) : Met l yX9_is (Cond.code yX9_is cX9_is 4 (some .boolean) :: GW) rmX9_is (PI dC dI cc ak [.ref oM, .ref (ak i1)] [(oM, .inr (9, mkX9 aM M_values M_code M_taped M_at M_size M_token M_number M_begins M_stops M_bad M_badPlace M_faultPlace M_ofVoting M_hour M_oil M_weight M_spider M_treasury M_joy M_passed M_acts M_seen M_never M_said M_hoarse M_fitMany M_seedNow M_hasImage M_actsThen M_seenThen)), ((aM 16), .inl (cc 0, 700, .inl M_tape))] sz) (QI dC dI cc out [(oM, .inr (9, mkX9 aM M_values M_code M_taped M_at M_size M_token M_number M_begins M_stops M_bad M_badPlace M_faultPlace M_ofVoting M_hour M_oil M_weight M_spider M_treasury M_joy M_passed M_acts M_seen M_never M_said M_hoarse M_fitMany M_seedNow M_hasImage M_actsThen M_seenThen)), ((aM 16), .inl (cc 0, 700, .inl M_tape))] (va_A [(oM, .inr (9, mkX9 aM M_values M_code M_taped M_at M_size M_token M_number M_begins M_stops M_bad M_badPlace M_faultPlace M_ofVoting M_hour M_oil M_weight M_spider M_treasury M_joy M_passed M_acts M_seen M_never M_said M_hoarse M_fitMany M_seedNow M_hasImage M_actsThen M_seenThen)), ((aM 16), .inl (cc 0, 700, .inl M_tape))] sz)) 0 0 (va_A [(oM, .inr (9, mkX9 aM M_values M_code M_taped M_at M_size M_token M_number M_begins M_stops M_bad M_badPlace M_faultPlace M_ofVoting M_hour M_oil M_weight M_spider M_treasury M_joy M_passed M_acts M_seen M_never M_said M_hoarse M_fitMany M_seedNow M_hasImage M_actsThen M_seenThen)), ((aM 16), .inl (cc 0, 700, .inl M_tape))] sz) :=
  met_of (Q := fun A => QI dC dI cc out [(oM, .inr (9, mkX9 aM M_values M_code M_taped M_at M_size M_token M_number M_begins M_stops M_bad M_badPlace M_faultPlace M_ofVoting M_hour M_oil M_weight M_spider M_treasury M_joy M_passed M_acts M_seen M_never M_said M_hoarse M_fitMany M_seedNow M_hasImage M_actsThen M_seenThen)), ((aM 16), .inl (cc 0, 700, .inl M_tape))] A) (by decide) rfl (Nat.le_of_ble_eq_true rfl) (fun p e s m below meth c A C0 hP hD hS ls hl => bX9_is C0 oM aM i1 M_values M_code M_taped M_at M_size M_token M_number M_begins M_stops M_bad M_badPlace M_faultPlace M_ofVoting M_hour M_oil M_weight M_spider M_treasury M_joy M_passed M_acts M_seen M_never M_said M_hoarse M_fitMany M_seedNow M_hasImage M_actsThen M_seenThen M_tape hf hP hD hS hl)
abbrev rmX9_which : Room := { frames := 5, cells := 0, slots := 0, locals := 108 }
def lX9_which_2  (ke2_18 : Int32 → Option (Int32)) (ke2_26 : Option (Int32)) (nP0 : Nat) (wP0 : Nat) (M_token : Int32) (M_begins : Int32) (M_stops : Int32) (M_bad : Int32) (M_tape : Nat → Int32) : Nat → Int32 → Option (Int32)
  | 0, _ => none
  | n+1, x2 =>
    if (Int32.ofNat nP0) ≤ x2 then
      ke2_26 
    else
      ck (inb x2 nP0) <|
      (fX9_is  (wP0 + (x2 : Int32).toNatClampNeg) M_token M_begins M_stops M_bad M_tape).bind fun v4 =>
      if v4 = 0 then
        lX9_which_2 ke2_18 ke2_26 nP0 wP0 M_token M_begins M_stops M_bad M_tape n (x2 + 1)
      else
        ke2_18 x2
set_option maxHeartbeats 4000000 in
set_option maxRecDepth 100000 in
theorem wlX9_which_2 {p : Program} {l : Launch} {e : Env} {s : State} {m : MethodId} {args : Array Value} {below : List Frame} {meth : Method} {c : Code} {A : Nat → Prop} {dC : Nat → ClassId} {dI : Nat → Nat → Nat} {cc : Nat → ClassId} {ak : Nat → Nat} (C0 : CT p s m args meth c A dC dI cc ak cX9_which 3 (some .int) RX9) (oM aP0 : Nat) (aM : Nat → Nat) (nP0 wP0 : Nat)  (M_values : Int32) (M_code : Int32) (M_taped : Int32) (M_at : Int32) (M_size : Int32) (M_token : Int32) (M_number : Int32) (M_begins : Int32) (M_stops : Int32) (M_bad : Int32) (M_badPlace : Int32) (M_faultPlace : Int32) (M_ofVoting : Int32) (M_hour : Int32) (M_oil : Int32) (M_weight : Int32) (M_spider : Int32) (M_treasury : Int32) (M_joy : Int32) (M_passed : Int32) (M_acts : Int32) (M_seen : Int32) (M_never : Int32) (M_said : Int32) (M_hoarse : Int32) (M_fitMany : Int32) (M_seedNow : Int32) (M_hasImage : Int32) (M_actsThen : Int32) (M_seenThen : Int32) (M_tape : Nat → Int32)  {out : Int32} (ke2_18 : Int32 → Option (Int32)) (ke2_26 : Option (Int32)) (hke2_18 : ∀ (x2' : Int32), ke2_18 x2' = some out → ∀ (H : Heap) (locs : List Loc), va_P (dC, dI) cLs [(oM, .inr (9, mkX9 aM M_values M_code M_taped M_at M_size M_token M_number M_begins M_stops M_bad M_badPlace M_faultPlace M_ofVoting M_hour M_oil M_weight M_spider M_treasury M_joy M_passed M_acts M_seen M_never M_said M_hoarse M_fitMany M_seedNow M_hasImage M_actsThen M_seenThen)), ((aM 16), .inl (cc 0, 700, .inl M_tape)), (aP0, .inl (cc 3, nP0, .inr (.inr (.inr (.inr (fun j => some (ak (wP0 + j)))))))) ] H → va_D A [(oM, .inr (9, mkX9 aM M_values M_code M_taped M_at M_size M_token M_number M_begins M_stops M_bad M_badPlace M_faultPlace M_ofVoting M_hour M_oil M_weight M_spider M_treasury M_joy M_passed M_acts M_seen M_never M_said M_hoarse M_fitMany M_seedNow M_hasImage M_actsThen M_seenThen)), ((aM 16), .inl (cc 0, 700, .inl M_tape)), (aP0, .inl (cc 3, nP0, .inr (.inr (.inr (.inr (fun j => some (ak (wP0 + j)))))))) ] → va_S A s.heap H locs → ∀ ls : Array Slot, lv_has ls 3 [(2, .int x2')] → W p l e rmX9_which s m args below meth c H locs 0 0 (MQ below (QI dC dI cc out [(oM, .inr (9, mkX9 aM M_values M_code M_taped M_at M_size M_token M_number M_begins M_stops M_bad M_badPlace M_faultPlace M_ofVoting M_hour M_oil M_weight M_spider M_treasury M_joy M_passed M_acts M_seen M_never M_said M_hoarse M_fitMany M_seedNow M_hasImage M_actsThen M_seenThen)), ((aM 16), .inl (cc 0, 700, .inl M_tape)), (aP0, .inl (cc 3, nP0, .inr (.inr (.inr (.inr (fun j => some (ak (wP0 + j)))))))) ] A) args s 0 0 A) (F0 m 18 ls [])) (hke2_26 :  ke2_26  = some out → ∀ (H : Heap) (locs : List Loc), va_P (dC, dI) cLs [(oM, .inr (9, mkX9 aM M_values M_code M_taped M_at M_size M_token M_number M_begins M_stops M_bad M_badPlace M_faultPlace M_ofVoting M_hour M_oil M_weight M_spider M_treasury M_joy M_passed M_acts M_seen M_never M_said M_hoarse M_fitMany M_seedNow M_hasImage M_actsThen M_seenThen)), ((aM 16), .inl (cc 0, 700, .inl M_tape)), (aP0, .inl (cc 3, nP0, .inr (.inr (.inr (.inr (fun j => some (ak (wP0 + j)))))))) ] H → va_D A [(oM, .inr (9, mkX9 aM M_values M_code M_taped M_at M_size M_token M_number M_begins M_stops M_bad M_badPlace M_faultPlace M_ofVoting M_hour M_oil M_weight M_spider M_treasury M_joy M_passed M_acts M_seen M_never M_said M_hoarse M_fitMany M_seedNow M_hasImage M_actsThen M_seenThen)), ((aM 16), .inl (cc 0, 700, .inl M_tape)), (aP0, .inl (cc 3, nP0, .inr (.inr (.inr (.inr (fun j => some (ak (wP0 + j)))))))) ] → va_S A s.heap H locs → ∀ ls : Array Slot, lv_has ls 3 [] → W p l e rmX9_which s m args below meth c H locs 0 0 (MQ below (QI dC dI cc out [(oM, .inr (9, mkX9 aM M_values M_code M_taped M_at M_size M_token M_number M_begins M_stops M_bad M_badPlace M_faultPlace M_ofVoting M_hour M_oil M_weight M_spider M_treasury M_joy M_passed M_acts M_seen M_never M_said M_hoarse M_fitMany M_seedNow M_hasImage M_actsThen M_seenThen)), ((aM 16), .inl (cc 0, 700, .inl M_tape)), (aP0, .inl (cc 3, nP0, .inr (.inr (.inr (.inr (fun j => some (ak (wP0 + j)))))))) ] A) args s 0 0 A) (F0 m 26 ls [])) : ∀ (n : Nat) (x2 : Int32) (hf : lX9_which_2 ke2_18 ke2_26 nP0 wP0 M_token M_begins M_stops M_bad M_tape n x2 = some out) (H : Heap) (locs : List Loc) (hP : va_P (dC, dI) cLs [(oM, .inr (9, mkX9 aM M_values M_code M_taped M_at M_size M_token M_number M_begins M_stops M_bad M_badPlace M_faultPlace M_ofVoting M_hour M_oil M_weight M_spider M_treasury M_joy M_passed M_acts M_seen M_never M_said M_hoarse M_fitMany M_seedNow M_hasImage M_actsThen M_seenThen)), ((aM 16), .inl (cc 0, 700, .inl M_tape)), (aP0, .inl (cc 3, nP0, .inr (.inr (.inr (.inr (fun j => some (ak (wP0 + j)))))))) ] H) (hD : va_D A [(oM, .inr (9, mkX9 aM M_values M_code M_taped M_at M_size M_token M_number M_begins M_stops M_bad M_badPlace M_faultPlace M_ofVoting M_hour M_oil M_weight M_spider M_treasury M_joy M_passed M_acts M_seen M_never M_said M_hoarse M_fitMany M_seedNow M_hasImage M_actsThen M_seenThen)), ((aM 16), .inl (cc 0, 700, .inl M_tape)), (aP0, .inl (cc 3, nP0, .inr (.inr (.inr (.inr (fun j => some (ak (wP0 + j)))))))) ]) (hS : va_S A s.heap H locs) (ls : Array Slot) (hl : lv_has ls 3 [(0, .ref oM), (1, .ref aP0), (2, .int x2)]), W p l e rmX9_which s m args below meth c H locs 0 0 (MQ below (QI dC dI cc out [(oM, .inr (9, mkX9 aM M_values M_code M_taped M_at M_size M_token M_number M_begins M_stops M_bad M_badPlace M_faultPlace M_ofVoting M_hour M_oil M_weight M_spider M_treasury M_joy M_passed M_acts M_seen M_never M_said M_hoarse M_fitMany M_seedNow M_hasImage M_actsThen M_seenThen)), ((aM 16), .inl (cc 0, 700, .inl M_tape)), (aP0, .inl (cc 3, nP0, .inr (.inr (.inr (.inr (fun j => some (ak (wP0 + j)))))))) ] A) args s 0 0 A) (F0 m 2 ls []) := by
  obtain ⟨hx, hb, hml, hr, hlocks, hown, hG, hK, hA, hE⟩ := id C0
  intro n
  induction n with
  | zero => intro x2 hf; cases hf
  | succ n ih =>
    intro x2 hf H locs hP hD hS ls hl
    unfold lX9_which_2 at hf
    refine lv_iload_n hx hb dX9_which_2 rfl (lv_at hl 2 rfl) ?_
    refine lv_aload_n hx hb dX9_which_3 rfl (lv_at hl 1 rfl) ?_
    refine va_alen hx hb hK hP 2 3 rfl rfl (v := (Int32.ofNat nP0)) rfl dX9_which_4 ?_
    refine lv_icmp_ge (tgt := 26) hx hb dX9_which_5 (by decide) (fun c1 => ?_) (fun c1 => ?_)
    · have hf := ift c1 hf
      exact hke2_26  hf _ _ hP hD hS _ (lv_sub hl [] rfl)
    · have hf := iff_ c1 hf
      refine lv_aload_n hx hb dX9_which_8 rfl (lv_at hl 0 rfl) ?_
      refine lv_aload_n hx hb dX9_which_9 rfl (lv_at hl 1 rfl) ?_
      refine lv_iload_n hx hb dX9_which_10 rfl (lv_at hl 2 rfl) ?_
      refine ck_el hf (fun g2 hf => ?_)
      refine va_aldq hx hb hK hP 2 3 rfl rfl (inb_in g2) dX9_which_11 ?_
      refine bd_el hf (fun v4 hv4 hf => ?_)
      refine callVi (As := [.ref (ak (wP0 + (x2 : Int32).toNatClampNeg))]) (rest := []) (wr := [(aP0, .inl (cc 3, nP0, .inr (.inr (.inr (.inr (fun j => some (ak (wP0 + j)))))))) ]) (wn := [(oM, .inr (9, mkX9 aM M_values M_code M_taped M_at M_size M_token M_number M_begins M_stops M_bad M_badPlace M_faultPlace M_ofVoting M_hour M_oil M_weight M_spider M_treasury M_joy M_passed M_acts M_seen M_never M_said M_hoarse M_fitMany M_seedNow M_hasImage M_actsThen M_seenThen)), ((aM 16), .inl (cc 0, 700, .inl M_tape)), (aP0, .inl (cc 3, nP0, .inr (.inr (.inr (.inr (fun j => some (ak (wP0 + j)))))))) ]) C0 kvX9_is kmX9_215 hP hD hS (mX9_is l dC dI cc ak oM aM (wP0 + (x2 : Int32).toNatClampNeg) _  M_values M_code M_taped M_at M_size M_token M_number M_begins M_stops M_bad M_badPlace M_faultPlace M_ofVoting M_hour M_oil M_weight M_spider M_treasury M_joy M_passed M_acts M_seen M_never M_said M_hoarse M_fitMany M_seedNow M_hasImage M_actsThen M_seenThen M_tape hv4) ⟨rfl, rfl⟩ ⟨Nat.le_of_ble_eq_true rfl, Nat.le_of_ble_eq_true rfl⟩ [0, 1] [2] [1, 2, 0] rfl rfl rfl rfl (va_recv hK hP (ci := 9) (q0 := 0) rfl rfl) rfl hl.1 rfl (Nat.le_of_ble_eq_true rfl) ⟨Nat.zero_le _, Nat.zero_le _⟩ dX9_which_12 (fun H locs hP hD hS => ?_)
      refine lv_if_eq (tgt := 20) hx hb dX9_which_15 (by decide) (fun c5 => ?_) (fun c5 => ?_)
      · have hf := ift c5 hf
        refine lv_iinc (v := (x2 + 1)) (lv' := [(2, .int (x2 + 1)), (0, .ref oM), (1, .ref aP0)]) hx hb dX9_which_20 hl (k := 2) rfl rfl (by decide) rfl (fun ls hl => ?_)
        refine lv_goto (tgt := 2) hx hb dX9_which_23 (by decide) ?_
        exact ih (x2 + 1) hf _ _ hP hD hS _ (lv_sub hl [1, 2, 0] rfl)
      · have hf := iff_ c5 hf
        exact hke2_18 x2 hf _ _ hP hD hS _ (lv_sub hl [2] rfl)
def fX9_which  (nP0 : Nat) (wP0 : Nat) (M_token : Int32) (M_begins : Int32) (M_stops : Int32) (M_bad : Int32) (M_tape : Nat → Int32)  : Option (Int32) :=
  lX9_which_2 (fun (x2_6 : Int32) =>
    some x2_6) (
    some (-1)) nP0 wP0 M_token M_begins M_stops M_bad M_tape FU 0
set_option maxHeartbeats 4000000 in
set_option maxRecDepth 100000 in
theorem bX9_which {p : Program} {l : Launch} {e : Env} {s : State} {m : MethodId} {args : Array Value} {below : List Frame} {meth : Method} {c : Code} {A : Nat → Prop} {dC : Nat → ClassId} {dI : Nat → Nat → Nat} {cc : Nat → ClassId} {ak : Nat → Nat} (C0 : CT p s m args meth c A dC dI cc ak cX9_which 3 (some .int) RX9) (oM aP0 : Nat) (aM : Nat → Nat) (nP0 wP0 : Nat)  (M_values : Int32) (M_code : Int32) (M_taped : Int32) (M_at : Int32) (M_size : Int32) (M_token : Int32) (M_number : Int32) (M_begins : Int32) (M_stops : Int32) (M_bad : Int32) (M_badPlace : Int32) (M_faultPlace : Int32) (M_ofVoting : Int32) (M_hour : Int32) (M_oil : Int32) (M_weight : Int32) (M_spider : Int32) (M_treasury : Int32) (M_joy : Int32) (M_passed : Int32) (M_acts : Int32) (M_seen : Int32) (M_never : Int32) (M_said : Int32) (M_hoarse : Int32) (M_fitMany : Int32) (M_seedNow : Int32) (M_hasImage : Int32) (M_actsThen : Int32) (M_seenThen : Int32) (M_tape : Nat → Int32)  {out : Int32} (hf : fX9_which nP0 wP0 M_token M_begins M_stops M_bad M_tape = some out) {H : Heap} {locs : List Loc} (hP : va_P (dC, dI) cLs [(oM, .inr (9, mkX9 aM M_values M_code M_taped M_at M_size M_token M_number M_begins M_stops M_bad M_badPlace M_faultPlace M_ofVoting M_hour M_oil M_weight M_spider M_treasury M_joy M_passed M_acts M_seen M_never M_said M_hoarse M_fitMany M_seedNow M_hasImage M_actsThen M_seenThen)), ((aM 16), .inl (cc 0, 700, .inl M_tape)), (aP0, .inl (cc 3, nP0, .inr (.inr (.inr (.inr (fun j => some (ak (wP0 + j)))))))) ] H) (hD : va_D A [(oM, .inr (9, mkX9 aM M_values M_code M_taped M_at M_size M_token M_number M_begins M_stops M_bad M_badPlace M_faultPlace M_ofVoting M_hour M_oil M_weight M_spider M_treasury M_joy M_passed M_acts M_seen M_never M_said M_hoarse M_fitMany M_seedNow M_hasImage M_actsThen M_seenThen)), ((aM 16), .inl (cc 0, 700, .inl M_tape)), (aP0, .inl (cc 3, nP0, .inr (.inr (.inr (.inr (fun j => some (ak (wP0 + j)))))))) ]) (hS : va_S A s.heap H locs) {ls : Array Slot} (hl : lv_has ls 3 [(0, .ref oM), (1, .ref aP0)]) : W p l e rmX9_which s m args below meth c H locs 0 0 (MQ below (QI dC dI cc out [(oM, .inr (9, mkX9 aM M_values M_code M_taped M_at M_size M_token M_number M_begins M_stops M_bad M_badPlace M_faultPlace M_ofVoting M_hour M_oil M_weight M_spider M_treasury M_joy M_passed M_acts M_seen M_never M_said M_hoarse M_fitMany M_seedNow M_hasImage M_actsThen M_seenThen)), ((aM 16), .inl (cc 0, 700, .inl M_tape)), (aP0, .inl (cc 3, nP0, .inr (.inr (.inr (.inr (fun j => some (ak (wP0 + j)))))))) ] A) args s 0 0 A) (F0 m 0 ls []) := by
  obtain ⟨hx, hb, hml, hr, hlocks, hown, hG, hK, hA, hE⟩ := id C0
  unfold fX9_which at hf
  refine lv_iconst (v := 0) hx hb dX9_which_0 (by decide) ?_
  refine lv_istore_n (lv' := [(2, .int 0), (0, .ref oM), (1, .ref aP0)]) hx hb dX9_which_1 rfl hl (by decide) rfl (fun ls hl => ?_)
  refine wlX9_which_2 C0 oM aP0 aM nP0 wP0 M_values M_code M_taped M_at M_size M_token M_number M_begins M_stops M_bad M_badPlace M_faultPlace M_ofVoting M_hour M_oil M_weight M_spider M_treasury M_joy M_passed M_acts M_seen M_never M_said M_hoarse M_fitMany M_seedNow M_hasImage M_actsThen M_seenThen M_tape _ _ ?_ ?_ FU 0 hf _ _ hP hD hS _ (lv_sub hl [1, 2, 0] rfl)
  · intro x2_6 hf H locs hP hD hS ls hl
    refine lv_iload_n hx hb dX9_which_18 rfl (lv_at hl 0 rfl) ?_
    obtain rfl := Option.some.inj hf
    exact retI C0 hP hD hS rfl dX9_which_19
  · intro  hf H locs hP hD hS ls hl
    refine lv_iconst (v := (-1)) hx hb dX9_which_26 (by decide) ?_
    obtain rfl := Option.some.inj hf
    exact retI C0 hP hD hS rfl dX9_which_27
theorem mX9_which (l : Launch) (dC : Nat → ClassId) (dI : Nat → Nat → Nat) (cc : Nat → ClassId) (ak : Nat → Nat) (oM aP0 : Nat) (aM : Nat → Nat) (nP0 wP0 : Nat) (sz : Nat)  (M_values : Int32) (M_code : Int32) (M_taped : Int32) (M_at : Int32) (M_size : Int32) (M_token : Int32) (M_number : Int32) (M_begins : Int32) (M_stops : Int32) (M_bad : Int32) (M_badPlace : Int32) (M_faultPlace : Int32) (M_ofVoting : Int32) (M_hour : Int32) (M_oil : Int32) (M_weight : Int32) (M_spider : Int32) (M_treasury : Int32) (M_joy : Int32) (M_passed : Int32) (M_acts : Int32) (M_seen : Int32) (M_never : Int32) (M_said : Int32) (M_hoarse : Int32) (M_fitMany : Int32) (M_seedNow : Int32) (M_hasImage : Int32) (M_actsThen : Int32) (M_seenThen : Int32) (M_tape : Nat → Int32)  {out : Int32} (hf : fX9_which nP0 wP0 M_token M_begins M_stops M_bad M_tape = some out) : Met l yX9_which (Cond.code yX9_which cX9_which 3 (some .int) :: GW) rmX9_which (PI dC dI cc ak [.ref oM, .ref aP0] [(oM, .inr (9, mkX9 aM M_values M_code M_taped M_at M_size M_token M_number M_begins M_stops M_bad M_badPlace M_faultPlace M_ofVoting M_hour M_oil M_weight M_spider M_treasury M_joy M_passed M_acts M_seen M_never M_said M_hoarse M_fitMany M_seedNow M_hasImage M_actsThen M_seenThen)), ((aM 16), .inl (cc 0, 700, .inl M_tape)), (aP0, .inl (cc 3, nP0, .inr (.inr (.inr (.inr (fun j => some (ak (wP0 + j)))))))) ] sz) (QI dC dI cc out [(oM, .inr (9, mkX9 aM M_values M_code M_taped M_at M_size M_token M_number M_begins M_stops M_bad M_badPlace M_faultPlace M_ofVoting M_hour M_oil M_weight M_spider M_treasury M_joy M_passed M_acts M_seen M_never M_said M_hoarse M_fitMany M_seedNow M_hasImage M_actsThen M_seenThen)), ((aM 16), .inl (cc 0, 700, .inl M_tape)), (aP0, .inl (cc 3, nP0, .inr (.inr (.inr (.inr (fun j => some (ak (wP0 + j)))))))) ] (va_A [(oM, .inr (9, mkX9 aM M_values M_code M_taped M_at M_size M_token M_number M_begins M_stops M_bad M_badPlace M_faultPlace M_ofVoting M_hour M_oil M_weight M_spider M_treasury M_joy M_passed M_acts M_seen M_never M_said M_hoarse M_fitMany M_seedNow M_hasImage M_actsThen M_seenThen)), ((aM 16), .inl (cc 0, 700, .inl M_tape)), (aP0, .inl (cc 3, nP0, .inr (.inr (.inr (.inr (fun j => some (ak (wP0 + j)))))))) ] sz)) 0 0 (va_A [(oM, .inr (9, mkX9 aM M_values M_code M_taped M_at M_size M_token M_number M_begins M_stops M_bad M_badPlace M_faultPlace M_ofVoting M_hour M_oil M_weight M_spider M_treasury M_joy M_passed M_acts M_seen M_never M_said M_hoarse M_fitMany M_seedNow M_hasImage M_actsThen M_seenThen)), ((aM 16), .inl (cc 0, 700, .inl M_tape)), (aP0, .inl (cc 3, nP0, .inr (.inr (.inr (.inr (fun j => some (ak (wP0 + j)))))))) ] sz) :=
  met_of (Q := fun A => QI dC dI cc out [(oM, .inr (9, mkX9 aM M_values M_code M_taped M_at M_size M_token M_number M_begins M_stops M_bad M_badPlace M_faultPlace M_ofVoting M_hour M_oil M_weight M_spider M_treasury M_joy M_passed M_acts M_seen M_never M_said M_hoarse M_fitMany M_seedNow M_hasImage M_actsThen M_seenThen)), ((aM 16), .inl (cc 0, 700, .inl M_tape)), (aP0, .inl (cc 3, nP0, .inr (.inr (.inr (.inr (fun j => some (ak (wP0 + j)))))))) ] A) (by decide) rfl (Nat.le_of_ble_eq_true rfl) (fun p e s m below meth c A C0 hP hD hS ls hl => bX9_which C0 oM aP0 aM nP0 wP0 M_values M_code M_taped M_at M_size M_token M_number M_begins M_stops M_bad M_badPlace M_faultPlace M_ofVoting M_hour M_oil M_weight M_spider M_treasury M_joy M_passed M_acts M_seen M_never M_said M_hoarse M_fitMany M_seedNow M_hasImage M_actsThen M_seenThen M_tape hf hP hD hS hl)
abbrev rmX9_isMarked : Room := { frames := 0, cells := 0, slots := 0, locals := 0 }
def fX9_isMarked   (M_token : Int32) (M_begins : Int32) (M_bad : Int32) (M_tape : Nat → Int32) (p0 : Int32) : Option (Int32) :=
  if M_bad = 0 then
    if M_token = 3 then
      ck (inb M_begins 700) <|
      if (M_tape (M_begins : Int32).toNatClampNeg) = p0 then
        some 1
      else
        some 0
    else
      some 0
  else
    some 0
set_option maxHeartbeats 4000000 in
set_option maxRecDepth 100000 in
theorem bX9_isMarked {p : Program} {l : Launch} {e : Env} {s : State} {m : MethodId} {args : Array Value} {below : List Frame} {meth : Method} {c : Code} {A : Nat → Prop} {dC : Nat → ClassId} {dI : Nat → Nat → Nat} {cc : Nat → ClassId} {ak : Nat → Nat} (C0 : CT p s m args meth c A dC dI cc ak cX9_isMarked 2 (some .boolean) RX9) (oM : Nat) (aM : Nat → Nat)  (M_values : Int32) (M_code : Int32) (M_taped : Int32) (M_at : Int32) (M_size : Int32) (M_token : Int32) (M_number : Int32) (M_begins : Int32) (M_stops : Int32) (M_bad : Int32) (M_badPlace : Int32) (M_faultPlace : Int32) (M_ofVoting : Int32) (M_hour : Int32) (M_oil : Int32) (M_weight : Int32) (M_spider : Int32) (M_treasury : Int32) (M_joy : Int32) (M_passed : Int32) (M_acts : Int32) (M_seen : Int32) (M_never : Int32) (M_said : Int32) (M_hoarse : Int32) (M_fitMany : Int32) (M_seedNow : Int32) (M_hasImage : Int32) (M_actsThen : Int32) (M_seenThen : Int32) (M_tape : Nat → Int32) (p0 : Int32) {out : Int32} (hf : fX9_isMarked M_token M_begins M_bad M_tape p0 = some out) {H : Heap} {locs : List Loc} (hP : va_P (dC, dI) cLs [(oM, .inr (9, mkX9 aM M_values M_code M_taped M_at M_size M_token M_number M_begins M_stops M_bad M_badPlace M_faultPlace M_ofVoting M_hour M_oil M_weight M_spider M_treasury M_joy M_passed M_acts M_seen M_never M_said M_hoarse M_fitMany M_seedNow M_hasImage M_actsThen M_seenThen)), ((aM 16), .inl (cc 0, 700, .inl M_tape))] H) (hD : va_D A [(oM, .inr (9, mkX9 aM M_values M_code M_taped M_at M_size M_token M_number M_begins M_stops M_bad M_badPlace M_faultPlace M_ofVoting M_hour M_oil M_weight M_spider M_treasury M_joy M_passed M_acts M_seen M_never M_said M_hoarse M_fitMany M_seedNow M_hasImage M_actsThen M_seenThen)), ((aM 16), .inl (cc 0, 700, .inl M_tape))]) (hS : va_S A s.heap H locs) {ls : Array Slot} (hl : lv_has ls 2 [(0, .ref oM), (1, .int p0)]) : W p l e rmX9_isMarked s m args below meth c H locs 0 0 (MQ below (QI dC dI cc out [(oM, .inr (9, mkX9 aM M_values M_code M_taped M_at M_size M_token M_number M_begins M_stops M_bad M_badPlace M_faultPlace M_ofVoting M_hour M_oil M_weight M_spider M_treasury M_joy M_passed M_acts M_seen M_never M_said M_hoarse M_fitMany M_seedNow M_hasImage M_actsThen M_seenThen)), ((aM 16), .inl (cc 0, 700, .inl M_tape))] A) args s 0 0 A) (F0 m 0 ls []) := by
  obtain ⟨hx, hb, hml, hr, hlocks, hown, hG, hK, hA, hE⟩ := id C0
  unfold fX9_isMarked at hf
  refine lv_aload_n hx hb dX9_isMarked_0 rfl (lv_at hl 0 rfl) ?_
  refine va_get (D := (dC, dI)) (ci := 9) (v := .int M_bad) (C := RX9) (T := TX9) (N := 63) hx hb hG kinX9 hown hK hP 0 rfl rfl 24 (by decide) (hG _ kfX9_201) (fun _ h9 => h9) rfl dX9_isMarked_1 ?_
  refine lv_if_ne (tgt := 32) hx hb dX9_isMarked_4 (by decide) (fun c1 => ?_) (fun c1 => ?_)
  · have hf := iff_ c1 hf
    refine lv_iconst (v := 0) hx hb dX9_isMarked_32 (by decide) ?_
    obtain rfl := Option.some.inj hf
    exact retZ C0 hP hD hS rfl rfl dX9_isMarked_33
  · have hf := ift c1 hf
    refine lv_aload_n hx hb dX9_isMarked_7 rfl (lv_at hl 0 rfl) ?_
    refine va_get (D := (dC, dI)) (ci := 9) (v := .int M_token) (C := RX9) (T := TX9) (N := 63) hx hb hG kinX9 hown hK hP 0 rfl rfl 20 (by decide) (hG _ kfX9_175) (fun _ h9 => h9) rfl dX9_isMarked_8 ?_
    refine lv_iconst (v := 3) hx hb dX9_isMarked_11 (by decide) ?_
    refine lv_icmp_ne (tgt := 32) hx hb dX9_isMarked_12 (by decide) (fun c2 => ?_) (fun c2 => ?_)
    · have hf := iff_ c2 hf
      refine lv_iconst (v := 0) hx hb dX9_isMarked_32 (by decide) ?_
      obtain rfl := Option.some.inj hf
      exact retZ C0 hP hD hS rfl rfl dX9_isMarked_33
    · have hf := ift c2 hf
      refine lv_aload_n hx hb dX9_isMarked_15 rfl (lv_at hl 0 rfl) ?_
      refine va_get (D := (dC, dI)) (ci := 9) (v := .ref (aM 16)) (C := RX9) (T := TX9) (N := 63) hx hb hG kinX9 hown hK hP 0 rfl rfl 16 (by decide) (hG _ kfX9_82) (fun _ h9 => h9) rfl dX9_isMarked_16 ?_
      refine lv_aload_n hx hb dX9_isMarked_19 rfl (lv_at hl 0 rfl) ?_
      refine va_get (D := (dC, dI)) (ci := 9) (v := .int M_begins) (C := RX9) (T := TX9) (N := 63) hx hb hG kinX9 hown hK hP 0 rfl rfl 22 (by decide) (hG _ kfX9_172) (fun _ h9 => h9) rfl dX9_isMarked_20 ?_
      refine ck_el hf (fun g3 hf => ?_)
      refine va_iald hx hb hK hP 1 0 rfl rfl (inb_in g3) dX9_isMarked_23 ?_
      refine lv_iload_n hx hb dX9_isMarked_24 rfl (lv_at hl 1 rfl) ?_
      refine lv_icmp_ne (tgt := 32) hx hb dX9_isMarked_25 (by decide) (fun c4 => ?_) (fun c4 => ?_)
      · have hf := iff_ c4 hf
        refine lv_iconst (v := 0) hx hb dX9_isMarked_32 (by decide) ?_
        obtain rfl := Option.some.inj hf
        exact retZ C0 hP hD hS rfl rfl dX9_isMarked_33
      · have hf := ift c4 hf
        refine lv_iconst (v := 1) hx hb dX9_isMarked_28 (by decide) ?_
        refine lv_goto (tgt := 33) hx hb dX9_isMarked_29 (by decide) ?_
        obtain rfl := Option.some.inj hf
        exact retZ C0 hP hD hS rfl rfl dX9_isMarked_33
theorem mX9_isMarked (l : Launch) (dC : Nat → ClassId) (dI : Nat → Nat → Nat) (cc : Nat → ClassId) (ak : Nat → Nat) (oM : Nat) (aM : Nat → Nat) (sz : Nat)  (M_values : Int32) (M_code : Int32) (M_taped : Int32) (M_at : Int32) (M_size : Int32) (M_token : Int32) (M_number : Int32) (M_begins : Int32) (M_stops : Int32) (M_bad : Int32) (M_badPlace : Int32) (M_faultPlace : Int32) (M_ofVoting : Int32) (M_hour : Int32) (M_oil : Int32) (M_weight : Int32) (M_spider : Int32) (M_treasury : Int32) (M_joy : Int32) (M_passed : Int32) (M_acts : Int32) (M_seen : Int32) (M_never : Int32) (M_said : Int32) (M_hoarse : Int32) (M_fitMany : Int32) (M_seedNow : Int32) (M_hasImage : Int32) (M_actsThen : Int32) (M_seenThen : Int32) (M_tape : Nat → Int32) (p0 : Int32) {out : Int32} (hf : fX9_isMarked M_token M_begins M_bad M_tape p0 = some out) : Met l yX9_isMarked (Cond.code yX9_isMarked cX9_isMarked 2 (some .boolean) :: GW) rmX9_isMarked (PI dC dI cc ak [.ref oM, .int p0] [(oM, .inr (9, mkX9 aM M_values M_code M_taped M_at M_size M_token M_number M_begins M_stops M_bad M_badPlace M_faultPlace M_ofVoting M_hour M_oil M_weight M_spider M_treasury M_joy M_passed M_acts M_seen M_never M_said M_hoarse M_fitMany M_seedNow M_hasImage M_actsThen M_seenThen)), ((aM 16), .inl (cc 0, 700, .inl M_tape))] sz) (QI dC dI cc out [(oM, .inr (9, mkX9 aM M_values M_code M_taped M_at M_size M_token M_number M_begins M_stops M_bad M_badPlace M_faultPlace M_ofVoting M_hour M_oil M_weight M_spider M_treasury M_joy M_passed M_acts M_seen M_never M_said M_hoarse M_fitMany M_seedNow M_hasImage M_actsThen M_seenThen)), ((aM 16), .inl (cc 0, 700, .inl M_tape))] (va_A [(oM, .inr (9, mkX9 aM M_values M_code M_taped M_at M_size M_token M_number M_begins M_stops M_bad M_badPlace M_faultPlace M_ofVoting M_hour M_oil M_weight M_spider M_treasury M_joy M_passed M_acts M_seen M_never M_said M_hoarse M_fitMany M_seedNow M_hasImage M_actsThen M_seenThen)), ((aM 16), .inl (cc 0, 700, .inl M_tape))] sz)) 0 0 (va_A [(oM, .inr (9, mkX9 aM M_values M_code M_taped M_at M_size M_token M_number M_begins M_stops M_bad M_badPlace M_faultPlace M_ofVoting M_hour M_oil M_weight M_spider M_treasury M_joy M_passed M_acts M_seen M_never M_said M_hoarse M_fitMany M_seedNow M_hasImage M_actsThen M_seenThen)), ((aM 16), .inl (cc 0, 700, .inl M_tape))] sz) :=
  met_of (Q := fun A => QI dC dI cc out [(oM, .inr (9, mkX9 aM M_values M_code M_taped M_at M_size M_token M_number M_begins M_stops M_bad M_badPlace M_faultPlace M_ofVoting M_hour M_oil M_weight M_spider M_treasury M_joy M_passed M_acts M_seen M_never M_said M_hoarse M_fitMany M_seedNow M_hasImage M_actsThen M_seenThen)), ((aM 16), .inl (cc 0, 700, .inl M_tape))] A) (by decide) rfl (Nat.le_of_ble_eq_true rfl) (fun p e s m below meth c A C0 hP hD hS ls hl => bX9_isMarked C0 oM aM M_values M_code M_taped M_at M_size M_token M_number M_begins M_stops M_bad M_badPlace M_faultPlace M_ofVoting M_hour M_oil M_weight M_spider M_treasury M_joy M_passed M_acts M_seen M_never M_said M_hoarse M_fitMany M_seedNow M_hasImage M_actsThen M_seenThen M_tape p0 hf hP hD hS hl)
abbrev rmX9_mark : Room := { frames := 2, cells := 0, slots := 0, locals := 42 }
def jX9_mark_20    (M_at : Int32) (M_size : Int32) (M_token : Int32) (M_number : Int32) (M_begins : Int32) (M_stops : Int32) (M_bad : Int32) (M_badPlace : Int32) (M_tape : Nat → Int32)  : Option (Int32 × Int32 × Int32 × Int32 × Int32 × Int32 × Int32) :=
  if M_bad = 0 then
    (fX9_stepOn  M_at M_size M_token M_number M_begins M_stops M_tape).bind fun v4 =>
    some (v4.1, v4.2.1, v4.2.2.1, v4.2.2.2.1, v4.2.2.2.2, M_bad, M_badPlace)
  else
    some (M_at, M_token, M_number, M_begins, M_stops, M_bad, M_badPlace)
set_option maxHeartbeats 4000000 in
set_option maxRecDepth 100000 in
theorem wjX9_mark_20 {p : Program} {l : Launch} {e : Env} {s : State} {m : MethodId} {args : Array Value} {below : List Frame} {meth : Method} {c : Code} {A : Nat → Prop} {dC : Nat → ClassId} {dI : Nat → Nat → Nat} {cc : Nat → ClassId} {ak : Nat → Nat} (C0 : CT p s m args meth c A dC dI cc ak cX9_mark 2 none RX9) (oM : Nat) (aM : Nat → Nat)  (M_values : Int32) (M_code : Int32) (M_taped : Int32) (M_at : Int32) (M_size : Int32) (M_token : Int32) (M_number : Int32) (M_begins : Int32) (M_stops : Int32) (M_bad : Int32) (M_badPlace : Int32) (M_faultPlace : Int32) (M_ofVoting : Int32) (M_hour : Int32) (M_oil : Int32) (M_weight : Int32) (M_spider : Int32) (M_treasury : Int32) (M_joy : Int32) (M_passed : Int32) (M_acts : Int32) (M_seen : Int32) (M_never : Int32) (M_said : Int32) (M_hoarse : Int32) (M_fitMany : Int32) (M_seedNow : Int32) (M_hasImage : Int32) (M_actsThen : Int32) (M_seenThen : Int32) (M_tape : Nat → Int32)  {out : Int32 × Int32 × Int32 × Int32 × Int32 × Int32 × Int32}    (hf : jX9_mark_20  M_at M_size M_token M_number M_begins M_stops M_bad M_badPlace M_tape  = some out) (H : Heap) (locs : List Loc) (hP : va_P (dC, dI) cLs [(oM, .inr (9, mkX9 aM M_values M_code M_taped M_at M_size M_token M_number M_begins M_stops M_bad M_badPlace M_faultPlace M_ofVoting M_hour M_oil M_weight M_spider M_treasury M_joy M_passed M_acts M_seen M_never M_said M_hoarse M_fitMany M_seedNow M_hasImage M_actsThen M_seenThen)), ((aM 16), .inl (cc 0, 700, .inl M_tape))] H) (hD : va_D A [(oM, .inr (9, mkX9 aM M_values M_code M_taped M_at M_size M_token M_number M_begins M_stops M_bad M_badPlace M_faultPlace M_ofVoting M_hour M_oil M_weight M_spider M_treasury M_joy M_passed M_acts M_seen M_never M_said M_hoarse M_fitMany M_seedNow M_hasImage M_actsThen M_seenThen)), ((aM 16), .inl (cc 0, 700, .inl M_tape))]) (hS : va_S A s.heap H locs) (ls : Array Slot) (hl : lv_has ls 2 [(0, .ref oM)]) : W p l e rmX9_mark s m args below meth c H locs 0 0 (MQ below (QV dC dI cc [(oM, .inr (9, mkX9 aM M_values M_code M_taped out.1 M_size out.2.1 out.2.2.1 out.2.2.2.1 out.2.2.2.2.1 out.2.2.2.2.2.1 out.2.2.2.2.2.2 M_faultPlace M_ofVoting M_hour M_oil M_weight M_spider M_treasury M_joy M_passed M_acts M_seen M_never M_said M_hoarse M_fitMany M_seedNow M_hasImage M_actsThen M_seenThen)), ((aM 16), .inl (cc 0, 700, .inl M_tape))] A) args s 0 0 A) (F0 m 20 ls []) := by
  obtain ⟨hx, hb, hml, hr, hlocks, hown, hG, hK, hA, hE⟩ := id C0
  unfold jX9_mark_20 at hf
  refine lv_aload_n hx hb dX9_mark_20 rfl (lv_at hl 0 rfl) ?_
  refine va_get (D := (dC, dI)) (ci := 9) (v := .int M_bad) (C := RX9) (T := TX9) (N := 63) hx hb hG kinX9 hown hK hP 0 rfl rfl 24 (by decide) (hG _ kfX9_201) (fun _ h9 => h9) rfl dX9_mark_21 ?_
  refine lv_if_ne (tgt := 31) hx hb dX9_mark_24 (by decide) (fun c2 => ?_) (fun c2 => ?_)
  · have hf := iff_ c2 hf
    obtain rfl := Option.some.inj hf
    exact retV C0 hP hD hS dX9_mark_31
  · have hf := ift c2 hf
    refine lv_aload_n hx hb dX9_mark_27 rfl (lv_at hl 0 rfl) ?_
    refine bd_el hf (fun v4 hv4 hf => ?_)
    refine callVv (As := []) (rest := []) (wr := []) (wn := [(oM, .inr (9, mkX9 aM M_values M_code M_taped v4.1 M_size v4.2.1 v4.2.2.1 v4.2.2.2.1 v4.2.2.2.2 M_bad M_badPlace M_faultPlace M_ofVoting M_hour M_oil M_weight M_spider M_treasury M_joy M_passed M_acts M_seen M_never M_said M_hoarse M_fitMany M_seedNow M_hasImage M_actsThen M_seenThen)), ((aM 16), .inl (cc 0, 700, .inl M_tape))]) C0 kvX9_stepOn kmX9_226 hP hD hS (mX9_stepOn l dC dI cc ak oM aM _  M_values M_code M_taped M_at M_size M_token M_number M_begins M_stops M_bad M_badPlace M_faultPlace M_ofVoting M_hour M_oil M_weight M_spider M_treasury M_joy M_passed M_acts M_seen M_never M_said M_hoarse M_fitMany M_seedNow M_hasImage M_actsThen M_seenThen M_tape hv4) ⟨rfl, rfl⟩ ⟨Nat.le_of_ble_eq_true rfl, Nat.le_of_ble_eq_true rfl⟩ [0, 1] [] [0, 1] rfl rfl rfl rfl (va_recv hK hP (ci := 9) (q0 := 0) rfl rfl) rfl hl.1 rfl (Nat.le_of_ble_eq_true rfl) ⟨Nat.zero_le _, Nat.zero_le _⟩ dX9_mark_28 (fun H locs hP hD hS => ?_)
    obtain rfl := Option.some.inj hf
    exact retV C0 hP hD hS dX9_mark_31
def fX9_mark   (M_at : Int32) (M_size : Int32) (M_token : Int32) (M_number : Int32) (M_begins : Int32) (M_stops : Int32) (M_bad : Int32) (M_badPlace : Int32) (M_tape : Nat → Int32) (p0 : Int32) : Option (Int32 × Int32 × Int32 × Int32 × Int32 × Int32 × Int32) :=
  if M_bad = 0 then
    (fX9_isMarked  M_token M_begins M_bad M_tape p0).bind fun v6 =>
    if v6 = 0 then
      (fX9_wrong  M_begins M_bad M_badPlace 1).bind fun v9 =>
      jX9_mark_20 M_at M_size M_token M_number M_begins M_stops v9.1 v9.2 M_tape
    else
      jX9_mark_20 M_at M_size M_token M_number M_begins M_stops M_bad M_badPlace M_tape
  else
    jX9_mark_20 M_at M_size M_token M_number M_begins M_stops M_bad M_badPlace M_tape
set_option maxHeartbeats 4000000 in
set_option maxRecDepth 100000 in
theorem bX9_mark {p : Program} {l : Launch} {e : Env} {s : State} {m : MethodId} {args : Array Value} {below : List Frame} {meth : Method} {c : Code} {A : Nat → Prop} {dC : Nat → ClassId} {dI : Nat → Nat → Nat} {cc : Nat → ClassId} {ak : Nat → Nat} (C0 : CT p s m args meth c A dC dI cc ak cX9_mark 2 none RX9) (oM : Nat) (aM : Nat → Nat)  (M_values : Int32) (M_code : Int32) (M_taped : Int32) (M_at : Int32) (M_size : Int32) (M_token : Int32) (M_number : Int32) (M_begins : Int32) (M_stops : Int32) (M_bad : Int32) (M_badPlace : Int32) (M_faultPlace : Int32) (M_ofVoting : Int32) (M_hour : Int32) (M_oil : Int32) (M_weight : Int32) (M_spider : Int32) (M_treasury : Int32) (M_joy : Int32) (M_passed : Int32) (M_acts : Int32) (M_seen : Int32) (M_never : Int32) (M_said : Int32) (M_hoarse : Int32) (M_fitMany : Int32) (M_seedNow : Int32) (M_hasImage : Int32) (M_actsThen : Int32) (M_seenThen : Int32) (M_tape : Nat → Int32) (p0 : Int32) {out : Int32 × Int32 × Int32 × Int32 × Int32 × Int32 × Int32} (hf : fX9_mark M_at M_size M_token M_number M_begins M_stops M_bad M_badPlace M_tape p0 = some out) {H : Heap} {locs : List Loc} (hP : va_P (dC, dI) cLs [(oM, .inr (9, mkX9 aM M_values M_code M_taped M_at M_size M_token M_number M_begins M_stops M_bad M_badPlace M_faultPlace M_ofVoting M_hour M_oil M_weight M_spider M_treasury M_joy M_passed M_acts M_seen M_never M_said M_hoarse M_fitMany M_seedNow M_hasImage M_actsThen M_seenThen)), ((aM 16), .inl (cc 0, 700, .inl M_tape))] H) (hD : va_D A [(oM, .inr (9, mkX9 aM M_values M_code M_taped M_at M_size M_token M_number M_begins M_stops M_bad M_badPlace M_faultPlace M_ofVoting M_hour M_oil M_weight M_spider M_treasury M_joy M_passed M_acts M_seen M_never M_said M_hoarse M_fitMany M_seedNow M_hasImage M_actsThen M_seenThen)), ((aM 16), .inl (cc 0, 700, .inl M_tape))]) (hS : va_S A s.heap H locs) {ls : Array Slot} (hl : lv_has ls 2 [(0, .ref oM), (1, .int p0)]) : W p l e rmX9_mark s m args below meth c H locs 0 0 (MQ below (QV dC dI cc [(oM, .inr (9, mkX9 aM M_values M_code M_taped out.1 M_size out.2.1 out.2.2.1 out.2.2.2.1 out.2.2.2.2.1 out.2.2.2.2.2.1 out.2.2.2.2.2.2 M_faultPlace M_ofVoting M_hour M_oil M_weight M_spider M_treasury M_joy M_passed M_acts M_seen M_never M_said M_hoarse M_fitMany M_seedNow M_hasImage M_actsThen M_seenThen)), ((aM 16), .inl (cc 0, 700, .inl M_tape))] A) args s 0 0 A) (F0 m 0 ls []) := by
  obtain ⟨hx, hb, hml, hr, hlocks, hown, hG, hK, hA, hE⟩ := id C0
  unfold fX9_mark at hf
  refine lv_aload_n hx hb dX9_mark_0 rfl (lv_at hl 0 rfl) ?_
  refine va_get (D := (dC, dI)) (ci := 9) (v := .int M_bad) (C := RX9) (T := TX9) (N := 63) hx hb hG kinX9 hown hK hP 0 rfl rfl 24 (by decide) (hG _ kfX9_201) (fun _ h9 => h9) rfl dX9_mark_1 ?_
  refine lv_if_ne (tgt := 20) hx hb dX9_mark_4 (by decide) (fun c1 => ?_) (fun c1 => ?_)
  · have hf := iff_ c1 hf
    exact wjX9_mark_20 C0 oM aM M_values M_code M_taped M_at M_size M_token M_number M_begins M_stops M_bad M_badPlace M_faultPlace M_ofVoting M_hour M_oil M_weight M_spider M_treasury M_joy M_passed M_acts M_seen M_never M_said M_hoarse M_fitMany M_seedNow M_hasImage M_actsThen M_seenThen M_tape    hf _ _ hP hD hS _ (lv_sub hl [0] rfl)
  · have hf := ift c1 hf
    refine lv_aload_n hx hb dX9_mark_7 rfl (lv_at hl 0 rfl) ?_
    refine lv_iload_n hx hb dX9_mark_8 rfl (lv_at hl 1 rfl) ?_
    refine bd_el hf (fun v6 hv6 hf => ?_)
    refine callVi (As := [.int p0]) (rest := []) (wr := []) (wn := [(oM, .inr (9, mkX9 aM M_values M_code M_taped M_at M_size M_token M_number M_begins M_stops M_bad M_badPlace M_faultPlace M_ofVoting M_hour M_oil M_weight M_spider M_treasury M_joy M_passed M_acts M_seen M_never M_said M_hoarse M_fitMany M_seedNow M_hasImage M_actsThen M_seenThen)), ((aM 16), .inl (cc 0, 700, .inl M_tape))]) C0 kvX9_isMarked kmX9_219 hP hD hS (mX9_isMarked l dC dI cc ak oM aM _  M_values M_code M_taped M_at M_size M_token M_number M_begins M_stops M_bad M_badPlace M_faultPlace M_ofVoting M_hour M_oil M_weight M_spider M_treasury M_joy M_passed M_acts M_seen M_never M_said M_hoarse M_fitMany M_seedNow M_hasImage M_actsThen M_seenThen M_tape p0 hv6) ⟨rfl, rfl⟩ ⟨Nat.le_of_ble_eq_true rfl, Nat.le_of_ble_eq_true rfl⟩ [0, 1] [] [0, 1] rfl rfl rfl rfl (va_recv hK hP (ci := 9) (q0 := 0) rfl rfl) rfl hl.1 rfl (Nat.le_of_ble_eq_true rfl) ⟨Nat.zero_le _, Nat.zero_le _⟩ dX9_mark_9 (fun H locs hP hD hS => ?_)
    refine lv_if_ne (tgt := 20) hx hb dX9_mark_12 (by decide) (fun c7 => ?_) (fun c7 => ?_)
    · have hf := iff_ c7 hf
      exact wjX9_mark_20 C0 oM aM M_values M_code M_taped M_at M_size M_token M_number M_begins M_stops M_bad M_badPlace M_faultPlace M_ofVoting M_hour M_oil M_weight M_spider M_treasury M_joy M_passed M_acts M_seen M_never M_said M_hoarse M_fitMany M_seedNow M_hasImage M_actsThen M_seenThen M_tape    hf _ _ hP hD hS _ (lv_sub hl [0] rfl)
    · have hf := ift c7 hf
      refine lv_aload_n hx hb dX9_mark_15 rfl (lv_at hl 0 rfl) ?_
      refine lv_iconst (v := 1) hx hb dX9_mark_16 (by decide) ?_
      refine bd_el hf (fun v9 hv9 hf => ?_)
      refine callVv (As := [.int 1]) (rest := []) (wr := [((aM 16), .inl (cc 0, 700, .inl M_tape))]) (wn := [(oM, .inr (9, mkX9 aM M_values M_code M_taped M_at M_size M_token M_number M_begins M_stops v9.1 v9.2 M_faultPlace M_ofVoting M_hour M_oil M_weight M_spider M_treasury M_joy M_passed M_acts M_seen M_never M_said M_hoarse M_fitMany M_seedNow M_hasImage M_actsThen M_seenThen)), ((aM 16), .inl (cc 0, 700, .inl M_tape))]) C0 kvX9_wrong kmX9_222 hP hD hS (mX9_wrong l dC dI cc ak oM aM _  M_values M_code M_taped M_at M_size M_token M_number M_begins M_stops M_bad M_badPlace M_faultPlace M_ofVoting M_hour M_oil M_weight M_spider M_treasury M_joy M_passed M_acts M_seen M_never M_said M_hoarse M_fitMany M_seedNow M_hasImage M_actsThen M_seenThen 1 hv9) ⟨rfl, rfl⟩ ⟨Nat.le_of_ble_eq_true rfl, Nat.le_of_ble_eq_true rfl⟩ [0] [1] [1, 0] rfl rfl rfl rfl (va_recv hK hP (ci := 9) (q0 := 0) rfl rfl) rfl hl.1 rfl (Nat.le_of_ble_eq_true rfl) ⟨Nat.zero_le _, Nat.zero_le _⟩ dX9_mark_17 (fun H locs hP hD hS => ?_)
      exact wjX9_mark_20 C0 oM aM M_values M_code M_taped M_at M_size M_token M_number M_begins M_stops v9.1 v9.2 M_faultPlace M_ofVoting M_hour M_oil M_weight M_spider M_treasury M_joy M_passed M_acts M_seen M_never M_said M_hoarse M_fitMany M_seedNow M_hasImage M_actsThen M_seenThen M_tape    hf _ _ hP hD hS _ (lv_sub hl [0] rfl)
theorem mX9_mark (l : Launch) (dC : Nat → ClassId) (dI : Nat → Nat → Nat) (cc : Nat → ClassId) (ak : Nat → Nat) (oM : Nat) (aM : Nat → Nat) (sz : Nat)  (M_values : Int32) (M_code : Int32) (M_taped : Int32) (M_at : Int32) (M_size : Int32) (M_token : Int32) (M_number : Int32) (M_begins : Int32) (M_stops : Int32) (M_bad : Int32) (M_badPlace : Int32) (M_faultPlace : Int32) (M_ofVoting : Int32) (M_hour : Int32) (M_oil : Int32) (M_weight : Int32) (M_spider : Int32) (M_treasury : Int32) (M_joy : Int32) (M_passed : Int32) (M_acts : Int32) (M_seen : Int32) (M_never : Int32) (M_said : Int32) (M_hoarse : Int32) (M_fitMany : Int32) (M_seedNow : Int32) (M_hasImage : Int32) (M_actsThen : Int32) (M_seenThen : Int32) (M_tape : Nat → Int32) (p0 : Int32) {out : Int32 × Int32 × Int32 × Int32 × Int32 × Int32 × Int32} (hf : fX9_mark M_at M_size M_token M_number M_begins M_stops M_bad M_badPlace M_tape p0 = some out) : Met l yX9_mark (Cond.code yX9_mark cX9_mark 2 none :: GW) rmX9_mark (PI dC dI cc ak [.ref oM, .int p0] [(oM, .inr (9, mkX9 aM M_values M_code M_taped M_at M_size M_token M_number M_begins M_stops M_bad M_badPlace M_faultPlace M_ofVoting M_hour M_oil M_weight M_spider M_treasury M_joy M_passed M_acts M_seen M_never M_said M_hoarse M_fitMany M_seedNow M_hasImage M_actsThen M_seenThen)), ((aM 16), .inl (cc 0, 700, .inl M_tape))] sz) (QV dC dI cc [(oM, .inr (9, mkX9 aM M_values M_code M_taped out.1 M_size out.2.1 out.2.2.1 out.2.2.2.1 out.2.2.2.2.1 out.2.2.2.2.2.1 out.2.2.2.2.2.2 M_faultPlace M_ofVoting M_hour M_oil M_weight M_spider M_treasury M_joy M_passed M_acts M_seen M_never M_said M_hoarse M_fitMany M_seedNow M_hasImage M_actsThen M_seenThen)), ((aM 16), .inl (cc 0, 700, .inl M_tape))] (va_A [(oM, .inr (9, mkX9 aM M_values M_code M_taped M_at M_size M_token M_number M_begins M_stops M_bad M_badPlace M_faultPlace M_ofVoting M_hour M_oil M_weight M_spider M_treasury M_joy M_passed M_acts M_seen M_never M_said M_hoarse M_fitMany M_seedNow M_hasImage M_actsThen M_seenThen)), ((aM 16), .inl (cc 0, 700, .inl M_tape))] sz)) 0 0 (va_A [(oM, .inr (9, mkX9 aM M_values M_code M_taped M_at M_size M_token M_number M_begins M_stops M_bad M_badPlace M_faultPlace M_ofVoting M_hour M_oil M_weight M_spider M_treasury M_joy M_passed M_acts M_seen M_never M_said M_hoarse M_fitMany M_seedNow M_hasImage M_actsThen M_seenThen)), ((aM 16), .inl (cc 0, 700, .inl M_tape))] sz) :=
  met_of (Q := fun A => QV dC dI cc [(oM, .inr (9, mkX9 aM M_values M_code M_taped out.1 M_size out.2.1 out.2.2.1 out.2.2.2.1 out.2.2.2.2.1 out.2.2.2.2.2.1 out.2.2.2.2.2.2 M_faultPlace M_ofVoting M_hour M_oil M_weight M_spider M_treasury M_joy M_passed M_acts M_seen M_never M_said M_hoarse M_fitMany M_seedNow M_hasImage M_actsThen M_seenThen)), ((aM 16), .inl (cc 0, 700, .inl M_tape))] A) (by decide) rfl (Nat.le_of_ble_eq_true rfl) (fun p e s m below meth c A C0 hP hD hS ls hl => bX9_mark C0 oM aM M_values M_code M_taped M_at M_size M_token M_number M_begins M_stops M_bad M_badPlace M_faultPlace M_ofVoting M_hour M_oil M_weight M_spider M_treasury M_joy M_passed M_acts M_seen M_never M_said M_hoarse M_fitMany M_seedNow M_hasImage M_actsThen M_seenThen M_tape p0 hf hP hD hS hl)
