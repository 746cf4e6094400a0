abbrev rmJ0_coder_7d493 : Room := { frames := 0, cells := 0, slots := 0, locals := 0 }
def fJ0_coder_7d493  (i0 : Nat)   : Option (Int32) :=
  ck (i33 i0) <|
  ck (isbyt 0) <|
  some 0
set_option maxHeartbeats 4000000 in
set_option maxRecDepth 100000 in
theorem bJ0_coder_7d493 {p : Program} {l : Launch} {e : Env} {s : State} {m : MethodId} {args : Array Value} {below : List Frame} {meth : Method} {c : Code} {A : Nat → Prop} {dC : Nat → ClassId} {dI : Nat → Nat → Nat} {cc : Nat → ClassId} {ak : Nat → Nat} (C0 : CT p s m args meth c A dC dI cc ak cJ0_coder_7d493 1 (some .byte) RJ0)  (i0 : Nat)    {out : Int32} (hf : fJ0_coder_7d493 i0 = some out) {H : Heap} {locs : List Loc} (hP : va_P (dC, dI) cLs [] H) (hD : va_D A []) (hS : va_S A s.heap H locs) {ls : Array Slot} (hl : lv_has ls 1 [(0, .ref (ak i0))]) : W p l e rmJ0_coder_7d493 s m args below meth c H locs 0 0 (MQ below (QI dC dI cc out [] A) args s 0 0 A) (F0 m 0 ls []) := by
  obtain ⟨hx, hb, hml, hr, hlocks, hown, hG, hK, hA, hE⟩ := id C0
  unfold fJ0_coder_7d493 at hf
  refine ck_el hf (fun g33i0 hf => ?_)
  refine va_gets hx hb hE.2.2.1 hS hown (hG _ kfJ0_38) (fun _ h9 => h9) dJ0_coder_7d493_0 ?_
  refine lv_if_eq (tgt := 13) hx hb dJ0_coder_7d493_3 (by decide) (fun h => absurd h (by decide)) (fun _ => ?_)
  refine lv_aload_n hx hb dJ0_coder_7d493_6 rfl (lv_at hl 0 rfl) ?_
  refine vk_getf hx hb (hE.1 i0 (i33_lt g33i0)).2.1 hS hown (hG _ kfJ0_15) (fun _ h9 => h9) dJ0_coder_7d493_7 ?_
  refine lv_goto (tgt := 14) hx hb dJ0_coder_7d493_10 (by decide) ?_
  refine ck_el hf (fun g1 hf => ?_)
  obtain rfl := Option.some.inj hf
  exact retB C0 hP hD hS (isbyt_n g1) rfl dJ0_coder_7d493_14
theorem mJ0_coder_7d493 (l : Launch) (dC : Nat → ClassId) (dI : Nat → Nat → Nat) (cc : Nat → ClassId) (ak : Nat → Nat)  (i0 : Nat) (sz : Nat)    {out : Int32} (hf : fJ0_coder_7d493 i0 = some out) : Met l yJ0_coder_7d493 (Cond.code yJ0_coder_7d493 cJ0_coder_7d493 1 (some .byte) :: GW) rmJ0_coder_7d493 (PI dC dI cc ak [.ref (ak i0)] [] sz) (QI dC dI cc out [] (va_A [] sz)) 0 0 (va_A [] sz) :=
  met_of (Q := fun A => QI dC dI cc out [] A) (by decide) rfl (Nat.le_of_ble_eq_true rfl) (fun p e s m below meth c A C0 hP hD hS ls hl => bJ0_coder_7d493 C0 i0 hf hP hD hS hl)
abbrev rmJ0_length_8abf5 : Room := { frames := 1, cells := 0, slots := 0, locals := 20 }
def fJ0_length_8abf5  (i0 : Nat)   : Option (Int32) :=
  ck (i33 i0) <|
  (fJ0_coder_7d493  i0).bind fun v2 =>
  some ((Int32.ofNat (sN i0)) >>> (v2 &&& 31))
set_option maxHeartbeats 4000000 in
set_option maxRecDepth 100000 in
theorem bJ0_length_8abf5 {p : Program} {l : Launch} {e : Env} {s : State} {m : MethodId} {args : Array Value} {below : List Frame} {meth : Method} {c : Code} {A : Nat → Prop} {dC : Nat → ClassId} {dI : Nat → Nat → Nat} {cc : Nat → ClassId} {ak : Nat → Nat} (C0 : CT p s m args meth c A dC dI cc ak cJ0_length_8abf5 1 (some .int) RJ0)  (i0 : Nat)    {out : Int32} (hf : fJ0_length_8abf5 i0 = some out) {H : Heap} {locs : List Loc} (hP : va_P (dC, dI) cLs [] H) (hD : va_D A []) (hS : va_S A s.heap H locs) {ls : Array Slot} (hl : lv_has ls 1 [(0, .ref (ak i0))]) : W p l e rmJ0_length_8abf5 s m args below meth c H locs 0 0 (MQ below (QI dC dI cc out [] A) args s 0 0 A) (F0 m 0 ls []) := by
  obtain ⟨hx, hb, hml, hr, hlocks, hown, hG, hK, hA, hE⟩ := id C0
  unfold fJ0_length_8abf5 at hf
  refine ck_el hf (fun g33i0 hf => ?_)
  refine lv_aload_n hx hb dJ0_length_8abf5_0 rfl (lv_at hl 0 rfl) ?_
  refine vk_getf hx hb (hE.1 i0 (i33_lt g33i0)).2.2.1 hS hown (hG _ kfJ0_9) (fun _ h9 => h9) dJ0_length_8abf5_1 ?_
  refine va_tlen hx hb (hE.1 i0 (i33_lt g33i0)).2.2.2 hS (v := (Int32.ofNat (sN i0))) rfl dJ0_length_8abf5_4 ?_
  refine lv_aload_n hx hb dJ0_length_8abf5_5 rfl (lv_at hl 0 rfl) ?_
  refine bd_el hf (fun v2 hv2 hf => ?_)
  refine callVi (As := []) (rest := [.int (Int32.ofNat (sN i0))]) (wr := []) (wn := []) C0 kvJ0_coder_7d493 kmJ0_335 hP hD hS (mJ0_coder_7d493 l dC dI cc ak i0 _   hv2) ⟨rfl, rfl⟩ ⟨Nat.le_of_ble_eq_true rfl, Nat.le_of_ble_eq_true rfl⟩ [] [] [] rfl rfl rfl rfl (hE.recv hS (i33_lt g33i0)) rfl hl.1 rfl (Nat.le_of_ble_eq_true rfl) ⟨Nat.zero_le _, Nat.zero_le _⟩ dJ0_length_8abf5_6 (fun H locs hP hD hS => ?_)
  refine lv_ishr hx hb dJ0_length_8abf5_9 ?_
  obtain rfl := Option.some.inj hf
  exact retI C0 hP hD hS rfl dJ0_length_8abf5_10
theorem mJ0_length_8abf5 (l : Launch) (dC : Nat → ClassId) (dI : Nat → Nat → Nat) (cc : Nat → ClassId) (ak : Nat → Nat)  (i0 : Nat) (sz : Nat)    {out : Int32} (hf : fJ0_length_8abf5 i0 = some out) : Met l yJ0_length_8abf5 (Cond.code yJ0_length_8abf5 cJ0_length_8abf5 1 (some .int) :: GW) rmJ0_length_8abf5 (PI dC dI cc ak [.ref (ak i0)] [] sz) (QI dC dI cc out [] (va_A [] sz)) 0 0 (va_A [] sz) :=
  met_of (Q := fun A => QI dC dI cc out [] A) (by decide) rfl (Nat.le_of_ble_eq_true rfl) (fun p e s m below meth c A C0 hP hD hS ls hl => bJ0_length_8abf5 C0 i0 hf hP hD hS hl)
abbrev rmJ3_checkIndex_8e157 : Room := { frames := 0, cells := 0, slots := 0, locals := 0 }
def fJ3_checkIndex_8e157    (p0 : Int32) (p1 : Int32) : Option (Int32) :=
  if p0 < 0 then
    none
  else
    if p0 < p1 then
      some p0
    else
      none
set_option maxHeartbeats 4000000 in
set_option maxRecDepth 100000 in
theorem bJ3_checkIndex_8e157 {p : Program} {l : Launch} {e : Env} {s : State} {m : MethodId} {args : Array Value} {below : List Frame} {meth : Method} {c : Code} {A : Nat → Prop} {dC : Nat → ClassId} {dI : Nat → Nat → Nat} {cc : Nat → ClassId} {ak : Nat → Nat} (C0 : CT p s m args meth c A dC dI cc ak cJ3_checkIndex_8e157 3 (some .int) RJ3) (t2 : Nat)   (p0 : Int32) (p1 : Int32) {out : Int32} (hf : fJ3_checkIndex_8e157 p0 p1 = some out) {H : Heap} {locs : List Loc} (hP : va_P (dC, dI) cLs [] H) (hD : va_D A []) (hS : va_S A s.heap H locs) {ls : Array Slot} (hl : lv_has ls 3 [(0, .int p0), (1, .int p1), (2, .ref t2)]) : W p l e rmJ3_checkIndex_8e157 s m args below meth c H locs 0 0 (MQ below (QI dC dI cc out [] A) args s 0 0 A) (F0 m 0 ls []) := by
  obtain ⟨hx, hb, hml, hr, hlocks, hown, hG, hK, hA, hE⟩ := id C0
  unfold fJ3_checkIndex_8e157 at hf
  refine lv_iload_n hx hb dJ3_checkIndex_8e157_0 rfl (lv_at hl 0 rfl) ?_
  refine lv_if_lt (tgt := 9) hx hb dJ3_checkIndex_8e157_1 (by decide) (fun c1 => ?_) (fun c1 => ?_)
  · have hf := ift c1 hf
    cases hf
  · have hf := iff_ c1 hf
    refine lv_iload_n hx hb dJ3_checkIndex_8e157_4 rfl (lv_at hl 0 rfl) ?_
    refine lv_iload_n hx hb dJ3_checkIndex_8e157_5 rfl (lv_at hl 1 rfl) ?_
    refine lv_icmp_lt (tgt := 16) hx hb dJ3_checkIndex_8e157_6 (by decide) (fun c2 => ?_) (fun c2 => ?_)
    · have hf := ift c2 hf
      refine lv_iload_n hx hb dJ3_checkIndex_8e157_16 rfl (lv_at hl 0 rfl) ?_
      obtain rfl := Option.some.inj hf
      exact retI C0 hP hD hS rfl dJ3_checkIndex_8e157_17
    · have hf := iff_ c2 hf
      cases hf
theorem mJ3_checkIndex_8e157 (l : Launch) (dC : Nat → ClassId) (dI : Nat → Nat → Nat) (cc : Nat → ClassId) (ak : Nat → Nat) (t2 : Nat) (sz : Nat)   (p0 : Int32) (p1 : Int32) {out : Int32} (hf : fJ3_checkIndex_8e157 p0 p1 = some out) : Met l yJ3_checkIndex_8e157 (Cond.code yJ3_checkIndex_8e157 cJ3_checkIndex_8e157 3 (some .int) :: GW) rmJ3_checkIndex_8e157 (PI dC dI cc ak [.int p0, .int p1, .ref t2] [] sz) (QI dC dI cc out [] (va_A [] sz)) 0 0 (va_A [] sz) :=
  met_of (Q := fun A => QI dC dI cc out [] A) (by decide) rfl (Nat.le_of_ble_eq_true rfl) (fun p e s m below meth c A C0 hP hD hS ls hl => bJ3_checkIndex_8e157 C0 t2 p0 p1 hf hP hD hS hl)

set_option maxHeartbeats 4000000 in
set_option maxRecDepth 100000 in
theorem bJ3_checkIndex_8e157n {p : Program} {l : Launch} {e : Env} {s : State} {m : MethodId} {args : Array Value} {below : List Frame} {meth : Method} {c : Code} {A : Nat → Prop} {dC : Nat → ClassId} {dI : Nat → Nat → Nat} {cc : Nat → ClassId} {ak : Nat → Nat} (C0 : CT p s m args meth c A dC dI cc ak cJ3_checkIndex_8e157 3 (some .int) RJ3)    (p0 : Int32) (p1 : Int32) {out : Int32} (hf : fJ3_checkIndex_8e157 p0 p1 = some out) {H : Heap} {locs : List Loc} (hP : va_P (dC, dI) cLs [] H) (hD : va_D A []) (hS : va_S A s.heap H locs) {ls : Array Slot} (hl : lv_has ls 3 [(0, .int p0), (1, .int p1), (2, .null)]) : W p l e rmJ3_checkIndex_8e157 s m args below meth c H locs 0 0 (MQ below (QI dC dI cc out [] A) args s 0 0 A) (F0 m 0 ls []) := by
  obtain ⟨hx, hb, hml, hr, hlocks, hown, hG, hK, hA, hE⟩ := id C0
  unfold fJ3_checkIndex_8e157 at hf
  refine lv_iload_n hx hb dJ3_checkIndex_8e157_0 rfl (lv_at hl 0 rfl) ?_
  refine lv_if_lt (tgt := 9) hx hb dJ3_checkIndex_8e157_1 (by decide) (fun c1 => ?_) (fun c1 => ?_)
  · have hf := ift c1 hf
    cases hf
  · have hf := iff_ c1 hf
    refine lv_iload_n hx hb dJ3_checkIndex_8e157_4 rfl (lv_at hl 0 rfl) ?_
    refine lv_iload_n hx hb dJ3_checkIndex_8e157_5 rfl (lv_at hl 1 rfl) ?_
    refine lv_icmp_lt (tgt := 16) hx hb dJ3_checkIndex_8e157_6 (by decide) (fun c2 => ?_) (fun c2 => ?_)
    · have hf := ift c2 hf
      refine lv_iload_n hx hb dJ3_checkIndex_8e157_16 rfl (lv_at hl 0 rfl) ?_
      obtain rfl := Option.some.inj hf
      exact retI C0 hP hD hS rfl dJ3_checkIndex_8e157_17
    · have hf := iff_ c2 hf
      cases hf
theorem mJ3_checkIndex_8e157n (l : Launch) (dC : Nat → ClassId) (dI : Nat → Nat → Nat) (cc : Nat → ClassId) (ak : Nat → Nat)  (sz : Nat)   (p0 : Int32) (p1 : Int32) {out : Int32} (hf : fJ3_checkIndex_8e157 p0 p1 = some out) : Met l yJ3_checkIndex_8e157 (Cond.code yJ3_checkIndex_8e157 cJ3_checkIndex_8e157 3 (some .int) :: GW) rmJ3_checkIndex_8e157 (PI dC dI cc ak [.int p0, .int p1, .null] [] sz) (QI dC dI cc out [] (va_A [] sz)) 0 0 (va_A [] sz) :=
  met_of (Q := fun A => QI dC dI cc out [] A) (by decide) rfl (Nat.le_of_ble_eq_true rfl) (fun p e s m below meth c A C0 hP hD hS ls hl => bJ3_checkIndex_8e157n C0 p0 p1 hf hP hD hS hl)
abbrev rmJ0_isLatin1_aae02 : Room := { frames := 0, cells := 0, slots := 0, locals := 0 }
def fJ0_isLatin1_aae02  (i0 : Nat)   : Option (Int32) :=
  ck (i33 i0) <|
  some 1
set_option maxHeartbeats 4000000 in
set_option maxRecDepth 100000 in
theorem bJ0_isLatin1_aae02 {p : Program} {l : Launch} {e : Env} {s : State} {m : MethodId} {args : Array Value} {below : List Frame} {meth : Method} {c : Code} {A : Nat → Prop} {dC : Nat → ClassId} {dI : Nat → Nat → Nat} {cc : Nat → ClassId} {ak : Nat → Nat} (C0 : CT p s m args meth c A dC dI cc ak cJ0_isLatin1_aae02 1 (some .boolean) RJ0)  (i0 : Nat)    {out : Int32} (hf : fJ0_isLatin1_aae02 i0 = some out) {H : Heap} {locs : List Loc} (hP : va_P (dC, dI) cLs [] H) (hD : va_D A []) (hS : va_S A s.heap H locs) {ls : Array Slot} (hl : lv_has ls 1 [(0, .ref (ak i0))]) : W p l e rmJ0_isLatin1_aae02 s m args below meth c H locs 0 0 (MQ below (QI dC dI cc out [] A) args s 0 0 A) (F0 m 0 ls []) := by
  obtain ⟨hx, hb, hml, hr, hlocks, hown, hG, hK, hA, hE⟩ := id C0
  unfold fJ0_isLatin1_aae02 at hf
  refine ck_el hf (fun g33i0 hf => ?_)
  refine va_gets hx hb hE.2.2.1 hS hown (hG _ kfJ0_38) (fun _ h9 => h9) dJ0_isLatin1_aae02_0 ?_
  refine lv_if_eq (tgt := 17) hx hb dJ0_isLatin1_aae02_3 (by decide) (fun h => absurd h (by decide)) (fun _ => ?_)
  refine lv_aload_n hx hb dJ0_isLatin1_aae02_6 rfl (lv_at hl 0 rfl) ?_
  refine vk_getf hx hb (hE.1 i0 (i33_lt g33i0)).2.1 hS hown (hG _ kfJ0_15) (fun _ h9 => h9) dJ0_isLatin1_aae02_7 ?_
  refine lv_if_ne (tgt := 17) hx hb dJ0_isLatin1_aae02_10 (by decide) (fun h => absurd h (by decide)) (fun _ => ?_)
  refine lv_iconst (v := 1) hx hb dJ0_isLatin1_aae02_13 (by decide) ?_
  refine lv_goto (tgt := 18) hx hb dJ0_isLatin1_aae02_14 (by decide) ?_
  obtain rfl := Option.some.inj hf
  exact retZ C0 hP hD hS rfl rfl dJ0_isLatin1_aae02_18
theorem mJ0_isLatin1_aae02 (l : Launch) (dC : Nat → ClassId) (dI : Nat → Nat → Nat) (cc : Nat → ClassId) (ak : Nat → Nat)  (i0 : Nat) (sz : Nat)    {out : Int32} (hf : fJ0_isLatin1_aae02 i0 = some out) : Met l yJ0_isLatin1_aae02 (Cond.code yJ0_isLatin1_aae02 cJ0_isLatin1_aae02 1 (some .boolean) :: GW) rmJ0_isLatin1_aae02 (PI dC dI cc ak [.ref (ak i0)] [] sz) (QI dC dI cc out [] (va_A [] sz)) 0 0 (va_A [] sz) :=
  met_of (Q := fun A => QI dC dI cc out [] A) (by decide) rfl (Nat.le_of_ble_eq_true rfl) (fun p e s m below meth c A C0 hP hD hS ls hl => bJ0_isLatin1_aae02 C0 i0 hf hP hD hS hl)
abbrev rmJ0_checkIndex_df160 : Room := { frames := 1, cells := 0, slots := 0, locals := 22 }
def fJ0_checkIndex_df160    (p0 : Int32) (p1 : Int32) : Option (Unit) :=
  (fJ3_checkIndex_8e157  p0 p1).bind fun v =>
  some ()
set_option maxHeartbeats 4000000 in
set_option maxRecDepth 100000 in
theorem bJ0_checkIndex_df160 {p : Program} {l : Launch} {e : Env} {s : State} {m : MethodId} {args : Array Value} {below : List Frame} {meth : Method} {c : Code} {A : Nat → Prop} {dC : Nat → ClassId} {dI : Nat → Nat → Nat} {cc : Nat → ClassId} {ak : Nat → Nat} (C0 : CT p s m args meth c A dC dI cc ak cJ0_checkIndex_df160 2 none RJ0)    (p0 : Int32) (p1 : Int32) {out : Unit} (hf : fJ0_checkIndex_df160 p0 p1 = some out) {H : Heap} {locs : List Loc} (hP : va_P (dC, dI) cLs [] H) (hD : va_D A []) (hS : va_S A s.heap H locs) {ls : Array Slot} (hl : lv_has ls 2 [(0, .int p0), (1, .int p1)]) : W p l e rmJ0_checkIndex_df160 s m args below meth c H locs 0 0 (MQ below (QV dC dI cc [] A) args s 0 0 A) (F0 m 0 ls []) := by
  obtain ⟨hx, hb, hml, hr, hlocks, hown, hG, hK, hA, hE⟩ := id C0
  unfold fJ0_checkIndex_df160 at hf
  refine lv_iload_n hx hb dJ0_checkIndex_df160_0 rfl (lv_at hl 0 rfl) ?_
  refine lv_iload_n hx hb dJ0_checkIndex_df160_1 rfl (lv_at hl 1 rfl) ?_
  rcases hE.2.2.2.1 with hZf | ⟨t2, hZf⟩
  · refine va_gets hx hb hZf hS hown (hG _ kfJ0_1053) (fun _ h9 => h9) dJ0_checkIndex_df160_2 ?_
    refine bd_el hf (fun v2 hv2 hf => ?_)
    refine callSi (As := [.int p0, .int p1, .null]) (rest := []) (wr := []) (wn := []) C0 ksJ3_checkIndex_8e157 kmJ0_1059 hP hD hS (mJ3_checkIndex_8e157n l dC dI cc ak  _  p0 p1 hv2) ⟨rfl, rfl⟩ ⟨Nat.le_of_ble_eq_true rfl, Nat.le_of_ble_eq_true rfl⟩ [] [] [] rfl rfl rfl rfl rfl hl.1 rfl (Nat.le_of_ble_eq_true rfl) ⟨Nat.zero_le _, Nat.zero_le _⟩ dJ0_checkIndex_df160_5 (fun H locs hP hD hS => ?_)
    refine lv_pop hx hb dJ0_checkIndex_df160_8 rfl ?_
    obtain rfl := Option.some.inj hf
    exact retV C0 hP hD hS dJ0_checkIndex_df160_9
  · refine va_gets hx hb hZf hS hown (hG _ kfJ0_1053) (fun _ h9 => h9) dJ0_checkIndex_df160_2 ?_
    refine bd_el hf (fun v4 hv4 hf => ?_)
    refine callSi (As := [.int p0, .int p1, .ref t2]) (rest := []) (wr := []) (wn := []) C0 ksJ3_checkIndex_8e157 kmJ0_1059 hP hD hS (mJ3_checkIndex_8e157 l dC dI cc ak t2 _  p0 p1 hv4) ⟨rfl, rfl⟩ ⟨Nat.le_of_ble_eq_true rfl, Nat.le_of_ble_eq_true rfl⟩ [] [] [] rfl rfl rfl rfl rfl hl.1 rfl (Nat.le_of_ble_eq_true rfl) ⟨Nat.zero_le _, Nat.zero_le _⟩ dJ0_checkIndex_df160_5 (fun H locs hP hD hS => ?_)
    refine lv_pop hx hb dJ0_checkIndex_df160_8 rfl ?_
    obtain rfl := Option.some.inj hf
    exact retV C0 hP hD hS dJ0_checkIndex_df160_9
theorem mJ0_checkIndex_df160 (l : Launch) (dC : Nat → ClassId) (dI : Nat → Nat → Nat) (cc : Nat → ClassId) (ak : Nat → Nat)  (sz : Nat)   (p0 : Int32) (p1 : Int32) {out : Unit} (hf : fJ0_checkIndex_df160 p0 p1 = some out) : Met l yJ0_checkIndex_df160 (Cond.code yJ0_checkIndex_df160 cJ0_checkIndex_df160 2 none :: GW) rmJ0_checkIndex_df160 (PI dC dI cc ak [.int p0, .int p1] [] sz) (QV dC dI cc [] (va_A [] sz)) 0 0 (va_A [] sz) :=
  met_of (Q := fun A => QV dC dI cc [] A) (by decide) rfl (Nat.le_of_ble_eq_true rfl) (fun p e s m below meth c A C0 hP hD hS ls hl => bJ0_checkIndex_df160 C0 p0 p1 hf hP hD hS hl)
abbrev rmJ1_charAt_3b067 : Room := { frames := 2, cells := 0, slots := 0, locals := 43 }
def fJ1_charAt_3b067  (i1 : Nat)  (p1 : Int32) : Option (Int32) :=
  ck (i33 i1) <|
  (fJ0_checkIndex_df160  p1 (Int32.ofNat (sN i1))).bind fun v2 =>
  ck (inb p1 (sN i1)) <|
  ck (ischr (((((sB i1 (p1 : Int32).toNatClampNeg) &&& (255 : Int32)) : Int32).toUInt32 % 65536).toInt32)) <|
  some (((((sB i1 (p1 : Int32).toNatClampNeg) &&& (255 : Int32)) : Int32).toUInt32 % 65536).toInt32)
set_option maxHeartbeats 4000000 in
set_option maxRecDepth 100000 in
theorem bJ1_charAt_3b067 {p : Program} {l : Launch} {e : Env} {s : State} {m : MethodId} {args : Array Value} {below : List Frame} {meth : Method} {c : Code} {A : Nat → Prop} {dC : Nat → ClassId} {dI : Nat → Nat → Nat} {cc : Nat → ClassId} {ak : Nat → Nat} (C0 : CT p s m args meth c A dC dI cc ak cJ1_charAt_3b067 2 (some .char) RJ1)  (i1 : Nat)   (p1 : Int32) {out : Int32} (hf : fJ1_charAt_3b067 i1 p1 = some out) {H : Heap} {locs : List Loc} (hP : va_P (dC, dI) cLs [] H) (hD : va_D A []) (hS : va_S A s.heap H locs) {ls : Array Slot} (hl : lv_has ls 2 [(0, .ref (ak (100 + i1))), (1, .int p1)]) : W p l e rmJ1_charAt_3b067 s m args below meth c H locs 0 0 (MQ below (QI dC dI cc out [] A) args s 0 0 A) (F0 m 0 ls []) := by
  obtain ⟨hx, hb, hml, hr, hlocks, hown, hG, hK, hA, hE⟩ := id C0
  unfold fJ1_charAt_3b067 at hf
  refine ck_el hf (fun g33i1 hf => ?_)
  refine lv_iload_n hx hb dJ1_charAt_3b067_0 rfl (lv_at hl 1 rfl) ?_
  refine lv_aload_n hx hb dJ1_charAt_3b067_1 rfl (lv_at hl 0 rfl) ?_
  refine va_tlen hx hb (hE.1 i1 (i33_lt g33i1)).2.2.2 hS (v := (Int32.ofNat (sN i1))) rfl dJ1_charAt_3b067_2 ?_
  refine bd_el hf (fun v2 hv2 hf => ?_)
  refine callSv (As := [.int p1, .int (Int32.ofNat (sN i1))]) (rest := []) (wr := []) (wn := []) C0 ksJ0_checkIndex_df160 kmJ1_9 hP hD hS (mJ0_checkIndex_df160 l dC dI cc ak  _  p1 (Int32.ofNat (sN i1)) hv2) ⟨rfl, rfl⟩ ⟨Nat.le_of_ble_eq_true rfl, Nat.le_of_ble_eq_true rfl⟩ [] [] [] rfl rfl rfl rfl rfl hl.1 rfl (Nat.le_of_ble_eq_true rfl) ⟨Nat.zero_le _, Nat.zero_le _⟩ dJ1_charAt_3b067_3 (fun H locs hP hD hS => ?_)
  refine lv_aload_n hx hb dJ1_charAt_3b067_6 rfl (lv_at hl 0 rfl) ?_
  refine lv_iload_n hx hb dJ1_charAt_3b067_7 rfl (lv_at hl 1 rfl) ?_
  refine ck_el hf (fun g3 hf => ?_)
  refine va_tb hx hb (hE.1 i1 (i33_lt g33i1)).2.2.2 hS (inb_in g3) rfl dJ1_charAt_3b067_8 ?_
  refine lv_sipush (v := 255) hx hb dJ1_charAt_3b067_9 (by decide) ?_
  refine lv_iand hx hb dJ1_charAt_3b067_12 ?_
  refine lv_i2c (v := ((((sB i1 (p1 : Int32).toNatClampNeg) &&& (255 : Int32)) : Int32).toUInt32 % 65536).toInt32) hx hb dJ1_charAt_3b067_13 rfl ?_
  refine ck_el hf (fun g4 hf => ?_)
  obtain rfl := Option.some.inj hf
  exact retC C0 hP hD hS (ischr_n g4) rfl dJ1_charAt_3b067_14
theorem mJ1_charAt_3b067 (l : Launch) (dC : Nat → ClassId) (dI : Nat → Nat → Nat) (cc : Nat → ClassId) (ak : Nat → Nat)  (i1 : Nat) (sz : Nat)   (p1 : Int32) {out : Int32} (hf : fJ1_charAt_3b067 i1 p1 = some out) : Met l yJ1_charAt_3b067 (Cond.code yJ1_charAt_3b067 cJ1_charAt_3b067 2 (some .char) :: GW) rmJ1_charAt_3b067 (PI dC dI cc ak [.ref (ak (100 + i1)), .int p1] [] sz) (QI dC dI cc out [] (va_A [] sz)) 0 0 (va_A [] sz) :=
  met_of (Q := fun A => QI dC dI cc out [] A) (by decide) rfl (Nat.le_of_ble_eq_true rfl) (fun p e s m below meth c A C0 hP hD hS ls hl => bJ1_charAt_3b067 C0 i1 p1 hf hP hD hS hl)
abbrev rmJ0_charAt_5068e : Room := { frames := 3, cells := 0, slots := 0, locals := 64 }
def fJ0_charAt_5068e  (i0 : Nat)  (p0 : Int32) : Option (Int32) :=
  ck (i33 i0) <|
  (fJ0_isLatin1_aae02  i0).bind fun v2 =>
  if v2 = 0 then
    none
  else
    (fJ1_charAt_3b067  i0 p0).bind fun v5 =>
    ck (ischr v5) <|
    some v5
set_option maxHeartbeats 4000000 in
set_option maxRecDepth 100000 in
theorem bJ0_charAt_5068e {p : Program} {l : Launch} {e : Env} {s : State} {m : MethodId} {args : Array Value} {below : List Frame} {meth : Method} {c : Code} {A : Nat → Prop} {dC : Nat → ClassId} {dI : Nat → Nat → Nat} {cc : Nat → ClassId} {ak : Nat → Nat} (C0 : CT p s m args meth c A dC dI cc ak cJ0_charAt_5068e 2 (some .char) RJ0)  (i0 : Nat)   (p0 : Int32) {out : Int32} (hf : fJ0_charAt_5068e i0 p0 = some out) {H : Heap} {locs : List Loc} (hP : va_P (dC, dI) cLs [] H) (hD : va_D A []) (hS : va_S A s.heap H locs) {ls : Array Slot} (hl : lv_has ls 2 [(0, .ref (ak i0)), (1, .int p0)]) : W p l e rmJ0_charAt_5068e s m args below meth c H locs 0 0 (MQ below (QI dC dI cc out [] A) args s 0 0 A) (F0 m 0 ls []) := by
  obtain ⟨hx, hb, hml, hr, hlocks, hown, hG, hK, hA, hE⟩ := id C0
  unfold fJ0_charAt_5068e at hf
  refine ck_el hf (fun g33i0 hf => ?_)
  refine lv_aload_n hx hb dJ0_charAt_5068e_0 rfl (lv_at hl 0 rfl) ?_
  refine bd_el hf (fun v2 hv2 hf => ?_)
  refine callVi (As := []) (rest := []) (wr := []) (wn := []) C0 kvJ0_isLatin1_aae02 kmJ0_492 hP hD hS (mJ0_isLatin1_aae02 l dC dI cc ak i0 _   hv2) ⟨rfl, rfl⟩ ⟨Nat.le_of_ble_eq_true rfl, Nat.le_of_ble_eq_true rfl⟩ [] [] [] rfl rfl rfl rfl (hE.recv hS (i33_lt g33i0)) rfl hl.1 rfl (Nat.le_of_ble_eq_true rfl) ⟨Nat.zero_le _, Nat.zero_le _⟩ dJ0_charAt_5068e_1 (fun H locs hP hD hS => ?_)
  refine lv_if_eq (tgt := 16) hx hb dJ0_charAt_5068e_4 (by decide) (fun c3 => ?_) (fun c3 => ?_)
  · have hf := ift c3 hf
    cases hf
  · have hf := iff_ c3 hf
    refine lv_aload_n hx hb dJ0_charAt_5068e_7 rfl (lv_at hl 0 rfl) ?_
    refine vk_getf hx hb (hE.1 i0 (i33_lt g33i0)).2.2.1 hS hown (hG _ kfJ0_9) (fun _ h9 => h9) dJ0_charAt_5068e_8 ?_
    refine lv_iload_n hx hb dJ0_charAt_5068e_11 rfl (lv_at hl 1 rfl) ?_
    refine bd_el hf (fun v5 hv5 hf => ?_)
    refine callSi (As := [.ref (ak (100 + i0)), .int p0]) (rest := []) (wr := []) (wn := []) C0 ksJ1_charAt_3b067 kmJ0_495 hP hD hS (mJ1_charAt_3b067 l dC dI cc ak i0 _  p0 hv5) ⟨rfl, rfl⟩ ⟨Nat.le_of_ble_eq_true rfl, Nat.le_of_ble_eq_true rfl⟩ [] [] [] rfl rfl rfl rfl rfl hl.1 rfl (Nat.le_of_ble_eq_true rfl) ⟨Nat.zero_le _, Nat.zero_le _⟩ dJ0_charAt_5068e_12 (fun H locs hP hD hS => ?_)
    refine ck_el hf (fun g6 hf => ?_)
    obtain rfl := Option.some.inj hf
    exact retC C0 hP hD hS (ischr_n g6) rfl dJ0_charAt_5068e_15
theorem mJ0_charAt_5068e (l : Launch) (dC : Nat → ClassId) (dI : Nat → Nat → Nat) (cc : Nat → ClassId) (ak : Nat → Nat)  (i0 : Nat) (sz : Nat)   (p0 : Int32) {out : Int32} (hf : fJ0_charAt_5068e i0 p0 = some out) : Met l yJ0_charAt_5068e (Cond.code yJ0_charAt_5068e cJ0_charAt_5068e 2 (some .char) :: GW) rmJ0_charAt_5068e (PI dC dI cc ak [.ref (ak i0), .int p0] [] sz) (QI dC dI cc out [] (va_A [] sz)) 0 0 (va_A [] sz) :=
  met_of (Q := fun A => QI dC dI cc out [] A) (by decide) rfl (Nat.le_of_ble_eq_true rfl) (fun p e s m below meth c A C0 hP hD hS ls hl => bJ0_charAt_5068e C0 i0 p0 hf hP hD hS hl)
abbrev rmJ1_canEncode_9a6ad : Room := { frames := 0, cells := 0, slots := 0, locals := 0 }
def fJ1_canEncode_9a6ad    (p0 : Int32) : Option (Int32) :=
  if p0 < 0 then
    some 0
  else
    if 255 < p0 then
      some 0
    else
      some 1
set_option maxHeartbeats 4000000 in
set_option maxRecDepth 100000 in
theorem bJ1_canEncode_9a6ad {p : Program} {l : Launch} {e : Env} {s : State} {m : MethodId} {args : Array Value} {below : List Frame} {meth : Method} {c : Code} {A : Nat → Prop} {dC : Nat → ClassId} {dI : Nat → Nat → Nat} {cc : Nat → ClassId} {ak : Nat → Nat} (C0 : CT p s m args meth c A dC dI cc ak cJ1_canEncode_9a6ad 1 (some .boolean) RJ1)    (p0 : Int32) {out : Int32} (hf : fJ1_canEncode_9a6ad p0 = some out) {H : Heap} {locs : List Loc} (hP : va_P (dC, dI) cLs [] H) (hD : va_D A []) (hS : va_S A s.heap H locs) {ls : Array Slot} (hl : lv_has ls 1 [(0, .int p0)]) : W p l e rmJ1_canEncode_9a6ad s m args below meth c H locs 0 0 (MQ below (QI dC dI cc out [] A) args s 0 0 A) (F0 m 0 ls []) := by
  obtain ⟨hx, hb, hml, hr, hlocks, hown, hG, hK, hA, hE⟩ := id C0
  unfold fJ1_canEncode_9a6ad at hf
  refine lv_iload_n hx hb dJ1_canEncode_9a6ad_0 rfl (lv_at hl 0 rfl) ?_
  refine lv_if_lt (tgt := 15) hx hb dJ1_canEncode_9a6ad_1 (by decide) (fun c1 => ?_) (fun c1 => ?_)
  · have hf := ift c1 hf
    refine lv_iconst (v := 0) hx hb dJ1_canEncode_9a6ad_15 (by decide) ?_
    obtain rfl := Option.some.inj hf
    exact retZ C0 hP hD hS rfl rfl dJ1_canEncode_9a6ad_16
  · have hf := iff_ c1 hf
    refine lv_iload_n hx hb dJ1_canEncode_9a6ad_4 rfl (lv_at hl 0 rfl) ?_
    refine lv_sipush (v := 255) hx hb dJ1_canEncode_9a6ad_5 (by decide) ?_
    refine lv_icmp_gt (tgt := 15) hx hb dJ1_canEncode_9a6ad_8 (by decide) (fun c2 => ?_) (fun c2 => ?_)
    · have hf := ift c2 hf
      refine lv_iconst (v := 0) hx hb dJ1_canEncode_9a6ad_15 (by decide) ?_
      obtain rfl := Option.some.inj hf
      exact retZ C0 hP hD hS rfl rfl dJ1_canEncode_9a6ad_16
    · have hf := iff_ c2 hf
      refine lv_iconst (v := 1) hx hb dJ1_canEncode_9a6ad_11 (by decide) ?_
      refine lv_goto (tgt := 16) hx hb dJ1_canEncode_9a6ad_12 (by decide) ?_
      obtain rfl := Option.some.inj hf
      exact retZ C0 hP hD hS rfl rfl dJ1_canEncode_9a6ad_16
theorem mJ1_canEncode_9a6ad (l : Launch) (dC : Nat → ClassId) (dI : Nat → Nat → Nat) (cc : Nat → ClassId) (ak : Nat → Nat)  (sz : Nat)   (p0 : Int32) {out : Int32} (hf : fJ1_canEncode_9a6ad p0 = some out) : Met l yJ1_canEncode_9a6ad (Cond.code yJ1_canEncode_9a6ad cJ1_canEncode_9a6ad 1 (some .boolean) :: GW) rmJ1_canEncode_9a6ad (PI dC dI cc ak [.int p0] [] sz) (QI dC dI cc out [] (va_A [] sz)) 0 0 (va_A [] sz) :=
  met_of (Q := fun A => QI dC dI cc out [] A) (by decide) rfl (Nat.le_of_ble_eq_true rfl) (fun p e s m below meth c A C0 hP hD hS ls hl => bJ1_canEncode_9a6ad C0 p0 hf hP hD hS hl)
abbrev rmJ1_indexOfChar_4cfef : Room := { frames := 0, cells := 0, slots := 0, locals := 0 }
def lJ1_indexOfChar_4cfef_7  (ke7_22 : Int32 → Option (Int32)) (ke7_31 : Option (Int32)) (i1 : Nat) (x3 : Int32) (x4 : Int32) : Nat → Int32 → Option (Int32)
  | 0, _ => none
  | n+1, x5 =>
    ck (i33 i1) <|
    if x3 ≤ x5 then
      ke7_31 
    else
      ck (inb x5 (sN i1)) <|
      if (sB i1 (x5 : Int32).toNatClampNeg) = x4 then
        ke7_22 x5
      else
        lJ1_indexOfChar_4cfef_7 ke7_22 ke7_31 i1 x3 x4 n (x5 + 1)
set_option maxHeartbeats 4000000 in
set_option maxRecDepth 100000 in
theorem wlJ1_indexOfChar_4cfef_7 {p : Program} {l : Launch} {e : Env} {s : State} {m : MethodId} {args : Array Value} {below : List Frame} {meth : Method} {c : Code} {A : Nat → Prop} {dC : Nat → ClassId} {dI : Nat → Nat → Nat} {cc : Nat → ClassId} {ak : Nat → Nat} (C0 : CT p s m args meth c A dC dI cc ak cJ1_indexOfChar_4cfef 6 (some .int) RJ1)  (i1 : Nat)   (x3 : Int32) (x4 : Int32) {out : Int32} (ke7_22 : Int32 → Option (Int32)) (ke7_31 : Option (Int32)) (hke7_22 : ∀ (x5' : Int32), ke7_22 x5' = some out → ∀ (H : Heap) (locs : List Loc), va_P (dC, dI) cLs [] H → va_D A [] → va_S A s.heap H locs → ∀ ls : Array Slot, lv_has ls 6 [(5, .int x5')] → W p l e rmJ1_indexOfChar_4cfef s m args below meth c H locs 0 0 (MQ below (QI dC dI cc out [] A) args s 0 0 A) (F0 m 22 ls [])) (hke7_31 :  ke7_31  = some out → ∀ (H : Heap) (locs : List Loc), va_P (dC, dI) cLs [] H → va_D A [] → va_S A s.heap H locs → ∀ ls : Array Slot, lv_has ls 6 [] → W p l e rmJ1_indexOfChar_4cfef s m args below meth c H locs 0 0 (MQ below (QI dC dI cc out [] A) args s 0 0 A) (F0 m 31 ls [])) : ∀ (n : Nat) (x5 : Int32) (hf : lJ1_indexOfChar_4cfef_7 ke7_22 ke7_31 i1 x3 x4 n x5 = some out) (H : Heap) (locs : List Loc) (hP : va_P (dC, dI) cLs [] H) (hD : va_D A []) (hS : va_S A s.heap H locs) (ls : Array Slot) (hl : lv_has ls 6 [(0, .ref (ak (100 + i1))), (3, .int x3), (4, .int x4), (5, .int x5)]), W p l e rmJ1_indexOfChar_4cfef s m args below meth c H locs 0 0 (MQ below (QI dC dI cc out [] A) args s 0 0 A) (F0 m 7 ls []) := by
  obtain ⟨hx, hb, hml, hr, hlocks, hown, hG, hK, hA, hE⟩ := id C0
  intro n
  induction n with
  | zero => intro x5 hf; cases hf
  | succ n ih =>
    intro x5 hf H locs hP hD hS ls hl
    unfold lJ1_indexOfChar_4cfef_7 at hf
    refine ck_el hf (fun g33i1 hf => ?_)
    refine lv_iload hx hb dJ1_indexOfChar_4cfef_7 (lv_at hl 3 rfl) ?_
    refine lv_iload_n hx hb dJ1_indexOfChar_4cfef_9 rfl (lv_at hl 1 rfl) ?_
    refine lv_icmp_ge (tgt := 31) hx hb dJ1_indexOfChar_4cfef_10 (by decide) (fun c1 => ?_) (fun c1 => ?_)
    · have hf := ift c1 hf
      exact hke7_31  hf _ _ hP hD hS _ (lv_sub hl [] rfl)
    · have hf := iff_ c1 hf
      refine lv_aload_n hx hb dJ1_indexOfChar_4cfef_13 rfl (lv_at hl 0 rfl) ?_
      refine lv_iload hx hb dJ1_indexOfChar_4cfef_14 (lv_at hl 3 rfl) ?_
      refine ck_el hf (fun g2 hf => ?_)
      refine va_tb hx hb (hE.1 i1 (i33_lt g33i1)).2.2.2 hS (inb_in g2) rfl dJ1_indexOfChar_4cfef_16 ?_
      refine lv_iload hx hb dJ1_indexOfChar_4cfef_17 (lv_at hl 2 rfl) ?_
      refine lv_icmp_ne (tgt := 25) hx hb dJ1_indexOfChar_4cfef_19 (by decide) (fun c3 => ?_) (fun c3 => ?_)
      · have hf := iff_ c3 hf
        refine lv_iinc (v := (x5 + 1)) (lv' := [(5, .int (x5 + 1)), (0, .ref (ak (100 + i1))), (3, .int x3), (4, .int x4)]) hx hb dJ1_indexOfChar_4cfef_25 hl (k := 3) rfl rfl (by decide) rfl (fun ls hl => ?_)
        refine lv_goto (tgt := 7) hx hb dJ1_indexOfChar_4cfef_28 (by decide) ?_
        exact ih (x5 + 1) hf _ _ hP hD hS _ (lv_sub hl [1, 2, 3, 0] rfl)
      · have hf := ift c3 hf
        exact hke7_22 x5 hf _ _ hP hD hS _ (lv_sub hl [3] rfl)
def fJ1_indexOfChar_4cfef  (i1 : Nat)  (p1 : Int32) (p2 : Int32) (p3 : Int32) : Option (Int32) :=
  ck (i33 i1) <|
  lJ1_indexOfChar_4cfef_7 (fun (x5_4 : Int32) =>
    some x5_4) (
    some (-1)) i1 p3 ((p1 : Int32).toInt8.toInt32) FU p2
set_option maxHeartbeats 4000000 in
set_option maxRecDepth 100000 in
theorem bJ1_indexOfChar_4cfef {p : Program} {l : Launch} {e : Env} {s : State} {m : MethodId} {args : Array Value} {below : List Frame} {meth : Method} {c : Code} {A : Nat → Prop} {dC : Nat → ClassId} {dI : Nat → Nat → Nat} {cc : Nat → ClassId} {ak : Nat → Nat} (C0 : CT p s m args meth c A dC dI cc ak cJ1_indexOfChar_4cfef 6 (some .int) RJ1)  (i1 : Nat)   (p1 : Int32) (p2 : Int32) (p3 : Int32) {out : Int32} (hf : fJ1_indexOfChar_4cfef i1 p1 p2 p3 = some out) {H : Heap} {locs : List Loc} (hP : va_P (dC, dI) cLs [] H) (hD : va_D A []) (hS : va_S A s.heap H locs) {ls : Array Slot} (hl : lv_has ls 6 [(0, .ref (ak (100 + i1))), (1, .int p1), (2, .int p2), (3, .int p3)]) : W p l e rmJ1_indexOfChar_4cfef s m args below meth c H locs 0 0 (MQ below (QI dC dI cc out [] A) args s 0 0 A) (F0 m 0 ls []) := by
  obtain ⟨hx, hb, hml, hr, hlocks, hown, hG, hK, hA, hE⟩ := id C0
  unfold fJ1_indexOfChar_4cfef at hf
  refine ck_el hf (fun g33i1 hf => ?_)
  refine lv_iload_n hx hb dJ1_indexOfChar_4cfef_0 rfl (lv_at hl 1 rfl) ?_
  refine lv_i2b (v := (p1 : Int32).toInt8.toInt32) hx hb dJ1_indexOfChar_4cfef_1 rfl ?_
  refine lv_istore (lv' := [(4, .int ((p1 : Int32).toInt8.toInt32)), (0, .ref (ak (100 + i1))), (1, .int p1), (2, .int p2), (3, .int p3)]) hx hb dJ1_indexOfChar_4cfef_2 hl (by decide) rfl (fun ls hl => ?_)
  refine lv_iload_n hx hb dJ1_indexOfChar_4cfef_4 rfl (lv_at hl 3 rfl) ?_
  refine lv_istore (lv' := [(5, .int p2), (4, .int ((p1 : Int32).toInt8.toInt32)), (0, .ref (ak (100 + i1))), (1, .int p1), (2, .int p2), (3, .int p3)]) hx hb dJ1_indexOfChar_4cfef_5 hl (by decide) rfl (fun ls hl => ?_)
  refine wlJ1_indexOfChar_4cfef_7 C0 i1 p3 ((p1 : Int32).toInt8.toInt32) _ _ ?_ ?_ FU p2 hf _ _ hP hD hS _ (lv_sub hl [2, 5, 1, 0] rfl)
  · intro x5_4 hf H locs hP hD hS ls hl
    refine lv_iload hx hb dJ1_indexOfChar_4cfef_22 (lv_at hl 0 rfl) ?_
    obtain rfl := Option.some.inj hf
    exact retI C0 hP hD hS rfl dJ1_indexOfChar_4cfef_24
  · intro  hf H locs hP hD hS ls hl
    refine lv_iconst (v := (-1)) hx hb dJ1_indexOfChar_4cfef_31 (by decide) ?_
    obtain rfl := Option.some.inj hf
    exact retI C0 hP hD hS rfl dJ1_indexOfChar_4cfef_32
theorem mJ1_indexOfChar_4cfef (l : Launch) (dC : Nat → ClassId) (dI : Nat → Nat → Nat) (cc : Nat → ClassId) (ak : Nat → Nat)  (i1 : Nat) (sz : Nat)   (p1 : Int32) (p2 : Int32) (p3 : Int32) {out : Int32} (hf : fJ1_indexOfChar_4cfef i1 p1 p2 p3 = some out) : Met l yJ1_indexOfChar_4cfef (Cond.code yJ1_indexOfChar_4cfef cJ1_indexOfChar_4cfef 6 (some .int) :: GW) rmJ1_indexOfChar_4cfef (PI dC dI cc ak [.ref (ak (100 + i1)), .int p1, .int p2, .int p3] [] sz) (QI dC dI cc out [] (va_A [] sz)) 0 0 (va_A [] sz) :=
  met_of (Q := fun A => QI dC dI cc out [] A) (by decide) rfl (Nat.le_of_ble_eq_true rfl) (fun p e s m below meth c A C0 hP hD hS ls hl => bJ1_indexOfChar_4cfef C0 i1 p1 p2 p3 hf hP hD hS hl)
abbrev rmJ1_indexOf_4cfef : Room := { frames := 1, cells := 0, slots := 0, locals := 25 }
def fJ1_indexOf_4cfef  (i1 : Nat)  (p1 : Int32) (p2 : Int32) (p3 : Int32) : Option (Int32) :=
  ck (i33 i1) <|
  (fJ1_canEncode_9a6ad  p1).bind fun v2 =>
  if v2 = 0 then
    some (-1)
  else
    if (if p2 < 0 then 0 else p2) < (if (Int32.ofNat (sN i1)) < p3 then (Int32.ofNat (sN i1)) else p3) then
      (fJ1_indexOfChar_4cfef  i1 p1 (if p2 < 0 then 0 else p2) (if (Int32.ofNat (sN i1)) < p3 then (Int32.ofNat (sN i1)) else p3)).bind fun v6 =>
      some v6
    else
      some (-1)
set_option maxHeartbeats 4000000 in
set_option maxRecDepth 100000 in
theorem bJ1_indexOf_4cfef {p : Program} {l : Launch} {e : Env} {s : State} {m : MethodId} {args : Array Value} {below : List Frame} {meth : Method} {c : Code} {A : Nat → Prop} {dC : Nat → ClassId} {dI : Nat → Nat → Nat} {cc : Nat → ClassId} {ak : Nat → Nat} (C0 : CT p s m args meth c A dC dI cc ak cJ1_indexOf_4cfef 4 (some .int) RJ1)  (i1 : Nat)   (p1 : Int32) (p2 : Int32) (p3 : Int32) {out : Int32} (hf : fJ1_indexOf_4cfef i1 p1 p2 p3 = some out) {H : Heap} {locs : List Loc} (hP : va_P (dC, dI) cLs [] H) (hD : va_D A []) (hS : va_S A s.heap H locs) {ls : Array Slot} (hl : lv_has ls 4 [(0, .ref (ak (100 + i1))), (1, .int p1), (2, .int p2), (3, .int p3)]) : W p l e rmJ1_indexOf_4cfef s m args below meth c H locs 0 0 (MQ below (QI dC dI cc out [] A) args s 0 0 A) (F0 m 0 ls []) := by
  obtain ⟨hx, hb, hml, hr, hlocks, hown, hG, hK, hA, hE⟩ := id C0
  unfold fJ1_indexOf_4cfef at hf
  refine ck_el hf (fun g33i1 hf => ?_)
  refine lv_iload_n hx hb dJ1_indexOf_4cfef_0 rfl (lv_at hl 1 rfl) ?_
  refine bd_el hf (fun v2 hv2 hf => ?_)
  refine callSi (As := [.int p1]) (rest := []) (wr := []) (wn := []) C0 ksJ1_canEncode_9a6ad kmJ1_88 hP hD hS (mJ1_canEncode_9a6ad l dC dI cc ak  _  p1 hv2) ⟨rfl, rfl⟩ ⟨Nat.le_of_ble_eq_true rfl, Nat.le_of_ble_eq_true rfl⟩ [] [] [] rfl rfl rfl rfl rfl hl.1 rfl (Nat.le_of_ble_eq_true rfl) ⟨Nat.zero_le _, Nat.zero_le _⟩ dJ1_indexOf_4cfef_1 (fun H locs hP hD hS => ?_)
  refine lv_if_ne (tgt := 9) hx hb dJ1_indexOf_4cfef_4 (by decide) (fun c3 => ?_) (fun c3 => ?_)
  · have hf := iff_ c3 hf
    refine lv_iload_n hx hb dJ1_indexOf_4cfef_9 rfl (lv_at hl 2 rfl) ?_
    refine lv_iconst (v := 0) hx hb dJ1_indexOf_4cfef_10 (by decide) ?_
    refine va_mmax hx hb (hml.trans hl.1.symm) hown (hG _ kmJ1_92) (hG _ k_max_s) (hG _ k_math_i) (hG _ k_max_c) (Nat.le_of_ble_eq_true rfl) (Nat.le_of_ble_eq_true rfl) (Nat.le_of_ble_eq_true rfl) (Nat.le_of_ble_eq_true rfl) dJ1_indexOf_4cfef_11 ?_
    refine lv_istore_n (lv' := [(2, .int (if p2 < 0 then 0 else p2)), (0, .ref (ak (100 + i1))), (1, .int p1), (3, .int p3)]) hx hb dJ1_indexOf_4cfef_14 rfl hl (by decide) rfl (fun ls hl => ?_)
    refine lv_iload_n hx hb dJ1_indexOf_4cfef_15 rfl (lv_at hl 3 rfl) ?_
    refine lv_aload_n hx hb dJ1_indexOf_4cfef_16 rfl (lv_at hl 1 rfl) ?_
    refine va_tlen hx hb (hE.1 i1 (i33_lt g33i1)).2.2.2 hS (v := (Int32.ofNat (sN i1))) rfl dJ1_indexOf_4cfef_17 ?_
    refine va_mmin hx hb (hml.trans hl.1.symm) hown (hG _ kmJ1_38) (hG _ k_min_s) (hG _ k_math_i) (hG _ k_min_c) (Nat.le_of_ble_eq_true rfl) (Nat.le_of_ble_eq_true rfl) (Nat.le_of_ble_eq_true rfl) (Nat.le_of_ble_eq_true rfl) dJ1_indexOf_4cfef_18 ?_
    refine lv_istore_n (lv' := [(3, .int (if (Int32.ofNat (sN i1)) < p3 then (Int32.ofNat (sN i1)) else p3)), (2, .int (if p2 < 0 then 0 else p2)), (0, .ref (ak (100 + i1))), (1, .int p1)]) hx hb dJ1_indexOf_4cfef_21 rfl hl (by decide) rfl (fun ls hl => ?_)
    refine lv_iload_n hx hb dJ1_indexOf_4cfef_22 rfl (lv_at hl 1 rfl) ?_
    refine lv_iload_n hx hb dJ1_indexOf_4cfef_23 rfl (lv_at hl 0 rfl) ?_
    refine lv_icmp_lt (tgt := 29) hx hb dJ1_indexOf_4cfef_24 (by decide) (fun c4 => ?_) (fun c4 => ?_)
    · have hf := ift c4 hf
      refine lv_aload_n hx hb dJ1_indexOf_4cfef_29 rfl (lv_at hl 2 rfl) ?_
      refine lv_iload_n hx hb dJ1_indexOf_4cfef_30 rfl (lv_at hl 3 rfl) ?_
      refine lv_iload_n hx hb dJ1_indexOf_4cfef_31 rfl (lv_at hl 1 rfl) ?_
      refine lv_iload_n hx hb dJ1_indexOf_4cfef_32 rfl (lv_at hl 0 rfl) ?_
      refine bd_el hf (fun v6 hv6 hf => ?_)
      refine callSi (As := [.ref (ak (100 + i1)), .int p1, .int (if p2 < 0 then 0 else p2), .int (if (Int32.ofNat (sN i1)) < p3 then (Int32.ofNat (sN i1)) else p3)]) (rest := []) (wr := []) (wn := []) C0 ksJ1_indexOfChar_4cfef kmJ1_95 hP hD hS (mJ1_indexOfChar_4cfef l dC dI cc ak i1 _  p1 (if p2 < 0 then 0 else p2) (if (Int32.ofNat (sN i1)) < p3 then (Int32.ofNat (sN i1)) else p3) hv6) ⟨rfl, rfl⟩ ⟨Nat.le_of_ble_eq_true rfl, Nat.le_of_ble_eq_true rfl⟩ [] [] [] rfl rfl rfl rfl rfl hl.1 rfl (Nat.le_of_ble_eq_true rfl) ⟨Nat.zero_le _, Nat.zero_le _⟩ dJ1_indexOf_4cfef_33 (fun H locs hP hD hS => ?_)
      obtain rfl := Option.some.inj hf
      exact retI C0 hP hD hS rfl dJ1_indexOf_4cfef_36
    · have hf := iff_ c4 hf
      refine lv_iconst (v := (-1)) hx hb dJ1_indexOf_4cfef_27 (by decide) ?_
      obtain rfl := Option.some.inj hf
      exact retI C0 hP hD hS rfl dJ1_indexOf_4cfef_28
  · have hf := ift c3 hf
    refine lv_iconst (v := (-1)) hx hb dJ1_indexOf_4cfef_7 (by decide) ?_
    obtain rfl := Option.some.inj hf
    exact retI C0 hP hD hS rfl dJ1_indexOf_4cfef_8
theorem mJ1_indexOf_4cfef (l : Launch) (dC : Nat → ClassId) (dI : Nat → Nat → Nat) (cc : Nat → ClassId) (ak : Nat → Nat)  (i1 : Nat) (sz : Nat)   (p1 : Int32) (p2 : Int32) (p3 : Int32) {out : Int32} (hf : fJ1_indexOf_4cfef i1 p1 p2 p3 = some out) : Met l yJ1_indexOf_4cfef (Cond.code yJ1_indexOf_4cfef cJ1_indexOf_4cfef 4 (some .int) :: GW) rmJ1_indexOf_4cfef (PI dC dI cc ak [.ref (ak (100 + i1)), .int p1, .int p2, .int p3] [] sz) (QI dC dI cc out [] (va_A [] sz)) 0 0 (va_A [] sz) :=
  met_of (Q := fun A => QI dC dI cc out [] A) (by decide) rfl (Nat.le_of_ble_eq_true rfl) (fun p e s m below meth c A C0 hP hD hS ls hl => bJ1_indexOf_4cfef C0 i1 p1 p2 p3 hf hP hD hS hl)
abbrev rmJ0_indexOf_7cf53 : Room := { frames := 2, cells := 0, slots := 0, locals := 48 }
def fJ0_indexOf_7cf53  (i0 : Nat)  (p0 : Int32) (p1 : Int32) : Option (Int32) :=
  ck (i33 i0) <|
  (fJ0_isLatin1_aae02  i0).bind fun v2 =>
  if v2 = 0 then
    none
  else
    (fJ0_length_8abf5  i0).bind fun v5 =>
    (fJ1_indexOf_4cfef  i0 p0 p1 v5).bind fun v7 =>
    some v7
set_option maxHeartbeats 4000000 in
set_option maxRecDepth 100000 in
theorem bJ0_indexOf_7cf53 {p : Program} {l : Launch} {e : Env} {s : State} {m : MethodId} {args : Array Value} {below : List Frame} {meth : Method} {c : Code} {A : Nat → Prop} {dC : Nat → ClassId} {dI : Nat → Nat → Nat} {cc : Nat → ClassId} {ak : Nat → Nat} (C0 : CT p s m args meth c A dC dI cc ak cJ0_indexOf_7cf53 3 (some .int) RJ0)  (i0 : Nat)   (p0 : Int32) (p1 : Int32) {out : Int32} (hf : fJ0_indexOf_7cf53 i0 p0 p1 = some out) {H : Heap} {locs : List Loc} (hP : va_P (dC, dI) cLs [] H) (hD : va_D A []) (hS : va_S A s.heap H locs) {ls : Array Slot} (hl : lv_has ls 3 [(0, .ref (ak i0)), (1, .int p0), (2, .int p1)]) : W p l e rmJ0_indexOf_7cf53 s m args below meth c H locs 0 0 (MQ below (QI dC dI cc out [] A) args s 0 0 A) (F0 m 0 ls []) := by
  obtain ⟨hx, hb, hml, hr, hlocks, hown, hG, hK, hA, hE⟩ := id C0
  unfold fJ0_indexOf_7cf53 at hf
  refine ck_el hf (fun g33i0 hf => ?_)
  refine lv_aload_n hx hb dJ0_indexOf_7cf53_0 rfl (lv_at hl 0 rfl) ?_
  refine bd_el hf (fun v2 hv2 hf => ?_)
  refine callVi (As := []) (rest := []) (wr := []) (wn := []) C0 kvJ0_isLatin1_aae02 kmJ0_492 hP hD hS (mJ0_isLatin1_aae02 l dC dI cc ak i0 _   hv2) ⟨rfl, rfl⟩ ⟨Nat.le_of_ble_eq_true rfl, Nat.le_of_ble_eq_true rfl⟩ [] [] [] rfl rfl rfl rfl (hE.recv hS (i33_lt g33i0)) rfl hl.1 rfl (Nat.le_of_ble_eq_true rfl) ⟨Nat.zero_le _, Nat.zero_le _⟩ dJ0_indexOf_7cf53_1 (fun H locs hP hD hS => ?_)
  refine lv_if_eq (tgt := 23) hx hb dJ0_indexOf_7cf53_4 (by decide) (fun c3 => ?_) (fun c3 => ?_)
  · have hf := ift c3 hf
    cases hf
  · have hf := iff_ c3 hf
    refine lv_aload_n hx hb dJ0_indexOf_7cf53_7 rfl (lv_at hl 0 rfl) ?_
    refine vk_getf hx hb (hE.1 i0 (i33_lt g33i0)).2.2.1 hS hown (hG _ kfJ0_9) (fun _ h9 => h9) dJ0_indexOf_7cf53_8 ?_
    refine lv_iload_n hx hb dJ0_indexOf_7cf53_11 rfl (lv_at hl 1 rfl) ?_
    refine lv_iload_n hx hb dJ0_indexOf_7cf53_12 rfl (lv_at hl 2 rfl) ?_
    refine lv_aload_n hx hb dJ0_indexOf_7cf53_13 rfl (lv_at hl 0 rfl) ?_
    refine bd_el hf (fun v5 hv5 hf => ?_)
    refine callVi (As := []) (rest := [.int p1, .int p0, .ref (ak (100 + i0))]) (wr := []) (wn := []) C0 kvJ0_length_8abf5 kmJ0_505 hP hD hS (mJ0_length_8abf5 l dC dI cc ak i0 _   hv5) ⟨rfl, rfl⟩ ⟨Nat.le_of_ble_eq_true rfl, Nat.le_of_ble_eq_true rfl⟩ [] [] [] rfl rfl rfl rfl (hE.recv hS (i33_lt g33i0)) rfl hl.1 rfl (Nat.le_of_ble_eq_true rfl) ⟨Nat.zero_le _, Nat.zero_le _⟩ dJ0_indexOf_7cf53_14 (fun H locs hP hD hS => ?_)
    refine bd_el hf (fun v7 hv7 hf => ?_)
    refine callSi (As := [.ref (ak (100 + i0)), .int p0, .int p1, .int v5]) (rest := []) (wr := []) (wn := []) C0 ksJ1_indexOf_4cfef kmJ0_637 hP hD hS (mJ1_indexOf_4cfef l dC dI cc ak i0 _  p0 p1 v5 hv7) ⟨rfl, rfl⟩ ⟨Nat.le_of_ble_eq_true rfl, Nat.le_of_ble_eq_true rfl⟩ [] [] [] rfl rfl rfl rfl rfl hl.1 rfl (Nat.le_of_ble_eq_true rfl) ⟨Nat.zero_le _, Nat.zero_le _⟩ dJ0_indexOf_7cf53_17 (fun H locs hP hD hS => ?_)
    refine lv_goto (tgt := 36) hx hb dJ0_indexOf_7cf53_20 (by decide) ?_
    obtain rfl := Option.some.inj hf
    exact retI C0 hP hD hS rfl dJ0_indexOf_7cf53_36
theorem mJ0_indexOf_7cf53 (l : Launch) (dC : Nat → ClassId) (dI : Nat → Nat → Nat) (cc : Nat → ClassId) (ak : Nat → Nat)  (i0 : Nat) (sz : Nat)   (p0 : Int32) (p1 : Int32) {out : Int32} (hf : fJ0_indexOf_7cf53 i0 p0 p1 = some out) : Met l yJ0_indexOf_7cf53 (Cond.code yJ0_indexOf_7cf53 cJ0_indexOf_7cf53 3 (some .int) :: GW) rmJ0_indexOf_7cf53 (PI dC dI cc ak [.ref (ak i0), .int p0, .int p1] [] sz) (QI dC dI cc out [] (va_A [] sz)) 0 0 (va_A [] sz) :=
  met_of (Q := fun A => QI dC dI cc out [] A) (by decide) rfl (Nat.le_of_ble_eq_true rfl) (fun p e s m below meth c A C0 hP hD hS ls hl => bJ0_indexOf_7cf53 C0 i0 p0 p1 hf hP hD hS hl)
abbrev rmJ0_indexOf_0f7a4 : Room := { frames := 3, cells := 0, slots := 0, locals := 70 }
def fJ0_indexOf_0f7a4  (i0 : Nat)  (p0 : Int32) : Option (Int32) :=
  ck (i33 i0) <|
  (fJ0_indexOf_7cf53  i0 p0 0).bind fun v2 =>
  some v2
set_option maxHeartbeats 4000000 in
set_option maxRecDepth 100000 in
theorem bJ0_indexOf_0f7a4 {p : Program} {l : Launch} {e : Env} {s : State} {m : MethodId} {args : Array Value} {below : List Frame} {meth : Method} {c : Code} {A : Nat → Prop} {dC : Nat → ClassId} {dI : Nat → Nat → Nat} {cc : Nat → ClassId} {ak : Nat → Nat} (C0 : CT p s m args meth c A dC dI cc ak cJ0_indexOf_0f7a4 2 (some .int) RJ0)  (i0 : Nat)   (p0 : Int32) {out : Int32} (hf : fJ0_indexOf_0f7a4 i0 p0 = some out) {H : Heap} {locs : List Loc} (hP : va_P (dC, dI) cLs [] H) (hD : va_D A []) (hS : va_S A s.heap H locs) {ls : Array Slot} (hl : lv_has ls 2 [(0, .ref (ak i0)), (1, .int p0)]) : W p l e rmJ0_indexOf_0f7a4 s m args below meth c H locs 0 0 (MQ below (QI dC dI cc out [] A) args s 0 0 A) (F0 m 0 ls []) := by
  obtain ⟨hx, hb, hml, hr, hlocks, hown, hG, hK, hA, hE⟩ := id C0
  unfold fJ0_indexOf_0f7a4 at hf
  refine ck_el hf (fun g33i0 hf => ?_)
  refine lv_aload_n hx hb dJ0_indexOf_0f7a4_0 rfl (lv_at hl 0 rfl) ?_
  refine lv_iload_n hx hb dJ0_indexOf_0f7a4_1 rfl (lv_at hl 1 rfl) ?_
  refine lv_iconst (v := 0) hx hb dJ0_indexOf_0f7a4_2 (by decide) ?_
  refine bd_el hf (fun v2 hv2 hf => ?_)
  refine callVi (As := [.int p0, .int 0]) (rest := []) (wr := []) (wn := []) C0 kvJ0_indexOf_7cf53 kmJ0_633 hP hD hS (mJ0_indexOf_7cf53 l dC dI cc ak i0 _  p0 0 hv2) ⟨rfl, rfl⟩ ⟨Nat.le_of_ble_eq_true rfl, Nat.le_of_ble_eq_true rfl⟩ [] [] [] rfl rfl rfl rfl (hE.recv hS (i33_lt g33i0)) rfl hl.1 rfl (Nat.le_of_ble_eq_true rfl) ⟨Nat.zero_le _, Nat.zero_le _⟩ dJ0_indexOf_0f7a4_3 (fun H locs hP hD hS => ?_)
  obtain rfl := Option.some.inj hf
  exact retI C0 hP hD hS rfl dJ0_indexOf_0f7a4_6
theorem mJ0_indexOf_0f7a4 (l : Launch) (dC : Nat → ClassId) (dI : Nat → Nat → Nat) (cc : Nat → ClassId) (ak : Nat → Nat)  (i0 : Nat) (sz : Nat)   (p0 : Int32) {out : Int32} (hf : fJ0_indexOf_0f7a4 i0 p0 = some out) : Met l yJ0_indexOf_0f7a4 (Cond.code yJ0_indexOf_0f7a4 cJ0_indexOf_0f7a4 2 (some .int) :: GW) rmJ0_indexOf_0f7a4 (PI dC dI cc ak [.ref (ak i0), .int p0] [] sz) (QI dC dI cc out [] (va_A [] sz)) 0 0 (va_A [] sz) :=
  met_of (Q := fun A => QI dC dI cc out [] A) (by decide) rfl (Nat.le_of_ble_eq_true rfl) (fun p e s m below meth c A C0 hP hD hS ls hl => bJ0_indexOf_0f7a4 C0 i0 p0 hf hP hD hS hl)
