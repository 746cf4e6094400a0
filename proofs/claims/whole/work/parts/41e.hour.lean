/-! ===== pure: an hour, of the class ===== -/
theorem zor_any : ∀ a : Fin 10, ∀ n : Fin 1024, zJ n.1 ||| zbit a.1 = zJ (n.1 ||| 2 ^ a.1) := by decide +kernel
theorem zexp_r {E : zE} (hE : zEok E) {m : Nat} (hm : m < E.nM) : -99 ≤ zexp E m ∧ zexp E m ≤ 99 := by
  have := hE.cost m hm
  unfold zexp
  split <;> grind
theorem zpass_ok {E : zE} (hE : zEok E) {t : zT} (ht : zTok E t) {m : Nat} (hm : m < E.nM) (h : ¬ t.treas < zexp E m) : zTok E (zpass E t m) := by
  obtain ⟨h1, h2, h3, h4, ⟨n, hn, e⟩, h6, h7⟩ := ht
  have hx := zexp_r hE hm
  have h10 := hE.m10
  refine ⟨h1, h2, h3, ?_, ?_, h6, h7⟩
  · show 0 ≤ (if t.treas - zexp E m < 9999 then t.treas - zexp E m else 9999) ∧ (if t.treas - zexp E m < 9999 then t.treas - zexp E m else 9999) ≤ 9999
    grind
  · refine ⟨n ||| 2 ^ m, ?_, ?_⟩
    · exact Nat.or_lt_two_pow hn (Nat.pow_lt_pow_right (by omega) hm)
    · show t.passed ||| zbit m = _
      rw [e]; exact zor_any ⟨m, by omega⟩ ⟨n, zpow hn h10⟩
theorem zvote1_ok {E : zE} (hE : zEok E) {t : zT} (ht : zTok E t) {m : Nat} (hm : m < E.nM) {wo said : Int32} : zTok E (zvote1 E wo said t m) := by
  unfold zvote1
  split
  · rename_i h
    simp only [Bool.and_eq_true] at h
    have hw := h.2.2.2
    unfold zwould at hw
    simp only [Bool.and_eq_true, Bool.not_eq_true', decide_eq_false_iff_not] at hw
    exact zpass_ok hE ht hm hw.1
  · exact ht
theorem zvote1_lean {E : zE} {t : zT} {m : Nat} {wo said : Int32} : (zvote1 E wo said t m).lean = t.lean := by unfold zvote1; split <;> rfl
theorem zvote1_call {E : zE} {t : zT} {m : Nat} {wo said : Int32} : (zvote1 E wo said t m).call = t.call := by unfold zvote1; split <;> rfl
theorem zvotes_ok {E : zE} (hE : zEok E) {wo said : Int32} : ∀ (k m : Nat) (t : zT), k + m = E.nM → zTok E t → zTok E (zvotes E wo said k m t)
  | 0, _, _, _, ht => ht
  | k + 1, m, t, h, ht => zvotes_ok hE k (m + 1) _ (by omega) (zvote1_ok hE ht (by omega))
theorem zvotes_keep {E : zE} {wo said : Int32} : ∀ (k m : Nat) (t : zT), (zvotes E wo said k m t).hour = t.hour ∧ (zvotes E wo said k m t).oil = t.oil ∧ (zvotes E wo said k m t).weight = t.weight ∧ (zvotes E wo said k m t).spider = t.spider ∧ (zvotes E wo said k m t).lean = t.lean ∧ (zvotes E wo said k m t).call = t.call
  | 0, _, _ => ⟨rfl, rfl, rfl, rfl, rfl, rfl⟩
  | k + 1, m, t => by
    have h := zvotes_keep (E := E) (wo := wo) (said := said) k (m + 1) (zvote1 E wo said t m)
    have e : (zvote1 E wo said t m).hour = t.hour ∧ (zvote1 E wo said t m).oil = t.oil ∧ (zvote1 E wo said t m).weight = t.weight ∧ (zvote1 E wo said t m).spider = t.spider ∧ (zvote1 E wo said t m).lean = t.lean ∧ (zvote1 E wo said t m).call = t.call := by
      unfold zvote1; split <;> exact ⟨rfl, rfl, rfl, rfl, rfl, rfl⟩
    exact ⟨h.1.trans e.1, h.2.1.trans e.2.1, h.2.2.1.trans e.2.2.1, h.2.2.2.1.trans e.2.2.2.1, h.2.2.2.2.1.trans e.2.2.2.2.1, h.2.2.2.2.2.trans e.2.2.2.2.2⟩
theorem zdrop_ok {E : zE} {t : zT} (ht : zTok E t) : zTok E (zdrop E t) := by
  unfold zdrop
  split
  · exact ht
  · obtain ⟨h1, h2, h3, h4, h5, h6, h7⟩ := ht
    exact ⟨by show 0 ≤ (if t.oil = 0 then t.oil else t.oil - 1) ∧ (if t.oil = 0 then t.oil else t.oil - 1) ≤ 99; grind, h2, h3, h4, h5, h6, h7⟩
theorem zturn_ok {E : zE} {t : zT} (ht : zTok E t) : zTok E (zturn t) := by
  obtain ⟨h1, h2, h3, h4, h5, h6, h7⟩ := ht
  exact ⟨h1, by show 0 ≤ zdec t.weight ∧ zdec t.weight ≤ 99; unfold zdec; grind, by show 0 ≤ zdec t.spider ∧ zdec t.spider ≤ 24; unfold zdec; grind, h4, h5, h6, h7⟩
theorem zhour_ok {E : zE} (hE : zEok E) {t : zT} (ht : zTok E t) {wo : Int32} : zTok E (zhour E wo t) := by
  unfold zhour
  apply zturn_ok
  split
  · exact ht
  · exact zvotes_ok hE _ _ _ (by omega) (zdrop_ok ht)
theorem zdrop_keep {E : zE} {t : zT} : (zdrop E t).hour = t.hour ∧ (zdrop E t).weight = t.weight ∧ (zdrop E t).spider = t.spider ∧ (zdrop E t).treas = t.treas ∧ (zdrop E t).joy = t.joy ∧ (zdrop E t).passed = t.passed ∧ (zdrop E t).lean = t.lean ∧ (zdrop E t).call = t.call := by
  unfold zdrop
  split <;> exact ⟨rfl, rfl, rfl, rfl, rfl, rfl, rfl, rfl⟩
theorem zhour_hour {E : zE} {t : zT} {wo : Int32} : (zhour E wo t).hour = t.hour + 1 := by
  unfold zhour
  show (if zsaid E t = -1 then t else zvotes E wo (zsaid E t) E.nM 0 (zdrop E t)).hour + 1 = _
  split
  · rfl
  · rw [(zvotes_keep _ _ _).1, zdrop_keep.1]
theorem zhour_lean {E : zE} {t : zT} {wo : Int32} : (zhour E wo t).lean = t.lean := by
  unfold zhour
  show (if zsaid E t = -1 then t else zvotes E wo (zsaid E t) E.nM 0 (zdrop E t)).lean = _
  split
  · rfl
  · rw [(zvotes_keep _ _ _).2.2.2.2.1, zdrop_keep.2.2.2.2.2.2.1]
theorem zhour_call {E : zE} {t : zT} {wo : Int32} : (zhour E wo t).call = t.call := by
  unfold zhour
  show (if zsaid E t = -1 then t else zvotes E wo (zsaid E t) E.nM 0 (zdrop E t)).call = _
  split
  · rfl
  · rw [(zvotes_keep _ _ _).2.2.2.2.2, zdrop_keep.2.2.2.2.2.2.2]
theorem zhour_oil {E : zE} {t : zT} {wo : Int32} : (zhour E wo t).oil = (zdrop E t).oil := by
  unfold zhour
  show (if zsaid E t = -1 then t else zvotes E wo (zsaid E t) E.nM 0 (zdrop E t)).oil = _
  split
  · unfold zdrop; rw [if_pos (by assumption)]
  · rw [(zvotes_keep _ _ _).2.1]
theorem zhour_weight {E : zE} {t : zT} {wo : Int32} : (zhour E wo t).weight = zdec t.weight := by
  unfold zhour
  show zdec (if zsaid E t = -1 then t else zvotes E wo (zsaid E t) E.nM 0 (zdrop E t)).weight = _
  split
  · rfl
  · rw [(zvotes_keep _ _ _).2.2.1, zdrop_keep.2.1]
theorem zhour_spider {E : zE} {t : zT} {wo : Int32} : (zhour E wo t).spider = zdec t.spider := by
  unfold zhour
  show zdec (if zsaid E t = -1 then t else zvotes E wo (zsaid E t) E.nM 0 (zdrop E t)).spider = _
  split
  · rfl
  · rw [(zvotes_keep _ _ _).2.2.2.1, zdrop_keep.2.2.1]
section
variable {E : zE} {nA nM : Int32} {deaf kind cost joy fol code rf rt V S : Nat → Int32} {t : zT}
theorem zc_votes (hE : zEok E) (hc : zCls E nA nM deaf kind cost joy fol code rf rt) {lean call : Nat → Int32} {wo said : Int32} {ke : (Nat → Int32) → (Nat → Int32) → Int32 → Int32 → Int32 → Option (Int32 × (Nat → Int32) × (Nat → Int32) × Int32 × Int32 × Int32 × Int32 × Int32 × Int32 × Int32)} {Q : Int32 × (Nat → Int32) × (Nat → Int32) × Int32 × Int32 × Int32 × Int32 × Int32 × Int32 × Int32 → Prop} : ∀ (k m fuel : Nat) (V S : Nat → Int32) (t : zT), k + m = E.nM → k < fuel → (∀ a, a < E.nA → lean a = t.lean a) → (∀ m, m < E.nM → call m = t.call m) → (∀ V S, zOk (ke V S (if said = -1 then t else zvotes E wo said k m t).treas (if said = -1 then t else zvotes E wo said k m t).joy (if said = -1 then t else zvotes E wo said k m t).passed) Q) → zOk (lX2_passHour_9 ke nA nM deaf kind cost joy fol code rf rt lean call wo said fuel V S t.treas t.joy t.passed (zJ m)) Q := by
  have h10 := hE.m10
  intro k
  induction k with
  | zero =>
    intro m fuel V S t hk hf hl hcl kk
    obtain ⟨fuel, rfl⟩ : ∃ f, fuel = f + 1 := ⟨fuel - 1, by omega⟩
    unfold lX2_passHour_9
    rw [hc.m]
    refine zOk.pos ((zJ_le (by omega) (by omega)).2 (by omega)) ?_
    have := kk V S
    by_cases q : said = -1
    · rw [if_pos q] at this; exact this
    · rw [if_neg q] at this; exact this
  | succ k ih =>
    intro m fuel V S t hk hf hl hcl kk
    obtain ⟨fuel, rfl⟩ : ∃ f, fuel = f + 1 := ⟨fuel - 1, by omega⟩
    unfold lX2_passHour_9
    have hn : ¬ nM ≤ zJ m := by rw [hc.m]; intro q; have := (zJ_le (by omega) (by omega)).1 q; omega
    rw [if_neg hn]
    by_cases q : said = -1
    · rw [if_pos q] at kk
      exact zOk.pos q (kk V S)
    · rw [if_neg q] at kk
      refine zOk.neg q ?_
      rw [zJ_succ]
      have step : zvotes E wo said (k + 1) m t = zvotes E wo said k (m + 1) (zvote1 E wo said t m) := rfl
      rw [step] at kk
      have ih := fun V S (t' : zT) (e : t' = zvote1 E wo said t m) => ih (m + 1) fuel V S t' (by omega) (by omega) (by rw [e, zvote1_lean]; exact hl) (by rw [e, zvote1_call]; exact hcl) (by rw [if_neg q, e]; exact kk)
      unfold zvote1 at ih
      by_cases c1 : zJ m = wo
      · refine zOk.pos c1 (ih _ _ t ?_)
        rw [if_neg (by simp [c1])]
      · refine zOk.neg c1 ?_
        rw [ck_t (zinb (by omega) (by omega)), zJ_ix (by omega), hcl m (by omega)]
        by_cases c2 : t.call m = said
        · refine zOk.pos c2 ?_
          refine zOk.eq (zc_open h10 hc (by omega)) ?_
          cases c3 : zopen E t.passed m
          · refine zOk.pos rfl (ih _ _ t ?_)
            rw [if_neg (by simp [c3])]
          · refine zOk.neg (by decide) ?_
            refine zOk.bind (zc_would hE hc hl (by omega)) (fun o ho => ?_)
            cases c4 : zwould E t m said
            · rw [c4] at ho
              refine zOk.pos ho (ih _ _ t ?_)
              rw [if_neg (by simp [c4])]
            · rw [c4] at ho
              refine zOk.neg (by rw [ho]; decide) ?_
              refine zOk.eq (zc_pass h10 hc (by omega)) ?_
              refine ih _ _ (zpass E t m) ?_
              rw [if_pos (by simp [c1, c2, c3, c4])]
        · refine zOk.neg c2 (ih _ _ t ?_)
          rw [if_neg (by simp [c2])]
theorem zc_hour (hE : zEok E) (hc : zCls E nA nM deaf kind cost joy fol code rf rt) (h0 : 0 ≤ t.hour) (hoil : 0 ≤ t.oil ∧ t.oil ≤ 99) {lean call : Nat → Int32} (hl : ∀ a, a < E.nA → lean a = t.lean a) (hcl : ∀ m, m < E.nM → call m = t.call m) {wo : Int32} : zOk (fX2_passHour V S nA nM deaf kind cost joy fol code rf rt t.hour t.oil t.weight t.spider t.treas t.joy t.passed lean call wo) (fun o => o.1 = zsaid E t ∧ o.2.2.2 = ((zhour E wo t).hour, (zhour E wo t).oil, (zhour E wo t).weight, (zhour E wo t).spider, (zhour E wo t).treas, (zhour E wo t).joy, (zhour E wo t).passed)) := by
  unfold fX2_passHour
  refine zOk.bind (zc_say hE hc h0 hoil) (fun o ho => ?_)
  obtain ⟨h1, h2⟩ := ho
  have e := zdrop_keep (E := E) (t := t)
  have key := zc_votes hE hc (lean := lean) (call := call) (wo := wo) (said := o.1) (ke := fun (C_values_16 : Nat → Int32) (C_stack_17 : Nat → Int32) (T_treasury_18 : Int32) (T_joy_19 : Int32) (T_passed_20 : Int32) => (fX2_turn t.hour t.weight t.spider).bind fun v22 => some (o.1, C_values_16, C_stack_17, v22.1, o.2.2.2, v22.2.1, v22.2.2, T_treasury_18, T_joy_19, T_passed_20)) (Q := fun o => o.1 = zsaid E t ∧ o.2.2.2 = ((zhour E wo t).hour, (zhour E wo t).oil, (zhour E wo t).weight, (zhour E wo t).spider, (zhour E wo t).treas, (zhour E wo t).joy, (zhour E wo t).passed)) E.nM 0 FU o.2.1 o.2.2.1 (zdrop E t) (by omega) (by have := hE.m10; unfold FU; omega) (by rw [e.2.2.2.2.2.2.1]; exact hl) (by rw [e.2.2.2.2.2.2.2]; exact hcl) (fun V S => ?_)
  · rw [e.2.2.2.1, e.2.2.2.2.1, e.2.2.2.2.2.1] at key
    exact key
  · rw [h1, h2]
    refine zOk.pure ⟨rfl, ?_⟩
    rw [zhour_hour, zhour_oil, zhour_weight, zhour_spider]
    have h3 : ∀ (g : zT → Int32), (g (zturn (if zsaid E t = -1 then t else zvotes E wo (zsaid E t) E.nM 0 (zdrop E t)))) = g (zhour E wo t) := fun g => rfl
    have hz : (if zsaid E t = -1 then zdrop E t else zvotes E wo (zsaid E t) E.nM 0 (zdrop E t)) = (if zsaid E t = -1 then t else zvotes E wo (zsaid E t) E.nM 0 (zdrop E t)) := by
      by_cases q : zsaid E t = -1
      · rw [if_pos q, if_pos q]; unfold zdrop; rw [if_pos q]
      · rw [if_neg q, if_neg q]
    show (_, _, _, _, (if zsaid E t = -1 then zdrop E t else zvotes E wo (zsaid E t) E.nM 0 (zdrop E t)).treas, (if zsaid E t = -1 then zdrop E t else zvotes E wo (zsaid E t) E.nM 0 (zdrop E t)).joy, (if zsaid E t = -1 then zdrop E t else zvotes E wo (zsaid E t) E.nM 0 (zdrop E t)).passed) = _
    rw [hz]
    rfl
theorem zc_hourU (hE : zEok E) (hc : zCls E nA nM deaf kind cost joy fol code rf rt) (h0 : 0 ≤ t.hour) (hoil : 0 ≤ t.oil ∧ t.oil ≤ 99) {wo : Int32} : zOk (fX2_passHourUnheeded V S code rf rt t.hour t.oil t.weight t.spider) (fun o => o.1 = zsaid E t ∧ o.2.2.2 = ((zhour E wo t).hour, (zhour E wo t).oil, (zhour E wo t).weight, (zhour E wo t).spider)) := by
  unfold fX2_passHourUnheeded
  refine zOk.bind (zc_say hE hc h0 hoil) (fun o ho => ?_)
  obtain ⟨h1, h2⟩ := ho
  refine zOk.pure ⟨h1, ?_⟩
  rw [zhour_hour, zhour_oil, zhour_weight, zhour_spider]
  rw [h2]
  rfl
end
