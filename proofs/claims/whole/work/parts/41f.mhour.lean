/-! ===== pure: an hour, of the reference ===== -/
theorem zor0 {x : Int32} : x ||| (0 : Int32) = x := by
  rw [← Int32.toBitVec_inj, Int32.toBitVec_or]; show x.toBitVec ||| 0#32 = x.toBitVec; simp
theorem zbc_le : ∀ n : Fin 128, ∃ k : Fin 8, zbc (zJ n.1) = zJ k.1 := by decide +kernel
section
variable {E : zE} {told deaf kind cost ple beh sS sV V S : Nat → Int32} {t : zT}
theorem zm_isFor (hE : zEok E) (hr : zRef E told deaf kind cost ple beh sS sV) {a m n : Nat} (ha : a < E.nA) (hm : m < E.nM) (hn : n < 1024) {lean said : Int32} : zOk (fX9_isFor (zJ n) told deaf kind cost ple sV V S (zJ a) lean (zJ m) said) (fun o => o.1 = if zfor E (zJ n) a lean m said then 1 else 0) := by
  have h7 := hE.a7
  have h10 := hE.m10
  have hl7 := hr.votes.1
  unfold fX9_isFor
  rw [ck_t (by decide), show (6 : Int32).toNatClampNeg = 6 from rfl, hr.v]
  unfold zfor
  have im : inb (zJ m) 20 = true := zinb (by omega) (by omega)
  have ia : inb (zJ a) 14 = true := zinb (by omega) (by omega)
  by_cases q : E.votes = []
  · rw [if_pos q, if_pos (by rw [q]; rfl), ck_t im, zJ_ix (by omega), hr.joy m hm]
    refine zOk.ite (fun z => ?_) (fun z => ?_)
    · exact zOk.pure (by simp [z])
    · exact zOk.pure (by simp [z])
  · rw [if_neg q]
    have hl : E.votes.length ≠ 0 := fun z => q (znil.1 z)
    refine zOk.neg (fun z => hl ((zJ_inj (b := 0) (by omega) (by omega)).1 z)) ?_
    rw [ck_t ia, ck_t (by decide), ck_t (by decide), ck_t im, ck_t (by decide), ck_t im, ck_t (by decide), ck_t im, ck_t (by decide)]
    refine zOk.eq (zbits' hn) ?_
    rw [ck_t (by decide), ck_t (by decide), zJ_ix (show a < 2147483648 by omega), zJ_ix (show m < 2147483648 by omega), hr.joy m hm, hr.cost m hm, hr.kind m hm, hr.deaf a ha]
    refine zOk.bind (zm_value hr.votes.1 hr.votes.2 (hE.votes.resolve_left q)) (fun o ho => ?_)
    rw [zev6] at ho
    rw [← ho]
    refine zOk.ite (fun z => ?_) (fun z => ?_)
    · exact zOk.pure (by simp [z])
    · exact zOk.pure (by simp [z])
theorem zm_sup (hE : zEok E) (hr : zRef E told deaf kind cost ple beh sS sV) (ht : zTok E t) {lean : Nat → Int32} (hl : ∀ a, a < E.nA → lean a = t.lean a) {m : Nat} (hm : m < E.nM) {said : Int32} : zOk (fX9_thoseFor t.passed told deaf kind cost ple sV lean V S (zJ m) said) (fun o => o.1 = zsup E t m said) := by
  have h7 := hE.a7
  obtain ⟨n, hn, hp⟩ := ht.passed
  have hn := zpow hn hE.m10
  have loop : ∀ (k a fuel : Nat) (V S : Nat → Int32), k + a = E.nA → k < fuel → zOk (lX9_thoseFor_5 (fun (C_values_6 : Nat → Int32) (C_stack_7 : Nat → Int32) (x4_8 : Int32) => some (x4_8, C_values_6, C_stack_7)) t.passed told deaf kind cost ple sV lean (zJ m) said fuel V S (zsupN E t m said a) (zJ a)) (fun o => o.1 = zsup E t m said) := by
    intro k
    induction k with
    | zero =>
      intro a fuel V S hk hf
      obtain ⟨fuel, rfl⟩ : ∃ f, fuel = f + 1 := ⟨fuel - 1, by omega⟩
      unfold lX9_thoseFor_5
      rw [ck_t (by decide), show (3 : Int32).toNatClampNeg = 3 from rfl, hr.a]
      refine zOk.pos ((zJ_le (by omega) (by omega)).2 (by omega)) (zOk.pure ?_)
      show zsupN E t m said a = zsupN E t m said E.nA
      rw [show a = E.nA by omega]
    | succ k ih =>
      intro a fuel V S hk hf
      obtain ⟨fuel, rfl⟩ : ∃ f, fuel = f + 1 := ⟨fuel - 1, by omega⟩
      unfold lX9_thoseFor_5
      have hn' : ¬ told 3 ≤ zJ a := by rw [hr.a]; intro q; have := (zJ_le (by omega) (by omega)).1 q; omega
      rw [ck_t (by decide), show (3 : Int32).toNatClampNeg = 3 from rfl, if_neg hn', ck_t (zinb (by omega) (by omega)), zJ_ix (by omega), hl a (by omega), zJ_succ, hp]
      refine zOk.bind (zm_isFor hE hr (a := a) (by omega) hm hn) (fun o ho => ?_)
      rw [← hp] at ho ⊢
      have step : zsupN E t m said (a + 1) = if zfor E t.passed a (t.lean a) m said then zsupN E t m said a ||| zbit a else zsupN E t m said a := rfl
      have ih := ih (a + 1) fuel o.2.1 o.2.2 (by omega) (by omega)
      rw [step] at ih
      rw [ho, zor0]
      cases hz : zfor E t.passed a (t.lean a) m said
      · rw [hz] at ih
        exact zOk.pos rfl ih
      · rw [hz] at ih
        exact zOk.neg (by decide) ih
  exact loop E.nA 0 FU V S (by omega) (by unfold FU; omega)
theorem zm_more (hE : zEok E) (hr : zRef E told deaf kind cost ple beh sS sV) {n : Nat} (hn : n < 128) : fX9_isMore told (zbc (zJ n)) = some (if zcarry E (zJ n) then 1 else 0) := by
  have h7 := hE.a7
  obtain ⟨k, hk⟩ := zbc_le ⟨n, hn⟩
  have hk : zbc (zJ n) = zJ k.1 := hk
  have hk8 := k.2
  unfold fX9_isMore zcarry
  rw [ck_t (by decide), show (3 : Int32).toNatClampNeg = 3 from rfl, hr.a, hk]
  have e : (zJ k.1 ≤ zJ E.nA - zJ k.1) ↔ ((2 : Int32) * zJ k.1 ≤ zJ E.nA) := by
    have a1 : (0 : Int32) ≤ zJ k.1 ∧ zJ k.1 ≤ 8 := ⟨(zJ_le (a := 0) (by omega) (by omega)).2 (by omega), (zJ_le (b := 8) (by omega) (by omega)).2 (by omega)⟩
    have a2 : (0 : Int32) ≤ zJ E.nA ∧ zJ E.nA ≤ 7 := ⟨(zJ_le (a := 0) (by omega) (by omega)).2 (by omega), (zJ_le (b := 7) (by omega) (by omega)).2 (by omega)⟩
    generalize zJ k.1 = x at *
    generalize zJ E.nA = y at *
    grind
  by_cases q : (2 : Int32) * zJ k.1 ≤ zJ E.nA
  · rw [if_pos (e.2 q)]; simp [q]
  · rw [if_neg (fun z => q (e.1 z))]; simp [q]
theorem zm_would (hE : zEok E) (hr : zRef E told deaf kind cost ple beh sS sV) (ht : zTok E t) {lean : Nat → Int32} (hl : ∀ a, a < E.nA → lean a = t.lean a) {m : Nat} (hm : m < E.nM) {said : Int32} : zOk (fX9_wouldPass t.treas t.passed told deaf kind cost ple sV lean V S (zJ m) said) (fun o => o.1 = if zwould E t m said then 1 else 0) := by
  have h10 := hE.m10
  unfold fX9_wouldPass
  refine zOk.bind (zm_sup hE hr ht hl hm) (fun o ho => ?_)
  obtain ⟨n, hn, e⟩ := zsup_r hE (t := t) (m := m) (said := said)
  rw [ho, e]
  refine zOk.eq (zbits' (by omega)) ?_
  refine zOk.eq (zm_more hE hr hn) ?_
  have im : inb (zJ m) 20 = true := zinb (by omega) (by omega)
  have hco := hE.cost m hm
  have htr := ht.treas
  unfold zwould zexp
  rw [e]
  cases hz : zcarry E (zJ n)
  · exact zOk.pos rfl (zOk.pure (by simp))
  · refine zOk.neg (by decide) ?_
    rw [ck_t im, zJ_ix (by omega), hr.kind m hm, hr.cost m hm]
    refine zOk.ite (fun q => ?_) (fun q => ?_)
    · have : ¬ t.treas < -(E.cost m) := by grind
      exact zOk.pure (by simp [q, this])
    · rw [ck_t im]
      refine zOk.ite (fun q2 => ?_) (fun q2 => ?_)
      · exact zOk.pure (by simp [q, q2])
      · exact zOk.pure (by simp [q, q2])
theorem zm_open (h10 : E.nM ≤ 10) (hr : zRef E told deaf kind cost ple beh sS sV) {m : Nat} (hm : m < E.nM) {p : Int32} : fX9_isOpen p beh (zJ m) = some (if zopen E p m then 1 else 0) := by
  unfold fX9_isOpen zopen
  have im : inb (zJ m) 20 = true := zinb (by omega) (by omega)
  rw [ck_t im, ck_t im, zisM, zJ_ix (by omega), hr.fol m hm, zisM]
  cases zis p (zJ m) <;> cases hz : zis p (E.fol m) <;> by_cases q : E.fol m = -1 <;> simp [q]
theorem zm_joy (h10 : E.nM ≤ 10) (hr : zRef E told deaf kind cost ple beh sS sV) {m : Nat} (hm : m < E.nM) : fX9_joyOf kind ple (zJ m) = some (zple E m) := by
  unfold fX9_joyOf zple
  have im : inb (zJ m) 20 = true := zinb (by omega) (by omega)
  rw [ck_t im, ck_t im, ck_t im, zJ_ix (by omega), hr.kind m hm, hr.joy m hm]
  split <;> rfl
theorem zm_votes (hE : zEok E) (hr : zRef E told deaf kind cost ple beh sS sV) {lean call : Nat → Int32} {wo said : Int32} {ke : Int32 → Int32 → Int32 → (Nat → Int32) → (Nat → Int32) → Option (Int32 × Int32 × Int32 × Int32 × Int32 × Int32 × Int32 × Int32 × Int32 × (Nat → Int32) × (Nat → Int32))} {Q : Int32 × Int32 × Int32 × Int32 × Int32 × Int32 × Int32 × Int32 × Int32 × (Nat → Int32) × (Nat → Int32) → Prop} : ∀ (k m fuel : Nat) (V S : Nat → Int32) (t : zT), k + m = E.nM → k < fuel → zTok E t → (∀ a, a < E.nA → lean a = t.lean a) → (∀ m, m < E.nM → call m = t.call m) → (∀ V S, zOk (ke (if said = -1 then t else zvotes E wo said k m t).treas (if said = -1 then t else zvotes E wo said k m t).joy (if said = -1 then t else zvotes E wo said k m t).passed V S) Q) → zOk (lX9_anHour_56 ke wo said told deaf kind cost ple beh sV lean call fuel t.treas t.joy t.passed V S (zJ m)) Q := by
  have h10 := hE.m10
  intro k
  induction k with
  | zero =>
    intro m fuel V S t hk hf ht hl hcl kk
    obtain ⟨fuel, rfl⟩ : ∃ f, fuel = f + 1 := ⟨fuel - 1, by omega⟩
    unfold lX9_anHour_56
    rw [ck_t (by decide), show (4 : Int32).toNatClampNeg = 4 from rfl, hr.m]
    refine zOk.pos ((zJ_le (by omega) (by omega)).2 (by omega)) ?_
    have := kk V S
    by_cases q : said = -1
    · rw [if_pos q] at this; exact this
    · rw [if_neg q] at this; exact this
  | succ k ih =>
    intro m fuel V S t hk hf ht hl hcl kk
    obtain ⟨fuel, rfl⟩ : ∃ f, fuel = f + 1 := ⟨fuel - 1, by omega⟩
    unfold lX9_anHour_56
    have hn : ¬ told 4 ≤ zJ m := by rw [hr.m]; intro q; have := (zJ_le (by omega) (by omega)).1 q; omega
    rw [ck_t (by decide), show (4 : Int32).toNatClampNeg = 4 from rfl, if_neg hn]
    by_cases q : said = -1
    · rw [if_pos q] at kk
      exact zOk.pos q (kk V S)
    · rw [if_neg q] at kk
      refine zOk.neg q ?_
      rw [zJ_succ]
      have step : zvotes E wo said (k + 1) m t = zvotes E wo said k (m + 1) (zvote1 E wo said t m) := rfl
      rw [step] at kk
      have ih := fun V S (t' : zT) (e : t' = zvote1 E wo said t m) => ih (m + 1) fuel V S t' (by omega) (by omega) (by rw [e]; exact zvote1_ok hE ht (by omega)) (by rw [e, zvote1_lean]; exact hl) (by rw [e, zvote1_call]; exact hcl) (by rw [if_neg q, e]; exact kk)
      unfold zvote1 at ih
      by_cases c1 : zJ m = wo
      · refine zOk.pos c1 (ih _ _ t ?_)
        rw [if_neg (by simp [c1])]
      · refine zOk.neg c1 ?_
        rw [ck_t (zinb (by omega) (by omega)), zJ_ix (by omega), hcl m (by omega)]
        by_cases c2 : t.call m = said
        · refine zOk.pos c2 ?_
          refine zOk.eq (zm_open h10 hr (by omega)) ?_
          cases c3 : zopen E t.passed m
          · refine zOk.pos rfl (ih _ _ t ?_)
            rw [if_neg (by simp [c3])]
          · refine zOk.neg (by decide) ?_
            refine zOk.bind (zm_would hE hr ht hl (by omega)) (fun o ho => ?_)
            cases c4 : zwould E t m said
            · rw [c4] at ho
              refine zOk.pos ho (ih _ _ t ?_)
              rw [if_neg (by simp [c4])]
            · rw [c4] at ho
              have hw := c4
              unfold zwould at hw
              simp only [Bool.and_eq_true, Bool.not_eq_true', decide_eq_false_iff_not] at hw
              have hw := hw.1
              have hco := hE.cost m (by omega)
              have htr := ht.treas
              have im : inb (zJ m) 20 = true := zinb (by omega) (by omega)
              refine zOk.neg (by rw [ho]; decide) ?_
              have fin := ih o.2.1 o.2.2 (zpass E t m) (by rw [if_pos (by simp [c1, c2, c3, c4])])
              unfold zpass at fin
              rw [ck_t im, ck_t im, ck_t im, hr.kind m (by omega), hr.cost m (by omega)]
              unfold jX9_anHour_172
              rw [zm_joy h10 hr (by omega), zJ_succ]
              unfold zexp at fin hw
              refine zOk.ite (fun z => ?_) (fun z => ?_)
              · rw [if_pos z] at fin
                have e : t.treas - -(E.cost m) = t.treas + E.cost m := by grind
                rw [e] at fin
                exact fin
              · rw [if_neg z] at fin hw
                have e : (if t.treas - E.cost m < 9999 then t.treas - E.cost m else 9999) = t.treas - E.cost m := by grind
                rw [e] at fin
                exact fin
        · refine zOk.neg c2 (ih _ _ t ?_)
          rw [if_neg (by simp [c2])]
/-- whether an hour is hoarse -/
def zhoarse (E : zE) (t : zT) : Int32 := if zsaid E t = -1 then 0 else if t.oil = 0 then 1 else 0
theorem zm_hour (hE : zEok E) (hr : zRef E told deaf kind cost ple beh sS sV) (ht : zTok E t) (h0 : 0 ≤ t.hour) {lean call : Nat → Int32} (hl : ∀ a, a < E.nA → lean a = t.lean a) (hcl : ∀ m, m < E.nM → call m = t.call m) {wo s0 ho0 : Int32} : zOk (fX9_anHour t.hour t.oil t.weight t.spider t.treas t.joy t.passed wo s0 ho0 told deaf kind cost ple beh sS sV lean call V S) (fun o => ∃ V' S', o = ((zhour E wo t).hour, (zhour E wo t).oil, (zhour E wo t).weight, (zhour E wo t).spider, (zhour E wo t).treas, (zhour E wo t).joy, (zhour E wo t).passed, zsaid E t, zhoarse E t, V', S')) := by
  unfold fX9_anHour
  refine zOk.bind (zm_said hE hr h0) (fun o ho => ?_)
  have hz : ∀ (h : Int32) (V S : Nat → Int32), h = zhoarse E t → ∀ oil : Int32, oil = (zdrop E t).oil → zOk (jX9_anHour_54 t.hour oil t.weight t.spider t.treas t.joy t.passed wo (zsaid E t) h told deaf kind cost ple beh sV lean call V S) (fun o => ∃ V' S', o = ((zhour E wo t).hour, (zhour E wo t).oil, (zhour E wo t).weight, (zhour E wo t).spider, (zhour E wo t).treas, (zhour E wo t).joy, (zhour E wo t).passed, zsaid E t, zhoarse E t, V', S')) := by
    intro h V S hh oil ho
    have e := zdrop_keep (E := E) (t := t)
    unfold jX9_anHour_54
    have key := zm_votes hE hr (lean := lean) (call := call) (wo := wo) (said := zsaid E t) (ke := fun (M_treasury_24 : Int32) (M_joy_25 : Int32) (M_passed_26 : Int32) (M_asked_27 : Nat → Int32) (M_stack_28 : Nat → Int32) => jX9_anHour_195 t.hour oil t.weight t.spider M_treasury_24 M_joy_25 M_passed_26 (zsaid E t) h M_asked_27 M_stack_28) (Q := fun o => ∃ V' S', o = ((zhour E wo t).hour, (zhour E wo t).oil, (zhour E wo t).weight, (zhour E wo t).spider, (zhour E wo t).treas, (zhour E wo t).joy, (zhour E wo t).passed, zsaid E t, zhoarse E t, V', S')) E.nM 0 FU V S (zdrop E t) (by omega) (by have := hE.m10; unfold FU; omega) (zdrop_ok ht) (by rw [e.2.2.2.2.2.2.1]; exact hl) (by rw [e.2.2.2.2.2.2.2]; exact hcl) (fun V S => ?_)
    · rw [e.2.2.2.1, e.2.2.2.2.1, e.2.2.2.2.2.1] at key
      exact key
    · have hz : (if zsaid E t = -1 then zdrop E t else zvotes E wo (zsaid E t) E.nM 0 (zdrop E t)) = (if zsaid E t = -1 then t else zvotes E wo (zsaid E t) E.nM 0 (zdrop E t)) := by
        by_cases q : zsaid E t = -1
        · rw [if_pos q, if_pos q]; unfold zdrop; rw [if_pos q]
        · rw [if_neg q, if_neg q]
      unfold jX9_anHour_195
      refine zOk.pure ⟨V, S, ?_⟩
      rw [hz, zhour_hour, zhour_oil, zhour_weight, zhour_spider, hh, ho]
      rfl
  rw [ho]
  have hd : (zdrop E t).oil = if zsaid E t = -1 then t.oil else if t.oil = 0 then t.oil else t.oil - 1 := by unfold zdrop; split <;> rfl
  have hoil := ht.oil
  refine zOk.ite (fun q => ?_) (fun q => ?_)
  · unfold jX9_anHour_28 jX9_anHour_29
    rw [ck_t (by decide)]
    refine zOk.pos q (hz _ _ _ (by unfold zhoarse; rw [if_pos q]) _ (by rw [hd, if_pos q]))
  · rw [if_neg q] at hd
    refine zOk.ite (fun q2 => ?_) (fun q2 => ?_)
    · unfold jX9_anHour_29
      rw [ck_t (by decide)]
      refine zOk.neg q (hz _ _ _ (by unfold zhoarse; rw [if_neg q, if_pos q2]) _ (by rw [hd, if_pos q2, q2]; rfl))
    · unfold jX9_anHour_28 jX9_anHour_29
      rw [ck_t (by decide)]
      refine zOk.neg q (hz _ _ _ (by unfold zhoarse; rw [if_neg q, if_neg q2]) _ (by rw [hd, if_neg q2]; grind))
end
