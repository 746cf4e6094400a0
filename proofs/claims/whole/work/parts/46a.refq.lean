/-! ===== pure: what the reference answers of hours ahead ===== -/
abbrev zQ16 (t : zT) (M_lean M_call : Nat → Int32) (a c : Int32) (o : Int32 × Int32 × Int32 × Int32 × Int32 × Int32 × Int32 × Int32 × Int32 × Int32 × Int32 × (Nat → Int32) × (Nat → Int32) × (Nat → Int32) × (Nat → Int32) × (Nat → Int32)) : Prop :=
  ∃ (sd ho : Int32) (L C V S R : Nat → Int32), o = (a, c, t.hour, t.oil, t.weight, t.spider, t.treas, t.joy, t.passed, sd, ho, L, C, V, S, R) ∧ (∀ a, a < 7 → L a = M_lean a) ∧ (∀ m, m < 10 → C m = M_call m)
abbrev zQ15 (t : zT) (M_lean M_call : Nat → Int32) (a : Int32) (o : Int32 × Int32 × Int32 × Int32 × Int32 × Int32 × Int32 × Int32 × Int32 × Int32 × (Nat → Int32) × (Nat → Int32) × (Nat → Int32) × (Nat → Int32) × (Nat → Int32)) : Prop :=
  ∃ (sd ho : Int32) (L C V S R : Nat → Int32), o = (a, t.hour, t.oil, t.weight, t.spider, t.treas, t.joy, t.passed, sd, ho, L, C, V, S, R) ∧ (∀ a, a < 7 → L a = M_lean a) ∧ (∀ m, m < 10 → C m = M_call m)
theorem zwhat {p : Int32} (h0 : ¬ p < 0) (h1 : ¬ 1 < p) : p = 0 ∨ p = 1 := by
  obtain ⟨n, hn, rfl⟩ := zof_le (x := p) (k := 1) (Int32.not_lt.1 h0) (by omega) (Int32.not_lt.1 h1)
  rcases (show n = 0 ∨ n = 1 by omega) with rfl | rfl
  · exact Or.inl rfl
  · exact Or.inr rfl
theorem zsub1 {n : Nat} (h : n < 1000) (p : Int32) : (p < 0 ∨ zJ n - 1 < p) ↔ ¬ ∃ m, m < n ∧ p = zJ m := by
  constructor
  · rintro q ⟨m, hm, rfl⟩
    rcases q with q | q
    · exact zJ_nn (by omega) q
    · obtain ⟨j, rfl⟩ : ∃ j, n = j + 1 := ⟨n - 1, by omega⟩
      rw [zJ_pred] at q
      have := (zJ_lt (by omega) (by omega)).1 q
      omega
  · intro q
    by_cases q0 : p < 0
    · exact Or.inl q0
    · refine Or.inr ?_
      obtain ⟨m, hm, rfl⟩ := zof (Int32.not_lt.1 q0)
      have : ¬ m < n := fun z => q ⟨m, z, rfl⟩
      by_cases z : n = 0
      · subst z
        show (zJ 0 - 1 : Int32) < zJ m
        rw [Int32.lt_iff_toInt_lt, zJ_toInt hm, show (zJ 0 - 1 : Int32).toInt = -1 from rfl]; omega
      · obtain ⟨j, rfl⟩ : ∃ j, n = j + 1 := ⟨n - 1, by omega⟩
        rw [zJ_pred]
        exact zJ_ylt (by omega) hm
section
variable {A2_acts A2_seen A_acts A_seen B2_aldermen B2_codeLength B2_motions B2_oil B2_treasury B2_weight B_aldermen B_codeLength B_motions B_oil B_treasury B_weight D_aldermen D_codeLength D_motions D_oil D_treasury D_weight F_seed K_acts K_seen M_acts M_actsThen M_at M_bad M_badPlace M_begins M_code M_faultPlace M_fitMany M_hasImage M_hoarse M_hour M_joy M_never M_number M_ofVoting M_oil M_passed M_said M_seedNow M_seen M_seenThen M_size M_spider M_stops M_taped M_token M_treasury M_values M_weight R_clockIsTold R_depth R_digits R_end R_fault R_notMayStand R_nots R_number R_partIsDue R_place R_start R_token R_waits T2_hour T2_joy T2_oil T2_passed T2_spider T2_treasury T2_weight T_hour T_joy T_oil T_passed T_spider T_treasury T_weight V_hour V_joy V_oil V_passed V_spider V_treasury V_weight X_hour X_joy X_oil X_passed X_spider X_treasury X_weight Y_hour Y_joy Y_oil Y_passed Y_spider Y_treasury Y_weight Z_faultPlace Z_hasImage Z_tapeLength : Int32} {A2_before A2_refused A2_seenHour A2_seenNumber A_before A_refused A_seenHour A_seenNumber B2_call B2_code B2_cost B2_deaf B2_follows B2_joy B2_kind B2_lean B2_ruleFrom B2_ruleTo B_call B_code B_cost B_deaf B_follows B_joy B_kind B_lean B_ruleFrom B_ruleTo C_stack C_values D_call D_code D_cost D_deaf D_follows D_joy D_kind D_lean D_ruleFrom D_ruleTo F_times K_before K_refused K_seenHour K_seenNumber M_asked M_behind M_call M_callTold M_cost M_deaf M_extras M_fits M_imageRow M_kind M_lean M_leanTold M_past M_pastThen M_pleases M_rowSeen M_rowThen M_saidOften M_saids M_seenIn M_seenInThen M_seenSaid M_seenSaidThen M_signsSays M_signsVotes M_stack M_status M_statusThen M_tape M_told R_tape R_waiting S_heard S_unlike T2_call T2_lean T_call T_lean U_prices V_call V_lean X_call X_lean Y_call Y_lean Z_tape : Nat → Int32}
variable {E : zE} {t : zT} {n : Nat} {wo : Int32}
theorem zm_motion (hE : zEok E) (hr : zRef E M_told M_deaf M_kind M_cost M_pleases M_behind M_signsSays M_signsVotes) {p : Int32} : fX9_isMotion M_told p = some (if p < 0 then 0 else if zJ E.nM - 1 < p then 0 else 1) := by
  unfold fX9_isMotion
  rw [ck_t (by decide), show (4 : Int32).toNatClampNeg = 4 from rfl, hr.m, show (0 : Int64) = (0 : Int32).toInt64 from rfl, zisIn, Option.bind_some]
  rw [ck_t]
  unfold isb
  rw [decide_eq_true_eq]
  split
  · exact Or.inl rfl
  · split
    · exact Or.inl rfl
    · exact Or.inr rfl
theorem zm_alder (hE : zEok E) (hr : zRef E M_told M_deaf M_kind M_cost M_pleases M_behind M_signsSays M_signsVotes) {p : Int32} : fX9_isAlderman M_told p = some (if p < 0 then 0 else if zJ E.nA - 1 < p then 0 else 1) := by
  unfold fX9_isAlderman
  rw [ck_t (by decide), show (3 : Int32).toNatClampNeg = 3 from rfl, hr.a, show (0 : Int64) = (0 : Int32).toInt64 from rfl, zisIn, Option.bind_some]
  rw [ck_t]
  unfold isb
  rw [decide_eq_true_eq]
  split
  · exact Or.inl rfl
  · split
    · exact Or.inl rfl
    · exact Or.inr rfl
theorem zmo_no (hE : zEok E) (hcm : B_motions = zJ E.nM) (hr : zRef E M_told M_deaf M_kind M_cost M_pleases M_behind M_signsSays M_signsVotes) {p : Int32} (q : ¬ ∃ m, m < E.nM ∧ p = zJ m) : fX8_checkMotion B_motions p = some (Sum.inl 1) ∧ fX9_isMotion M_told p = some 0 := by
  have h10 := hE.m10
  rw [zm_motion hE hr, hcm]
  unfold fX8_checkMotion
  have z := (zsub1 (n := E.nM) (by omega) p).2 q
  by_cases q0 : p < 0
  · rw [if_pos q0, if_pos q0]; exact ⟨rfl, rfl⟩
  · rw [if_neg q0, if_neg q0, if_pos (z.resolve_left q0), if_neg]
    · exact ⟨rfl, rfl⟩
    · intro q1
      obtain ⟨i, hi, e⟩ := zJ_of q0 (by omega) q1
      exact q ⟨i, hi, e⟩
theorem zmo_yes (hE : zEok E) (hcm : B_motions = zJ E.nM) (hr : zRef E M_told M_deaf M_kind M_cost M_pleases M_behind M_signsSays M_signsVotes) {m : Nat} (hm : m < E.nM) : fX8_checkMotion B_motions (zJ m) = some (Sum.inr ()) ∧ fX9_isMotion M_told (zJ m) = some 1 := by
  have h10 := hE.m10
  rw [zm_motion hE hr, hcm]
  unfold fX8_checkMotion
  have z : ¬ (zJ m < 0 ∨ zJ E.nM - 1 < zJ m) := fun q => (zsub1 (n := E.nM) (by omega) (zJ m)).1 q ⟨m, hm, rfl⟩
  rw [if_neg (fun q => z (Or.inl q)), if_neg (fun q => z (Or.inl q)), if_neg (fun q => z (Or.inr q)), if_pos (zJ_ylt hm (by omega))]
  exact ⟨rfl, rfl⟩
theorem zal_no (hE : zEok E) (hcm : B_aldermen = zJ E.nA) (hr : zRef E M_told M_deaf M_kind M_cost M_pleases M_behind M_signsSays M_signsVotes) {p : Int32} (q : ¬ ∃ m, m < E.nA ∧ p = zJ m) : fX8_checkAlderman B_aldermen p = some (Sum.inl 1) ∧ fX9_isAlderman M_told p = some 0 := by
  have h7 := hE.a7
  rw [zm_alder hE hr, hcm]
  unfold fX8_checkAlderman
  have z := (zsub1 (n := E.nA) (by omega) p).2 q
  by_cases q0 : p < 0
  · rw [if_pos q0, if_pos q0]; exact ⟨rfl, rfl⟩
  · rw [if_neg q0, if_neg q0, if_pos (z.resolve_left q0), if_neg]
    · exact ⟨rfl, rfl⟩
    · intro q1
      obtain ⟨i, hi, e⟩ := zJ_of q0 (by omega) q1
      exact q ⟨i, hi, e⟩
theorem zal_yes (hE : zEok E) (hcm : B_aldermen = zJ E.nA) (hr : zRef E M_told M_deaf M_kind M_cost M_pleases M_behind M_signsSays M_signsVotes) {m : Nat} (hm : m < E.nA) : fX8_checkAlderman B_aldermen (zJ m) = some (Sum.inr ()) ∧ fX9_isAlderman M_told (zJ m) = some 1 := by
  have h7 := hE.a7
  rw [zm_alder hE hr, hcm]
  unfold fX8_checkAlderman
  have z : ¬ (zJ m < 0 ∨ zJ E.nA - 1 < zJ m) := fun q => (zsub1 (n := E.nA) (by omega) (zJ m)).1 q ⟨m, hm, rfl⟩
  rw [if_neg (fun q => z (Or.inl q)), if_neg (fun q => z (Or.inl q)), if_neg (fun q => z (Or.inr q)), if_pos (zJ_ylt hm (by omega))]
  exact ⟨rfl, rfl⟩
theorem zm_goOn (hE : zEok E) (hr : zRef E M_told M_deaf M_kind M_cost M_pleases M_behind M_signsSays M_signsVotes) (hn : n ≤ 4000) {b : Nat} (hu : zTb E b t) (hb : b + n < 1000000) (hl : ∀ a, a < E.nA → M_lean a = t.lean a) (hcl : ∀ m, m < E.nM → M_call m = t.call m) : zOk (fX9_goOn t.hour t.oil t.weight t.spider t.treas t.joy t.passed wo M_said M_hoarse M_told M_deaf M_kind M_cost M_pleases M_behind M_signsSays M_signsVotes M_lean M_call M_asked M_stack (zJ n)) (fun o => ∃ h V S, o = ((zhs E wo n t).hour, (zhs E wo n t).oil, (zhs E wo n t).weight, (zhs E wo n t).spider, (zhs E wo n t).treas, (zhs E wo n t).joy, (zhs E wo n t).passed, zscan E wo (fun _ _ v => zsaid E v) n 0 t M_said, h, V, S)) := by
  unfold fX9_goOn
  exact zr_goOn hE hr (by omega) n 0 FU b _ _ t _ _ (by omega) (by unfold FU; omega) hu hb hl hcl (fun V S h => zOk.pure ⟨h, V, S, rfl⟩)
theorem zm_passedBy (hE : zEok E) (hr : zRef E M_told M_deaf M_kind M_cost M_pleases M_behind M_signsSays M_signsVotes) (hn : n ≤ 4000) {b : Nat} (hu : zTb E b t) (hb : b + n < 1000000) (hl : ∀ a, a < E.nA → M_lean a = t.lean a) (hcl : ∀ m, m < E.nM → M_call m = t.call m) : zOk (fX9_passedBy t.hour t.oil t.weight t.spider t.treas t.joy t.passed wo M_said M_hoarse M_told M_deaf M_kind M_cost M_pleases M_behind M_signsSays M_signsVotes M_lean M_call M_asked M_stack M_rowThen (zJ n)) (zQ15 t M_lean M_call (zhs E wo n t).passed) := by
  unfold fX9_passedBy
  refine zOk.bind (zm_pack (n0 := 24) (p := 0) (by omega) (by omega)) (fun P hP => ?_)
  refine zOk.bind (zm_goOn hE hr hn hu hb hl hcl) (fun o ho => ?_)
  obtain ⟨h, V, S, rfl⟩ := ho
  refine zOk.bind (zm_unpack (n0 := 24) (p := 0) (by omega) (by omega) hP.1) (fun r hr => ?_)
  obtain ⟨L, C, rfl, hL, hC⟩ := hr
  exact zOk.pure ⟨_, _, L, C, V, S, P, rfl, hL, hC⟩
theorem zm_passedIn (hE : zEok E) (hr : zRef E M_told M_deaf M_kind M_cost M_pleases M_behind M_signsSays M_signsVotes) (hn : n ≤ 4000) {b : Nat} (hu : zTb E b t) (hb : b + (n + 1) < 1000000) (hl : ∀ a, a < E.nA → M_lean a = t.lean a) (hcl : ∀ m, m < E.nM → M_call m = t.call m) {p0 : Int32} : zOk (fX9_passedIn t.hour t.oil t.weight t.spider t.treas t.joy t.passed (-1) M_said M_hoarse M_told M_deaf M_kind M_cost M_pleases M_behind M_signsSays M_signsVotes M_lean M_call M_asked M_stack M_rowThen p0 (zJ n)) (zQ15 t M_lean M_call (zfirst E (-1) (fun v => zis v.passed p0) (n + 1) 0 t)) := by
  unfold fX9_passedIn
  refine zOk.bind (zm_pack (n0 := 24) (p := 0) (by omega) (by omega)) (fun P hP => ?_)
  refine zr_passedIn hE hr (by omega) (n + 1) 0 FU b _ _ t _ _ (by omega) (by unfold FU; omega) hu hb hl hcl (fun V S sd ho w => ?_)
  unfold jX9_passedIn_49
  refine zOk.bind (zm_unpack (n0 := 24) (p := 0) (by omega) (by omega) hP.1) (fun r hr => ?_)
  obtain ⟨L, C, rfl, hL, hC⟩ := hr
  exact zOk.pure ⟨_, _, L, C, V, S, P, rfl, hL, hC⟩
end
