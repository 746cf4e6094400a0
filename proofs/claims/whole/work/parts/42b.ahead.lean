/-! ===== pure: hours ahead, of the class, second part ===== -/
/-- the first of so many hours, from number i on, of which p holds -/
def zfirst (E : zE) (wo : Int32) (p : zT → Bool) : Nat → Nat → zT → Int32
  | 0, _, _ => -1
  | k + 1, i, u => if p u then zJ i else zfirst E wo p k (i + 1) (zhour E wo u)
def zhushG (E : zE) (s : Int32 × Int32 × Int32) (i : Nat) (u : zT) : Int32 × Int32 × Int32 :=
  if (if zsaid E u = -1 then s.2.2 + 1 else 0) ≤ s.1 then (s.1, s.2.1, if zsaid E u = -1 then s.2.2 + 1 else 0)
  else (if zsaid E u = -1 then s.2.2 + 1 else 0, (zJ i - (if zsaid E u = -1 then s.2.2 + 1 else 0)) + 1, if zsaid E u = -1 then s.2.2 + 1 else 0)
def ztimesG (E : zE) (F : Nat → Int32) (_ : Nat) (u : zT) : Nat → Int32 :=
  if zsaid E u < 0 then F else upd F (zsaid E u).toNatClampNeg (F (zsaid E u).toNatClampNeg + 1)
/-- chance, by a seed -/
def zdraw (s : Int32) : Int32 := (s * (1103515245 : Int32)) + (12345 : Int32)
def zdrawn (s : Int32) : Int32 := (zdraw s >>> ((16 : Int32) &&& 31)) &&& (32767 : Int32)
def zmeetG (d d2 s1 s2 : Int32) (t : zT) : Int32 × zT :=
  if d - d / 12 * 12 = 0 then (s1, (zT.mk t.hour t.oil (24) t.spider t.treas t.joy t.passed t.lean t.call))
  else if d - d / 12 * 12 = 1 then (s1, (zT.mk t.hour (if t.oil + 9 < 99 then t.oil + 9 else 99) t.weight t.spider t.treas t.joy t.passed t.lean t.call))
  else if d - d / 12 * 12 = 2 then (s2, (zT.mk t.hour t.oil t.weight ((d2 - d2 / 5 * 5) + 1) t.treas t.joy t.passed t.lean t.call))
  else (s1, t)
def zmeet (s : Int32) (t : zT) : Int32 × zT := zmeetG (zdrawn s) (zdrawn (zdraw s)) (zdraw s) (zdraw (zdraw s)) t
def zyearsG (E : zE) (mt : Int32 → zT → Int32 × zT) : Nat → Int32 → zT → Int32 → Int32 × zT
  | 0, _, t, c => (c, t)
  | n + 1, s, t, c => zyearsG E mt n (mt s t).1 (zhour E (-1) (mt s t).2) (if zsaid E (mt s t).2 = -1 then c + 1 else c)
def zyears (E : zE) : Nat → Int32 → zT → Int32 → Int32 × zT := zyearsG E zmeet
/-- what is asked of chance -/
abbrev zMt (E : zE) (mt : Int32 → zT → Int32 × zT) : Prop := (∀ s t, fX4_meetChance s t.oil t.weight t.spider = some ((mt s t).1, (mt s t).2.oil, (mt s t).2.weight, (mt s t).2.spider)) ∧ (∀ s t, zTok E t → zTok E (mt s t).2) ∧ (∀ s t, (mt s t).2.hour = t.hour ∧ (mt s t).2.treas = t.treas ∧ (mt s t).2.joy = t.joy ∧ (mt s t).2.passed = t.passed ∧ (mt s t).2.lean = t.lean ∧ (mt s t).2.call = t.call)
theorem zMt.c {E : zE} {mt : Int32 → zT → Int32 × zT} (h : zMt E mt) : ∀ s t, fX4_meetChance s t.oil t.weight t.spider = some ((mt s t).1, (mt s t).2.oil, (mt s t).2.weight, (mt s t).2.spider) := h.1
theorem zMt.ok {E : zE} {mt : Int32 → zT → Int32 × zT} (h : zMt E mt) : ∀ s t, zTok E t → zTok E (mt s t).2 := h.2.1
theorem zMt.kp {E : zE} {mt : Int32 → zT → Int32 × zT} (h : zMt E mt) : ∀ s t, (mt s t).2.hour = t.hour ∧ (mt s t).2.treas = t.treas ∧ (mt s t).2.joy = t.joy ∧ (mt s t).2.passed = t.passed ∧ (mt s t).2.lean = t.lean ∧ (mt s t).2.call = t.call := h.2.2
theorem zseen_bits {s : Int32} : 0 ≤ zdrawn s ∧ zdrawn s ≤ 32767 := by
  have h : ∀ x : BitVec 32, (x &&& 32767#32).toNat ≤ 32767 := fun x => by
    rw [BitVec.toNat_and]; exact Nat.and_le_right
  unfold zdrawn
  generalize zdraw s >>> ((16 : Int32) &&& 31) = y
  have e : (y &&& (32767 : Int32)).toInt = ((y.toBitVec &&& 32767#32).toNat : Int) := by
    show ((y &&& (32767 : Int32)).toBitVec).toInt = _
    rw [Int32.toBitVec_and]
    show (y.toBitVec &&& 32767#32).toInt = _
    have := h y.toBitVec
    rw [BitVec.toInt_eq_toNat_of_lt (by omega)]
  have := h y.toBitVec
  constructor
  · rw [Int32.le_iff_toInt_le, e]; show (0 : Int) ≤ _; omega
  · rw [Int32.le_iff_toInt_le, e]; show _ ≤ (32767 : Int); omega
theorem zmeetG_ok {E : zE} {t : zT} (ht : zTok E t) {d d2 s1 s2 : Int32} (hb : 0 ≤ d2 ∧ d2 ≤ 32767) : zTok E (zmeetG d d2 s1 s2 t).2 := by
  obtain ⟨h1, h2, h3, h4, h5, h6, h7⟩ := ht
  unfold zmeetG
  split
  · exact ⟨h1, by show (0 : Int32) ≤ 24 ∧ (24 : Int32) ≤ 99; decide, h3, h4, h5, h6, h7⟩
  · split
    · exact ⟨by show 0 ≤ (if t.oil + 9 < 99 then t.oil + 9 else 99) ∧ (if t.oil + 9 < 99 then t.oil + 9 else 99) ≤ 99; grind, h2, h3, h4, h5, h6, h7⟩
    · split
      · refine ⟨h1, h2, ?_, h4, h5, h6, h7⟩
        obtain ⟨n, hn, e⟩ := zof_le (k := 32767) hb.1 (by omega) hb.2
        show 0 ≤ (d2 - d2 / 5 * 5) + 1 ∧ (d2 - d2 / 5 * 5) + 1 ≤ 24
        rw [e, show (5 : Int32) = zJ 5 from rfl, zJ_mod (by omega) (by omega), zJ_succ]
        have := Nat.mod_lt n (show 5 > 0 by omega)
        exact ⟨(zJ_le (a := 0) (by omega) (by omega)).2 (by omega), (zJ_le (b := 24) (by omega) (by omega)).2 (by omega)⟩
      · exact ⟨h1, h2, h3, h4, h5, h6, h7⟩
theorem zmeet_ok {E : zE} {t : zT} (ht : zTok E t) {s : Int32} : zTok E (zmeet s t).2 := zmeetG_ok ht zseen_bits
theorem zmeetG_keep {t : zT} {d d2 s1 s2 : Int32} : (zmeetG d d2 s1 s2 t).2.hour = t.hour ∧ (zmeetG d d2 s1 s2 t).2.treas = t.treas ∧ (zmeetG d d2 s1 s2 t).2.joy = t.joy ∧ (zmeetG d d2 s1 s2 t).2.passed = t.passed ∧ (zmeetG d d2 s1 s2 t).2.lean = t.lean ∧ (zmeetG d d2 s1 s2 t).2.call = t.call := by
  unfold zmeetG
  split
  · exact ⟨rfl, rfl, rfl, rfl, rfl, rfl⟩
  · split
    · exact ⟨rfl, rfl, rfl, rfl, rfl, rfl⟩
    · split <;> exact ⟨rfl, rfl, rfl, rfl, rfl, rfl⟩
theorem zmeet_keep {t : zT} {s : Int32} : (zmeet s t).2.hour = t.hour ∧ (zmeet s t).2.treas = t.treas ∧ (zmeet s t).2.joy = t.joy ∧ (zmeet s t).2.passed = t.passed ∧ (zmeet s t).2.lean = t.lean ∧ (zmeet s t).2.call = t.call := zmeetG_keep
section
variable {A2_acts A2_seen A_acts A_seen B2_aldermen B2_codeLength B2_motions B2_oil B2_treasury B2_weight B_aldermen B_codeLength B_motions B_oil B_treasury B_weight D_aldermen D_codeLength D_motions D_oil D_treasury D_weight F_seed K_acts K_seen M_acts M_actsThen M_at M_bad M_badPlace M_begins M_code M_faultPlace M_fitMany M_hasImage M_hoarse M_hour M_joy M_never M_number M_ofVoting M_oil M_passed M_said M_seedNow M_seen M_seenThen M_size M_spider M_stops M_taped M_token M_treasury M_values M_weight R_clockIsTold R_depth R_digits R_end R_fault R_notMayStand R_nots R_number R_partIsDue R_place R_start R_token R_waits T2_hour T2_joy T2_oil T2_passed T2_spider T2_treasury T2_weight T_hour T_joy T_oil T_passed T_spider T_treasury T_weight V_hour V_joy V_oil V_passed V_spider V_treasury V_weight X_hour X_joy X_oil X_passed X_spider X_treasury X_weight Y_hour Y_joy Y_oil Y_passed Y_spider Y_treasury Y_weight Z_faultPlace Z_hasImage Z_tapeLength : Int32} {A2_before A2_refused A2_seenHour A2_seenNumber A_before A_refused A_seenHour A_seenNumber B2_call B2_code B2_cost B2_deaf B2_follows B2_joy B2_kind B2_lean B2_ruleFrom B2_ruleTo B_call B_code B_cost B_deaf B_follows B_joy B_kind B_lean B_ruleFrom B_ruleTo C_stack C_values D_call D_code D_cost D_deaf D_follows D_joy D_kind D_lean D_ruleFrom D_ruleTo F_times K_before K_refused K_seenHour K_seenNumber M_asked M_behind M_call M_callTold M_cost M_deaf M_extras M_fits M_imageRow M_kind M_lean M_leanTold M_past M_pastThen M_pleases M_rowSeen M_rowThen M_saidOften M_saids M_seenIn M_seenInThen M_seenSaid M_seenSaidThen M_signsSays M_signsVotes M_stack M_status M_statusThen M_tape M_told R_tape R_waiting S_heard S_unlike T2_call T2_lean T_call T_lean U_prices V_call V_lean X_call X_lean Y_call Y_lean Z_tape : Nat → Int32}
variable {E : zE} {t : zT} {n : Nat} {wo : Int32}
theorem zc_saidIn (hE : zEok E) (hc : zCls E B_aldermen B_motions B_deaf B_kind B_cost B_joy B_follows B_code B_ruleFrom B_ruleTo) {b : Nat} (ht : zTb E b t) (hb : b + n < 1000000) (hn : n ≤ 4000) : zOk (fX4_saidInHour C_values C_stack B_code B_ruleFrom B_ruleTo t.hour t.oil t.weight t.spider t.treas t.joy t.passed T_lean T_call X_hour X_oil X_weight X_spider X_treasury X_joy X_passed X_lean X_call (zJ n)) (fun o => o.1 = zscan E (-1) (fun _ _ v => zsaid E v) n 0 t (-1)) := by
  unfold fX4_saidInHour
  refine zOk.eq zcopy ?_
  exact zl_saidIn (wo := -1) (E := E) (n := n) hE hc (by omega) n 0 FU b _ _ t _ (by omega) (by unfold FU; omega) ht hb (fun V S => zOk.pure rfl)
theorem zl_times {ke : _} {Q : _} (hE : zEok E) (hc : zCls E B_aldermen B_motions B_deaf B_kind B_cost B_joy B_follows B_code B_ruleFrom B_ruleTo) (hn : n < 2147483648) {x1 : Int32} : ∀ (k i fuel b : Nat) (C_values C_stack : Nat → Int32) (u : zT) (x3 : Int32), k + i = n → k < fuel → zTb E b u → b + k < 1000000 → (∀ C_values C_stack, zOk (ke C_values C_stack (zhs E (-1) k u).hour (zhs E (-1) k u).oil (zhs E (-1) k u).weight (zhs E (-1) k u).spider (zscan E (-1) (fun s _ v => if zsaid E v = x1 then s + 1 else s) k i u x3)) Q) → zOk (lX4_timesSaid_16 ke B_code B_ruleFrom B_ruleTo x1 (zJ n) fuel C_values C_stack u.hour u.oil u.weight u.spider x3 (zJ i)) Q := by
  intro k
  induction k with
  | zero =>
    intro i fuel b C_values C_stack u x3 hk hf hu hb kk
    obtain ⟨fuel, rfl, hf⟩ := zfu hf
    unfold lX4_timesSaid_16
    exact zOk.pos (zJ_yle (by omega) (by omega)) (kk _ _)
  | succ k ih =>
    intro i fuel b C_values C_stack u x3 hk hf hu hb kk
    obtain ⟨fuel, rfl, hf⟩ := zfu hf
    unfold lX4_timesSaid_16
    refine zOk.neg (zJ_nle (by omega) (by omega)) ?_
    refine zOk.bind (zc_hourU (wo := -1) hE hc hu.h0 hu.ok.oil) (fun o ho => ?_)
    obtain ⟨said, V, S, r⟩ := o
    obtain ⟨h1, h2⟩ := ho
    have h2 : r = _ := h2
    have h1 : said = _ := h1
    subst h2
    subst h1
    dsimp only
    rw [zJ_succ]
    have kk' := fun x3 (e : x3 = _) => ih (i + 1) fuel (b + 1) V S (zhour E (-1) u) x3 (by omega) (by omega) (hu.step hE (by omega)) (by omega) (by rw [e]; exact kk)
    refine zOk.ite (fun q => kk' _ (if_pos q).symm) (fun q => kk' _ (if_neg q).symm)
theorem zc_times (hE : zEok E) (hc : zCls E B_aldermen B_motions B_deaf B_kind B_cost B_joy B_follows B_code B_ruleFrom B_ruleTo) {b : Nat} (ht : zTb E b t) (hb : b + n < 1000000) (hn : n ≤ 4000) {x1 : Int32} : zOk (fX4_timesSaid C_values C_stack B_code B_ruleFrom B_ruleTo t.hour t.oil t.weight t.spider t.treas t.joy t.passed T_lean T_call X_hour X_oil X_weight X_spider X_treasury X_joy X_passed X_lean X_call x1 (zJ n)) (fun o => o.1 = zscan E (-1) (fun s _ v => if zsaid E v = x1 then s + 1 else s) n 0 t 0) := by
  unfold fX4_timesSaid
  refine zOk.eq zcopy ?_
  exact zl_times (E := E) (n := n) hE hc (by omega) n 0 FU b _ _ t _ (by omega) (by unfold FU; omega) ht hb (fun V S => zOk.pure rfl)
theorem zl_hush {ke : _} {Q : _} (hE : zEok E) (hc : zCls E B_aldermen B_motions B_deaf B_kind B_cost B_joy B_follows B_code B_ruleFrom B_ruleTo) (hn : n < 2147483647) : ∀ (k i fuel b : Nat) (C_values C_stack : Nat → Int32) (u : zT) (s : Int32 × Int32 × Int32), k + i = n + 1 → k < fuel → zTb E b u → b + k < 1000000 → (∀ C_values C_stack, zOk (ke C_values C_stack (zhs E (-1) k u).hour (zhs E (-1) k u).oil (zhs E (-1) k u).weight (zhs E (-1) k u).spider ((zscan E (-1) (zhushG E) k i u s).1) ((zscan E (-1) (zhushG E) k i u s).2.1)) Q) → zOk (lX4_longestHush_22 ke B_code B_ruleFrom B_ruleTo (zJ n) fuel C_values C_stack u.hour u.oil u.weight u.spider s.1 s.2.1 s.2.2 (zJ i)) Q := by
  intro k
  induction k with
  | zero =>
    intro i fuel b C_values C_stack u s hk hf hu hb kk
    obtain ⟨fuel, rfl, hf⟩ := zfu hf
    unfold lX4_longestHush_22
    exact zOk.pos (zJ_ylt (by omega) (by omega)) (kk _ _)
  | succ k ih =>
    intro i fuel b C_values C_stack u s hk hf hu hb kk
    obtain ⟨fuel, rfl, hf⟩ := zfu hf
    unfold lX4_longestHush_22
    refine zOk.neg (zJ_nlt (by omega) (by omega)) ?_
    refine zOk.bind (zc_hourU (wo := -1) hE hc hu.h0 hu.ok.oil) (fun o ho => ?_)
    obtain ⟨said, V, S, r⟩ := o
    obtain ⟨h1, h2⟩ := ho
    have h2 : r = _ := h2
    have h1 : said = _ := h1
    subst h2
    subst h1
    dsimp only
    have kk' := fun (s' : Int32 × Int32 × Int32) (e : s' = zhushG E s i u) => ih (i + 1) fuel (b + 1) V S (zhour E (-1) u) s' (by omega) (by omega) (hu.step hE (by omega)) (by omega) (by rw [e]; exact kk)
    unfold zhushG at kk'
    have fin : ∀ row : Int32, row = (if zsaid E u = -1 then s.2.2 + 1 else 0) → zOk (jX4_longestHush_51 (lX4_longestHush_22 ke B_code B_ruleFrom B_ruleTo (zJ n) fuel) V S (zhour E (-1) u).hour (zhour E (-1) u).oil (zhour E (-1) u).weight (zhour E (-1) u).spider s.1 s.2.1 (zJ i) row) Q := by
      intro row hr
      rw [← hr] at kk'
      unfold jX4_longestHush_51
      rw [zJ_succ]
      refine zOk.ite (fun q => ?_) (fun q => ?_)
      · exact kk' (s.1, s.2.1, row) (by rw [if_pos q])
      · exact kk' (row, (zJ i - row) + 1, row) (by rw [if_neg q])
    refine zOk.ite (fun q => fin _ (by rw [if_pos q])) (fun q => fin _ (by rw [if_neg q]))
theorem zc_hush (hE : zEok E) (hc : zCls E B_aldermen B_motions B_deaf B_kind B_cost B_joy B_follows B_code B_ruleFrom B_ruleTo) {b : Nat} (ht : zTb E b t) (hb : b + n < 1000000) (hn : n ≤ 4000) {p1 : Int32} : zOk (fX4_longestHush C_values C_stack B_code B_ruleFrom B_ruleTo t.hour t.oil t.weight t.spider t.treas t.joy t.passed T_lean T_call X_hour X_oil X_weight X_spider X_treasury X_joy X_passed X_lean X_call (zJ n) p1) (fun o => o.1 = if p1 = 0 then (zscan E (-1) (zhushG E) n 1 t (0, -1, 0)).1 else (zscan E (-1) (zhushG E) n 1 t (0, -1, 0)).2.1) := by
  unfold fX4_longestHush
  refine zOk.eq zcopy ?_
  refine zl_hush (E := E) (n := n) hE hc (by omega) n 1 FU b _ _ t (0, -1, 0) (by omega) (by unfold FU; omega) ht hb (fun V S => ?_)
  exact zOk.ite (fun q => zOk.pure (by rw [if_pos q])) (fun q => zOk.pure (by rw [if_neg q]))
theorem zl_count {ke : _} {Q : _} (hE : zEok E) (hc : zCls E B_aldermen B_motions B_deaf B_kind B_cost B_joy B_follows B_code B_ruleFrom B_ruleTo) (hn : n < 2147483648) : ∀ (k i fuel b : Nat) (C_values C_stack : Nat → Int32) (u : zT) (F : Nat → Int32), k + i = n → k < fuel → zTb E b u → b + k < 1000000 → (∀ C_values C_stack, zOk (ke (zscan E (-1) (ztimesG E) k i u F) C_values C_stack (zhs E (-1) k u).hour (zhs E (-1) k u).oil (zhs E (-1) k u).weight (zhs E (-1) k u).spider) Q) → zOk (lX4_countSaid_21 ke B_code B_ruleFrom B_ruleTo (zJ n) fuel F C_values C_stack u.hour u.oil u.weight u.spider (zJ i)) Q := by
  intro k
  induction k with
  | zero =>
    intro i fuel b C_values C_stack u F hk hf hu hb kk
    obtain ⟨fuel, rfl, hf⟩ := zfu hf
    unfold lX4_countSaid_21
    exact zOk.pos (zJ_yle (by omega) (by omega)) (kk _ _)
  | succ k ih =>
    intro i fuel b C_values C_stack u F hk hf hu hb kk
    obtain ⟨fuel, rfl, hf⟩ := zfu hf
    unfold lX4_countSaid_21
    refine zOk.neg (zJ_nle (by omega) (by omega)) ?_
    refine zOk.bind (zc_hourU (wo := -1) hE hc hu.h0 hu.ok.oil) (fun o ho => ?_)
    obtain ⟨said, V, S, r⟩ := o
    obtain ⟨h1, h2⟩ := ho
    have h2 : r = _ := h2
    have h1 : said = _ := h1
    subst h2
    dsimp only
    have hbd := zsaid_bd (E := E) hu.h0
    rw [← h1] at hbd
    have kk' := fun (s' : Nat → Int32) (e : s' = ztimesG E F i u) => ih (i + 1) fuel (b + 1) V S (zhour E (-1) u) s' (by omega) (by omega) (hu.step hE (by omega)) (by omega) (by rw [e]; exact kk)
    unfold ztimesG at kk'
    rw [← h1] at kk'
    rw [zJ_succ]
    refine zOk.ite (fun q => kk' _ (by rw [if_pos q])) (fun q => ?_)
    have q : ¬ said < 0 := q
    have q2 : ¬ (25 : Int32) ≤ said := by grind
    obtain ⟨j, hj, e⟩ := zJ_of (n := 25) q (by omega) (by show said < 25; grind)
    refine zOk.neg q2 ?_
    have hin : inb said 25 = true := by rw [e]; exact zinb hj (by omega)
    rw [ck_t hin, ck_t hin]
    exact kk' _ (by rw [if_neg q])
theorem zc_count (hE : zEok E) (hc : zCls E B_aldermen B_motions B_deaf B_kind B_cost B_joy B_follows B_code B_ruleFrom B_ruleTo) {b : Nat} (ht : zTb E b t) (hb : b + n < 1000000) (hn : n ≤ 4000) (hfill : ∃ G : Nat → Int32, fJ7_fill_53178 25 F_times 0 = some G ∧ ∀ j, j < 25 → G j = 0) : zOk (fX4_countSaid F_times C_values C_stack B_code B_ruleFrom B_ruleTo t.hour t.oil t.weight t.spider t.treas t.joy t.passed T_lean T_call X_hour X_oil X_weight X_spider X_treasury X_joy X_passed X_lean X_call (zJ n)) (fun o => ∃ G : Nat → Int32, (∀ j, j < 25 → G j = 0) ∧ o.1 = zscan E (-1) (ztimesG E) n 0 t G) := by
  unfold fX4_countSaid
  refine zOk.eq zcopy ?_
  obtain ⟨G, hG, hz⟩ := hfill
  refine zOk.eq hG ?_
  exact zl_count (E := E) (n := n) hE hc (by omega) n 0 FU b _ _ t G (by omega) (by unfold FU; omega) ht hb (fun V S => zOk.pure ⟨G, hz, rfl⟩)
theorem zl_passing {ka kb : _} {Q : _} (hE : zEok E) (hc : zCls E B_aldermen B_motions B_deaf B_kind B_cost B_joy B_follows B_code B_ruleFrom B_ruleTo) (hn : n < 2147483647) {x1 : Int32} : ∀ (k i fuel b : Nat) (C_values C_stack : Nat → Int32) (u : zT), k + i = n + 1 → k < fuel → zTb E b u → b + k < 1000000 → (∀ a, a < E.nA → X_lean a = u.lean a) → (∀ m, m < E.nM → X_call m = u.call m) → (∀ C_values C_stack (w : zT), zOk (ka C_values C_stack w.hour w.oil w.weight w.spider w.treas w.joy w.passed (zfirst E (-1) (fun v => zis (zhour E (-1) v).passed x1) k i u)) Q) → (zfirst E (-1) (fun v => zis (zhour E (-1) v).passed x1) k i u = -1 → ∀ C_values C_stack (w : zT), zOk (kb C_values C_stack w.hour w.oil w.weight w.spider w.treas w.joy w.passed) Q) → zOk (lX4_hourOfPassing_13 ka kb B_aldermen B_motions B_deaf B_kind B_cost B_joy B_follows B_code B_ruleFrom B_ruleTo X_lean X_call x1 (zJ n) fuel C_values C_stack u.hour u.oil u.weight u.spider u.treas u.joy u.passed (zJ i)) Q := by
  intro k
  induction k with
  | zero =>
    intro i fuel b C_values C_stack u hk hf hu hb hl hcl k1 k2
    obtain ⟨fuel, rfl, hf⟩ := zfu hf
    unfold lX4_hourOfPassing_13
    exact zOk.pos (zJ_ylt (by omega) (by omega)) (k2 rfl _ _ u)
  | succ k ih =>
    intro i fuel b C_values C_stack u hk hf hu hb hl hcl k1 k2
    obtain ⟨fuel, rfl, hf⟩ := zfu hf
    unfold lX4_hourOfPassing_13
    refine zOk.neg (zJ_nlt (by omega) (by omega)) ?_
    refine zOk.bind (zc_hour hE hc hu.h0 hu.ok.oil hl hcl) (fun o ho => ?_)
    obtain ⟨said, V, S, r⟩ := o
    obtain ⟨-, h2⟩ := ho
    have h2 : r = _ := h2
    subst h2
    dsimp only
    refine zOk.eq zisP ?_
    have e : zfirst E (-1) (fun v => zis (zhour E (-1) v).passed x1) (k + 1) i u = if zis (zhour E (-1) u).passed x1 then zJ i else zfirst E (-1) (fun v => zis (zhour E (-1) v).passed x1) k (i + 1) (zhour E (-1) u) := rfl
    rw [e] at k1 k2
    rw [zJ_succ]
    cases hz : zis (zhour E (-1) u).passed x1
    · rw [hz] at k1 k2
      refine zOk.pos rfl ?_
      exact ih (i + 1) fuel (b + 1) V S (zhour E (-1) u) (by omega) (by omega) (hu.step hE (by omega)) (by omega) (by rw [zhour_lean]; exact hl) (by rw [zhour_call]; exact hcl) k1 k2
    · rw [hz] at k1
      exact zOk.neg (by decide) (k1 _ _ (zhour E (-1) u))
theorem zc_passing (hE : zEok E) (hc : zCls E B_aldermen B_motions B_deaf B_kind B_cost B_joy B_follows B_code B_ruleFrom B_ruleTo) {b m : Nat} (ht : zTb E b t) (hb : b + n < 1000000) (hn : n ≤ 4000) (hl : ∀ a, a < E.nA → T_lean a = t.lean a) (hcl : ∀ m, m < E.nM → T_call m = t.call m) : zOk (fX4_hourOfPassing C_values C_stack B_aldermen B_motions B_deaf B_kind B_cost B_joy B_follows B_code B_ruleFrom B_ruleTo t.hour t.oil t.weight t.spider t.treas t.joy t.passed T_lean T_call X_hour X_oil X_weight X_spider X_treasury X_joy X_passed X_lean X_call (zJ m) (zJ n)) (fun o => o.1 = zfirst E (-1) (fun v => zis (zhour E (-1) v).passed (zJ m)) n 1 t) := by
  have h7 := hE.a7
  have h10 := hE.m10
  unfold fX4_hourOfPassing
  refine zOk.eq zcopy ?_
  exact zl_passing (E := E) (n := n) hE hc (by omega) n 1 FU b _ _ t (by omega) (by unfold FU; omega) ht hb (fun a ha => (zcpyl (by omega)).trans (hl a ha)) (fun j hj => (zcpyc (by omega)).trans (hcl j hj)) (fun V S w => zOk.pure rfl) (fun e V S w => zOk.pure e.symm)
theorem zl_silent {ka kb : _} {Q : _} (hE : zEok E) (hc : zCls E B_aldermen B_motions B_deaf B_kind B_cost B_joy B_follows B_code B_ruleFrom B_ruleTo) : ∀ (k i fuel b : Nat) (C_values C_stack : Nat → Int32) (u : zT), k + i = 97 → k < fuel → zTb E b u → b + k < 1000000 → (∀ C_values C_stack (w : zT), zOk (ka C_values C_stack w.hour w.oil w.weight w.spider (zfirst E (-1) (fun v => decide (zsaid E v = -1)) k i u)) Q) → (zfirst E (-1) (fun v => decide (zsaid E v = -1)) k i u = -1 → ∀ C_values C_stack (w : zT), zOk (kb C_values C_stack w.hour w.oil w.weight w.spider) Q) → zOk (lX4_firstSilentHour_13 ka kb B_code B_ruleFrom B_ruleTo fuel C_values C_stack u.hour u.oil u.weight u.spider (zJ i)) Q := by
  intro k
  induction k with
  | zero =>
    intro i fuel b C_values C_stack u hk hf hu hb k1 k2
    obtain ⟨fuel, rfl, hf⟩ := zfu hf
    unfold lX4_firstSilentHour_13
    exact zOk.pos (zJ_ylt (a := 96) (by omega) (by omega)) (k2 rfl _ _ u)
  | succ k ih =>
    intro i fuel b C_values C_stack u hk hf hu hb k1 k2
    obtain ⟨fuel, rfl, hf⟩ := zfu hf
    unfold lX4_firstSilentHour_13
    refine zOk.neg (zJ_nlt (a := 96) (by omega) (by omega)) ?_
    refine zOk.bind (zc_hourU (wo := -1) hE hc hu.h0 hu.ok.oil) (fun o ho => ?_)
    obtain ⟨said, V, S, r⟩ := o
    obtain ⟨h1, h2⟩ := ho
    have h2 : r = _ := h2
    have h1 : said = _ := h1
    subst h2
    subst h1
    dsimp only
    have e : zfirst E (-1) (fun v => decide (zsaid E v = -1)) (k + 1) i u = if decide (zsaid E u = -1) then zJ i else zfirst E (-1) (fun v => decide (zsaid E v = -1)) k (i + 1) (zhour E (-1) u) := rfl
    rw [e] at k1 k2
    rw [zJ_succ]
    refine zOk.ite (fun q => ?_) (fun q => ?_)
    · rw [if_pos (by simp [q])] at k1
      exact k1 _ _ (zhour E (-1) u)
    · rw [if_neg (by simp [q])] at k1 k2
      exact ih (i + 1) fuel (b + 1) V S (zhour E (-1) u) (by omega) (by omega) (hu.step hE (by omega)) (by omega) k1 k2
theorem zc_silent (hE : zEok E) (hc : zCls E B_aldermen B_motions B_deaf B_kind B_cost B_joy B_follows B_code B_ruleFrom B_ruleTo) {b : Nat} (ht : zTb E b t) (hb : b + 96 < 1000000) : zOk (fX4_firstSilentHour C_values C_stack B_code B_ruleFrom B_ruleTo t.hour t.oil t.weight t.spider t.treas t.joy t.passed T_lean T_call X_hour X_oil X_weight X_spider X_treasury X_joy X_passed X_lean X_call) (fun o => o.1 = zfirst E (-1) (fun v => decide (zsaid E v = -1)) 96 1 t) := by
  unfold fX4_firstSilentHour
  refine zOk.eq zcopy ?_
  exact zl_silent (E := E) hE hc 96 1 FU b _ _ t (by omega) (by unfold FU; omega) ht hb (fun V S w => zOk.pure rfl) (fun e V S w => zOk.pure e.symm)
theorem zl_hoarse {ka kb : _} {Q : _} (hE : zEok E) (hc : zCls E B_aldermen B_motions B_deaf B_kind B_cost B_joy B_follows B_code B_ruleFrom B_ruleTo) : ∀ (k i fuel b : Nat) (C_values C_stack : Nat → Int32) (u : zT), k + i = 97 → k < fuel → zTb E b u → b + k < 1000000 → (∀ C_values C_stack (w : zT), zOk (ka C_values C_stack w.hour w.oil w.weight w.spider (zfirst E (-1) (fun v => decide (zhoarse E v = 1)) k i u)) Q) → (zfirst E (-1) (fun v => decide (zhoarse E v = 1)) k i u = -1 → ∀ C_values C_stack (w : zT), zOk (kb C_values C_stack w.hour w.oil w.weight w.spider) Q) → zOk (lX4_firstHoarseHour_13 ka kb B_code B_ruleFrom B_ruleTo fuel C_values C_stack u.hour u.oil u.weight u.spider (zJ i)) Q := by
  intro k
  induction k with
  | zero =>
    intro i fuel b C_values C_stack u hk hf hu hb k1 k2
    obtain ⟨fuel, rfl, hf⟩ := zfu hf
    unfold lX4_firstHoarseHour_13
    exact zOk.pos (zJ_ylt (a := 96) (by omega) (by omega)) (k2 rfl _ _ u)
  | succ k ih =>
    intro i fuel b C_values C_stack u hk hf hu hb k1 k2
    obtain ⟨fuel, rfl, hf⟩ := zfu hf
    unfold lX4_firstHoarseHour_13
    refine zOk.neg (zJ_nlt (a := 96) (by omega) (by omega)) ?_
    have e : zfirst E (-1) (fun v => decide (zhoarse E v = 1)) (k + 1) i u = if decide (zhoarse E u = 1) then zJ i else zfirst E (-1) (fun v => decide (zhoarse E v = 1)) k (i + 1) (zhour E (-1) u) := rfl
    rw [e] at k1 k2
    have fin : ∀ s0 : Int32, s0 = (if u.oil = 0 then 1 else 0) → zOk (jX4_firstHoarseHour_34 (lX4_firstHoarseHour_13 ka kb B_code B_ruleFrom B_ruleTo fuel) ka C_values C_stack B_code B_ruleFrom B_ruleTo u.hour u.oil u.weight u.spider (zJ i) s0) Q := by
      intro s0 hs
      unfold jX4_firstHoarseHour_34
      refine zOk.bind (zc_hourU (wo := -1) hE hc hu.h0 hu.ok.oil) (fun o ho => ?_)
      obtain ⟨said, V, S, r⟩ := o
      obtain ⟨h1, h2⟩ := ho
      have h2 : r = _ := h2
      have h1 : said = _ := h1
      subst h2
      subst h1
      dsimp only
      rw [zJ_succ]
      have go : ¬ zhoarse E u = 1 → zOk (lX4_firstHoarseHour_13 ka kb B_code B_ruleFrom B_ruleTo fuel V S (zhour E (-1) u).hour (zhour E (-1) u).oil (zhour E (-1) u).weight (zhour E (-1) u).spider (zJ (i + 1))) Q := by
        intro q
        rw [if_neg (by simp [q])] at k1 k2
        exact ih (i + 1) fuel (b + 1) V S (zhour E (-1) u) (by omega) (by omega) (hu.step hE (by omega)) (by omega) k1 k2
      refine zOk.ite (fun q => go ?_) (fun q => ?_)
      · unfold zhoarse; rw [if_pos q]; decide
      · refine zOk.ite (fun q2 => go ?_) (fun q2 => ?_)
        · unfold zhoarse; rw [if_neg q]
          rw [q2] at hs
          split at hs
          · exact absurd hs (by decide)
          · rename_i z; rw [if_neg z]; decide
        · have : zhoarse E u = 1 := by
            unfold zhoarse; rw [if_neg q]
            by_cases z : u.oil = 0
            · rw [if_pos z]
            · rw [if_neg z] at hs; exact absurd hs q2
          rw [if_pos (by simp [this])] at k1
          exact k1 _ _ (zhour E (-1) u)
    refine zOk.ite (fun q => fin _ (by rw [if_pos q])) (fun q => fin _ (by rw [if_neg q]))
theorem zc_hoarse (hE : zEok E) (hc : zCls E B_aldermen B_motions B_deaf B_kind B_cost B_joy B_follows B_code B_ruleFrom B_ruleTo) {b : Nat} (ht : zTb E b t) (hb : b + 96 < 1000000) : zOk (fX4_firstHoarseHour C_values C_stack B_code B_ruleFrom B_ruleTo t.hour t.oil t.weight t.spider t.treas t.joy t.passed T_lean T_call X_hour X_oil X_weight X_spider X_treasury X_joy X_passed X_lean X_call) (fun o => o.1 = zfirst E (-1) (fun v => decide (zhoarse E v = 1)) 96 1 t) := by
  unfold fX4_firstHoarseHour
  refine zOk.eq zcopy ?_
  exact zl_hoarse (E := E) hE hc 96 1 FU b _ _ t (by omega) (by unfold FU; omega) ht hb (fun V S w => zOk.pure rfl) (fun e V S w => zOk.pure e.symm)
theorem zc_meetF (dn dr : Int32 → Int32) (D : Int32 → Option (Int32 × Int32)) (hD : ∀ s, D s = some (dn s, dr s)) (s : Int32) (t : zT) : ((D s).bind fun v2 => if (v2.1 - v2.1 / 12 * 12) = 0 then some (v2.2, t.oil, (24 : Int32), t.spider) else if (v2.1 - v2.1 / 12 * 12) = 1 then some (v2.2, (if (t.oil + (9 : Int32)) < 99 then (t.oil + (9 : Int32)) else 99), t.weight, t.spider) else if (v2.1 - v2.1 / 12 * 12) = 2 then (D v2.2).bind fun v7 => some (v7.2, t.oil, t.weight, ((v7.1 - v7.1 / 5 * 5) + (1 : Int32))) else some (v2.2, t.oil, t.weight, t.spider)) = some ((zmeetG (dn s) (dn (dr s)) (dr s) (dr (dr s)) t).1, (zmeetG (dn s) (dn (dr s)) (dr s) (dr (dr s)) t).2.oil, (zmeetG (dn s) (dn (dr s)) (dr s) (dr (dr s)) t).2.weight, (zmeetG (dn s) (dn (dr s)) (dr s) (dr (dr s)) t).2.spider) := by
  have h1 := hD s
  have h2 := hD (dr s)
  generalize dn (dr s) = d2 at *
  generalize dr (dr s) = s2 at *
  generalize dr s = s1 at *
  generalize dn s = d at *
  rw [h1, Option.bind_some, h2]
  simp only [Option.bind_some]
  unfold zmeetG
  generalize (d - d / 12 * 12) = x
  generalize (d2 - d2 / 5 * 5) = y
  by_cases q : x = 0
  · simp only [if_pos q]; rfl
  · simp only [if_neg q]
    by_cases q1 : x = 1
    · simp only [if_pos q1]; rfl
    · simp only [if_neg q1]
      by_cases q2 : x = 2
      · simp only [if_pos q2]; rfl
      · simp only [if_neg q2]
theorem zc_meet {F_seed : Int32} : fX4_meetChance F_seed t.oil t.weight t.spider = some ((zmeet F_seed t).1, (zmeet F_seed t).2.oil, (zmeet F_seed t).2.weight, (zmeet F_seed t).2.spider) := by
  unfold fX4_meetChance zmeet
  exact zc_meetF zdrawn zdraw fX4_drawnBits (fun s => rfl) F_seed t
theorem zMt_meet : zMt E zmeet := ⟨fun _ _ => zc_meet, fun _ _ h => zmeet_ok h, fun _ _ => zmeet_keep⟩
theorem zl_seed {ke : _} {Q : _} {mt : Int32 → zT → Int32 × zT} (hmt : zMt E mt) (hE : zEok E) (hc : zCls E B_aldermen B_motions B_deaf B_kind B_cost B_joy B_follows B_code B_ruleFrom B_ruleTo) (hn : n < 2147483648) : ∀ (k i fuel b : Nat) (C_values C_stack : Nat → Int32) (u : zT) (sd x3 : Int32), k + i = n → k < fuel → zTb E b u → b + k < 1000000 → (∀ a, a < E.nA → X_lean a = u.lean a) → (∀ m, m < E.nM → X_call m = u.call m) → (∀ F_seed C_values C_stack, zOk (ke F_seed C_values C_stack ((zyearsG E mt k sd u x3).2).hour ((zyearsG E mt k sd u x3).2).oil ((zyearsG E mt k sd u x3).2).weight ((zyearsG E mt k sd u x3).2).spider ((zyearsG E mt k sd u x3).2).treas ((zyearsG E mt k sd u x3).2).joy ((zyearsG E mt k sd u x3).2).passed ((zyearsG E mt k sd u x3).1)) Q) → zOk (lX4_silentHoursBySeed_21 ke B_aldermen B_motions B_deaf B_kind B_cost B_joy B_follows B_code B_ruleFrom B_ruleTo X_lean X_call (zJ n) fuel sd C_values C_stack u.hour u.oil u.weight u.spider u.treas u.joy u.passed x3 (zJ i)) Q := by
  intro k
  induction k with
  | zero =>
    intro i fuel b C_values C_stack u sd x3 hk hf hu hb hl hcl kk
    obtain ⟨fuel, rfl, hf⟩ := zfu hf
    unfold lX4_silentHoursBySeed_21
    exact zOk.pos (zJ_yle (by omega) (by omega)) (kk _ _ _)
  | succ k ih =>
    intro i fuel b C_values C_stack u sd x3 hk hf hu hb hl hcl kk
    obtain ⟨fuel, rfl, hf⟩ := zfu hf
    unfold lX4_silentHoursBySeed_21
    refine zOk.neg (zJ_nle (by omega) (by omega)) ?_
    refine zOk.eq (hmt.c sd u) ?_
    have e := hmt.kp sd u
    have hu' : zTb E b (mt sd u).2 := ⟨hmt.ok _ _ hu.ok, by rw [e.1]; exact hu.h0, by rw [e.1]; exact hu.hb, hu.b6⟩
    dsimp only
    rw [← e.1, ← e.2.1, ← e.2.2.1, ← e.2.2.2.1]
    have kk' := fun V S x3 => ih (i + 1) fuel (b + 1) V S (zhour E (-1) (mt sd u).2) (mt sd u).1 x3 (by omega) (by omega) (hu'.step hE (by omega)) (by omega) (by rw [zhour_lean, e.2.2.2.2.1]; exact hl) (by rw [zhour_call, e.2.2.2.2.2]; exact hcl)
    have e3 : zyearsG E mt (k + 1) sd u x3 = zyearsG E mt k (mt sd u).1 (zhour E (-1) (mt sd u).2) (if zsaid E (mt sd u).2 = -1 then x3 + 1 else x3) := rfl
    rw [e3] at kk
    generalize mt sd u = w at *
    refine zOk.bind (zc_hour hE hc hu'.h0 hu'.ok.oil (by rw [e.2.2.2.2.1]; exact hl) (by rw [e.2.2.2.2.2]; exact hcl)) (fun o ho => ?_)
    obtain ⟨said, V, S, r⟩ := o
    obtain ⟨h1, h2⟩ := ho
    have h2 : r = _ := h2
    have h1 : said = _ := h1
    subst h2
    subst h1
    dsimp only
    rw [zJ_succ]
    refine zOk.ite (fun q => kk' _ _ _ ?_) (fun q => kk' _ _ _ ?_)
    · rw [if_pos q] at kk; exact kk
    · rw [if_neg q] at kk; exact kk
theorem zc_seed {mt : Int32 → zT → Int32 × zT} (hmt : zMt E mt) (hE : zEok E) (hc : zCls E B_aldermen B_motions B_deaf B_kind B_cost B_joy B_follows B_code B_ruleFrom B_ruleTo) {b : Nat} (ht : zTb E b t) (hb : b + n < 1000000) (hn : n ≤ 4000) (hl : ∀ a, a < E.nA → T_lean a = t.lean a) (hcl : ∀ m, m < E.nM → T_call m = t.call m) {sd : Int32} : zOk (fX4_silentHoursBySeed F_seed C_values C_stack B_aldermen B_motions B_deaf B_kind B_cost B_joy B_follows B_code B_ruleFrom B_ruleTo t.hour t.oil t.weight t.spider t.treas t.joy t.passed T_lean T_call X_hour X_oil X_weight X_spider X_treasury X_joy X_passed X_lean X_call sd (zJ n)) (fun o => ∃ F V S L C, o = ((zyearsG E mt n sd t 0).1, F, V, S, (zyearsG E mt n sd t 0).2.hour, (zyearsG E mt n sd t 0).2.oil, (zyearsG E mt n sd t 0).2.weight, (zyearsG E mt n sd t 0).2.spider, (zyearsG E mt n sd t 0).2.treas, (zyearsG E mt n sd t 0).2.joy, (zyearsG E mt n sd t 0).2.passed, L, C)) := by
  have h7 := hE.a7
  have h10 := hE.m10
  unfold fX4_silentHoursBySeed
  refine zOk.eq zcopy ?_
  refine zl_seed hmt (E := E) (n := n) hE hc (by omega) n 0 FU b _ _ t sd 0 (by omega) (by unfold FU; omega) ht hb (fun a ha => (zcpyl (by omega)).trans (hl a ha)) (fun m hm => (zcpyc (by omega)).trans (hcl m hm)) (fun F V S => ?_)
  exact zOk.pure ⟨F, V, S, _, _, rfl⟩
end
