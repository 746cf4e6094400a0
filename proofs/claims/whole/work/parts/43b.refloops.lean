/-! ===== pure: the reference's loops over hours ===== -/
theorem zfirst_shift {E : zE} {wo : Int32} {p : zT → Bool} : ∀ (k i : Nat) (u : zT), zfirst E wo (fun v => p (zhour E wo v)) k i u = zfirst E wo p k i (zhour E wo u)
  | 0, _, _ => rfl
  | k + 1, i, u => by
    show (if p (zhour E wo u) then zJ i else zfirst E wo (fun v => p (zhour E wo v)) k (i + 1) (zhour E wo u)) = (if p (zhour E wo u) then zJ i else zfirst E wo p k (i + 1) (zhour E wo (zhour E wo u)))
    rw [zfirst_shift k (i + 1) (zhour E wo u)]
theorem zJ_nm1 {n : Nat} (h : n < 2147483648) : ¬ zJ n = -1 := fun q => by have := zJ_nn h; rw [q] at this; exact this (by decide)
theorem zhoarse_b {E : zE} {t : zT} : zhoarse E t = 0 ∨ zhoarse E t = 1 := by unfold zhoarse; split; exact Or.inl rfl; split; exact Or.inr rfl; exact Or.inl rfl
/-- whether so many hours are clear -/
def zclear (E : zE) : Nat → zT → Int32
  | 0, _ => 1
  | k + 1, u => if zhoarse E u = 0 then zclear E k (zhour E (-1) u) else 0
/-- what is seen of an hour -/
def zsee1 (sI sS : Nat → Int32) (i : Nat) (said : Int32) : Nat → Int32
  | 0 => 1
  | j + 1 => if zsee1 sI sS i said j = 0 then 0 else if sI j = zJ i then (if said = sS j then 1 else 0) else 1
def zseeN (E : zE) (ns : Nat) (sI sS : Nat → Int32) : Nat → Nat → zT → Int32
  | 0, _, _ => 1
  | k + 1, i, u => if zsee1 sI sS i (zsaid E u) ns = 0 then 0 else zseeN E ns sI sS k (i + 1) (zhour E (-1) u)
def zidle1 (call : Nat → Int32) (said : Int32) : Nat → Nat → Int32 → Int32
  | 0, _, s => s
  | k + 1, m, s => zidle1 call said k (m + 1) (if call m = said then s &&& ((1 : Int32) <<< (zJ m &&& 31) ^^^ -1) else s)
section
variable {A2_acts A2_seen A_acts A_seen B2_aldermen B2_codeLength B2_motions B2_oil B2_treasury B2_weight B_aldermen B_codeLength B_motions B_oil B_treasury B_weight D_aldermen D_codeLength D_motions D_oil D_treasury D_weight F_seed K_acts K_seen M_acts M_actsThen M_at M_bad M_badPlace M_begins M_code M_faultPlace M_fitMany M_hasImage M_hoarse M_hour M_joy M_never M_number M_ofVoting M_oil M_passed M_said M_seedNow M_seen M_seenThen M_size M_spider M_stops M_taped M_token M_treasury M_values M_weight R_clockIsTold R_depth R_digits R_end R_fault R_notMayStand R_nots R_number R_partIsDue R_place R_start R_token R_waits T2_hour T2_joy T2_oil T2_passed T2_spider T2_treasury T2_weight T_hour T_joy T_oil T_passed T_spider T_treasury T_weight V_hour V_joy V_oil V_passed V_spider V_treasury V_weight X_hour X_joy X_oil X_passed X_spider X_treasury X_weight Y_hour Y_joy Y_oil Y_passed Y_spider Y_treasury Y_weight Z_faultPlace Z_hasImage Z_tapeLength : Int32} {A2_before A2_refused A2_seenHour A2_seenNumber A_before A_refused A_seenHour A_seenNumber B2_call B2_code B2_cost B2_deaf B2_follows B2_joy B2_kind B2_lean B2_ruleFrom B2_ruleTo B_call B_code B_cost B_deaf B_follows B_joy B_kind B_lean B_ruleFrom B_ruleTo C_stack C_values D_call D_code D_cost D_deaf D_follows D_joy D_kind D_lean D_ruleFrom D_ruleTo F_times K_before K_refused K_seenHour K_seenNumber M_asked M_behind M_call M_callTold M_cost M_deaf M_extras M_fits M_imageRow M_kind M_lean M_leanTold M_past M_pastThen M_pleases M_rowSeen M_rowThen M_saidOften M_saids M_seenIn M_seenInThen M_seenSaid M_seenSaidThen M_signsSays M_signsVotes M_stack M_status M_statusThen M_tape M_told R_tape R_waiting S_heard S_unlike T2_call T2_lean T_call T_lean U_prices V_call V_lean X_call X_lean Y_call Y_lean Z_tape : Nat → Int32}
variable {E : zE} {t : zT} {n : Nat} {wo : Int32}
theorem zr_goOn {ke : _} {Q : _} (hE : zEok E) (hr : zRef E M_told M_deaf M_kind M_cost M_pleases M_behind M_signsSays M_signsVotes) (hn : n < 2147483647) : ∀ (k i fuel b : Nat) (M_asked M_stack : Nat → Int32) (u : zT) (M_said M_hoarse : Int32), k + i = n → k < fuel → zTb E b u → b + k < 1000000 → (∀ a, a < E.nA → M_lean a = u.lean a) → (∀ m, m < E.nM → M_call m = u.call m) → (∀ (M_asked M_stack : Nat → Int32) (M_hoarse : Int32), zOk (ke (zhs E wo k u).hour (zhs E wo k u).oil (zhs E wo k u).weight (zhs E wo k u).spider (zhs E wo k u).treas (zhs E wo k u).joy (zhs E wo k u).passed (zscan E wo (fun _ _ v => zsaid E v) k i u M_said) M_hoarse M_asked M_stack) Q) → zOk (lX9_goOn_2 ke wo M_told M_deaf M_kind M_cost M_pleases M_behind M_signsSays M_signsVotes M_lean M_call (zJ n) fuel u.hour u.oil u.weight u.spider u.treas u.joy u.passed M_said M_hoarse M_asked M_stack (zJ i)) Q := by
  intro k
  induction k with
  | zero =>
    intro i fuel b M_asked M_stack u M_said M_hoarse  hk hf hu hb hl hcl kk
    obtain ⟨fuel, rfl, hf⟩ := zfu hf
    unfold lX9_goOn_2
    exact zOk.pos (zJ_yle (by omega) (by omega)) (kk _ _ _)
  | succ k ih =>
    intro i fuel b M_asked M_stack u M_said M_hoarse  hk hf hu hb hl hcl kk
    obtain ⟨fuel, rfl, hf⟩ := zfu hf
    unfold lX9_goOn_2
    refine zOk.neg (zJ_nle (by omega) (by omega)) ?_
    have ih' := fun V S sd ho => ih (i + 1) fuel (b + 1) V S (zhour E (wo) u) sd ho (by omega) (by omega) (hu.step hE (by omega)) (by omega) (by rw [zhour_lean]; exact hl) (by rw [zhour_call]; exact hcl)
    refine zOk.bind (zm_hour hE hr hu.ok hu.h0 hl hcl) (fun o ho => ?_)
    obtain ⟨V, S, rfl⟩ := ho
    dsimp only
    rw [zJ_succ]
    exact ih' _ _ _ _ kk
theorem zr_calls {ke : _} {Q : _} (hE : zEok E) (hr : zRef E M_told M_deaf M_kind M_cost M_pleases M_behind M_signsSays M_signsVotes) (hn : n < 2147483647) {x1 : Int32} : ∀ (k i fuel b : Nat) (M_asked M_stack : Nat → Int32) (u : zT) (M_said M_hoarse : Int32) (x3 : Int32), k + i = n → k < fuel → zTb E b u → b + k < 1000000 → (∀ a, a < E.nA → M_lean a = u.lean a) → (∀ m, m < E.nM → M_call m = u.call m) → (∀ (M_asked M_stack : Nat → Int32) (M_said M_hoarse : Int32) (w : zT), zOk (ke w.hour w.oil w.weight w.spider w.treas w.joy w.passed M_said M_hoarse M_asked M_stack (zscan E (-1) (fun s _ v => if zsaid E v = x1 then s + 1 else s) k i u x3)) Q) → zOk (lX9_calls_49 ke (-1) M_told M_deaf M_kind M_cost M_pleases M_behind M_signsSays M_signsVotes M_lean M_call x1 (zJ n) fuel u.hour u.oil u.weight u.spider u.treas u.joy u.passed M_said M_hoarse M_asked M_stack x3 (zJ i)) Q := by
  intro k
  induction k with
  | zero =>
    intro i fuel b M_asked M_stack u M_said M_hoarse x3 hk hf hu hb hl hcl kk
    obtain ⟨fuel, rfl, hf⟩ := zfu hf
    unfold lX9_calls_49
    exact zOk.pos (zJ_yle (by omega) (by omega)) (kk _ _ _ _ _)
  | succ k ih =>
    intro i fuel b M_asked M_stack u M_said M_hoarse x3 hk hf hu hb hl hcl kk
    obtain ⟨fuel, rfl, hf⟩ := zfu hf
    unfold lX9_calls_49
    refine zOk.neg (zJ_nle (by omega) (by omega)) ?_
    have ih' := fun V S sd ho x3 => ih (i + 1) fuel (b + 1) V S (zhour E (-1) u) sd ho x3 (by omega) (by omega) (hu.step hE (by omega)) (by omega) (by rw [zhour_lean]; exact hl) (by rw [zhour_call]; exact hcl)
    refine zOk.bind (zm_hour hE hr hu.ok hu.h0 hl hcl) (fun o ho => ?_)
    obtain ⟨V, S, rfl⟩ := ho
    dsimp only
    rw [zJ_succ]
    have kk' : ∀ x (e : x = if zsaid E u = x1 then x3 + 1 else x3), _ := fun x e => ih' V S (zsaid E u) (zhoarse E u) x (by rw [e]; exact kk)
    exact zOk.ite (fun q => kk' _ (by rw [if_pos q])) (fun q => kk' _ (by rw [if_neg q, Int32.add_zero]))
theorem zr_passedIn {ke : _} {Q : _} (hE : zEok E) (hr : zRef E M_told M_deaf M_kind M_cost M_pleases M_behind M_signsSays M_signsVotes) (hn : n < 2147483647) {x1 : Int32} : ∀ (k i fuel b : Nat) (M_asked M_stack : Nat → Int32) (u : zT) (M_said M_hoarse : Int32), k + i = n + 1 → k < fuel → zTb E b u → b + k < 1000000 → (∀ a, a < E.nA → M_lean a = u.lean a) → (∀ m, m < E.nM → M_call m = u.call m) → (∀ (M_asked M_stack : Nat → Int32) (M_said M_hoarse : Int32) (w : zT), zOk (ke w.hour w.oil w.weight w.spider w.treas w.joy w.passed M_said M_hoarse M_asked M_stack (zfirst E (-1) (fun v => zis v.passed x1) k i u)) Q) → zOk (lX9_passedIn_14 ke (-1) M_told M_deaf M_kind M_cost M_pleases M_behind M_signsSays M_signsVotes M_lean M_call x1 (zJ n) fuel u.hour u.oil u.weight u.spider u.treas u.joy u.passed M_said M_hoarse M_asked M_stack (-1) (zJ i)) Q := by
  intro k
  induction k with
  | zero =>
    intro i fuel b M_asked M_stack u M_said M_hoarse  hk hf hu hb hl hcl kk
    obtain ⟨fuel, rfl, hf⟩ := zfu hf
    unfold lX9_passedIn_14
    exact zOk.pos (zJ_ylt (by omega) (by omega)) (kk _ _ _ _ _)
  | succ k ih =>
    intro i fuel b M_asked M_stack u M_said M_hoarse  hk hf hu hb hl hcl kk
    obtain ⟨fuel, rfl, hf⟩ := zfu hf
    unfold lX9_passedIn_14
    refine zOk.neg (zJ_nlt (by omega) (by omega)) (zOk.pos rfl ?_)
    refine zOk.eq zisM ?_
    have e : zfirst E (-1) (fun v => zis v.passed x1) (k + 1) i u = if zis u.passed x1 then zJ i else zfirst E (-1) (fun v => zis v.passed x1) k (i + 1) (zhour E (-1) u) := rfl
    rw [e] at kk
    cases hz : zis u.passed x1
    rotate_left
    · rw [hz] at kk
      refine zOk.neg (by decide) ?_
      refine zOk.bind (zm_hour hE hr hu.ok hu.h0 hl hcl) (fun o ho => ?_)
      obtain ⟨V, S, rfl⟩ := ho
      dsimp only
      by_cases hf0 : k < fuel
      · obtain ⟨fuel, rfl, hf⟩ := zfu hf0
        unfold lX9_passedIn_14
        exact zOk.ite (fun _ => kk _ _ _ _ _) (fun _ => zOk.neg (zJ_nm1 (by omega)) (kk _ _ _ _ (zhour E (-1) u)))
      · omega
    rw [hz] at kk
    refine zOk.pos rfl ?_
    have ih' := fun V S sd ho => ih (i + 1) fuel (b + 1) V S (zhour E (-1) u) sd ho (by omega) (by omega) (hu.step hE (by omega)) (by omega) (by rw [zhour_lean]; exact hl) (by rw [zhour_call]; exact hcl)
    refine zOk.bind (zm_hour hE hr hu.ok hu.h0 hl hcl) (fun o ho => ?_)
    obtain ⟨V, S, rfl⟩ := ho
    dsimp only
    rw [zJ_succ]
    exact ih' _ _ _ _ kk
theorem zr_fails {ke : _} {Q : _} (hE : zEok E) (hr : zRef E M_told M_deaf M_kind M_cost M_pleases M_behind M_signsSays M_signsVotes) {x1 : Int32} : ∀ (k i fuel b : Nat) (M_asked M_stack : Nat → Int32) (u : zT) (M_said M_hoarse : Int32), k + i = 97 → k < fuel → zTb E b u → b + k < 1000000 → (∀ a, a < E.nA → M_lean a = u.lean a) → (∀ m, m < E.nM → M_call m = u.call m) → (∀ (M_asked M_stack : Nat → Int32) (M_said M_hoarse : Int32) (w : zT), zOk (ke w.hour w.oil w.weight w.spider w.treas w.joy w.passed M_said M_hoarse M_asked M_stack (zfirst E (-1) (fun v => if x1 = 0 then decide (zsaid E v = -1) else decide (zhoarse E v = 1)) k i u)) Q) → zOk (lX9_fails_33 ke (-1) M_told M_deaf M_kind M_cost M_pleases M_behind M_signsSays M_signsVotes M_lean M_call x1 fuel u.hour u.oil u.weight u.spider u.treas u.joy u.passed M_said M_hoarse M_asked M_stack (-1) (zJ i)) Q := by
  intro k
  induction k with
  | zero =>
    intro i fuel b M_asked M_stack u M_said M_hoarse  hk hf hu hb hl hcl kk
    obtain ⟨fuel, rfl, hf⟩ := zfu hf
    unfold lX9_fails_33
    exact zOk.pos (zJ_ylt (a := 96) (by omega) (by omega)) (kk _ _ _ _ _)
  | succ k ih =>
    intro i fuel b M_asked M_stack u M_said M_hoarse  hk hf hu hb hl hcl kk
    obtain ⟨fuel, rfl, hf⟩ := zfu hf
    unfold lX9_fails_33
    refine zOk.neg (zJ_nlt (a := 96) (by omega) (by omega)) (zOk.pos rfl ?_)
    have e : zfirst E (-1) (fun v => if x1 = 0 then decide (zsaid E v = -1) else decide (zhoarse E v = 1)) (k + 1) i u = if (if x1 = 0 then decide (zsaid E u = -1) else decide (zhoarse E u = 1)) then zJ i else zfirst E (-1) (fun v => if x1 = 0 then decide (zsaid E v = -1) else decide (zhoarse E v = 1)) k (i + 1) (zhour E (-1) u) := rfl
    rw [e] at kk
    have ih' := fun V S sd ho => ih (i + 1) fuel (b + 1) V S (zhour E (-1) u) sd ho (by omega) (by omega) (hu.step hE (by omega)) (by omega) (by rw [zhour_lean]; exact hl) (by rw [zhour_call]; exact hcl)
    refine zOk.bind (zm_hour hE hr hu.ok hu.h0 hl hcl) (fun o ho => ?_)
    obtain ⟨V, S, rfl⟩ := ho
    dsimp only
    rw [zJ_succ]
    have fin : (if x1 = 0 then decide (zsaid E u = -1) else decide (zhoarse E u = 1)) = true → ∀ V S sd ho, zOk (lX9_fails_33 ke (-1) M_told M_deaf M_kind M_cost M_pleases M_behind M_signsSays M_signsVotes M_lean M_call x1 fuel (zhour E (-1) u).hour (zhour E (-1) u).oil (zhour E (-1) u).weight (zhour E (-1) u).spider (zhour E (-1) u).treas (zhour E (-1) u).joy (zhour E (-1) u).passed sd ho V S (zJ i) (zJ (i + 1))) Q := by
      intro q V S sd ho
      rw [if_pos q] at kk
      obtain ⟨fuel, rfl, hf⟩ := zfu (show k < fuel by omega)
      unfold lX9_fails_33
      exact zOk.ite (fun _ => kk _ _ _ _ _) (fun _ => zOk.neg (zJ_nm1 (by omega)) (kk _ _ _ _ (zhour E (-1) u)))
    have go : ¬ (if x1 = 0 then decide (zsaid E u = -1) else decide (zhoarse E u = 1)) = true → _ := fun q => ih' V S (zsaid E u) (zhoarse E u) (by rw [if_neg q] at kk; exact kk)
    refine zOk.ite (fun q => ?_) (fun q => ?_)
    · rw [if_pos q] at fin go
      exact zOk.ite (fun z => fin (by simp [z]) _ _ _ _) (fun z => go (by simp [z]))
    · rw [if_neg q] at fin go
      refine zOk.ite (fun z => go (by simp [z])) (fun z => fin ?_ _ _ _ _)
      rcases zhoarse_b (E := E) (t := u) with y | y
      · exact absurd y z
      · simp [y]
theorem zr_clear {ke : _} {Q : _} (hE : zEok E) (hr : zRef E M_told M_deaf M_kind M_cost M_pleases M_behind M_signsSays M_signsVotes) (hn : n < 2147483647) : ∀ (k i fuel b : Nat) (M_asked M_stack : Nat → Int32) (u : zT) (M_said M_hoarse : Int32), k + i = n → k < fuel → zTb E b u → b + k < 1000000 → (∀ a, a < E.nA → M_lean a = u.lean a) → (∀ m, m < E.nM → M_call m = u.call m) → (∀ (M_asked M_stack : Nat → Int32) (M_said M_hoarse : Int32) (w : zT), zOk (ke w.hour w.oil w.weight w.spider w.treas w.joy w.passed M_said M_hoarse M_asked M_stack (zclear E k u)) Q) → zOk (lX9_isClear_13 ke (-1) M_told M_deaf M_kind M_cost M_pleases M_behind M_signsSays M_signsVotes M_lean M_call (zJ n) fuel u.hour u.oil u.weight u.spider u.treas u.joy u.passed M_said M_hoarse M_asked M_stack 1 (zJ i)) Q := by
  intro k
  induction k with
  | zero =>
    intro i fuel b M_asked M_stack u M_said M_hoarse  hk hf hu hb hl hcl kk
    obtain ⟨fuel, rfl, hf⟩ := zfu hf
    unfold lX9_isClear_13
    exact zOk.pos (zJ_yle (by omega) (by omega)) (kk _ _ _ _ _)
  | succ k ih =>
    intro i fuel b M_asked M_stack u M_said M_hoarse  hk hf hu hb hl hcl kk
    obtain ⟨fuel, rfl, hf⟩ := zfu hf
    unfold lX9_isClear_13
    refine zOk.neg (zJ_nle (by omega) (by omega)) (zOk.neg (by decide) ?_)
    have e : zclear E (k + 1) u = if zhoarse E u = 0 then zclear E k (zhour E (-1) u) else 0 := rfl
    rw [e] at kk
    have ih' := fun V S sd ho => ih (i + 1) fuel (b + 1) V S (zhour E (-1) u) sd ho (by omega) (by omega) (hu.step hE (by omega)) (by omega) (by rw [zhour_lean]; exact hl) (by rw [zhour_call]; exact hcl)
    refine zOk.bind (zm_hour hE hr hu.ok hu.h0 hl hcl) (fun o ho => ?_)
    obtain ⟨V, S, rfl⟩ := ho
    dsimp only
    rw [zJ_succ]
    refine zOk.ite (fun q => ?_) (fun q => ?_)
    · rw [if_pos q] at kk
      exact ih' _ _ _ _ kk
    · rw [if_neg q] at kk
      obtain ⟨fuel, rfl, hf⟩ := zfu (show k < fuel by omega)
      unfold lX9_isClear_13
      exact zOk.ite (fun _ => kk _ _ _ _ _) (fun _ => zOk.pos rfl (kk _ _ _ _ (zhour E (-1) u)))
theorem zr_hush {ke : _} {Q : _} (hE : zEok E) (hr : zRef E M_told M_deaf M_kind M_cost M_pleases M_behind M_signsSays M_signsVotes) (hn : n < 2147483647) : ∀ (k i fuel b : Nat) (M_asked M_stack : Nat → Int32) (u : zT) (M_said M_hoarse : Int32) (s : Int32 × Int32 × Int32), k + i = n + 1 → k < fuel → zTb E b u → b + k < 1000000 → (∀ a, a < E.nA → M_lean a = u.lean a) → (∀ m, m < E.nM → M_call m = u.call m) → (∀ (M_asked M_stack : Nat → Int32) (M_said M_hoarse : Int32) (w : zT), zOk (ke w.hour w.oil w.weight w.spider w.treas w.joy w.passed M_said M_hoarse M_asked M_stack ((zscan E (-1) (zhushG E) k i u s).1) ((zscan E (-1) (zhushG E) k i u s).2.1)) Q) → zOk (lX9_hush_58 ke (-1) M_told M_deaf M_kind M_cost M_pleases M_behind M_signsSays M_signsVotes M_lean M_call (zJ n) fuel u.hour u.oil u.weight u.spider u.treas u.joy u.passed M_said M_hoarse M_asked M_stack s.2.2 s.1 s.2.1 (zJ i)) Q := by
  intro k
  induction k with
  | zero =>
    intro i fuel b M_asked M_stack u M_said M_hoarse s hk hf hu hb hl hcl kk
    obtain ⟨fuel, rfl, hf⟩ := zfu hf
    unfold lX9_hush_58
    exact zOk.pos (zJ_ylt (by omega) (by omega)) (kk _ _ _ _ _)
  | succ k ih =>
    intro i fuel b M_asked M_stack u M_said M_hoarse s hk hf hu hb hl hcl kk
    obtain ⟨fuel, rfl, hf⟩ := zfu hf
    unfold lX9_hush_58
    refine zOk.neg (zJ_nlt (by omega) (by omega)) ?_
    have ih' := fun V S sd ho s => ih (i + 1) fuel (b + 1) V S (zhour E (-1) u) sd ho s (by omega) (by omega) (hu.step hE (by omega)) (by omega) (by rw [zhour_lean]; exact hl) (by rw [zhour_call]; exact hcl)
    refine zOk.bind (zm_hour hE hr hu.ok hu.h0 hl hcl) (fun o ho => ?_)
    obtain ⟨V, S, rfl⟩ := ho
    dsimp only
    have kk' : ∀ s', s' = zhushG E s i u → _ := fun s' e => ih' V S (zsaid E u) (zhoarse E u) s' (by rw [e]; exact kk)
    unfold zhushG at kk'
    have fin : ∀ row : Int32, row = (if zsaid E u = -1 then s.2.2 + 1 else 0) → zOk (jX9_hush_83 (lX9_hush_58 ke (-1) M_told M_deaf M_kind M_cost M_pleases M_behind M_signsSays M_signsVotes M_lean M_call (zJ n) fuel) (zhour E (-1) u).hour (zhour E (-1) u).oil (zhour E (-1) u).weight (zhour E (-1) u).spider (zhour E (-1) u).treas (zhour E (-1) u).joy (zhour E (-1) u).passed (zsaid E u) (zhoarse E u) V S s.1 s.2.1 (zJ i) row) Q := by
      intro row hrow
      rw [← hrow] at kk'
      unfold jX9_hush_83
      rw [zJ_succ]
      refine zOk.ite (fun q => ?_) (fun q => ?_)
      · exact kk' (row, (zJ i - row) + 1, row) (by rw [if_neg (by grind)])
      · exact kk' (s.1, s.2.1, row) (by rw [if_pos (by grind)])
    exact zOk.ite (fun q => fin _ (by rw [if_pos q])) (fun q => fin _ (by rw [if_neg q]))
theorem zr_word {ke : _} {Q : _} (hE : zEok E) (hr : zRef E M_told M_deaf M_kind M_cost M_pleases M_behind M_signsSays M_signsVotes) (hn : n < 2147483647) : ∀ (k i fuel b : Nat) (M_asked M_stack : Nat → Int32) (u : zT) (M_said M_hoarse : Int32) (F : Nat → Int32), k + i = n → k < fuel → zTb E b u → b + k < 1000000 → (∀ a, a < E.nA → M_lean a = u.lean a) → (∀ m, m < E.nM → M_call m = u.call m) → (∀ (M_asked M_stack : Nat → Int32) (M_said M_hoarse : Int32) (w : zT), zOk (ke w.hour w.oil w.weight w.spider w.treas w.joy w.passed M_said M_hoarse M_asked M_stack (zscan E (-1) (ztimesG E) k i u F)) Q) → zOk (lX9_word_55 ke (-1) M_told M_deaf M_kind M_cost M_pleases M_behind M_signsSays M_signsVotes M_lean M_call (zJ n) fuel u.hour u.oil u.weight u.spider u.treas u.joy u.passed M_said M_hoarse M_asked M_stack F (zJ i)) Q := by
  intro k
  induction k with
  | zero =>
    intro i fuel b M_asked M_stack u M_said M_hoarse F hk hf hu hb hl hcl kk
    obtain ⟨fuel, rfl, hf⟩ := zfu hf
    unfold lX9_word_55
    exact zOk.pos (zJ_yle (by omega) (by omega)) (kk _ _ _ _ _)
  | succ k ih =>
    intro i fuel b M_asked M_stack u M_said M_hoarse F hk hf hu hb hl hcl kk
    obtain ⟨fuel, rfl, hf⟩ := zfu hf
    unfold lX9_word_55
    refine zOk.neg (zJ_nle (by omega) (by omega)) ?_
    have ih' := fun V S sd ho F => ih (i + 1) fuel (b + 1) V S (zhour E (-1) u) sd ho F (by omega) (by omega) (hu.step hE (by omega)) (by omega) (by rw [zhour_lean]; exact hl) (by rw [zhour_call]; exact hcl)
    refine zOk.bind (zm_hour hE hr hu.ok hu.h0 hl hcl) (fun o ho => ?_)
    obtain ⟨V, S, rfl⟩ := ho
    dsimp only
    rw [zJ_succ]
    have kk' : ∀ s', s' = ztimesG E F i u → _ := fun s' e => ih' V S (zsaid E u) (zhoarse E u) s' (by rw [e]; exact kk)
    unfold ztimesG at kk'
    have hbd := zsaid_bd (E := E) hu.h0
    refine zOk.ite (fun q => kk' _ (by rw [if_pos (by rw [q]; decide)])) (fun q => ?_)
    have q : ¬ zsaid E u < 0 := by grind
    obtain ⟨j, hj, e⟩ := zJ_of (n := 25) q (by omega) (by show zsaid E u < 25; grind)
    have hin : inb (zsaid E u) 25 = true := by rw [e]; exact zinb hj (by omega)
    rw [ck_t hin, ck_t hin]
    exact kk' _ (by rw [if_neg q])
theorem zr_idle1 {ke : _} {Q : _} (h10 : E.nM ≤ 10) (hm : M_told 4 = zJ E.nM) {said : Int32} : ∀ (k m fuel : Nat) (s : Int32), k + m = E.nM → k < fuel → zOk (ke (zidle1 M_call said k m s)) Q → zOk (lX9_idle_46 ke said M_told M_call fuel s (zJ m)) Q := by
  intro k
  induction k with
  | zero =>
    intro m fuel s hk hf kk
    obtain ⟨fuel, rfl, hf⟩ := zfu hf
    unfold lX9_idle_46
    rw [ck_t (by decide), show (4 : Int32).toNatClampNeg = 4 from rfl, hm]
    exact zOk.pos (zJ_yle (by omega) (by omega)) kk
  | succ k ih =>
    intro m fuel s hk hf kk
    obtain ⟨fuel, rfl, hf⟩ := zfu hf
    unfold lX9_idle_46
    rw [ck_t (by decide), show (4 : Int32).toNatClampNeg = 4 from rfl, hm]
    refine zOk.neg (zJ_nle (by omega) (by omega)) ?_
    rw [ck_t (zinb (by omega) (by omega)), zJ_ix (by omega), zJ_succ]
    have kk : zOk (ke (zidle1 M_call said k (m + 1) (if M_call m = said then s &&& ((1 : Int32) <<< (zJ m &&& 31) ^^^ -1) else s))) Q := kk
    refine zOk.ite (fun q => ?_) (fun q => ?_)
    · rw [if_pos q] at kk
      exact ih (m + 1) fuel _ (by omega) (by omega) kk
    · rw [if_neg q] at kk
      exact ih (m + 1) fuel _ (by omega) (by omega) kk
theorem zr_idle {ke : _} {Q : _} (hE : zEok E) (hr : zRef E M_told M_deaf M_kind M_cost M_pleases M_behind M_signsSays M_signsVotes)  : ∀ (k i fuel b : Nat) (M_asked M_stack : Nat → Int32) (u : zT) (M_said M_hoarse : Int32) (s : Int32), k + i = 96 → k < fuel → zTb E b u → b + k < 1000000 → (∀ a, a < E.nA → M_lean a = u.lean a) → (∀ m, m < E.nM → M_call m = u.call m) → (∀ (M_asked M_stack : Nat → Int32) (M_said M_hoarse : Int32) (w : zT), zOk (ke w.hour w.oil w.weight w.spider w.treas w.joy w.passed M_said M_hoarse M_asked M_stack (zscan E (-1) (fun s _ v => zidle1 M_call (zsaid E v) E.nM 0 s) k i u s)) Q) → zOk (lX9_idle_34 ke (-1) M_told M_deaf M_kind M_cost M_pleases M_behind M_signsSays M_signsVotes M_lean M_call fuel u.hour u.oil u.weight u.spider u.treas u.joy u.passed M_said M_hoarse M_asked M_stack s (zJ i)) Q := by
  intro k
  induction k with
  | zero =>
    intro i fuel b M_asked M_stack u M_said M_hoarse s hk hf hu hb hl hcl kk
    obtain ⟨fuel, rfl, hf⟩ := zfu hf
    unfold lX9_idle_34
    exact zOk.pos (zJ_yle (a := 96) (by omega) (by omega)) (kk _ _ _ _ _)
  | succ k ih =>
    intro i fuel b M_asked M_stack u M_said M_hoarse s hk hf hu hb hl hcl kk
    obtain ⟨fuel, rfl, hf⟩ := zfu hf
    unfold lX9_idle_34
    refine zOk.neg (zJ_nle (a := 96) (by omega) (by omega)) ?_
    have ih' := fun V S sd ho s => ih (i + 1) fuel (b + 1) V S (zhour E (-1) u) sd ho s (by omega) (by omega) (hu.step hE (by omega)) (by omega) (by rw [zhour_lean]; exact hl) (by rw [zhour_call]; exact hcl)
    refine zOk.bind (zm_hour hE hr hu.ok hu.h0 hl hcl) (fun o ho => ?_)
    obtain ⟨V, S, rfl⟩ := ho
    dsimp only
    rw [zJ_succ]
    refine zr_idle1 hE.m10 hr.m E.nM 0 FU s (by omega) (by have := hE.m10; unfold FU; omega) ?_
    exact ih' _ _ _ _ _ kk
theorem zr_see1 {ke : _} {Q : _} {ns i : Nat} (h8 : ns ≤ 8) {said : Int32} : ∀ (k j fuel : Nat) (s : Int32), k + j = ns → k < fuel → s = zsee1 M_seenIn M_seenSaid i said j → zOk (ke (zsee1 M_seenIn M_seenSaid i said ns)) Q → zOk (lX9_isAsSeen_29 ke (zJ ns) said M_seenIn M_seenSaid (zJ i) fuel s (zJ j)) Q := by
  intro k
  induction k with
  | zero =>
    intro j fuel s hk hf hs kk
    obtain ⟨fuel, rfl, hf⟩ := zfu hf
    unfold lX9_isAsSeen_29
    rw [hs, show j = ns by omega]
    exact zOk.pos (zJ_yle (by omega) (by omega)) kk
  | succ k ih =>
    intro j fuel s hk hf hs kk
    obtain ⟨fuel, rfl, hf⟩ := zfu hf
    unfold lX9_isAsSeen_29
    refine zOk.neg (zJ_nle (by omega) (by omega)) ?_
    rw [zJ_succ]
    have ih' := fun s' (e : s' = _) => ih (j + 1) fuel s' (by omega) (by omega) e kk
    have e : zsee1 M_seenIn M_seenSaid i said (j + 1) = if zsee1 M_seenIn M_seenSaid i said j = 0 then 0 else if M_seenIn j = zJ i then (if said = M_seenSaid j then 1 else 0) else 1 := rfl
    rw [e, ← hs] at ih'
    refine zOk.ite (fun q => ih' _ (by rw [if_pos q])) (fun q => ?_)
    rw [ck_t (zinb (by omega) (by omega)), zJ_ix (by omega), if_neg q] at *
    refine zOk.ite (fun q2 => ?_) (fun q2 => ih' _ (by rw [if_neg q2]))
    rw [ck_t (zinb (by omega) (by omega))]
    exact zOk.ite (fun q3 => ih' _ (by rw [if_pos q2, if_pos q3])) (fun q3 => ih' _ (by rw [if_pos q2, if_neg q3]))
theorem zr_seen {ke : _} {Q : _} (hE : zEok E) (hr : zRef E M_told M_deaf M_kind M_cost M_pleases M_behind M_signsSays M_signsVotes) {ns : Nat} (h8 : ns ≤ 8) : ∀ (k i fuel b : Nat) (M_asked M_stack : Nat → Int32) (u : zT) (M_said M_hoarse : Int32), k + i = 49 → k < fuel → zTb E b u → b + k < 1000000 → (∀ a, a < E.nA → M_lean a = u.lean a) → (∀ m, m < E.nM → M_call m = u.call m) → (∀ (M_asked M_stack : Nat → Int32) (M_said M_hoarse : Int32) (w : zT), zOk (ke w.hour w.oil w.weight w.spider w.treas w.joy w.passed M_said M_hoarse M_asked M_stack (zseeN E ns M_seenIn M_seenSaid k i u)) Q) → zOk (lX9_isAsSeen_13 ke (zJ ns) (-1) M_told M_deaf M_kind M_cost M_pleases M_behind M_signsSays M_signsVotes M_lean M_call M_seenIn M_seenSaid fuel u.hour u.oil u.weight u.spider u.treas u.joy u.passed M_said M_hoarse M_asked M_stack 1 (zJ i)) Q := by
  intro k
  induction k with
  | zero =>
    intro i fuel b M_asked M_stack u M_said M_hoarse  hk hf hu hb hl hcl kk
    obtain ⟨fuel, rfl, hf⟩ := zfu hf
    unfold lX9_isAsSeen_13
    exact zOk.pos (zJ_ylt (a := 48) (by omega) (by omega)) (kk _ _ _ _ _)
  | succ k ih =>
    intro i fuel b M_asked M_stack u M_said M_hoarse  hk hf hu hb hl hcl kk
    obtain ⟨fuel, rfl, hf⟩ := zfu hf
    unfold lX9_isAsSeen_13
    refine zOk.neg (zJ_nlt (a := 48) (by omega) (by omega)) (zOk.neg (by decide) ?_)
    have e : zseeN E ns M_seenIn M_seenSaid (k + 1) i u = if zsee1 M_seenIn M_seenSaid i (zsaid E u) ns = 0 then 0 else zseeN E ns M_seenIn M_seenSaid k (i + 1) (zhour E (-1) u) := rfl
    rw [e] at kk
    have ih' := fun V S sd ho => ih (i + 1) fuel (b + 1) V S (zhour E (-1) u) sd ho (by omega) (by omega) (hu.step hE (by omega)) (by omega) (by rw [zhour_lean]; exact hl) (by rw [zhour_call]; exact hcl)
    refine zOk.bind (zm_hour hE hr hu.ok hu.h0 hl hcl) (fun o ho => ?_)
    obtain ⟨V, S, rfl⟩ := ho
    dsimp only
    rw [zJ_succ]
    refine zr_see1 h8 ns 0 FU 1 (by omega) (by unfold FU; omega) rfl ?_
    by_cases q : zsee1 M_seenIn M_seenSaid i (zsaid E u) ns = 0
    · rw [if_pos q] at kk
      rw [q]
      obtain ⟨fuel, rfl, hf⟩ := zfu (show k < fuel by omega)
      unfold lX9_isAsSeen_13
      exact zOk.ite (fun _ => kk _ _ _ _ _) (fun _ => zOk.pos rfl (kk _ _ _ _ (zhour E (-1) u)))
    · rw [if_neg q] at kk
      have q1 : zsee1 M_seenIn M_seenSaid i (zsaid E u) ns = 1 := by
        have hb : ∀ j, zsee1 M_seenIn M_seenSaid i (zsaid E u) j = 0 ∨ zsee1 M_seenIn M_seenSaid i (zsaid E u) j = 1 := by
          intro j
          cases j with
          | zero => exact Or.inr rfl
          | succ j => unfold zsee1; repeat' split
                      all_goals first | exact Or.inl rfl | exact Or.inr rfl
        exact (hb ns).resolve_left q
      rw [q1]
      exact ih' _ _ _ _ kk
end
