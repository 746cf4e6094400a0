/-! ===== pure: hours ahead, of the class ===== -/
def zhs (E : zE) (wo : Int32) : Nat → zT → zT
  | 0, t => t
  | n + 1, t => zhs E wo n (zhour E wo t)
theorem zhs_succ {E : zE} {wo : Int32} : ∀ (n : Nat) (t : zT), zhs E wo (n + 1) t = zhour E wo (zhs E wo n t)
  | 0, _ => rfl
  | n + 1, t => zhs_succ n (zhour E wo t)
abbrev zTb (E : zE) (b : Nat) (t : zT) : Prop := (zTok E t) ∧ (0 ≤ t.hour) ∧ (t.hour ≤ zJ b) ∧ (b < 1000000)
theorem zTb.ok {E : zE} {b : Nat} {t : zT} (h : zTb E b t) : zTok E t := h.1
theorem zTb.h0 {E : zE} {b : Nat} {t : zT} (h : zTb E b t) : 0 ≤ t.hour := h.2.1
theorem zTb.hb {E : zE} {b : Nat} {t : zT} (h : zTb E b t) : t.hour ≤ zJ b := h.2.2.1
theorem zTb.b6 {E : zE} {b : Nat} {t : zT} (h : zTb E b t) : b < 1000000 := h.2.2.2
theorem zTb.step {E : zE} {b : Nat} {t : zT} {wo : Int32} (hE : zEok E) (h : zTb E b t) (hb : b + 1 < 1000000) : zTb E (b + 1) (zhour E wo t) := by
  obtain ⟨n, hn, e⟩ := zof_le h.h0 (by omega) h.hb
  refine ⟨zhour_ok hE h.ok, ?_, ?_, hb⟩
  · rw [zhour_hour, e, zJ_succ]; exact (zJ_le (a := 0) (by omega) (by omega)).2 (by omega)
  · rw [zhour_hour, e, zJ_succ]; exact (zJ_le (by omega) (by omega)).2 (by omega)
theorem zTb.hs {E : zE} {wo : Int32} (hE : zEok E) : ∀ (n b : Nat) (t : zT), zTb E b t → b + n < 1000000 → zTb E (b + n) (zhs E wo n t)
  | 0, b, t, h, _ => h
  | n + 1, b, t, h, hb => by
    have := zTb.hs (wo := wo) hE n (b + 1) _ (h.step (wo := wo) hE (by omega)) (by omega)
    rw [show b + (n + 1) = b + 1 + n by omega]
    exact this
theorem zhs_lean {E : zE} {wo : Int32} : ∀ (n : Nat) (t : zT), (zhs E wo n t).lean = t.lean
  | 0, _ => rfl
  | n + 1, t => (zhs_lean n _).trans zhour_lean
theorem zhs_call {E : zE} {wo : Int32} : ∀ (n : Nat) (t : zT), (zhs E wo n t).call = t.call
  | 0, _ => rfl
  | n + 1, t => (zhs_call n _).trans zhour_call
/-- a reckoning over so many hours -/
def zscan {σ : Type} (E : zE) (wo : Int32) (g : σ → Nat → zT → σ) : Nat → Nat → zT → σ → σ
  | 0, _, _, s => s
  | n + 1, i, u, s => zscan E wo g n (i + 1) (zhour E wo u) (g s i u)
theorem zcpyl {f g : Nat → Int32} {a : Nat} (h : a < 7) : va_cpy f g (0 : Int32).toNatClampNeg (0 : Int32).toNatClampNeg (7 : Int32).toNatClampNeg a = f a := by
  unfold va_cpy
  rw [if_pos ⟨by simp, by show a < 0 + 7; omega⟩]
  congr 1
  show 0 + (a - 0) = a
  omega
theorem zcpyc {f g : Nat → Int32} {a : Nat} (h : a < 10) : va_cpy f g (0 : Int32).toNatClampNeg (0 : Int32).toNatClampNeg (10 : Int32).toNatClampNeg a = f a := by
  unfold va_cpy
  rw [if_pos ⟨by simp, by show a < 0 + 10; omega⟩]
  congr 1
  show 0 + (a - 0) = a
  omega
theorem zfu {fuel k : Nat} (h : k < fuel) : ∃ f, fuel = f + 1 ∧ k ≤ f := ⟨fuel - 1, by omega, by omega⟩
theorem zJ_nle {a b : Nat} (h : b < a) (ha : a < 2147483648) : ¬ zJ a ≤ zJ b := fun q => by have := (zJ_le ha (by omega)).1 q; omega
theorem zJ_yle {a b : Nat} (h : a ≤ b) (hb : b < 2147483648) : zJ a ≤ zJ b := (zJ_le (by omega) hb).2 h
theorem zJ_nlt {a b : Nat} (h : b ≤ a) (ha : a < 2147483648) : ¬ zJ a < zJ b := fun q => by have := (zJ_lt ha (by omega)).1 q; omega
theorem zJ_ylt {a b : Nat} (h : a < b) (hb : b < 2147483648) : zJ a < zJ b := (zJ_lt (by omega) hb).2 h
section
variable {A2_acts A2_seen A_acts A_seen B2_aldermen B2_codeLength B2_motions B2_oil B2_treasury B2_weight B_aldermen B_codeLength B_motions B_oil B_treasury B_weight D_aldermen D_codeLength D_motions D_oil D_treasury D_weight F_seed K_acts K_seen M_acts M_actsThen M_at M_bad M_badPlace M_begins M_code M_faultPlace M_fitMany M_hasImage M_hoarse M_hour M_joy M_never M_number M_ofVoting M_oil M_passed M_said M_seedNow M_seen M_seenThen M_size M_spider M_stops M_taped M_token M_treasury M_values M_weight R_clockIsTold R_depth R_digits R_end R_fault R_notMayStand R_nots R_number R_partIsDue R_place R_start R_token R_waits T2_hour T2_joy T2_oil T2_passed T2_spider T2_treasury T2_weight T_hour T_joy T_oil T_passed T_spider T_treasury T_weight V_hour V_joy V_oil V_passed V_spider V_treasury V_weight X_hour X_joy X_oil X_passed X_spider X_treasury X_weight Y_hour Y_joy Y_oil Y_passed Y_spider Y_treasury Y_weight Z_faultPlace Z_hasImage Z_tapeLength : Int32} {A2_before A2_refused A2_seenHour A2_seenNumber A_before A_refused A_seenHour A_seenNumber B2_call B2_code B2_cost B2_deaf B2_follows B2_joy B2_kind B2_lean B2_ruleFrom B2_ruleTo B_call B_code B_cost B_deaf B_follows B_joy B_kind B_lean B_ruleFrom B_ruleTo C_stack C_values D_call D_code D_cost D_deaf D_follows D_joy D_kind D_lean D_ruleFrom D_ruleTo F_times K_before K_refused K_seenHour K_seenNumber M_asked M_behind M_call M_callTold M_cost M_deaf M_extras M_fits M_imageRow M_kind M_lean M_leanTold M_past M_pastThen M_pleases M_rowSeen M_rowThen M_saidOften M_saids M_seenIn M_seenInThen M_seenSaid M_seenSaidThen M_signsSays M_signsVotes M_stack M_status M_statusThen M_tape M_told R_tape R_waiting S_heard S_unlike T2_call T2_lean T_call T_lean U_prices V_call V_lean X_call X_lean Y_call Y_lean Z_tape : Nat → Int32}
variable {E : zE} {t : zT} {n : Nat} {wo : Int32}
theorem zcopy : (fX7_copyFrom T_hour T_oil T_weight T_spider T_treasury T_joy T_passed T_lean T_call T2_hour T2_oil T2_weight T2_spider T2_treasury T2_joy T2_passed T2_lean T2_call) = some (T2_hour, T2_oil, T2_weight, T2_spider, T2_treasury, T2_joy, T2_passed, (va_cpy T2_lean T_lean (0 : Int32).toNatClampNeg (0 : Int32).toNatClampNeg (7 : Int32).toNatClampNeg), (va_cpy T2_call T_call (0 : Int32).toNatClampNeg (0 : Int32).toNatClampNeg (10 : Int32).toNatClampNeg)) := by
  unfold fX7_copyFrom
  rw [ck_t (by decide), ck_t (by decide)]
theorem zl_townAfter {ke : _} {Q : _} (hE : zEok E) (hc : zCls E B_aldermen B_motions B_deaf B_kind B_cost B_joy B_follows B_code B_ruleFrom B_ruleTo) (hn : n < 2147483648) : ∀ (k i fuel b : Nat) (C_values C_stack : Nat → Int32) (u : zT), k + i = n → k < fuel → zTb E b u → b + k < 1000000 → (∀ a, a < E.nA → X_lean a = u.lean a) → (∀ m, m < E.nM → X_call m = u.call m) → (∀ C_values C_stack, zOk (ke C_values C_stack (zhs E wo k u).hour (zhs E wo k u).oil (zhs E wo k u).weight (zhs E wo k u).spider (zhs E wo k u).treas (zhs E wo k u).joy (zhs E wo k u).passed) Q) → zOk (lX4_townAfter_13 ke B_aldermen B_motions B_deaf B_kind B_cost B_joy B_follows B_code B_ruleFrom B_ruleTo X_lean X_call (zJ n) wo fuel C_values C_stack u.hour u.oil u.weight u.spider u.treas u.joy u.passed (zJ i)) Q := by
  intro k
  induction k with
  | zero =>
    intro i fuel b C_values C_stack u hk hf hu hb hl hcl kk
    obtain ⟨fuel, rfl, hf⟩ := zfu hf
    unfold lX4_townAfter_13
    exact zOk.pos (zJ_yle (by omega) (by omega)) (kk _ _)
  | succ k ih =>
    intro i fuel b C_values C_stack u hk hf hu hb hl hcl kk
    obtain ⟨fuel, rfl, hf⟩ := zfu hf
    unfold lX4_townAfter_13
    refine zOk.neg (zJ_nle (by omega) (by omega)) ?_
    refine zOk.bind (zc_hour hE hc hu.h0 hu.ok.oil hl hcl) (fun o ho => ?_)
    obtain ⟨said, V, S, r⟩ := o
    obtain ⟨-, h2⟩ := ho
    have h2 : r = _ := h2
    subst h2
    rw [zJ_succ]
    exact ih (i + 1) fuel (b + 1) V S (zhour E wo u) (by omega) (by omega) (hu.step hE (by omega)) (by omega) (by rw [zhour_lean]; exact hl) (by rw [zhour_call]; exact hcl) kk
theorem zc_townAfter (hE : zEok E) (hc : zCls E B_aldermen B_motions B_deaf B_kind B_cost B_joy B_follows B_code B_ruleFrom B_ruleTo) {b : Nat} (ht : zTb E b t) (hb : b + n < 1000000) (hn : n ≤ 4000) (hl : ∀ a, a < E.nA → T_lean a = t.lean a) (hcl : ∀ m, m < E.nM → T_call m = t.call m) : zOk (fX4_townAfter C_values C_stack B_aldermen B_motions B_deaf B_kind B_cost B_joy B_follows B_code B_ruleFrom B_ruleTo t.hour t.oil t.weight t.spider t.treas t.joy t.passed T_lean T_call X_hour X_oil X_weight X_spider X_treasury X_joy X_passed X_lean X_call (zJ n) wo) (fun o => ∃ V S L C, o = (V, S, (zhs E wo n t).hour, (zhs E wo n t).oil, (zhs E wo n t).weight, (zhs E wo n t).spider, (zhs E wo n t).treas, (zhs E wo n t).joy, (zhs E wo n t).passed, L, C)) := by
  have h7 := hE.a7
  have h10 := hE.m10
  unfold fX4_townAfter
  refine zOk.eq zcopy ?_
  refine zl_townAfter (E := E) (n := n) hE hc (by omega) n 0 FU b _ _ t (by omega) (by unfold FU; omega) ht hb (fun a ha => (zcpyl (by omega)).trans (hl a ha)) (fun m hm => (zcpyc (by omega)).trans (hcl m hm)) (fun V S => ?_)
  exact zOk.pure ⟨V, S, _, _, rfl⟩
theorem zl_saidIn {ke : _} {Q : _} (hE : zEok E) (hc : zCls E B_aldermen B_motions B_deaf B_kind B_cost B_joy B_follows B_code B_ruleFrom B_ruleTo) (hn : n < 2147483648) : ∀ (k i fuel b : Nat) (C_values C_stack : Nat → Int32) (u : zT) (x2 : Int32), k + i = n → k < fuel → zTb E b u → b + k < 1000000 → (∀ C_values C_stack, zOk (ke C_values C_stack (zhs E wo k u).hour (zhs E wo k u).oil (zhs E wo k u).weight (zhs E wo k u).spider (zscan E wo (fun _ _ v => zsaid E v) k i u x2)) Q) → zOk (lX4_saidInHour_15 ke B_code B_ruleFrom B_ruleTo (zJ n) fuel C_values C_stack u.hour u.oil u.weight u.spider x2 (zJ i)) Q := by
  intro k
  induction k with
  | zero =>
    intro i fuel b C_values C_stack u x2 hk hf hu hb kk
    obtain ⟨fuel, rfl, hf⟩ := zfu hf
    unfold lX4_saidInHour_15
    exact zOk.pos (zJ_yle (by omega) (by omega)) (kk _ _)
  | succ k ih =>
    intro i fuel b C_values C_stack u x2 hk hf hu hb kk
    obtain ⟨fuel, rfl, hf⟩ := zfu hf
    unfold lX4_saidInHour_15
    refine zOk.neg (zJ_nle (by omega) (by omega)) ?_
    refine zOk.bind (zc_hourU (wo := wo) hE hc hu.h0 hu.ok.oil) (fun o ho => ?_)
    obtain ⟨said, V, S, r⟩ := o
    obtain ⟨h1, h2⟩ := ho
    have h2 : r = _ := h2
    have h1 : said = _ := h1
    subst h2
    subst h1
    rw [zJ_succ]
    exact ih (i + 1) fuel (b + 1) V S (zhour E wo u) _ (by omega) (by omega) (hu.step hE (by omega)) (by omega) kk
end
