/-! ===== pure: loops over motions ===== -/
section
variable {A2_acts A2_seen A_acts A_seen B2_aldermen B2_codeLength B2_motions B2_oil B2_treasury B2_weight B_aldermen B_codeLength B_motions B_oil B_treasury B_weight D_aldermen D_codeLength D_motions D_oil D_treasury D_weight F_seed K_acts K_seen M_acts M_actsThen M_at M_bad M_badPlace M_begins M_code M_faultPlace M_fitMany M_hasImage M_hoarse M_hour M_joy M_never M_number M_ofVoting M_oil M_passed M_said M_seedNow M_seen M_seenThen M_size M_spider M_stops M_taped M_token M_treasury M_values M_weight R_clockIsTold R_depth R_digits R_end R_fault R_notMayStand R_nots R_number R_partIsDue R_place R_start R_token R_waits T2_hour T2_joy T2_oil T2_passed T2_spider T2_treasury T2_weight T_hour T_joy T_oil T_passed T_spider T_treasury T_weight V_hour V_joy V_oil V_passed V_spider V_treasury V_weight X_hour X_joy X_oil X_passed X_spider X_treasury X_weight Y_hour Y_joy Y_oil Y_passed Y_spider Y_treasury Y_weight Z_faultPlace Z_hasImage Z_tapeLength : Int32} {A2_before A2_refused A2_seenHour A2_seenNumber A_before A_refused A_seenHour A_seenNumber B2_call B2_code B2_cost B2_deaf B2_follows B2_joy B2_kind B2_lean B2_ruleFrom B2_ruleTo B_call B_code B_cost B_deaf B_follows B_joy B_kind B_lean B_ruleFrom B_ruleTo C_stack C_values D_call D_code D_cost D_deaf D_follows D_joy D_kind D_lean D_ruleFrom D_ruleTo F_times K_before K_refused K_seenHour K_seenNumber M_asked M_behind M_call M_callTold M_cost M_deaf M_extras M_fits M_imageRow M_kind M_lean M_leanTold M_past M_pastThen M_pleases M_rowSeen M_rowThen M_saidOften M_saids M_seenIn M_seenInThen M_seenSaid M_seenSaidThen M_signsSays M_signsVotes M_stack M_status M_statusThen M_tape M_told R_tape R_waiting S_heard S_unlike T2_call T2_lean T_call T_lean U_prices V_call V_lean X_call X_lean Y_call Y_lean Z_tape : Nat → Int32}
variable {E : zE} {t : zT} {n : Nat} {wo : Int32}
theorem zl_blk {ke : _} {Q : _} (hE : zEok E) (hc : zCls E B_aldermen B_motions B_deaf B_kind B_cost B_joy B_follows B_code B_ruleFrom B_ruleTo) {p : Int32} : ∀ (k m fuel : Nat) (s : Int32), k + m = E.nM → k < fuel → zOk (ke (zfold (zblk E p) k m s)) Q → zOk (lX3_blockedMotions_4 ke B_motions B_follows p fuel s (zJ m)) Q := by
  have h7 := hE.a7
  have h10 := hE.m10
  intro k
  induction k with
  | zero =>
    intro m fuel s hk hf kk
    obtain ⟨fuel, rfl, hf⟩ := zfu hf
    unfold lX3_blockedMotions_4
    skip
    exact zOk.pos (by rw [hc.m]; exact zJ_yle (by omega) (by omega)) kk
  | succ k ih =>
    intro m fuel s hk hf kk
    obtain ⟨fuel, rfl, hf⟩ := zfu hf
    unfold lX3_blockedMotions_4
    skip
    refine zOk.neg (by rw [hc.m]; exact zJ_nle (by omega) (by omega)) ?_
    have im : inb (zJ m) 10 = true := zinb (by omega) (by omega)
    have im2 : inb (zJ m) 20 = true := zinb (by omega) (by omega)
    have ix : (zJ m).toNatClampNeg = m := zJ_ix (by omega)
    have kk : zOk (ke (zfold (zblk E p) k (m + 1) (zblk E p s m))) Q := kk
    have ih' := fun s' (e : s' = zblk E p s m) => ih (m + 1) fuel s' (by omega) (by omega) (by rw [e]; exact kk)
    unfold zblk zopen at ih'
    rw [ck_t im, ix, hc.fol m (by omega), zJ_succ]
    refine zOk.eq zisP ?_
    cases h1 : zis p (zJ m)
    · refine zOk.pos rfl ?_
      by_cases q : E.fol m = -1
      · exact zOk.pos q (ih' _ (by simp [h1, q]))
      · refine zOk.neg q (zOk.eq zisP ?_)
        cases h2 : zis p (E.fol m)
        · exact zOk.pos rfl (ih' _ (by simp [h1, q, h2]; rfl))
        · exact zOk.neg (by decide) (ih' _ (by simp [h1, q, h2]))
    · exact zOk.neg (by decide) (ih' _ (by simp [h1]))
theorem zr_blk {ke : _} {Q : _} (hE : zEok E) (hr : zRef E M_told M_deaf M_kind M_cost M_pleases M_behind M_signsSays M_signsVotes) {p : Int32} : ∀ (k m fuel : Nat) (s : Int32), k + m = E.nM → k < fuel → zOk (ke (zfold (zblk E p) k m s)) Q → zOk (lX9_blocked_4 ke p M_told M_behind fuel s (zJ m)) Q := by
  have h7 := hE.a7
  have h10 := hE.m10
  intro k
  induction k with
  | zero =>
    intro m fuel s hk hf kk
    obtain ⟨fuel, rfl, hf⟩ := zfu hf
    unfold lX9_blocked_4
    rw [ck_t (by decide), show (4 : Int32).toNatClampNeg = 4 from rfl, hr.m]
    exact zOk.pos (by exact zJ_yle (by omega) (by omega)) kk
  | succ k ih =>
    intro m fuel s hk hf kk
    obtain ⟨fuel, rfl, hf⟩ := zfu hf
    unfold lX9_blocked_4
    rw [ck_t (by decide), show (4 : Int32).toNatClampNeg = 4 from rfl, hr.m]
    refine zOk.neg (by exact zJ_nle (by omega) (by omega)) ?_
    have im : inb (zJ m) 10 = true := zinb (by omega) (by omega)
    have im2 : inb (zJ m) 20 = true := zinb (by omega) (by omega)
    have ix : (zJ m).toNatClampNeg = m := zJ_ix (by omega)
    have kk : zOk (ke (zfold (zblk E p) k (m + 1) (zblk E p s m))) Q := kk
    have ih' := fun s' (e : s' = zblk E p s m) => ih (m + 1) fuel s' (by omega) (by omega) (by rw [e]; exact kk)
    unfold zblk at ih'
    rw [zJ_succ, zor0]
    refine zOk.eq zisM ?_
    cases h1 : zis p (zJ m)
    · refine zOk.pos rfl (zOk.eq (zm_open h10 hr (by omega)) ?_)
      cases h2 : zopen E p m
      · exact zOk.pos rfl (ih' _ (by simp [h1, h2]; rfl))
      · exact zOk.neg (by decide) (ih' _ (by simp [h1, h2]))
    · exact zOk.neg (by decide) (ih' _ (by simp [h1]))
theorem zl_sway {ke : _} {Q : _} (hE : zEok E) (hc : zCls E B_aldermen B_motions B_deaf B_kind B_cost B_joy B_follows B_code B_ruleFrom B_ruleTo) (hl : ∀ a, a < E.nA → T_lean a = t.lean a) (hcl : ∀ m, m < E.nM → T_call m = t.call m) {a : Nat} : ∀ (k m fuel : Nat) (C_values C_stack : Nat → Int32) (s : Int32), k + m = E.nM → k < fuel → (∀ V S, zOk (ke V S (zfold (zsway E t a) k m s)) Q) → zOk (lX3_swayedBy_4 ke B_aldermen B_motions B_deaf B_kind B_cost B_joy B_code B_ruleFrom B_ruleTo t.passed T_lean T_call (zJ a) fuel C_values C_stack s (zJ m)) Q := by
  have h7 := hE.a7
  have h10 := hE.m10
  intro k
  induction k with
  | zero =>
    intro m fuel C_values C_stack s hk hf kk
    obtain ⟨fuel, rfl, hf⟩ := zfu hf
    unfold lX3_swayedBy_4
    skip
    exact zOk.pos (by rw [hc.m]; exact zJ_yle (by omega) (by omega)) (kk _ _)
  | succ k ih =>
    intro m fuel C_values C_stack s hk hf kk
    obtain ⟨fuel, rfl, hf⟩ := zfu hf
    unfold lX3_swayedBy_4
    skip
    refine zOk.neg (by rw [hc.m]; exact zJ_nle (by omega) (by omega)) ?_
    have im : inb (zJ m) 10 = true := zinb (by omega) (by omega)
    have im2 : inb (zJ m) 20 = true := zinb (by omega) (by omega)
    have ix : (zJ m).toNatClampNeg = m := zJ_ix (by omega)
    have kk : ∀ V S, zOk (ke V S (zfold (zsway E t a) k (m + 1) (zsway E t a s m))) Q := kk
    have ih' := fun V S s' (e : s' = zsway E t a s m) => ih (m + 1) fuel V S s' (by omega) (by omega) (by rw [e]; exact kk)
    unfold zsway at ih'
    rw [zJ_succ]
    refine zOk.eq zisP ?_
    cases h1 : zis t.passed (zJ m)
    · refine zOk.pos rfl ?_
      rw [ck_t im, ix, hcl m (by omega)]
      refine zOk.bind (zc_sup hE hc hl (by omega)) (fun o ho => ?_)
      rw [ho]
      refine zOk.eq (zc_carries hc) (zOk.eq (zc_carries hc) ?_)
      have e : (1 : Int32) <<< (zJ a &&& 31) = zbit a := rfl
      rw [e]
      cases h2 : zcarry E (zsup E t m (t.call m)) <;> cases h3 : zcarry E (zsup E t m (t.call m) ^^^ zbit a)
      · exact zOk.pos rfl (ih' _ _ _ (by simp [h1, h2, h3]))
      · exact zOk.neg (by decide) (ih' _ _ _ (by simp [h1, h2, h3]; rfl))
      · exact zOk.neg (by decide) (ih' _ _ _ (by simp [h1, h2, h3]; rfl))
      · exact zOk.pos rfl (ih' _ _ _ (by simp [h1, h2, h3]))
    · exact zOk.neg (by decide) (ih' _ _ _ (by simp [h1]))
theorem zr_sway {ke : _} {Q : _} (hE : zEok E) (hr : zRef E M_told M_deaf M_kind M_cost M_pleases M_behind M_signsSays M_signsVotes) (ht : zTok E t) (hl : ∀ a, a < E.nA → M_lean a = t.lean a) (hcl : ∀ m, m < E.nM → M_call m = t.call m) {a : Nat} (ha : a < 7) : ∀ (k m fuel : Nat) (M_asked M_stack : Nat → Int32) (s : Int32), k + m = E.nM → k < fuel → (∀ V S, zOk (ke V S (zfold (zsway E t a) k m s)) Q) → zOk (lX9_swayed_4 ke t.passed M_told M_deaf M_kind M_cost M_pleases M_signsVotes M_lean M_call (zJ a) fuel M_asked M_stack s (zJ m)) Q := by
  have h7 := hE.a7
  have h10 := hE.m10
  intro k
  induction k with
  | zero =>
    intro m fuel M_asked M_stack s hk hf kk
    obtain ⟨fuel, rfl, hf⟩ := zfu hf
    unfold lX9_swayed_4
    rw [ck_t (by decide), show (4 : Int32).toNatClampNeg = 4 from rfl, hr.m]
    exact zOk.pos (by exact zJ_yle (by omega) (by omega)) (kk _ _)
  | succ k ih =>
    intro m fuel M_asked M_stack s hk hf kk
    obtain ⟨fuel, rfl, hf⟩ := zfu hf
    unfold lX9_swayed_4
    rw [ck_t (by decide), show (4 : Int32).toNatClampNeg = 4 from rfl, hr.m]
    refine zOk.neg (by exact zJ_nle (by omega) (by omega)) ?_
    have im : inb (zJ m) 10 = true := zinb (by omega) (by omega)
    have im2 : inb (zJ m) 20 = true := zinb (by omega) (by omega)
    have ix : (zJ m).toNatClampNeg = m := zJ_ix (by omega)
    have kk : ∀ V S, zOk (ke V S (zfold (zsway E t a) k (m + 1) (zsway E t a s m))) Q := kk
    have ih' := fun V S s' (e : s' = zsway E t a s m) => ih (m + 1) fuel V S s' (by omega) (by omega) (by rw [e]; exact kk)
    unfold zsway at ih'
    rw [zJ_succ]
    refine zOk.eq zisM ?_
    cases h1 : zis t.passed (zJ m)
    · refine zOk.pos rfl ?_
      rw [ck_t im, ix, hcl m (by omega)]
      refine zOk.bind (zm_sup hE hr ht hl (by omega)) (fun o ho => ?_)
      rw [ho]
      obtain ⟨n, hn, en⟩ := zsup_r hE (t := t) (m := m) (said := t.call m)
      obtain ⟨n2, e2⟩ := zxor_dec ⟨a, ha⟩ ⟨n, hn⟩
      have e2 : zJ n ^^^ zbit a = zJ n2.1 := e2
      have hn2 := n2.2
      have e : (1 : Int32) <<< (zJ a &&& 31) = zbit a := rfl
      rw [e, en, e2]
      refine zOk.eq (zbits' (by omega)) (zOk.eq (zm_more hE hr hn) (zOk.eq (zbits' (by omega)) (zOk.eq (zm_more hE hr hn2) ?_)))
      rw [zor0]
      cases h2 : zcarry E (zJ n) <;> cases h3 : zcarry E (zJ n2.1)
      · exact zOk.pos rfl (ih' _ _ _ (by simp [h1, en, e2, h2, h3]))
      · exact zOk.neg (by decide) (ih' _ _ _ (by simp [h1, en, e2, h2, h3]; rfl))
      · exact zOk.neg (by decide) (ih' _ _ _ (by simp [h1, en, e2, h2, h3]; rfl))
      · exact zOk.pos rfl (ih' _ _ _ (by simp [h1, en, e2, h2, h3]))
    · exact zOk.neg (by decide) (ih' _ _ _ (by simp [h1]))
theorem zl_ally {ke : _} {Q : _} (hE : zEok E) (hc : zCls E B_aldermen B_motions B_deaf B_kind B_cost B_joy B_follows B_code B_ruleFrom B_ruleTo) (hl : ∀ a, a < E.nA → T_lean a = t.lean a) (hcl : ∀ m, m < E.nM → T_call m = t.call m) {a b : Nat} (ha : a < E.nA) (hb : b < E.nA) : ∀ (k m fuel : Nat) (C_values C_stack : Nat → Int32) (s : Int32), k + m = E.nM → k < fuel → (∀ V S, zOk (ke V S (zfold (zally E t a b) k m s)) Q) → zOk (lX3_votesAlike_5 ke B_motions B_deaf B_kind B_cost B_joy B_code B_ruleFrom B_ruleTo t.passed T_lean T_call (zJ a) (zJ b) fuel C_values C_stack s (zJ m)) Q := by
  have h7 := hE.a7
  have h10 := hE.m10
  intro k
  induction k with
  | zero =>
    intro m fuel C_values C_stack s hk hf kk
    obtain ⟨fuel, rfl, hf⟩ := zfu hf
    unfold lX3_votesAlike_5
    skip
    exact zOk.pos (by rw [hc.m]; exact zJ_yle (by omega) (by omega)) (kk _ _)
  | succ k ih =>
    intro m fuel C_values C_stack s hk hf kk
    obtain ⟨fuel, rfl, hf⟩ := zfu hf
    unfold lX3_votesAlike_5
    skip
    refine zOk.neg (by rw [hc.m]; exact zJ_nle (by omega) (by omega)) ?_
    have im : inb (zJ m) 10 = true := zinb (by omega) (by omega)
    have im2 : inb (zJ m) 20 = true := zinb (by omega) (by omega)
    have ix : (zJ m).toNatClampNeg = m := zJ_ix (by omega)
    have kk : ∀ V S, zOk (ke V S (zfold (zally E t a b) k (m + 1) (zally E t a b s m))) Q := kk
    have ih' := fun V S s' (e : s' = zally E t a b s m) => ih (m + 1) fuel V S s' (by omega) (by omega) (by rw [e]; exact kk)
    unfold zally at ih'
    rw [zJ_succ]
    refine zOk.eq zisP ?_
    cases h1 : zis t.passed (zJ m)
    · refine zOk.pos rfl ?_
      have sup : ∀ (V S : Nat → Int32) (c : Nat), c < E.nA → zOk (fX3_supports V S B_deaf B_kind B_cost B_joy B_code B_ruleFrom B_ruleTo t.passed T_lean T_call (zJ c) (zJ m)) (fun o => o.1 = if zfor E t.passed c (t.lean c) m (t.call m) then 1 else 0) := by
        intro V S c hcA
        unfold fX3_supports
        rw [ck_t (zinb (by omega) (by omega)), ck_t im, ix, zJ_ix (by omega), hl c hcA, hcl m (by omega)]
        refine zOk.bind (zc_isFor hE hc hcA (by omega)) (fun o ho => ?_)
        rw [ck_t (by unfold isb; rw [ho, decide_eq_true_eq]; split; exact Or.inr rfl; exact Or.inl rfl)]
        exact zOk.pure ho
      refine zOk.bind (sup _ _ a ha) (fun o ho => zOk.bind (sup _ _ b hb) (fun o2 ho2 => ?_))
      rw [ho, ho2]
      cases h2 : zfor E t.passed a (t.lean a) m (t.call m) <;> cases h3 : zfor E t.passed b (t.lean b) m (t.call m)
      · exact zOk.pos rfl (ih' _ _ _ (by simp [h1, h2, h3]))
      · exact zOk.neg (by decide) (ih' _ _ _ (by simp [h1, h2, h3]))
      · exact zOk.neg (by decide) (ih' _ _ _ (by simp [h1, h2, h3]))
      · exact zOk.pos rfl (ih' _ _ _ (by simp [h1, h2, h3]))
    · exact zOk.neg (by decide) (ih' _ _ _ (by simp [h1]))
theorem zr_ally {ke : _} {Q : _} (hE : zEok E) (hr : zRef E M_told M_deaf M_kind M_cost M_pleases M_behind M_signsSays M_signsVotes) (ht : zTok E t) (hl : ∀ a, a < E.nA → M_lean a = t.lean a) (hcl : ∀ m, m < E.nM → M_call m = t.call m) {a b : Nat} (ha : a < E.nA) (hb : b < E.nA) : ∀ (k m fuel : Nat) (M_asked M_stack : Nat → Int32) (s : Int32), k + m = E.nM → k < fuel → (∀ V S, zOk (ke V S (zfold (zally E t a b) k m s)) Q) → zOk (lX9_allies_32 ke t.passed M_told M_deaf M_kind M_cost M_pleases M_signsVotes M_lean M_call (zJ a) (zJ b) fuel M_asked M_stack s (zJ m)) Q := by
  have h7 := hE.a7
  have h10 := hE.m10
  intro k
  induction k with
  | zero =>
    intro m fuel M_asked M_stack s hk hf kk
    obtain ⟨fuel, rfl, hf⟩ := zfu hf
    unfold lX9_allies_32
    rw [ck_t (by decide), show (4 : Int32).toNatClampNeg = 4 from rfl, hr.m]
    exact zOk.pos (by exact zJ_yle (by omega) (by omega)) (kk _ _)
  | succ k ih =>
    intro m fuel M_asked M_stack s hk hf kk
    obtain ⟨fuel, rfl, hf⟩ := zfu hf
    unfold lX9_allies_32
    rw [ck_t (by decide), show (4 : Int32).toNatClampNeg = 4 from rfl, hr.m]
    refine zOk.neg (by exact zJ_nle (by omega) (by omega)) ?_
    have im : inb (zJ m) 10 = true := zinb (by omega) (by omega)
    have im2 : inb (zJ m) 20 = true := zinb (by omega) (by omega)
    have ix : (zJ m).toNatClampNeg = m := zJ_ix (by omega)
    have kk : ∀ V S, zOk (ke V S (zfold (zally E t a b) k (m + 1) (zally E t a b s m))) Q := kk
    have ih' := fun V S s' (e : s' = zally E t a b s m) => ih (m + 1) fuel V S s' (by omega) (by omega) (by rw [e]; exact kk)
    unfold zally at ih'
    rw [zJ_succ, ck_t im, ix, hcl m (by omega), Int32.add_zero]
    refine zOk.bind (zm_sup hE hr ht hl (by omega)) (fun o ho => ?_)
    rw [ho]
    refine zOk.eq zisM ?_
    cases h1 : zis t.passed (zJ m)
    · refine zOk.pos rfl (zOk.eq zisM (zOk.eq zisM ?_))
      unfold zsup
      rw [zsup_bit E.nA (by omega) a (by omega), zsup_bit E.nA (by omega) b (by omega), decide_eq_true ha, decide_eq_true hb, Bool.true_and, Bool.true_and]
      cases h2 : zfor E t.passed a (t.lean a) m (t.call m) <;> cases h3 : zfor E t.passed b (t.lean b) m (t.call m)
      · exact zOk.pos rfl (ih' _ _ _ (by simp [h1, h2, h3]))
      · exact zOk.neg (by decide) (ih' _ _ _ (by simp [h1, h2, h3]))
      · exact zOk.neg (by decide) (ih' _ _ _ (by simp [h1, h2, h3]))
      · exact zOk.pos rfl (ih' _ _ _ (by simp [h1, h2, h3]))
    · exact zOk.neg (by decide) (ih' _ _ _ (by simp [h1]))
/-- the chain of a motion: bits, and how many -/
theorem zl_chain (hE : zEok E) (hcm : B_motions = zJ E.nM) (hf : ∀ m, m < E.nM → B_follows m = E.fol m) (hb : ∀ m, m < E.nM → M_behind m = E.fol m) : ∀ (j b : Nat) (x : Int32) (n i fuel fuel2 fuel3 c : Nat), b ≤ j → (x = -1 ∨ ∃ q, q < b ∧ x = zJ q) → b ≤ E.nM → b + i ≤ 10 → j < fuel → j < fuel2 → j < fuel3 → n < 1024 → (∀ q, q < b → n.testBit q = false) → zbc (zJ n) = zJ c → c + b ≤ 10 → ∃ n' c', n' < 1024 ∧ zbc (zJ n') = zJ c' ∧ (∀ (ke : Int32 → Option Int32), lX1_chainOf_12 ke B_motions B_follows fuel (zJ n) x (zJ i) = ke (zJ n')) ∧ (∀ (ke : Int32 → Option Int32), lX9_chain_9 ke M_behind fuel2 (zJ c) x = ke (zJ c')) ∧ (∀ (ke : Int32 → Option (Int32 × Int32)), lX9_needs_28 ke M_behind fuel3 (zJ n) x = ke (zJ n')) := by
  have h10 := hE.m10
  intro j
  induction j with
  | zero =>
    intro b x n i fuel fuel2 fuel3 c hbj hx hj hi f1 f2 f3 hn hq hbc hc10
    have hx : x = -1 := hx.resolve_right (fun ⟨q, hq, _⟩ => by omega)
    subst hx
    obtain ⟨fuel, rfl, f1⟩ := zfu f1
    obtain ⟨fuel2, rfl, f2⟩ := zfu f2
    obtain ⟨fuel3, rfl, f3⟩ := zfu f3
    refine ⟨n, c, hn, hbc, fun ke => ?_, fun ke => ?_, fun ke => ?_⟩
    · unfold lX1_chainOf_12
      rw [if_pos (show (-1 : Int32) < 0 by decide)]
      split <;> rfl
    · unfold lX9_chain_9; rw [if_pos rfl]
    · unfold lX9_needs_28; rw [if_pos rfl]
  | succ j ih =>
    intro b x n i fuel fuel2 fuel3 c hbj hx hj hi f1 f2 f3 hn hq hbc hc10
    obtain ⟨fuel, rfl, f1⟩ := zfu f1
    obtain ⟨fuel2, rfl, f2⟩ := zfu f2
    obtain ⟨fuel3, rfl, f3⟩ := zfu f3
    rcases hx with hx | ⟨q, hq1, hx⟩
    · subst hx
      refine ⟨n, c, hn, hbc, fun ke => ?_, fun ke => ?_, fun ke => ?_⟩
      · unfold lX1_chainOf_12
        rw [if_pos (show (-1 : Int32) < 0 by decide)]
        split <;> rfl
      · unfold lX9_chain_9; rw [if_pos rfl]
      · unfold lX9_needs_28; rw [if_pos rfl]
    · subst hx
      have hqb := hq q hq1
      have e1 : zJ n ||| ((1 : Int32) <<< (zJ q &&& 31)) = zJ (n ||| 2 ^ q) := zor_nat (m := q) (by omega)
      have e2 : zbc (zJ (n ||| 2 ^ q)) = zJ (c + 1) := by
        rw [← zor_nat (m := q) (by omega), zbc_or ⟨q, by omega⟩ ⟨n, hn⟩ hqb, hbc, zJ_succ]
      have hfol := hE.fol q (by omega)
      have nx : E.fol q = -1 ∨ ∃ r, r < q ∧ E.fol q = zJ r := hfol
      obtain ⟨n', c', a1, a2, a3, a4, a5⟩ := ih q (E.fol q) (n ||| 2 ^ q) (i + 1) fuel fuel2 fuel3 (c + 1) (by omega) (by
          rcases nx with z | ⟨r, hr, z⟩
          · exact Or.inl z
          · exact Or.inr ⟨r, hr, z⟩) (by omega) (by omega) (by omega) (by omega) (by omega) (zor_lt (k := 10) hn (by omega)) (fun r hr => by
          rw [Nat.testBit_or, hq r (by omega), Nat.testBit_two_pow, decide_eq_false (by omega), Bool.or_false]) e2 (by omega)
      refine ⟨n', c', a1, a2, fun ke => ?_, fun ke => ?_, fun ke => ?_⟩
      · unfold lX1_chainOf_12
        rw [if_neg (show ¬ (10 : Int32) ≤ zJ i from zJ_nle (a := 10) (by omega) (by omega)), if_neg (zJ_nn (by omega)), hcm, if_neg (zJ_nle (by omega) (by omega)), ck_t (zinb (by omega) (by omega)), e1, zJ_ix (by omega), hf q (by omega), zJ_succ, ← hcm]
        exact a3 ke
      · unfold lX9_chain_9
        rw [if_neg (zJ_nm1 (by omega)), ck_t (zinb (by omega) (by omega)), zJ_ix (by omega), hb q (by omega), zJ_succ]
        exact a4 ke
      · unfold lX9_needs_28
        rw [if_neg (zJ_nm1 (by omega)), ck_t (zinb (by omega) (by omega)), zJ_ix (by omega), hb q (by omega), e1]
        exact a5 ke
end
