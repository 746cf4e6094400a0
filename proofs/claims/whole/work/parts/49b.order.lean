/-! ===== pure: orders of the day, idle motions, the tape ===== -/
/-- a motion that a set may not have -/
def zviol (E : zE) (p set : Int32) (m : Nat) : Bool := zis set (zJ m) && (zis p (zJ m) || (!decide (E.fol m = -1) && !zis (set ||| p) (E.fol m)))
def zany (f : Nat → Bool) : Nat → Nat → Bool
  | 0, _ => false
  | k + 1, m => f m || zany f k (m + 1)
def zse (E : zE) (set s : Int32) (m : Nat) : Int32 := if zis set (zJ m) then s + zexp E m else s
def zsj (E : zE) (set s : Int32) (m : Nat) : Int32 := if zis set (zJ m) then s + zple E m else s
def zjoy (E : zE) (set : Int32) : Int32 := zfold (zsj E set) E.nM 0 0
def zisord (E : zE) (t : zT) (set : Int32) : Bool := !zany (zviol E t.passed set) E.nM 0 && !decide (t.treas < zfold (zse E set) E.nM 0 0)
def zbetter (E : zE) (set best : Int32) : Bool := decide (0 < zjoy E set - zjoy E best) || (decide (zjoy E set - zjoy E best = 0) && !decide (zbc best ≤ zbc set))
def zord (E : zE) (t : zT) : Nat → Nat → Int32 → Int32
  | 0, _, b => b
  | k + 1, s, b => zord E t k (s + 1) (if zisord E t (zJ s) && zbetter E (zJ s) b then zJ s else b)
theorem zis1 {set k : Int32} : (set >>> (k &&& 31)) &&& (1 : Int32) = 1 ↔ zis set k = true := by unfold zis; rw [decide_eq_true_eq]
theorem zand1 {x : Int32} : x &&& (1 : Int32) = 0 ∨ x &&& (1 : Int32) = 1 := by
  have h : (x &&& (1 : Int32)).toBitVec.toNat ≤ 1 := by
    rw [Int32.toBitVec_and, BitVec.toNat_and]; exact Nat.and_le_right
  rcases (show (x &&& (1 : Int32)).toBitVec.toNat = 0 ∨ (x &&& (1 : Int32)).toBitVec.toNat = 1 by omega) with q | q
  · left; rw [← Int32.toBitVec_inj]; exact BitVec.eq_of_toNat_eq q
  · right; rw [← Int32.toBitVec_inj]; exact BitVec.eq_of_toNat_eq q
theorem zis0 {set k : Int32} : (set >>> (k &&& 31)) &&& (1 : Int32) = 0 ↔ zis set k = false := by
  have h1 := zis1 (set := set) (k := k)
  rcases zand1 (x := set >>> (k &&& 31)) with q | q
  · rw [q] at h1 ⊢
    cases hz : zis set k
    · simp
    · rw [hz] at h1; exact absurd (h1.2 rfl) (by decide)
  · rw [q] at h1 ⊢
    rw [h1.1 rfl]; decide
theorem zany_false {f : Nat → Bool} : ∀ (k m : Nat), zany f k m = false ↔ ∀ i, m ≤ i → i < m + k → f i = false
  | 0, m => by simp [zany]; intro i h1 h2; omega
  | k + 1, m => by
    unfold zany
    rw [Bool.or_eq_false_iff, zany_false k (m + 1)]
    constructor
    · rintro ⟨a, b⟩ i h1 h2
      by_cases q : i = m
      · rw [q]; exact a
      · exact b i (by omega) (by omega)
    · intro h
      exact ⟨h m (by omega) (by omega), fun i h1 h2 => h i (by omega) (by omega)⟩
section
variable {A2_acts A2_seen A_acts A_seen B2_aldermen B2_codeLength B2_motions B2_oil B2_treasury B2_weight B_aldermen B_codeLength B_motions B_oil B_treasury B_weight D_aldermen D_codeLength D_motions D_oil D_treasury D_weight F_seed K_acts K_seen M_acts M_actsThen M_at M_bad M_badPlace M_begins M_code M_faultPlace M_fitMany M_hasImage M_hoarse M_hour M_joy M_never M_number M_ofVoting M_oil M_passed M_said M_seedNow M_seen M_seenThen M_size M_spider M_stops M_taped M_token M_treasury M_values M_weight R_clockIsTold R_depth R_digits R_end R_fault R_notMayStand R_nots R_number R_partIsDue R_place R_start R_token R_waits T2_hour T2_joy T2_oil T2_passed T2_spider T2_treasury T2_weight T_hour T_joy T_oil T_passed T_spider T_treasury T_weight V_hour V_joy V_oil V_passed V_spider V_treasury V_weight X_hour X_joy X_oil X_passed X_spider X_treasury X_weight Y_hour Y_joy Y_oil Y_passed Y_spider Y_treasury Y_weight Z_faultPlace Z_hasImage Z_tapeLength : Int32} {A2_before A2_refused A2_seenHour A2_seenNumber A_before A_refused A_seenHour A_seenNumber B2_call B2_code B2_cost B2_deaf B2_follows B2_joy B2_kind B2_lean B2_ruleFrom B2_ruleTo B_call B_code B_cost B_deaf B_follows B_joy B_kind B_lean B_ruleFrom B_ruleTo C_stack C_values D_call D_code D_cost D_deaf D_follows D_joy D_kind D_lean D_ruleFrom D_ruleTo F_times K_before K_refused K_seenHour K_seenNumber M_asked M_behind M_call M_callTold M_cost M_deaf M_extras M_fits M_imageRow M_kind M_lean M_leanTold M_past M_pastThen M_pleases M_rowSeen M_rowThen M_saidOften M_saids M_seenIn M_seenInThen M_seenSaid M_seenSaidThen M_signsSays M_signsVotes M_stack M_status M_statusThen M_tape M_told R_tape R_waiting S_heard S_unlike T2_call T2_lean T_call T_lean U_prices V_call V_lean X_call X_lean Y_call Y_lean Z_tape : Nat → Int32}
variable {E : zE} {t : zT} {n : Nat} {wo : Int32}
theorem zl_ord0 {ka : Option Int32} {kb : Int32 → Option Int32} {Q : _} (hE : zEok E) (hc : zCls E B_aldermen B_motions B_deaf B_kind B_cost B_joy B_follows B_code B_ruleFrom B_ruleTo) {p set : Int32} : ∀ (k m fuel : Nat) (s : Int32), k + m = E.nM → k < fuel → (zany (zviol E p set) k m = true → zOk ka Q) → (zany (zviol E p set) k m = false → zOk (kb (zfold (zse E set) k m s)) Q) → zOk (lX3_isOrder_4 ka kb B_motions B_kind B_cost B_follows p set fuel s (zJ m)) Q := by
  have h10 := hE.m10
  intro k
  induction k with
  | zero =>
    intro m fuel s hk hf k1 k2
    obtain ⟨fuel, rfl, hf⟩ := zfu hf
    unfold lX3_isOrder_4
    exact zOk.pos (by rw [hc.m]; exact zJ_yle (by omega) (by omega)) (k2 rfl)
  | succ k ih =>
    intro m fuel s hk hf k1 k2
    obtain ⟨fuel, rfl, hf⟩ := zfu hf
    unfold lX3_isOrder_4
    refine zOk.neg (by rw [hc.m]; exact zJ_nle (by omega) (by omega)) ?_
    have e1 : zany (zviol E p set) (k + 1) m = (zviol E p set m || zany (zviol E p set) k (m + 1)) := rfl
    have e2 : zfold (zse E set) (k + 1) m s = zfold (zse E set) k (m + 1) (zse E set s m) := rfl
    rw [e1] at k1 k2
    rw [e2] at k2
    have go : ∀ s', s' = zse E set s m → zviol E p set m = false → zOk (lX3_isOrder_4 ka kb B_motions B_kind B_cost B_follows p set fuel s' (zJ (m + 1))) Q := by
      intro s' hs hv
      rw [hv, Bool.false_or] at k1 k2
      exact ih (m + 1) fuel s' (by omega) (by omega) k1 (by rw [hs]; exact k2)
    have bad : zviol E p set m = true → zOk ka Q := fun h => k1 (by rw [h, Bool.true_or])
    unfold zviol at go bad
    unfold zse at go
    rw [zJ_succ, ck_t (zinb (by omega) (by omega)), zJ_ix (by omega), hc.fol m (by omega)]
    unfold jX3_isOrder_71
    rw [zJ_succ]
    cases hs : zis set (zJ m)
    · rw [hs] at go bad
      refine zOk.neg (fun z => by rw [zis1, hs] at z; exact absurd z (by decide)) (go _ rfl rfl)
    · rw [hs] at go bad
      refine zOk.pos (zis1.2 hs) (zOk.eq zisP ?_)
      have fin : (false || (!decide (E.fol m = -1) && !zis (set ||| p) (E.fol m))) = false → zis p (zJ m) = false → zOk ((fX1_expense B_kind B_cost (zJ m)).bind fun v9 => lX3_isOrder_4 ka kb B_motions B_kind B_cost B_follows p set fuel (s + v9) (zJ (m + 1))) Q := by
        intro h1 h2
        exact zOk.eq (zc_expense h10 hc (by omega)) (go _ rfl (by rw [h2, h1]; rfl))
      cases hp : zis p (zJ m)
      · refine zOk.pos rfl ?_
        by_cases q : E.fol m = -1
        · exact zOk.pos q (fin (by simp [q]) hp)
        · refine zOk.neg q ?_
          cases hz : zis (set ||| p) (E.fol m)
          · exact zOk.pos (zis0.2 hz) (bad (by simp [hp, q, hz]))
          · exact zOk.neg (fun z => by rw [zis0, hz] at z; exact absurd z (by decide)) (fin (by simp [hz]) hp)
      · exact zOk.neg (by decide) (bad (by simp [hp]))
theorem zl_joy {ke : _} {Q : _} (hE : zEok E) (hc : zCls E B_aldermen B_motions B_deaf B_kind B_cost B_joy B_follows B_code B_ruleFrom B_ruleTo) {set : Int32} : ∀ (k m fuel : Nat) (s : Int32), k + m = E.nM → k < fuel → zOk (ke (zfold (zsj E set) k m s)) Q → zOk (lX3_joyOf_4 ke B_motions B_kind B_joy set fuel s (zJ m)) Q := by
  have h7 := hE.a7
  have h10 := hE.m10
  intro k
  induction k with
  | zero =>
    intro m fuel s hk hf kk
    obtain ⟨fuel, rfl, hf⟩ := zfu hf
    unfold lX3_joyOf_4
    skip
    exact zOk.pos (by rw [hc.m]; exact zJ_yle (by omega) (by omega)) kk
  | succ k ih =>
    intro m fuel s hk hf kk
    obtain ⟨fuel, rfl, hf⟩ := zfu hf
    unfold lX3_joyOf_4
    skip
    refine zOk.neg (by rw [hc.m]; exact zJ_nle (by omega) (by omega)) ?_
    have im : inb (zJ m) 10 = true := zinb (by omega) (by omega)
    have im2 : inb (zJ m) 20 = true := zinb (by omega) (by omega)
    have ix : (zJ m).toNatClampNeg = m := zJ_ix (by omega)
    have kk : zOk (ke (zfold (zsj E set) k (m + 1) (zsj E set s m))) Q := kk
    have ih' := fun s' (e : s' = zsj E set s m) => ih (m + 1) fuel s' (by omega) (by omega) (by rw [e]; exact kk)
    unfold zsj at ih'
    rw [zJ_succ]
    cases hs : zis set (zJ m)
    · exact zOk.neg (fun z => by rw [zis1, hs] at z; exact absurd z (by decide)) (ih' _ (by rw [hs]; rfl))
    · exact zOk.pos (zis1.2 hs) (zOk.eq (zc_pleasure h10 hc (by omega)) (ih' _ (by rw [hs]; rfl)))
theorem zr_sum1 {ke : _} {Q : _} (hE : zEok E) (hr : zRef E M_told M_deaf M_kind M_cost M_pleases M_behind M_signsSays M_signsVotes) {set : Int32} : ∀ (k m fuel : Nat) (s : Int32), k + m = E.nM → k < fuel → zOk (ke (zfold (zsj E set) k m s)) Q → zOk (lX9_sumOf_5 ke M_told M_kind M_cost M_pleases set 1 fuel s (zJ m)) Q := by
  have h7 := hE.a7
  have h10 := hE.m10
  intro k
  induction k with
  | zero =>
    intro m fuel s hk hf kk
    obtain ⟨fuel, rfl, hf⟩ := zfu hf
    unfold lX9_sumOf_5
    rw [ck_t (by decide), show (4 : Int32).toNatClampNeg = 4 from rfl, hr.m]
    exact zOk.pos (by exact zJ_yle (by omega) (by omega)) kk
  | succ k ih =>
    intro m fuel s hk hf kk
    obtain ⟨fuel, rfl, hf⟩ := zfu hf
    unfold lX9_sumOf_5
    rw [ck_t (by decide), show (4 : Int32).toNatClampNeg = 4 from rfl, hr.m]
    refine zOk.neg (by exact zJ_nle (by omega) (by omega)) ?_
    have im : inb (zJ m) 10 = true := zinb (by omega) (by omega)
    have im2 : inb (zJ m) 20 = true := zinb (by omega) (by omega)
    have ix : (zJ m).toNatClampNeg = m := zJ_ix (by omega)
    have kk : zOk (ke (zfold (zsj E set) k (m + 1) (zsj E set s m))) Q := kk
    have ih' := fun s' (e : s' = zsj E set s m) => ih (m + 1) fuel s' (by omega) (by omega) (by rw [e]; exact kk)
    unfold zsj at ih'
    rw [zJ_succ, Int32.add_zero]
    refine zOk.eq zisM ?_
    cases hs : zis set (zJ m)
    · exact zOk.pos rfl (ih' _ (by rw [hs]; rfl))
    · exact zOk.neg (by decide) (zOk.neg (by decide) (zOk.eq (zm_joy h10 hr (by omega)) (ih' _ (by rw [hs]; rfl))))
theorem zr_sum0 {ke : _} {Q : _} (hE : zEok E) (hr : zRef E M_told M_deaf M_kind M_cost M_pleases M_behind M_signsSays M_signsVotes) {set : Int32} : ∀ (k m fuel : Nat) (s : Int32), k + m = E.nM → k < fuel → zOk (ke (zfold (zse E set) k m s)) Q → zOk (lX9_sumOf_5 ke M_told M_kind M_cost M_pleases set 0 fuel s (zJ m)) Q := by
  have h7 := hE.a7
  have h10 := hE.m10
  intro k
  induction k with
  | zero =>
    intro m fuel s hk hf kk
    obtain ⟨fuel, rfl, hf⟩ := zfu hf
    unfold lX9_sumOf_5
    rw [ck_t (by decide), show (4 : Int32).toNatClampNeg = 4 from rfl, hr.m]
    exact zOk.pos (by exact zJ_yle (by omega) (by omega)) kk
  | succ k ih =>
    intro m fuel s hk hf kk
    obtain ⟨fuel, rfl, hf⟩ := zfu hf
    unfold lX9_sumOf_5
    rw [ck_t (by decide), show (4 : Int32).toNatClampNeg = 4 from rfl, hr.m]
    refine zOk.neg (by exact zJ_nle (by omega) (by omega)) ?_
    have im : inb (zJ m) 10 = true := zinb (by omega) (by omega)
    have im2 : inb (zJ m) 20 = true := zinb (by omega) (by omega)
    have ix : (zJ m).toNatClampNeg = m := zJ_ix (by omega)
    have kk : zOk (ke (zfold (zse E set) k (m + 1) (zse E set s m))) Q := kk
    have ih' := fun s' (e : s' = zse E set s m) => ih (m + 1) fuel s' (by omega) (by omega) (by rw [e]; exact kk)
    unfold zse zexp at ih'
    rw [zJ_succ, Int32.add_zero]
    refine zOk.eq zisM ?_
    cases hs : zis set (zJ m)
    · exact zOk.pos rfl (ih' _ (by rw [hs]; rfl))
    · refine zOk.neg (by decide) (zOk.pos rfl ?_)
      rw [ck_t im2, ck_t im2, ck_t im2, ix, hr.kind m (by omega), hr.cost m (by omega)]
      exact zOk.ite (fun z => ih' _ (by simp [hs, z])) (fun z => ih' _ (by simp [hs, z]))
def zvi2 (E : zE) (p set : Int32) (m : Nat) : Bool := zis set (zJ m) && (!decide (E.fol m = -1) && !zis (set ||| p) (E.fol m))
theorem zr_whole {ke : _} {Q : _} (hE : zEok E) (hr : zRef E M_told M_deaf M_kind M_cost M_pleases M_behind M_signsSays M_signsVotes) {p set : Int32} : ∀ (k m fuel : Nat) (s : Int32), k + m = E.nM → k < fuel → (s = 0 ∨ s = 1) → zOk (ke (if s = 0 then 0 else if zany (zvi2 E p set) k m then 0 else 1)) Q → zOk (lX9_isWhole_17 ke p M_told M_behind set fuel s (zJ m)) Q := by
  have h10 := hE.m10
  intro k
  induction k with
  | zero =>
    intro m fuel s hk hf hs kk
    obtain ⟨fuel, rfl, hf⟩ := zfu hf
    unfold lX9_isWhole_17
    rw [ck_t (by decide), show (4 : Int32).toNatClampNeg = 4 from rfl, hr.m]
    refine zOk.pos (zJ_yle (by omega) (by omega)) ?_
    rcases hs with rfl | rfl
    · exact kk
    · exact kk
  | succ k ih =>
    intro m fuel s hk hf hs kk
    obtain ⟨fuel, rfl, hf⟩ := zfu hf
    unfold lX9_isWhole_17
    rw [ck_t (by decide), show (4 : Int32).toNatClampNeg = 4 from rfl, hr.m]
    refine zOk.neg (zJ_nle (by omega) (by omega)) ?_
    rcases hs with rfl | rfl
    · exact zOk.pos rfl kk
    · refine zOk.neg (by decide) ?_
      rw [if_neg (by decide)] at kk
      have e1 : zany (zvi2 E p set) (k + 1) m = (zvi2 E p set m || zany (zvi2 E p set) k (m + 1)) := rfl
      rw [e1] at kk
      rw [zJ_succ]
      have g1 : zvi2 E p set m = false → zOk (lX9_isWhole_17 ke p M_told M_behind set fuel 1 (zJ (m + 1))) Q := by
        intro h
        rw [h, Bool.false_or] at kk
        exact ih (m + 1) fuel 1 (by omega) (by omega) (Or.inr rfl) (by rw [if_neg (by decide)]; exact kk)
      have g0 : zvi2 E p set m = true → zOk (lX9_isWhole_17 ke p M_told M_behind set fuel 0 (zJ (m + 1))) Q := by
        intro h
        rw [h, Bool.true_or, if_pos rfl] at kk
        exact ih (m + 1) fuel 0 (by omega) (by omega) (Or.inl rfl) kk
      unfold zvi2 at g1 g0
      have im2 : inb (zJ m) 20 = true := zinb (by omega) (by omega)
      rw [ck_t im2, ck_t im2, zJ_ix (by omega), hr.fol m (by omega)]
      refine zOk.eq zisM ?_
      cases hs : zis set (zJ m)
      · exact zOk.pos rfl (g1 (by rw [hs]; rfl))
      · refine zOk.neg (by decide) ?_
        by_cases q : E.fol m = -1
        · exact zOk.pos q (g1 (by simp [q]))
        · refine zOk.neg q (zOk.eq zisM ?_)
          cases hz : zis (set ||| p) (E.fol m)
          · exact zOk.pos rfl (g0 (by simp [hs, q, hz]))
          · exact zOk.neg (by decide) (g1 (by simp [hz]))
theorem zc_joyOf (hE : zEok E) (hc : zCls E B_aldermen B_motions B_deaf B_kind B_cost B_joy B_follows B_code B_ruleFrom B_ruleTo) {set : Int32} : fX3_joyOf B_motions B_kind B_joy set = some (zjoy E set) := by
  have := zl_joy (ke := fun x => some x) (Q := fun v => v = zjoy E set) hE hc (set := set) E.nM 0 FU 0 (by omega) (by have := hE.m10; unfold FU; omega) ⟨_, rfl, rfl⟩
  obtain ⟨v, e, rfl⟩ := this
  exact e
theorem zm_sum1 (hE : zEok E) (hr : zRef E M_told M_deaf M_kind M_cost M_pleases M_behind M_signsSays M_signsVotes) {set : Int32} : fX9_sumOf M_told M_kind M_cost M_pleases set 1 = some (zjoy E set) := by
  have := zr_sum1 (ke := fun x => some x) (Q := fun v => v = zjoy E set) hE hr (set := set) E.nM 0 FU 0 (by omega) (by have := hE.m10; unfold FU; omega) ⟨_, rfl, rfl⟩
  obtain ⟨v, e, rfl⟩ := this
  exact e
theorem zm_sum0 (hE : zEok E) (hr : zRef E M_told M_deaf M_kind M_cost M_pleases M_behind M_signsSays M_signsVotes) {set : Int32} : fX9_sumOf M_told M_kind M_cost M_pleases set 0 = some (zfold (zse E set) E.nM 0 0) := by
  have := zr_sum0 (ke := fun x => some x) (Q := fun v => v = zfold (zse E set) E.nM 0 0) hE hr (set := set) E.nM 0 FU 0 (by omega) (by have := hE.m10; unfold FU; omega) ⟨_, rfl, rfl⟩
  obtain ⟨v, e, rfl⟩ := this
  exact e
theorem zc_isOrder (hE : zEok E) (hc : zCls E B_aldermen B_motions B_deaf B_kind B_cost B_joy B_follows B_code B_ruleFrom B_ruleTo) {set : Int32} : fX3_isOrder B_motions B_kind B_cost B_follows t.treas t.passed set = some (if zisord E t set then 1 else 0) := by
  have := zl_ord0 (ka := some 0) (kb := fun x => if t.treas < x then some 0 else some 1) (Q := fun v => v = if zisord E t set then 1 else 0) hE hc (p := t.passed) (set := set) E.nM 0 FU 0 (by omega) (by have := hE.m10; unfold FU; omega) (fun h => ⟨_, rfl, by unfold zisord; rw [h]; rfl⟩) (fun h => by
    unfold zisord
    rw [h]
    by_cases q : t.treas < zfold (zse E set) E.nM 0 0
    · rw [if_pos q]; exact ⟨_, rfl, by simp [q]⟩
    · rw [if_neg q]; exact ⟨_, rfl, by simp [q]⟩)
  obtain ⟨v, e, rfl⟩ := this
  exact e
theorem zm_isWhole (hE : zEok E) (hr : zRef E M_told M_deaf M_kind M_cost M_pleases M_behind M_signsSays M_signsVotes) {s n : Nat} (hs : s < 2 ^ E.nM) (hn : n < 2 ^ E.nM) (hp : t.passed = zJ n) : fX9_isWhole t.passed M_told M_behind (zJ s) = some (if zany (zviol E t.passed (zJ s)) E.nM 0 then 0 else 1) := by
  have h10 := hE.m10
  have hs' := zpow hs h10
  have hn' := zpow hn h10
  have lp : ∀ s0 : Int32, (s0 = 0 ∨ s0 = 1) → jX9_isWhole_14 t.passed M_told M_behind (zJ s) s0 = some (if s0 = 0 then 0 else if zany (zvi2 E t.passed (zJ s)) E.nM 0 then 0 else 1) := by
    intro s0 h0
    unfold jX9_isWhole_14
    have := zr_whole (ke := fun x => ck (isb x) <| some x) (Q := fun v => v = if s0 = 0 then 0 else if zany (zvi2 E t.passed (zJ s)) E.nM 0 then 0 else 1) hE hr (p := t.passed) (set := zJ s) E.nM 0 FU s0 (by omega) (by unfold FU; omega) h0 (by
      rw [ck_t (by unfold isb; rw [decide_eq_true_eq]; split; exact Or.inl rfl; split; exact Or.inl rfl; exact Or.inr rfl)]
      exact ⟨_, rfl, rfl⟩)
    obtain ⟨v, e, rfl⟩ := this
    exact e
  have bit : (zJ s &&& t.passed = 0) ↔ ∀ m, m < E.nM → ¬ (zis (zJ s) (zJ m) = true ∧ zis t.passed (zJ m) = true) := by
    rw [hp, zJ_and]
    have hlt : s &&& n < 2 ^ E.nM := Nat.lt_of_le_of_lt Nat.and_le_left hs
    constructor
    · intro z m hm ⟨h1, h2⟩
      have z : s &&& n = 0 := (zJ_inj (b := 0) (by have := zpow hlt h10; omega) (by omega)).1 z
      rw [zis_nat hs' (by omega)] at h1
      rw [zis_nat hn' (by omega)] at h2
      have := congrArg (fun x => x.testBit m) z
      simp only [Nat.testBit_and, h1, h2, Nat.zero_testBit] at this
      exact absurd this (by decide)
    · intro h
      have : s &&& n = 0 := by
        apply zext hlt (Nat.two_pow_pos _)
        intro i hi
        rw [Nat.testBit_and, Nat.zero_testBit]
        have := h i hi
        rw [zis_nat hs' (by omega), zis_nat hn' (by omega)] at this
        cases ha : s.testBit i <;> cases hb : n.testBit i <;> simp_all
      rw [this]; rfl
  have key : zany (zviol E t.passed (zJ s)) E.nM 0 = false ↔ (zJ s &&& t.passed = 0) ∧ zany (zvi2 E t.passed (zJ s)) E.nM 0 = false := by
    rw [bit, zany_false, zany_false]
    constructor
    · intro h
      refine ⟨fun m hm ⟨h1, h2⟩ => ?_, fun i h1 h2 => ?_⟩
      · have := h m (by omega) (by omega); unfold zviol at this; rw [h1, h2] at this; exact absurd this (by simp)
      · have := h i h1 h2; unfold zviol at this; unfold zvi2
        cases ha : zis (zJ s) (zJ i)
        · rfl
        · rw [ha] at this
          cases hb : zis t.passed (zJ i)
          · rw [hb] at this; exact this
          · rw [hb] at this; exact absurd this (by simp)
    · rintro ⟨h, h'⟩ i h1 h2
      have a := h i (by omega)
      have b := h' i h1 h2
      unfold zvi2 at b
      unfold zviol
      cases ha : zis (zJ s) (zJ i)
      · rfl
      · cases hb : zis t.passed (zJ i)
        · rw [ha] at b; exact b
        · exact absurd ⟨ha, hb⟩ a
  unfold fX9_isWhole
  by_cases q : zJ s &&& t.passed = 0
  · rw [if_pos q, lp 1 (Or.inr rfl), if_neg (by decide)]
    congr 1
    cases h1 : zany (zvi2 E t.passed (zJ s)) E.nM 0
    · rw [key.2 ⟨q, h1⟩]
    · cases h2 : zany (zviol E t.passed (zJ s)) E.nM 0
      · have := (key.1 h2).2; rw [h1] at this; exact absurd this (by decide)
      · rfl
  · rw [if_neg q, lp 0 (Or.inl rfl), if_pos rfl]
    cases h2 : zany (zviol E t.passed (zJ s)) E.nM 0
    · exact absurd (key.1 h2).1 q
    · rfl
theorem zc_isBetter (hE : zEok E) (hc : zCls E B_aldermen B_motions B_deaf B_kind B_cost B_joy B_follows B_code B_ruleFrom B_ruleTo) {set best : Int32} : fX3_isBetter B_motions B_kind B_joy set best = some (if zbetter E set best then 1 else 0) := by
  unfold fX3_isBetter zbetter
  rw [zc_joyOf hE hc, zc_joyOf hE hc]
  simp only [Option.bind_some, zbc_eq]
  by_cases q : 0 < zjoy E set - zjoy E best
  · simp [q]
  · by_cases q2 : zjoy E set - zjoy E best = 0
    · by_cases q3 : zbc best ≤ zbc set
      · simp [q2, q3]
      · simp [q2, q3]
    · simp [q, q2]
theorem zl_best {ke : _} {Q : _} (hE : zEok E) (hc : zCls E B_aldermen B_motions B_deaf B_kind B_cost B_joy B_follows B_code B_ruleFrom B_ruleTo) : ∀ (k s fuel : Nat) (b : Int32), k + s = 2 ^ E.nM → k < fuel → zOk (ke (zord E t k s b)) Q → zOk (lX3_bestOrder_4 ke B_motions B_kind B_cost B_joy B_follows t.treas t.passed fuel b (zJ s)) Q := by
  have h10 := hE.m10
  have h2 : 2 ^ E.nM ≤ 1024 := Nat.pow_le_pow_right (n := 2) (by omega) h10
  intro k
  induction k with
  | zero =>
    intro s fuel b hk hf kk
    obtain ⟨fuel, rfl, hf⟩ := zfu hf
    unfold lX3_bestOrder_4
    exact zOk.pos (by rw [hc.m, zones' h10]; exact zJ_yle (by omega) (by omega)) kk
  | succ k ih =>
    intro s fuel b hk hf kk
    obtain ⟨fuel, rfl, hf⟩ := zfu hf
    unfold lX3_bestOrder_4
    refine zOk.neg (by rw [hc.m, zones' h10]; exact zJ_nle (by omega) (by omega)) ?_
    have kk : zOk (ke (zord E t k (s + 1) (if zisord E t (zJ s) && zbetter E (zJ s) b then zJ s else b))) Q := kk
    have ih' := fun b' (e : b' = if zisord E t (zJ s) && zbetter E (zJ s) b then zJ s else b) => ih (s + 1) fuel b' (by omega) (by omega) (by rw [e]; exact kk)
    rw [zJ_succ]
    refine zOk.eq (zc_isOrder hE hc) ?_
    cases h1 : zisord E t (zJ s)
    · exact zOk.pos rfl (ih' _ (by rw [h1]; rfl))
    · refine zOk.neg (by decide) (zOk.eq (zc_isBetter hE hc) ?_)
      cases h2 : zbetter E (zJ s) b
      · exact zOk.pos rfl (ih' _ (by rw [h1, h2]; rfl))
      · exact zOk.neg (by decide) (ih' _ (by rw [h1, h2]; rfl))
theorem zr_order {ke : _} {Q : _} (hE : zEok E) (hr : zRef E M_told M_deaf M_kind M_cost M_pleases M_behind M_signsSays M_signsVotes) (ht : zTok E t) : ∀ (k s fuel : Nat) (b : Nat), k + s = 2 ^ E.nM → k < fuel → b < 2 ^ E.nM → (∀ b', b' < 2 ^ E.nM → zord E t k s (zJ b) = zJ b' → zOk (ke (zJ b')) Q) → zOk (lX9_order_24 ke t.treas t.passed M_told M_kind M_cost M_pleases M_behind fuel (zJ b) (zJ s)) Q := by
  have h10 := hE.m10
  have h2 : 2 ^ E.nM ≤ 1024 := Nat.pow_le_pow_right (n := 2) (by omega) h10
  obtain ⟨n, hn, hp⟩ := ht.passed
  intro k
  induction k with
  | zero =>
    intro s fuel b hk hf hb kk
    obtain ⟨fuel, rfl, hf⟩ := zfu hf
    unfold lX9_order_24
    rw [ck_t (by decide), show (4 : Int32).toNatClampNeg = 4 from rfl, hr.m, zones' h10]
    exact zOk.pos (zJ_yle (by omega) (by omega)) (kk b hb rfl)
  | succ k ih =>
    intro s fuel b hk hf hb kk
    obtain ⟨fuel, rfl, hf⟩ := zfu hf
    unfold lX9_order_24
    rw [ck_t (by decide), show (4 : Int32).toNatClampNeg = 4 from rfl, hr.m, zones' h10]
    refine zOk.neg (zJ_nle (by omega) (by omega)) ?_
    have step : zord E t (k + 1) s (zJ b) = zord E t k (s + 1) (if zisord E t (zJ s) && zbetter E (zJ s) (zJ b) then zJ s else zJ b) := rfl
    rw [step] at kk
    have keep : (zisord E t (zJ s) && zbetter E (zJ s) (zJ b)) = false → zOk (lX9_order_24 ke t.treas t.passed M_told M_kind M_cost M_pleases M_behind fuel (zJ b) (zJ (s + 1))) Q := fun h => ih (s + 1) fuel b (by omega) (by omega) hb (by rw [h] at kk; exact kk)
    have take : (zisord E t (zJ s) && zbetter E (zJ s) (zJ b)) = true → zOk (lX9_order_24 ke t.treas t.passed M_told M_kind M_cost M_pleases M_behind fuel (zJ s) (zJ (s + 1))) Q := fun h => ih (s + 1) fuel s (by omega) (by omega) (by omega) (by rw [h] at kk; exact kk)
    rw [zJ_succ]
    unfold zisord zbetter at keep take
    refine zOk.eq (zm_isWhole hE hr (by omega) hn hp) ?_
    cases h1 : zany (zviol E t.passed (zJ s)) E.nM 0
    rotate_left
    · exact zOk.pos rfl (keep (by rw [h1]; rfl))
    · rw [h1] at keep take
      refine zOk.neg (by decide) (zOk.eq (zm_sum0 hE hr) ?_)
      refine zOk.ite (fun q => ?_) (fun q => keep ?_)
      rotate_left
      · have q : t.treas < zfold (zse E (zJ s)) E.nM 0 0 := Int32.not_le.1 q
        simp [q]
      · have q : ¬ t.treas < zfold (zse E (zJ s)) E.nM 0 0 := Int32.not_lt.2 q
        refine zOk.eq (zm_sum1 hE hr) (zOk.eq (zm_sum1 hE hr) ?_)
        refine zOk.ite (fun q1 => take (by simp [q, q1])) (fun q1 => ?_)
        refine zOk.ite (fun q2 => ?_) (fun q2 => keep (by simp [q1, q2]))
        refine zOk.eq (zbits' (by omega)) (zOk.eq (zbits' (by omega)) ?_)
        refine zOk.ite (fun q3 => keep (by simp [q1, q3])) (fun q3 => take (by simp [q, q2, q3]))
end
section
variable {L : Nat} {xs : Nat → Int32} {sc : Nat → Int32} {ar : Nat → Nat → Int32} {O : Nat → Int64} {x4 : Int32}
theorem zst22 (h : zInv sc ar) (hx : inb (x4 + 1) L = true ∧ inb (x4 + 2) L = true ∧ inb (x4 + 3) L = true ∧ inb (x4 + 4) L = true ∧ inb (x4 + 5) L = true) : zOk (st22 L xs sc ar O x4) (fun o => zInv o.1 o.2.1) := by
  obtain ⟨E, t, hI⟩ := h
  have hJ := hI
  obtain ⟨hE, hc, hr, ht, ⟨c1, c2, c3, c4, c5, c6, c7, c8, c9⟩, ⟨m1, m2, m3, m4, m5, m6, m7, m8, m9⟩, hnv, hh, hse, hst, htp, hfp, him, hik⟩ := hI
  have h7 := hE.a7
  have h10 := hE.m10
  unfold st22
  try simp only [ck_t hx.1, ck_t hx.2.1, ck_t hx.2.2.1, ck_t hx.2.2.2.1, ck_t hx.2.2.2.2, c1, c2, c3, c4, c5, c6, c7, m1, m2, m3, m4, m5, m6, m7, hnv]
  generalize xs (x4 + 1).toNatClampNeg = p
  suffices key : ∃ (R : Sum Nat Int32) (a c : Int32), zOk (fX8_order (sc 55) (ar 48) (ar 50) (ar 51) (ar 52) t.treas t.passed p) (fun v => v = R) ∧ zOk (fX9_order (sc 4) t.treas t.passed (ar 1) (ar 4) (ar 6) (ar 7) (ar 8) p) (fun o => o = (a, c)) ∧ ((R = Sum.inr a ∧ c = 0) ∨ (R = Sum.inl 1 ∧ c = 1)) by
    obtain ⟨R, a, c, ⟨v, ev, hv⟩, ⟨w, ew, rfl⟩, hR⟩ := key
    rcases hR with ⟨rfl, rfl⟩ | ⟨rfl, rfl⟩
    · obtain ⟨o, eo, h1, h2⟩ : ∃ o, (fL_order O (sc 55) (ar 48) (ar 50) (ar 51) (ar 52) t.treas t.passed p) = some o ∧ o.1 = 0 ∧ o.2 = vp_updL O 0 a.toInt64 := by
        unfold fL_order; rw [ev]; show ∃ o, Sum.elim _ _ v = some o ∧ _; rw [hv]; exact ⟨_, rfl, rfl, rfl⟩
      refine zOk.eq eo (zOk.eq ew (zOk.eq rfl (zOk.pos h1.symm (zOk.pos h1 (zOk.pos (by rw [h2]; exact zlgO) (zOk.pure ?_))))))
      exact zInv_q hJ (by repeat' (first | exact zSr0 | refine zSn rfl ?_ | refine zSs (by assumption) ?_)) (by repeat' (first | exact zAr0 | refine zAn rfl rfl rfl ?_ | refine zAn13 hL ?_ | refine zAn14 hC ?_ | refine zAs rfl ?_))
    · obtain ⟨o, eo, h1, h2⟩ : ∃ o, (fL_order O (sc 55) (ar 48) (ar 50) (ar 51) (ar 52) t.treas t.passed p) = some o ∧ o.1 = 1 ∧ o.2 = O := by
        unfold fL_order; rw [ev]; show ∃ o, Sum.elim _ _ v = some o ∧ _; rw [hv]; exact ⟨_, rfl, rfl, rfl⟩
      refine zOk.eq eo (zOk.eq ew (zOk.eq rfl (zOk.pos h1.symm (zOk.neg (by rw [h1]; decide) (zOk.pure ?_)))))
      exact zInv_q hJ (by repeat' (first | exact zSr0 | refine zSn rfl ?_ | refine zSs (by assumption) ?_)) (by repeat' (first | exact zAr0 | refine zAn rfl rfl rfl ?_ | refine zAn13 hL ?_ | refine zAn14 hC ?_ | refine zAs rfl ?_))
  by_cases qw : p < 0 ∨ 1 < p
  · refine ⟨Sum.inl 1, 0, 1, ?_, ?_, Or.inr ⟨rfl, rfl⟩⟩
    · unfold fX8_order; exact zOk.eq (zw_no qw) ⟨_, rfl, rfl⟩
    · unfold fX9_order
      rcases qw with z | z
      · rw [if_pos z]; exact ⟨_, rfl, rfl⟩
      · by_cases z0 : p < 0
        · rw [if_pos z0]; exact ⟨_, rfl, rfl⟩
        · rw [if_neg z0, if_neg (by grind)]; exact ⟨_, rfl, rfl⟩
  · have ew := zin_yes qw
    have w0 : ¬ p < 0 := fun z => qw (Or.inl z)
    have w1 : p ≤ 1 := Int32.not_lt.1 (fun z => qw (Or.inr z))
    have rr : zOk (fX9_order (sc 4) t.treas t.passed (ar 1) (ar 4) (ar 6) (ar 7) (ar 8) p) (fun o => o = (if p = 0 then zjoy E (zord E t (2 ^ E.nM - 1) 1 0) else zord E t (2 ^ E.nM - 1) 1 0, 0)) := by
      have h2 : 2 ^ E.nM ≤ 1024 := Nat.pow_le_pow_right (n := 2) (by omega) h10
      have h1 := Nat.two_pow_pos E.nM
      unfold fX9_order; rw [if_neg w0, if_pos w1]
      refine zr_order hE hr ht.ok (2 ^ E.nM - 1) 1 FU 0 (by omega) (by unfold FU; omega) (by omega) (fun b hb e => ?_)
      have e : zord E t (2 ^ E.nM - 1) 1 0 = zJ b := e
      rw [e]
      refine zOk.ite (fun z => ?_) (fun z => ?_)
      · rw [if_pos z]; exact zOk.eq (zm_sum1 hE hr) ⟨_, rfl, rfl⟩
      · rw [if_neg z]; exact ⟨_, rfl, rfl⟩
    refine ⟨Sum.inr _, (if p = 0 then zjoy E (zord E t (2 ^ E.nM - 1) 1 0) else zord E t (2 ^ E.nM - 1) 1 0), 0, ?_, rr, Or.inl ⟨rfl, rfl⟩⟩
    have h2 : 2 ^ E.nM ≤ 1024 := Nat.pow_le_pow_right (n := 2) (by omega) h10
    have h1 := Nat.two_pow_pos E.nM
    unfold fX8_order; refine zOk.eq (zw_yes qw) (zOk.inr ?_)
    unfold fX3_bestOrder
    have l := zl_best (t := t) (ke := fun x => some x) (Q := fun v => v = zord E t (2 ^ E.nM - 1) 1 0) hE hc (2 ^ E.nM - 1) 1 FU 0 (by omega) (by unfold FU; omega) ⟨_, rfl, rfl⟩
    refine zOk.bind l (fun o ho => ?_)
    rw [ho]
    refine zOk.ite (fun z => ?_) (fun z => ?_)
    · rw [if_pos z]; exact zOk.eq (zc_joyOf hE hc) ⟨_, rfl, rfl⟩
    · rw [if_neg z]; exact ⟨_, rfl, rfl⟩
end
