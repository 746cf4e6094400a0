/-! ===== pure: what is seen, which oils fit ===== -/
def zsd (E : zE) (h : Nat) (u : zT) : Int32 := zsaid E (zhs E (-1) h u)
def zto (t : zT) (v : Int32) : zT := zT.mk t.hour v t.weight t.spider t.treas t.joy t.passed t.lean t.call
def zfit (E : zE) (h s : Nat → Int32) (u : zT) : Nat → Bool
  | 0 => true
  | k + 1 => zfit E h s u k && decide (zsd E ((h k).toNatClampNeg - 1) u = s k)
theorem zfit_iff {E : zE} {h s : Nat → Int32} {u : zT} : ∀ n, zfit E h s u n = true ↔ ∀ k, k < n → zsd E ((h k).toNatClampNeg - 1) u = s k
  | 0 => by simp [zfit]
  | n + 1 => by
    unfold zfit
    rw [Bool.and_eq_true, zfit_iff n, decide_eq_true_eq]
    constructor
    · rintro ⟨a, b⟩ k hk
      by_cases z : k = n
      · rw [z]; exact b
      · exact a k (by omega)
    · intro a
      exact ⟨fun k hk => a k (by omega), a n (by omega)⟩
theorem zsee1_iff {sI sS : Nat → Int32} {i : Nat} {said : Int32} : ∀ n, (zsee1 sI sS i said n = 0 ∨ zsee1 sI sS i said n = 1) ∧ (zsee1 sI sS i said n = 1 ↔ ∀ j, j < n → sI j = zJ i → said = sS j)
  | 0 => ⟨Or.inr rfl, by simp [zsee1]⟩
  | n + 1 => by
    obtain ⟨a, b⟩ := zsee1_iff (sI := sI) (sS := sS) (i := i) (said := said) n
    have st : zsee1 sI sS i said (n + 1) = if zsee1 sI sS i said n = 0 then 0 else if sI n = zJ i then (if said = sS n then 1 else 0) else 1 := rfl
    rw [st]
    rcases a with a | a
    · rw [if_pos a]
      refine ⟨Or.inl rfl, ⟨fun z => absurd z (by decide), fun z => ?_⟩⟩
      have := b.2 (fun j hj => z j (by omega))
      rw [a] at this; exact absurd this (by decide)
    · rw [if_neg (by rw [a]; decide)]
      have b' := b.1 a
      by_cases q : sI n = zJ i
      · rw [if_pos q]
        by_cases q2 : said = sS n
        · rw [if_pos q2]
          refine ⟨Or.inr rfl, ⟨fun _ j hj z => ?_, fun _ => rfl⟩⟩
          by_cases y : j = n
          · rw [y]; exact q2
          · exact b' j (by omega) z
        · rw [if_neg q2]
          exact ⟨Or.inl rfl, ⟨fun z => absurd z (by decide), fun z => absurd (z n (by omega) q) q2⟩⟩
      · rw [if_neg q]
        refine ⟨Or.inr rfl, ⟨fun _ j hj z => ?_, fun _ => rfl⟩⟩
        by_cases y : j = n
        · rw [y] at z; exact absurd z q
        · exact b' j (by omega) z
theorem zseeN_iff {E : zE} {ns : Nat} {sI sS : Nat → Int32} : ∀ (k i : Nat) (u : zT), (zseeN E ns sI sS k i u = 0 ∨ zseeN E ns sI sS k i u = 1) ∧ (zseeN E ns sI sS k i u = 1 ↔ ∀ d, d < k → ∀ j, j < ns → sI j = zJ (i + d) → zsd E d u = sS j)
  | 0, _, _ => ⟨Or.inr rfl, by simp [zseeN]⟩
  | k + 1, i, u => by
    obtain ⟨a, b⟩ := zsee1_iff (sI := sI) (sS := sS) (i := i) (said := zsaid E u) ns
    obtain ⟨a2, b2⟩ := zseeN_iff (E := E) (ns := ns) (sI := sI) (sS := sS) k (i + 1) (zhour E (-1) u)
    have st : zseeN E ns sI sS (k + 1) i u = if zsee1 sI sS i (zsaid E u) ns = 0 then 0 else zseeN E ns sI sS k (i + 1) (zhour E (-1) u) := rfl
    rw [st]
    have sp : (∀ d, d < k + 1 → ∀ j, j < ns → sI j = zJ (i + d) → zsd E d u = sS j) ↔ ((∀ j, j < ns → sI j = zJ i → zsaid E u = sS j) ∧ ∀ d, d < k → ∀ j, j < ns → sI j = zJ (i + 1 + d) → zsd E d (zhour E (-1) u) = sS j) := by
      constructor
      · intro h
        refine ⟨fun j hj z => h 0 (by omega) j hj z, fun d hd j hj z => ?_⟩
        exact h (d + 1) (by omega) j hj (by rw [show i + (d + 1) = i + 1 + d by omega]; exact z)
      · rintro ⟨h0, h1⟩ d hd j hj z
        cases d with
        | zero => exact h0 j hj z
        | succ d => exact h1 d (by omega) j hj (by rw [show i + 1 + d = i + (d + 1) by omega]; exact z)
    rw [sp]
    rcases a with a | a
    · rw [if_pos a]
      refine ⟨Or.inl rfl, ⟨fun z => absurd z (by decide), fun z => ?_⟩⟩
      have := b.2 z.1
      rw [a] at this; exact absurd this (by decide)
    · rw [if_neg (by rw [a]; decide)]
      refine ⟨a2, ⟨fun z => ⟨b.1 a, b2.1 z⟩, fun z => b2.2 z.2⟩⟩
theorem zsee_fit {E : zE} {ns : Nat} {h s sI sS : Nat → Int32} {u : zT} (e : ∀ i, i < ns → sI i = h i ∧ sS i = s i ∧ ∃ q, 1 ≤ q ∧ q ≤ 48 ∧ h i = zJ q) : zseeN E ns sI sS 48 1 u = if zfit E h s u ns then 1 else 0 := by
  obtain ⟨a, b⟩ := zseeN_iff (E := E) (ns := ns) (sI := sI) (sS := sS) 48 1 u
  have key : (∀ d, d < 48 → ∀ j, j < ns → sI j = zJ (1 + d) → zsd E d u = sS j) ↔ zfit E h s u ns = true := by
    rw [zfit_iff]
    constructor
    · intro z k hk
      obtain ⟨e1, e2, q, q1, q2, e3⟩ := e k hk
      have := z (q - 1) (by omega) k hk (by rw [e1, e3]; congr 1; omega)
      rw [e3, zJ_ix (by omega), this, e2]
    · intro z d hd j hj y
      obtain ⟨e1, e2, q, q1, q2, e3⟩ := e j hj
      rw [e1, e3] at y
      have y := (zJ_inj (by omega) (by omega)).1 y
      have := z j hj
      rw [e3, zJ_ix (by omega), y, show 1 + d - 1 = d by omega] at this
      rw [this, e2]
  rw [key] at b
  cases hz : zfit E h s u ns
  · rw [hz] at b
    rcases a with a | a
    · rw [a]; rfl
    · exact absurd (b.1 a) (by decide)
  · rw [hz] at b
    rw [b.2 rfl]; rfl
/-- whether an oil fits -/
def zfo (E : zE) (t : zT) (ns : Nat) (h s : Nat → Int32) (v : Nat) : Bool := !decide (zJ v = t.oil) && zfit E h s (zto t (zJ v)) ns
def zlf (f : Nat → Bool) : Nat → Nat → List Nat
  | 0, _ => []
  | k + 1, v => if f v then v :: zlf f k (v + 1) else zlf f k (v + 1)
theorem zlf_len {f : Nat → Bool} : ∀ k v, (zlf f k v).length ≤ k
  | 0, _ => Nat.le_refl _
  | k + 1, v => by
    have := zlf_len (f := f) k (v + 1)
    unfold zlf
    split
    · show (zlf f k (v + 1)).length + 1 ≤ k + 1; omega
    · omega
theorem zlf_mem {f : Nat → Bool} : ∀ k v x, x ∈ zlf f k v → v ≤ x ∧ x < v + k
  | 0, _, _, h => absurd h (by simp [zlf])
  | k + 1, v, x, h => by
    unfold zlf at h
    split at h
    · rcases List.mem_cons.1 h with z | z
      · omega
      · have := zlf_mem k (v + 1) x z; omega
    · have := zlf_mem k (v + 1) x h; omega
theorem zto_b {E : zE} {b v : Nat} {t : zT} (h : zTb E b t) (hv : v ≤ 99) : zTb E b (zto t (zJ v)) := by
  obtain ⟨⟨a1, a2, a3, a4, a5, a6, a7⟩, b2, b3, b4⟩ := h
  exact ⟨⟨⟨zJ_yle (a := 0) (by omega) (by omega), zJ_yle (b := 99) (by omega) (by omega)⟩, a2, a3, a4, a5, a6, a7⟩, b2, b3, b4⟩
section
variable {A2_acts A2_seen A_acts A_seen B2_aldermen B2_codeLength B2_motions B2_oil B2_treasury B2_weight B_aldermen B_codeLength B_motions B_oil B_treasury B_weight D_aldermen D_codeLength D_motions D_oil D_treasury D_weight F_seed K_acts K_seen M_acts M_actsThen M_at M_bad M_badPlace M_begins M_code M_faultPlace M_fitMany M_hasImage M_hoarse M_hour M_joy M_never M_number M_ofVoting M_oil M_passed M_said M_seedNow M_seen M_seenThen M_size M_spider M_stops M_taped M_token M_treasury M_values M_weight R_clockIsTold R_depth R_digits R_end R_fault R_notMayStand R_nots R_number R_partIsDue R_place R_start R_token R_waits T2_hour T2_joy T2_oil T2_passed T2_spider T2_treasury T2_weight T_hour T_joy T_oil T_passed T_spider T_treasury T_weight V_hour V_joy V_oil V_passed V_spider V_treasury V_weight X_hour X_joy X_oil X_passed X_spider X_treasury X_weight Y_hour Y_joy Y_oil Y_passed Y_spider Y_treasury Y_weight Z_faultPlace Z_hasImage Z_tapeLength : Int32} {A2_before A2_refused A2_seenHour A2_seenNumber A_before A_refused A_seenHour A_seenNumber B2_call B2_code B2_cost B2_deaf B2_follows B2_joy B2_kind B2_lean B2_ruleFrom B2_ruleTo B_call B_code B_cost B_deaf B_follows B_joy B_kind B_lean B_ruleFrom B_ruleTo C_stack C_values D_call D_code D_cost D_deaf D_follows D_joy D_kind D_lean D_ruleFrom D_ruleTo F_times K_before K_refused K_seenHour K_seenNumber M_asked M_behind M_call M_callTold M_cost M_deaf M_extras M_fits M_imageRow M_kind M_lean M_leanTold M_past M_pastThen M_pleases M_rowSeen M_rowThen M_saidOften M_saids M_seenIn M_seenInThen M_seenSaid M_seenSaidThen M_signsSays M_signsVotes M_stack M_status M_statusThen M_tape M_told R_tape R_waiting S_heard S_unlike T2_call T2_lean T_call T_lean U_prices V_call V_lean X_call X_lean Y_call Y_lean Z_tape : Nat → Int32}
variable {E : zE} {t u : zT} {n ns : Nat} {wo : Int32}
theorem zl_heard {ke : _} {Q : _} (hE : zEok E) (hc : zCls E B_aldermen B_motions B_deaf B_kind B_cost B_joy B_follows B_code B_ruleFrom B_ruleTo) (hn : n ≤ 48) : ∀ (k i fuel b : Nat) (H V S : Nat → Int32) (w : zT), k + i = n → k < fuel → zTb E b w → b + k < 1000000 → (∀ j, zsd E j w = zsd E (i + j) u) → (∀ j, j < i → H j = zsd E j u) → (∀ (H V S : Nat → Int32) (w : zT), (∀ j, j < n → H j = zsd E j u) → zOk (ke H V S w.hour w.oil w.weight w.spider) Q) → zOk (lX6_fitsAll_24 ke B_code B_ruleFrom B_ruleTo (zJ n) fuel H V S w.hour w.oil w.weight w.spider (zJ i)) Q := by
  intro k
  induction k with
  | zero =>
    intro i fuel b H V S w hk hf hu hb hw hH kk
    obtain ⟨fuel, rfl, hf⟩ := zfu hf
    unfold lX6_fitsAll_24
    exact zOk.pos (zJ_yle (by omega) (by omega)) (kk _ _ _ _ (fun j hj => hH j (by omega)))
  | succ k ih =>
    intro i fuel b H V S w hk hf hu hb hw hH kk
    obtain ⟨fuel, rfl, hf⟩ := zfu hf
    unfold lX6_fitsAll_24
    refine zOk.neg (zJ_nle (by omega) (by omega)) (zOk.neg (zJ_nle (a := 48) (by omega) (by omega)) ?_)
    refine zOk.bind (zc_hourU (wo := -1) hE hc hu.h0 hu.ok.oil) (fun o ho => ?_)
    obtain ⟨said, V', S', r⟩ := o
    obtain ⟨h1, h2⟩ := ho
    have h2 : r = _ := h2
    have h1 : said = _ := h1
    subst h2
    subst h1
    dsimp only
    rw [ck_t (zinb (by omega) (by omega)), zJ_ix (by omega), zJ_succ]
    refine ih (i + 1) fuel (b + 1) _ V' S' (zhour E (-1) w) (by omega) (by omega) (hu.step hE (by omega)) (by omega) (fun j => ?_) (fun j hj => ?_) kk
    · have := hw (j + 1)
      rw [show i + (j + 1) = i + 1 + j by omega] at this
      exact this
    · by_cases z : j = i
      · subst z; rw [zupd_eq]; exact hw 0
      · rw [zupd_ne z]; exact hH j (by omega)
theorem zl_match {ka kb : _} {Q : _} {H : Nat → Int32} (h8 : ns ≤ 8) (e : ∀ i, i < ns → (∃ q, 1 ≤ q ∧ q ≤ n ∧ A_seenHour i = zJ q)) (hn : n ≤ 48) (hH : ∀ j, j < n → H j = zsd E j u) : ∀ (k i fuel : Nat), k + i = ns → k < fuel → (zfit E A_seenHour A_seenNumber u i = true) → (zfit E A_seenHour A_seenNumber u ns = false → zOk ka Q) → (zfit E A_seenHour A_seenNumber u ns = true → zOk kb Q) → zOk (lX6_fitsAll_60 ka kb H (zJ ns) A_seenHour A_seenNumber fuel (zJ i)) Q := by
  intro k
  induction k with
  | zero =>
    intro i fuel hk hf hz k1 k2
    obtain ⟨fuel, rfl, hf⟩ := zfu hf
    unfold lX6_fitsAll_60
    rw [show i = ns by omega] at hz ⊢
    exact zOk.pos (zJ_yle (by omega) (by omega)) (k2 hz)
  | succ k ih =>
    intro i fuel hk hf hz k1 k2
    obtain ⟨fuel, rfl, hf⟩ := zfu hf
    unfold lX6_fitsAll_60
    obtain ⟨q, q1, q2, eq⟩ := e i (by omega)
    obtain ⟨q, rfl⟩ : ∃ r, q = r + 1 := ⟨q - 1, by omega⟩
    have i8 : inb (zJ i) 8 = true := zinb (by omega) (by omega)
    refine zOk.neg (zJ_nle (by omega) (by omega)) ?_
    rw [ck_t i8, ck_t i8, zJ_ix (by omega), eq, zJ_pred]
    refine zOk.neg (zJ_nn (by omega)) (zOk.neg (zJ_nle (a := 48) (by omega) (by omega)) ?_)
    rw [ck_t (zinb (by omega) (by omega)), zJ_ix (by omega), hH q (by omega), zJ_succ]
    have ez : zsd E ((A_seenHour i).toNatClampNeg - 1) u = zsd E q u := by rw [eq, zJ_ix (by omega)]; rfl
    refine zOk.ite (fun y => ?_) (fun y => k1 ?_)
    · refine ih (i + 1) fuel (by omega) (by omega) ?_ k1 k2
      unfold zfit
      rw [hz, ez, decide_eq_true y]; rfl
    · cases hf : zfit E A_seenHour A_seenNumber u ns
      · rfl
      · have := (zfit_iff ns).1 hf i (by omega)
        rw [ez] at this; exact absurd this y
theorem zc_fits (hE : zEok E) (hc : zCls E B_aldermen B_motions B_deaf B_kind B_cost B_joy B_follows B_code B_ruleFrom B_ruleTo) (h8 : ns ≤ 8) (hn : n ≤ 48) (e : ∀ i, i < ns → (∃ q, 1 ≤ q ∧ q ≤ n ∧ A_seenHour i = zJ q)) (ht : zTb E 9999 t) {v : Nat} (hv : v ≤ 99) : zOk (fX6_fitsAll S_heard (zJ ns) A_seenHour A_seenNumber C_values C_stack B_code B_ruleFrom B_ruleTo t.hour t.oil t.weight t.spider t.treas t.joy t.passed T_lean T_call Y_hour Y_oil Y_weight Y_spider Y_treasury Y_joy Y_passed Y_lean Y_call (zJ v) (zJ n)) (fun o => o.1 = (if zfit E A_seenHour A_seenNumber (zto t (zJ v)) ns then 1 else 0) ∧ ∀ j, j < n → o.2.1 j = zsd E j (zto t (zJ v))) := by
  unfold fX6_fitsAll
  refine zOk.eq zcopy ?_
  refine zl_heard (u := zto t (zJ v)) hE hc hn n 0 FU 9999 _ _ _ (zto t (zJ v)) (by omega) (by unfold FU; omega) (zto_b ht hv) (by omega) (fun j => by rw [Nat.zero_add]) (fun j hj => by omega) (fun H V S w hH => ?_)
  unfold jX6_fitsAll_58
  refine zl_match h8 e hn hH ns 0 FU (by omega) (by unfold FU; omega) rfl (fun hz => ⟨_, rfl, ?_, hH⟩) (fun hz => ⟨_, rfl, ?_, hH⟩)
  · rw [hz]; rfl
  · rw [hz]; rfl
theorem zc_latest (h8 : ns ≤ 8) (e : ∀ i, i < ns → (∃ q, 1 ≤ q ∧ q ≤ 48 ∧ A_seenHour i = zJ q)) : ∃ n, n ≤ 48 ∧ fX6_latestSeen (zJ ns) A_seenHour = some (zJ n) ∧ ∀ i, i < ns → (∃ q, 1 ≤ q ∧ q ≤ n ∧ A_seenHour i = zJ q) := by
  have loop : ∀ (k i fuel n : Nat), k + i = ns → k < fuel → n ≤ 48 → (∀ j, j < i → (∃ q, 1 ≤ q ∧ q ≤ n ∧ A_seenHour j = zJ q)) → ∃ m, m ≤ 48 ∧ lX6_latestSeen_4 (fun x => some x) (zJ ns) A_seenHour fuel (zJ n) (zJ i) = some (zJ m) ∧ ∀ i, i < ns → (∃ q, 1 ≤ q ∧ q ≤ m ∧ A_seenHour i = zJ q) := by
    intro k
    induction k with
    | zero =>
      intro i fuel n hk hf hn h
      obtain ⟨fuel, rfl, hf⟩ := zfu hf
      unfold lX6_latestSeen_4
      refine ⟨n, hn, if_pos (zJ_yle (by omega) (by omega)), fun j hj => h j (by omega)⟩
    | succ k ih =>
      intro i fuel n hk hf hn h
      obtain ⟨fuel, rfl, hf⟩ := zfu hf
      obtain ⟨q, q1, q2, eq⟩ := e i (by omega)
      have e2 : (if zJ n < A_seenHour i then A_seenHour i else zJ n) = zJ (max n q) := by
        rw [eq]
        by_cases z : n < q
        · rw [if_pos (zJ_ylt z (by omega)), Nat.max_eq_right (by omega)]
        · rw [if_neg (zJ_nlt (by omega) (by omega)), Nat.max_eq_left (by omega)]
      unfold lX6_latestSeen_4
      rw [if_neg (zJ_nle (by omega) (by omega)), ck_t (zinb (by omega) (by omega)), zJ_ix (by omega), e2, zJ_succ]
      exact ih (i + 1) fuel (max n q) (by omega) (by omega) (by omega) (fun j hj => by
        by_cases z : j = i
        · subst z; exact ⟨q, q1, by omega, eq⟩
        · obtain ⟨q', a, b, c⟩ := h j (by omega)
          exact ⟨q', a, by omega, c⟩)
  exact loop ns 0 FU 0 (by omega) (by unfold FU; omega) (by omega) (fun j hj => by omega)
theorem zl_oils {ke : _} {Q : _} (hE : zEok E) (hc : zCls E B_aldermen B_motions B_deaf B_kind B_cost B_joy B_follows B_code B_ruleFrom B_ruleTo) (h8 : ns ≤ 8) (hn : n ≤ 48) (e : ∀ i, i < ns → (∃ q, 1 ≤ q ∧ q ≤ n ∧ A_seenHour i = zJ q)) (ht : zTb E 9999 t) : ∀ (k v fuel c : Nat) (H V S : Nat → Int32) (y1 y2 y3 y4 y5 y6 y7 : Int32) (yl yc : Nat → Int32), k + v = 100 → k < fuel → (∀ (H V S : Nat → Int32) (y1 y2 y3 y4 y5 y6 y7 : Int32) (yl yc : Nat → Int32), zOk (ke H V S y1 y2 y3 y4 y5 y6 y7 yl yc (zJ (c + (zlf (zfo E t ns A_seenHour A_seenNumber) k v).length))) Q) → zOk (lX6_howManyOils_9 ke (zJ ns) A_seenHour A_seenNumber B_code B_ruleFrom B_ruleTo t.hour t.oil t.weight t.spider t.treas t.joy t.passed T_lean T_call (zJ n) fuel H V S y1 y2 y3 y4 y5 y6 y7 yl yc (zJ c) (zJ v)) Q := by
  intro k
  induction k with
  | zero =>
    intro v fuel c H V S y1 y2 y3 y4 y5 y6 y7 yl yc hk hf kk
    obtain ⟨fuel, rfl, hf⟩ := zfu hf
    unfold lX6_howManyOils_9
    exact zOk.pos (zJ_ylt (a := 99) (by omega) (by omega)) (kk _ _ _ _ _ _ _ _ _ _ _ _)
  | succ k ih =>
    intro v fuel c H V S y1 y2 y3 y4 y5 y6 y7 yl yc hk hf kk
    obtain ⟨fuel, rfl, hf⟩ := zfu hf
    unfold lX6_howManyOils_9
    refine zOk.neg (zJ_nlt (a := 99) (by omega) (by omega)) ?_
    have st : zlf (zfo E t ns A_seenHour A_seenNumber) (k + 1) v = if zfo E t ns A_seenHour A_seenNumber v then v :: zlf (zfo E t ns A_seenHour A_seenNumber) k (v + 1) else zlf (zfo E t ns A_seenHour A_seenNumber) k (v + 1) := rfl
    rw [st] at kk
    rw [zJ_succ]
    have no : zfo E t ns A_seenHour A_seenNumber v = false → ∀ H V S y1 y2 y3 y4 y5 y6 y7 yl yc, _ := fun h H V S y1 y2 y3 y4 y5 y6 y7 yl yc => ih (v + 1) fuel c H V S y1 y2 y3 y4 y5 y6 y7 yl yc (by omega) (by omega) (by rw [h] at kk; exact kk)
    refine zOk.ite (fun q => no (by unfold zfo; rw [decide_eq_true q]; rfl) _ _ _ _ _ _ _ _ _ _ _ _) (fun q => ?_)
    refine zOk.bind (zc_fits hE hc h8 hn e ht (v := v) (by omega)) (fun o ho => ?_)
    rw [ho.1]
    have ef : zfo E t ns A_seenHour A_seenNumber v = zfit E A_seenHour A_seenNumber (zto t (zJ v)) ns := by unfold zfo; rw [decide_eq_false q]; rfl
    cases hz : zfit E A_seenHour A_seenNumber (zto t (zJ v)) ns
    · exact zOk.pos rfl (no (by rw [ef, hz]) _ _ _ _ _ _ _ _ _ _ _ _)
    · refine zOk.neg (by decide) ?_
      rw [zJ_succ]
      refine ih (v + 1) fuel (c + 1) _ _ _ _ _ _ _ _ _ _ _ _ (by omega) (by omega) ?_
      rw [ef, hz, if_pos rfl, List.length_cons] at kk
      rw [show c + 1 + (zlf (zfo E t ns A_seenHour A_seenNumber) k (v + 1)).length = c + ((zlf (zfo E t ns A_seenHour A_seenNumber) k (v + 1)).length + 1) by omega]
      exact kk
theorem zl_least {ka kb : _} {Q : _} (hE : zEok E) (hc : zCls E B_aldermen B_motions B_deaf B_kind B_cost B_joy B_follows B_code B_ruleFrom B_ruleTo) (h8 : ns ≤ 8) (hn : n ≤ 48) (e : ∀ i, i < ns → (∃ q, 1 ≤ q ∧ q ≤ n ∧ A_seenHour i = zJ q)) (ht : zTb E 9999 t) : ∀ (k v fuel : Nat) (H V S : Nat → Int32) (y1 y2 y3 y4 y5 y6 y7 : Int32) (yl yc : Nat → Int32), k + v = 100 → k < fuel → (∀ x l, zlf (zfo E t ns A_seenHour A_seenNumber) k v = x :: l → ∀ (H V S : Nat → Int32) (y1 y2 y3 y4 y5 y6 y7 : Int32) (yl yc : Nat → Int32), zOk (ka H V S y1 y2 y3 y4 y5 y6 y7 yl yc (zJ x)) Q) → (zlf (zfo E t ns A_seenHour A_seenNumber) k v = [] → ∀ (H V S : Nat → Int32) (y1 y2 y3 y4 y5 y6 y7 : Int32) (yl yc : Nat → Int32), zOk (kb H V S y1 y2 y3 y4 y5 y6 y7 yl yc) Q) → zOk (lX6_leastOil_7 ka kb (zJ ns) A_seenHour A_seenNumber B_code B_ruleFrom B_ruleTo t.hour t.oil t.weight t.spider t.treas t.joy t.passed T_lean T_call (zJ n) fuel H V S y1 y2 y3 y4 y5 y6 y7 yl yc (zJ v)) Q := by
  intro k
  induction k with
  | zero =>
    intro v fuel H V S y1 y2 y3 y4 y5 y6 y7 yl yc hk hf k1 k2
    obtain ⟨fuel, rfl, hf⟩ := zfu hf
    unfold lX6_leastOil_7
    exact zOk.pos (zJ_ylt (a := 99) (by omega) (by omega)) (k2 rfl _ _ _ _ _ _ _ _ _ _ _ _)
  | succ k ih =>
    intro v fuel H V S y1 y2 y3 y4 y5 y6 y7 yl yc hk hf k1 k2
    obtain ⟨fuel, rfl, hf⟩ := zfu hf
    unfold lX6_leastOil_7
    refine zOk.neg (zJ_nlt (a := 99) (by omega) (by omega)) ?_
    have st : zlf (zfo E t ns A_seenHour A_seenNumber) (k + 1) v = if zfo E t ns A_seenHour A_seenNumber v then v :: zlf (zfo E t ns A_seenHour A_seenNumber) k (v + 1) else zlf (zfo E t ns A_seenHour A_seenNumber) k (v + 1) := rfl
    rw [st] at k1 k2
    rw [zJ_succ]
    have no : zfo E t ns A_seenHour A_seenNumber v = false → ∀ H V S y1 y2 y3 y4 y5 y6 y7 yl yc, _ := fun h H V S y1 y2 y3 y4 y5 y6 y7 yl yc => ih (v + 1) fuel H V S y1 y2 y3 y4 y5 y6 y7 yl yc (by omega) (by omega) (by rw [h] at k1; exact k1) (by rw [h] at k2; exact k2)
    refine zOk.ite (fun q => no (by unfold zfo; rw [decide_eq_true q]; rfl) _ _ _ _ _ _ _ _ _ _ _ _) (fun q => ?_)
    refine zOk.bind (zc_fits hE hc h8 hn e ht (v := v) (by omega)) (fun o ho => ?_)
    rw [ho.1]
    have ef : zfo E t ns A_seenHour A_seenNumber v = zfit E A_seenHour A_seenNumber (zto t (zJ v)) ns := by unfold zfo; rw [decide_eq_false q]; rfl
    cases hz : zfit E A_seenHour A_seenNumber (zto t (zJ v)) ns
    · exact zOk.pos rfl (no (by rw [ef, hz]) _ _ _ _ _ _ _ _ _ _ _ _)
    · refine zOk.neg (by decide) ?_
      rw [ef, hz] at k1
      exact k1 v _ rfl _ _ _ _ _ _ _ _ _ _ _ _
theorem zm_asSeen (hE : zEok E) (hr : zRef E M_told M_deaf M_kind M_cost M_pleases M_behind M_signsSays M_signsVotes) (h8 : ns ≤ 8) {h s : Nat → Int32} (e : ∀ i, i < ns → M_seenIn i = h i ∧ M_seenSaid i = s i ∧ ∃ q, 1 ≤ q ∧ q ≤ 48 ∧ h i = zJ q) (hu : zTb E 9999 u) (hl : ∀ a, a < E.nA → M_lean a = u.lean a) (hcl : ∀ m, m < E.nM → M_call m = u.call m) : zOk (fX9_isAsSeen u.hour u.oil u.weight u.spider u.treas u.joy u.passed (zJ ns) (-1) M_said M_hoarse M_told M_deaf M_kind M_cost M_pleases M_behind M_signsSays M_signsVotes M_lean M_call M_asked M_stack M_seenIn M_seenSaid M_rowSeen) (zQ15 u M_lean M_call (if zfit E h s u ns then 1 else 0)) := by
  unfold fX9_isAsSeen
  refine zOk.bind (zm_pack (n0 := 24) (p := 0) (by omega) (by omega)) (fun P hP => ?_)
  refine zr_seen hE hr h8 48 1 FU 9999 _ _ u _ _ (by omega) (by unfold FU; omega) hu (by omega) hl hcl (fun V S sd ho w => ?_)
  unfold jX9_isAsSeen_82
  refine zOk.bind (zm_unpack (n0 := 24) (p := 0) (by omega) (by omega) hP.1) (fun r hr => ?_)
  obtain ⟨L, C, rfl, hL, hC⟩ := hr
  rw [zsee_fit e, ck_t (by unfold isb; rw [decide_eq_true_eq]; split; exact Or.inr rfl; exact Or.inl rfl)]
  exact zOk.pure ⟨_, _, L, C, V, S, P, rfl, hL, hC⟩
theorem zr_tell {ke : _} {Q : _} (hE : zEok E) (hr : zRef E M_told M_deaf M_kind M_cost M_pleases M_behind M_signsSays M_signsVotes) (h8 : ns ≤ 8) {h s : Nat → Int32} (e : ∀ i, i < ns → M_seenIn i = h i ∧ M_seenSaid i = s i ∧ ∃ q, 1 ≤ q ∧ q ≤ 48 ∧ h i = zJ q) (ht : zTb E 9999 t) (hl : ∀ a, a < E.nA → M_lean a = t.lean a) (hcl : ∀ m, m < E.nM → M_call m = t.call m) : ∀ (k v fuel c : Nat) (o0 sd ho : Int32) (Lx Cx V S R F : Nat → Int32), k + v = 100 → k < fuel → c ≤ v → (∀ a, a < 7 → Lx a = M_lean a) → (∀ m, m < 10 → Cx m = M_call m) → (∀ (o1 sd ho : Int32) (L C V S R G : Nat → Int32), (∀ a, a < 7 → L a = M_lean a) → (∀ m, m < 10 → C m = M_call m) → (∀ j, j < c → G j = F j) → (∀ j x, (zlf (zfo E t ns h s) k v)[j]? = some x → G (c + j) = zJ x) → zOk (ke t.hour o1 t.weight t.spider t.treas t.joy t.passed sd ho (zJ (c + (zlf (zfo E t ns h s) k v).length)) L C V S R G) Q) → zOk (lX9_tellFits_12 ke (zJ ns) (-1) M_told M_deaf M_kind M_cost M_pleases M_behind M_signsSays M_signsVotes M_seenIn M_seenSaid t.oil fuel t.hour o0 t.weight t.spider t.treas t.joy t.passed sd ho (zJ c) Lx Cx V S R F (zJ v)) Q := by
  have h7 := hE.a7
  have h10 := hE.m10
  intro k
  induction k with
  | zero =>
    intro v fuel c o0 sd ho Lx Cx V S R F hk hf hcv hL hC kk
    obtain ⟨fuel, rfl, hf⟩ := zfu hf
    unfold lX9_tellFits_12
    exact zOk.pos (zJ_ylt (a := 99) (by omega) (by omega)) (kk _ _ _ _ _ _ _ _ F hL hC (fun _ _ => rfl) (fun j x hx => absurd hx (by simp [zlf])))
  | succ k ih =>
    intro v fuel c o0 sd ho Lx Cx V S R F hk hf hcv hL hC kk
    obtain ⟨fuel, rfl, hf⟩ := zfu hf
    unfold lX9_tellFits_12
    refine zOk.neg (zJ_nlt (a := 99) (by omega) (by omega)) ?_
    have st : zlf (zfo E t ns h s) (k + 1) v = if zfo E t ns h s v then v :: zlf (zfo E t ns h s) k (v + 1) else zlf (zfo E t ns h s) k (v + 1) := rfl
    rw [st] at kk
    rw [zJ_succ]
    have no : zfo E t ns h s v = false → ∀ o0 sd ho (Lx Cx V S R : Nat → Int32), (∀ a, a < 7 → Lx a = M_lean a) → (∀ m, m < 10 → Cx m = M_call m) → _ := fun h o0 sd ho Lx Cx V S R hL hC => ih (v + 1) fuel c o0 sd ho Lx Cx V S R F (by omega) (by omega) (by omega) hL hC (by rw [h] at kk; exact kk)
    refine zOk.ite (fun q => no (by unfold zfo; rw [decide_eq_true q]; rfl) _ _ _ _ _ _ _ _ hL hC) (fun q => ?_)
    refine zOk.bind (zm_asSeen (u := zto t (zJ v)) hE hr h8 e (zto_b ht (by omega)) (fun a ha => (hL a (by omega)).trans (hl a ha)) (fun m hm => (hC m (by omega)).trans (hcl m hm))) (fun o ho' => ?_)
    obtain ⟨sd', ho', L', C', V', S', P', rfl, hL', hC'⟩ := ho'
    have ef : zfo E t ns h s v = zfit E h s (zto t (zJ v)) ns := by unfold zfo; rw [decide_eq_false q]; rfl
    have hL2 : ∀ a, a < 7 → L' a = M_lean a := fun a ha => (hL' a ha).trans (hL a ha)
    have hC2 : ∀ m, m < 10 → C' m = M_call m := fun m hm => (hC' m hm).trans (hC m hm)
    dsimp only
    cases hz : zfit E h s (zto t (zJ v)) ns
    · exact zOk.pos rfl (no (by rw [ef, hz]) _ _ _ _ _ _ _ _ hL2 hC2)
    · refine zOk.neg (by decide) ?_
      rw [ef, hz, if_pos rfl, List.length_cons] at kk
      rw [ck_t (zinb (by omega) (by omega)), zJ_ix (by omega), zJ_a1]
      refine ih (v + 1) fuel (c + 1) _ _ _ L' C' _ _ _ _ (by omega) (by omega) (by omega) hL2 hC2 (fun o1 sd ho L C V S R G g1 g2 g3 g4 => ?_)
      rw [show c + 1 + (zlf (zfo E t ns h s) k (v + 1)).length = c + ((zlf (zfo E t ns h s) k (v + 1)).length + 1) by omega]
      refine kk o1 sd ho L C V S R G g1 g2 (fun j hj => ?_) (fun j x hx => ?_)
      · rw [g3 j (by omega), zupd_ne (by omega)]
      · cases j with
        | zero =>
          rw [List.getElem?_cons_zero] at hx
          cases hx
          rw [Nat.add_zero, g3 c (by omega), zupd_eq]
        | succ j =>
          rw [List.getElem?_cons_succ] at hx
          rw [show c + (j + 1) = c + 1 + j by omega]
          exact g4 j x hx
theorem zm_tell (hE : zEok E) (hr : zRef E M_told M_deaf M_kind M_cost M_pleases M_behind M_signsSays M_signsVotes) (h8 : ns ≤ 8) {h s : Nat → Int32} (e : ∀ i, i < ns → M_seenIn i = h i ∧ M_seenSaid i = s i ∧ ∃ q, 1 ≤ q ∧ q ≤ 48 ∧ h i = zJ q) (ht : zTb E 9999 t) (hl : ∀ a, a < E.nA → M_lean a = t.lean a) (hcl : ∀ m, m < E.nM → M_call m = t.call m) : zOk (fX9_tellFits t.hour t.oil t.weight t.spider t.treas t.joy t.passed (zJ ns) (-1) M_said M_hoarse M_fitMany M_told M_deaf M_kind M_cost M_pleases M_behind M_signsSays M_signsVotes M_lean M_call M_asked M_stack M_seenIn M_seenSaid M_rowSeen M_fits) (fun o => ∃ (sd ho : Int32) (L C V S R G : Nat → Int32), o = (t.hour, t.oil, t.weight, t.spider, t.treas, t.joy, t.passed, sd, ho, zJ (zlf (zfo E t ns h s) 100 0).length, L, C, V, S, R, G) ∧ (∀ a, a < 7 → L a = M_lean a) ∧ (∀ m, m < 10 → C m = M_call m) ∧ ∀ j x, (zlf (zfo E t ns h s) 100 0)[j]? = some x → G j = zJ x) := by
  unfold fX9_tellFits
  refine zr_tell hE hr h8 e ht hl hcl 100 0 FU 0 _ _ _ _ _ _ _ _ _ (by omega) (by unfold FU; omega) (by omega) (fun _ _ => rfl) (fun _ _ => rfl) (fun o1 sd ho L C V S R G g1 g2 g3 g4 => ?_)
  rw [Nat.zero_add]
  exact zOk.pure ⟨sd, ho, L, C, V, S, R, G, rfl, g1, g2, fun j x hx => by have := g4 j x hx; rwa [Nat.zero_add] at this⟩
end
section
variable {L : Nat} {xs : Nat → Int32} {sc : Nat → Int32} {ar : Nat → Nat → Int32} {O : Nat → Int64} {x4 : Int32}
theorem zst33 (h : zInv sc ar) (hx : inb (x4 + 1) L = true ∧ inb (x4 + 2) L = true ∧ inb (x4 + 3) L = true ∧ inb (x4 + 4) L = true ∧ inb (x4 + 5) L = true) : zOk (st33 L xs sc ar O x4) (fun o => zInv o.1 o.2.1) := by
  obtain ⟨E, t, hI⟩ := h
  have hJ := hI
  obtain ⟨hE, hc, hr, ht, ⟨c1, c2, c3, c4, c5, c6, c7, c8, c9⟩, ⟨m1, m2, m3, m4, m5, m6, m7, m8, m9⟩, hnv, hh, hse, hst, htp, hfp, him, hik⟩ := hI
  have h7 := hE.a7
  have h10 := hE.m10
  unfold st33
  try simp only [ck_t hx.1, ck_t hx.2.1, ck_t hx.2.2.1, ck_t hx.2.2.2.1, ck_t hx.2.2.2.2, c1, c2, c3, c4, c5, c6, c7, m1, m2, m3, m4, m5, m6, m7, hnv]
  generalize xs (x4 + 1).toNatClampNeg = p
  suffices key : ∃ (R : Sum Nat Int32) (a c : Int32), zOk (fX8_fouled (ar 33) (sc 48) (ar 37) (ar 38) (ar 44) (ar 45) (ar 53) (ar 54) (ar 55) t.hour t.oil t.weight t.spider t.treas t.joy t.passed (ar 66) (ar 67) (sc 77) (sc 78) (sc 79) (sc 80) (sc 81) (sc 82) (sc 83) (ar 70) (ar 71) p) (fun v => v.1 = R) ∧ zOk (fX9_fouled (sc 4) t.hour t.oil t.weight t.spider t.treas t.joy t.passed (sc 24) (-1) (sc 26) (sc 27) (sc 28) (ar 1) (ar 3) (ar 4) (ar 6) (ar 7) (ar 8) (ar 9) (ar 10) (ar 13) (ar 14) (ar 16) (ar 17) (ar 21) (ar 22) (ar 23) (ar 24) p) (fun o => ∃ (sd ho fm : Int32) (L C V S R F : Nat → Int32), o = (a, c, t.hour, t.oil, t.weight, t.spider, t.treas, t.joy, t.passed, sd, ho, fm, L, C, V, S, R, F) ∧ (∀ a, a < 7 → L a = ar 13 a) ∧ (∀ m, m < 10 → C m = ar 14 m)) ∧ ((R = Sum.inr a ∧ c = 0) ∨ (R = Sum.inl 1 ∧ c = 1)) by
    obtain ⟨R, a, c, ⟨v, ev, hv⟩, ⟨w, ew, sd, ho, fm, L', C', V, S, P, F, rfl, hL, hC⟩, hR⟩ := key
    rcases hR with ⟨rfl, rfl⟩ | ⟨rfl, rfl⟩
    · obtain ⟨o, eo, h1, h2⟩ : ∃ o, (fL_fouled O (ar 33) (sc 48) (ar 37) (ar 38) (ar 44) (ar 45) (ar 53) (ar 54) (ar 55) t.hour t.oil t.weight t.spider t.treas t.joy t.passed (ar 66) (ar 67) (sc 77) (sc 78) (sc 79) (sc 80) (sc 81) (sc 82) (sc 83) (ar 70) (ar 71) p) = some o ∧ o.1 = 0 ∧ o.2.1 = vp_updL O 0 a.toInt64 := by
        unfold fL_fouled; rw [ev]; show ∃ o, Sum.elim _ _ v.1 = some o ∧ _; rw [hv]; exact ⟨_, rfl, rfl, rfl⟩
      refine zOk.eq eo (zOk.eq ew (zOk.eq rfl (zOk.pos h1.symm (zOk.pos h1 (zOk.pos (by rw [h2]; exact zlgO) (zOk.pure ?_))))))
      exact zInv_q hJ (by repeat' (first | exact zSr0 | refine zSn rfl ?_ | refine zSs (by assumption) ?_)) (by repeat' (first | exact zAr0 | refine zAn rfl rfl rfl ?_ | refine zAn13 hL ?_ | refine zAn14 hC ?_ | refine zAs rfl ?_))
    · obtain ⟨o, eo, h1, h2⟩ : ∃ o, (fL_fouled O (ar 33) (sc 48) (ar 37) (ar 38) (ar 44) (ar 45) (ar 53) (ar 54) (ar 55) t.hour t.oil t.weight t.spider t.treas t.joy t.passed (ar 66) (ar 67) (sc 77) (sc 78) (sc 79) (sc 80) (sc 81) (sc 82) (sc 83) (ar 70) (ar 71) p) = some o ∧ o.1 = 1 ∧ o.2.1 = O := by
        unfold fL_fouled; rw [ev]; show ∃ o, Sum.elim _ _ v.1 = some o ∧ _; rw [hv]; exact ⟨_, rfl, rfl, rfl⟩
      refine zOk.eq eo (zOk.eq ew (zOk.eq rfl (zOk.pos h1.symm (zOk.neg (by rw [h1]; decide) (zOk.pure ?_)))))
      exact zInv_q hJ (by repeat' (first | exact zSr0 | refine zSn rfl ?_ | refine zSs (by assumption) ?_)) (by repeat' (first | exact zAr0 | refine zAn rfl rfl rfl ?_ | refine zAn13 hL ?_ | refine zAn14 hC ?_ | refine zAs rfl ?_))
  obtain ⟨ns, h8, ea, em, hrow⟩ := id hse
  rw [ea, em]
  have e48 : ∀ i, i < ns → (∃ q, 1 ≤ q ∧ q ≤ 48 ∧ ar 37 i = zJ q) := fun i hi => (hrow i hi).2.2.1
  have em' : ∀ i, i < ns → ar 21 i = ar 37 i ∧ ar 22 i = ar 38 i ∧ ∃ q, 1 ≤ q ∧ q ≤ 48 ∧ ar 37 i = zJ q := fun i hi => ⟨(hrow i hi).1, (hrow i hi).2.1, (hrow i hi).2.2.1⟩
  obtain ⟨n, hn, en, e⟩ := zc_latest (A_seenHour := ar 37) h8 e48
  by_cases qw : p < 0 ∨ 2 < p
  · refine ⟨Sum.inl 1, 0, 1, ?_, ?_, Or.inr ⟨rfl, rfl⟩⟩
    · unfold fX8_fouled; exact zOk.eq (zw_no qw) ⟨_, rfl, rfl⟩
    · unfold fX9_fouled; exact zOk.eq (zi_no qw rfl rfl) (zOk.pos rfl ⟨_, rfl, _, _, _, _, _, _, _, _, _, rfl, fun _ _ => rfl, fun _ _ => rfl⟩)
  · by_cases q2 : p = 2
    · refine ⟨Sum.inr _, if zfit E (ar 37) (ar 38) t ns then 1 else 0, 0, ?_, ?_, Or.inl ⟨rfl, rfl⟩⟩
      · unfold fX8_fouled; refine zOk.eq (zw_yes qw) (zOk.inr (zOk.pos q2 ?_))
        obtain ⟨ol, hol, eo⟩ := zof_le (x := t.oil) (k := 99) ht.ok.oil.1 (by omega) ht.ok.oil.2
        have ft := zc_fits (S_heard := ar 33) (A_seenNumber := ar 38) (C_values := ar 44) (C_stack := ar 45) (T_lean := ar 66) (T_call := ar 67) (Y_hour := sc 77) (Y_oil := sc 78) (Y_weight := sc 79) (Y_spider := sc 80) (Y_treasury := sc 81) (Y_joy := sc 82) (Y_passed := sc 83) (Y_lean := ar 70) (Y_call := ar 71) hE hc h8 hn e ht hol
        rw [← eo] at ft
        have iso : zOk (fX6_isSoWithout (ar 33) (zJ ns) (ar 37) (ar 38) (ar 44) (ar 45) (ar 53) (ar 54) (ar 55) t.hour t.oil t.weight t.spider t.treas t.joy t.passed (ar 66) (ar 67) (sc 77) (sc 78) (sc 79) (sc 80) (sc 81) (sc 82) (sc 83) (ar 70) (ar 71)) (fun o => o.1 = if zfit E (ar 37) (ar 38) t ns then 1 else 0) := by
          unfold fX6_isSoWithout
          refine zOk.eq en (zOk.bind ft (fun o ho => ?_))
          have h1 : o.1 = if zfit E (ar 37) (ar 38) t ns then 1 else 0 := ho.1
          rw [ck_t (by unfold isb; rw [h1, decide_eq_true_eq]; split; exact Or.inr rfl; exact Or.inl rfl)]
          exact ⟨_, rfl, h1⟩
        refine zOk.bind iso (fun o ho => ?_)
        rw [ho]
        cases hz : zfit E (ar 37) (ar 38) t ns
        · exact zOk.pos rfl ⟨_, rfl, rfl⟩
        · exact zOk.neg (by decide) ⟨_, rfl, rfl⟩
      · unfold fX9_fouled; refine zOk.eq (zi_yes qw rfl rfl) (zOk.neg (by decide) (zOk.pos q2 ?_))
        refine zOk.bind (zm_asSeen (u := t) hE hr h8 em' ht m8 m9) (fun o ho => ?_)
        obtain ⟨sd, ho, L', C', V, S, P, rfl, hL', hC'⟩ := ho
        dsimp only
        cases hz : zfit E (ar 37) (ar 38) t ns
        · exact zOk.pos rfl ⟨_, rfl, _, _, _, _, _, _, _, _, _, rfl, hL', hC'⟩
        · exact zOk.neg (by decide) ⟨_, rfl, _, _, _, _, _, _, _, _, _, rfl, hL', hC'⟩
    · have tl := zm_tell (t := t) (M_said := sc 26) (M_hoarse := sc 27) (M_fitMany := sc 28) (M_asked := ar 16) (M_stack := ar 17) (M_rowSeen := ar 23) (M_fits := ar 24) hE hr h8 em' ht m8 m9
      have hlen := zlf_len (f := zfo E t ns (ar 37) (ar 38)) 100 0
      refine ⟨Sum.inr _, if p = 0 then zJ (zlf (zfo E t ns (ar 37) (ar 38)) 100 0).length else (match zlf (zfo E t ns (ar 37) (ar 38)) 100 0 with | [] => -1 | x :: _ => zJ x), 0, ?_, ?_, Or.inl ⟨rfl, rfl⟩⟩
      · unfold fX8_fouled; refine zOk.eq (zw_yes qw) (zOk.inr (zOk.neg q2 ?_))
        refine zOk.ite (fun z => ?_) (fun z => ?_)
        · rw [if_pos z]
          have hm : zOk (fX6_howManyOils (ar 33) (zJ ns) (ar 37) (ar 38) (ar 44) (ar 45) (ar 53) (ar 54) (ar 55) t.hour t.oil t.weight t.spider t.treas t.joy t.passed (ar 66) (ar 67) (sc 77) (sc 78) (sc 79) (sc 80) (sc 81) (sc 82) (sc 83) (ar 70) (ar 71)) (fun o => o.1 = zJ (zlf (zfo E t ns (ar 37) (ar 38)) 100 0).length) := by
            unfold fX6_howManyOils
            refine zOk.eq en ?_
            refine zl_oils hE hc h8 hn e ht 100 0 FU 0 _ _ _ _ _ _ _ _ _ _ _ _ (by omega) (by unfold FU; omega) (fun H V S y1 y2 y3 y4 y5 y6 y7 yl yc => ?_)
            rw [Nat.zero_add]
            exact ⟨_, rfl, rfl⟩
          exact zOk.bind hm (fun o ho => ⟨_, rfl, congrArg Sum.inr ho⟩)
        · rw [if_neg z]
          have hm : zOk (fX6_leastOil (ar 33) (zJ ns) (ar 37) (ar 38) (ar 44) (ar 45) (ar 53) (ar 54) (ar 55) t.hour t.oil t.weight t.spider t.treas t.joy t.passed (ar 66) (ar 67) (sc 77) (sc 78) (sc 79) (sc 80) (sc 81) (sc 82) (sc 83) (ar 70) (ar 71)) (fun o => o.1 = (match zlf (zfo E t ns (ar 37) (ar 38)) 100 0 with | [] => -1 | x :: _ => zJ x)) := by
            unfold fX6_leastOil
            refine zOk.eq en ?_
            refine zl_least hE hc h8 hn e ht 100 0 FU _ _ _ _ _ _ _ _ _ _ _ _ (by omega) (by unfold FU; omega) (fun x l hx H V S y1 y2 y3 y4 y5 y6 y7 yl yc => ⟨_, rfl, ?_⟩) (fun hx H V S y1 y2 y3 y4 y5 y6 y7 yl yc => ⟨_, rfl, ?_⟩)
            · rw [hx]
            · rw [hx]
          exact zOk.bind hm (fun o ho => ⟨_, rfl, congrArg Sum.inr ho⟩)
      · unfold fX9_fouled; refine zOk.eq (zi_yes qw rfl rfl) (zOk.neg (by decide) (zOk.neg q2 ?_))
        refine zOk.bind tl (fun o ho => ?_)
        obtain ⟨sd, ho, L', C', V, S, P, G, rfl, hL', hC', hG⟩ := ho
        dsimp only
        refine zOk.ite (fun z => ?_) (fun z => ?_)
        · rw [if_pos z]; exact ⟨_, rfl, _, _, _, _, _, _, _, _, _, rfl, hL', hC'⟩
        · rw [if_neg z]
          generalize hl : zlf (zfo E t ns (ar 37) (ar 38)) 100 0 = l at *
          cases l with
          | nil => exact zOk.pos rfl ⟨_, rfl, _, _, _, _, _, _, _, _, _, rfl, hL', hC'⟩
          | cons x l =>
            refine zOk.neg (fun y => by have := (zJ_inj (b := 0) (by omega) (by omega)).1 y; simp at this) ?_
            rw [ck_t (by decide), show (0 : Int32).toNatClampNeg = 0 from rfl, hG 0 x rfl]
            exact ⟨_, rfl, _, _, _, _, _, _, _, _, _, rfl, hL', hC'⟩
end
