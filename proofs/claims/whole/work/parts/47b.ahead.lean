/-! ===== pure: to oil, the word, held up, years ===== -/
def zuse (E : zE) : Nat → zT → Nat
  | 0, _ => 0
  | n + 1, u => (if zsaid E u = -1 then 0 else 1) + zuse E n (zhour E (-1) u)
theorem zuse_le {E : zE} : ∀ (n : Nat) (u : zT), zuse E n u ≤ n
  | 0, _ => Nat.le_refl _
  | n + 1, u => by
    have := zuse_le (E := E) n (zhour E (-1) u)
    unfold zuse
    split <;> omega
theorem zsilent_use {E : zE} : ∀ (k i : Nat) (u : zT) (s : Nat), zscan E (-1) (fun s _ v => if zsaid E v = -1 then s + 1 else s) k i u (zJ s) = zJ (s + (k - zuse E k u))
  | 0, _, _, s => by show zJ s = zJ (s + (0 - 0)); rw [Nat.sub_zero, Nat.add_zero]
  | k + 1, i, u, s => by
    have hle := zuse_le (E := E) k (zhour E (-1) u)
    show zscan E (-1) (fun s _ v => if zsaid E v = -1 then s + 1 else s) k (i + 1) (zhour E (-1) u) (if zsaid E u = -1 then zJ s + 1 else zJ s) = zJ (s + (k + 1 - ((if zsaid E u = -1 then 0 else 1) + zuse E k (zhour E (-1) u))))
    by_cases q : zsaid E u = -1
    · rw [if_pos q, if_pos q, zJ_succ, zsilent_use k (i + 1) (zhour E (-1) u) (s + 1)]
      congr 1; omega
    · rw [if_neg q, if_neg q, zsilent_use k (i + 1) (zhour E (-1) u) s]
      congr 1; omega
theorem zuse_cong {E : zE} (hE : zEok E) : ∀ (n b : Nat) (u v : zT), zTb E b u → zTb E b v → b + n < 1000000 → u.weight = v.weight → u.spider = v.spider → zuse E n u = zuse E n v
  | 0, _, _, _, _, _, _, _, _ => rfl
  | n + 1, b, u, v, hu, hv, hb, hw, hs => by
    have e : zsaid E u = -1 ↔ zsaid E v = -1 := by rw [zsaid_mut hu.h0, zsaid_mut hv.h0]; unfold zmute; rw [hw, hs]
    have := zuse_cong hE n (b + 1) (zhour E (-1) u) (zhour E (-1) v) (hu.step hE (by omega)) (hv.step hE (by omega)) (by omega) (by rw [zhour_weight, zhour_weight, hw]) (by rw [zhour_spider, zhour_spider, hs])
    show (if zsaid E u = -1 then 0 else 1) + zuse E n (zhour E (-1) u) = (if zsaid E v = -1 then 0 else 1) + zuse E n (zhour E (-1) v)
    rw [this]
    by_cases q : zsaid E u = -1
    · rw [if_pos q, if_pos (e.1 q)]
    · rw [if_neg q, if_neg (fun z => q (e.2 z))]
theorem zclear_use {E : zE} (hE : zEok E) : ∀ (n b : Nat) (u : zT) (v : Nat), zTb E b u → b + n < 1000000 → u.oil = zJ v → v ≤ 99 → zclear E n u = if zuse E n u ≤ v then 1 else 0
  | 0, _, _, v, _, _, _, _ => by show (1 : Int32) = if 0 ≤ v then 1 else 0; rw [if_pos (Nat.zero_le v)]
  | n + 1, b, u, v, hu, hb, ho, hv => by
    have hd : (zdrop E u).oil = if zsaid E u = -1 then u.oil else if u.oil = 0 then u.oil else u.oil - 1 := by unfold zdrop; split <;> rfl
    show (if zhoarse E u = 0 then zclear E n (zhour E (-1) u) else 0) = if (if zsaid E u = -1 then 0 else 1) + zuse E n (zhour E (-1) u) ≤ v then 1 else 0
    have hu' := hu.step (wo := -1) hE (show b + 1 < 1000000 by omega)
    unfold zhoarse
    by_cases q : zsaid E u = -1
    · rw [if_pos q, if_pos rfl, if_pos q, Nat.zero_add]
      exact zclear_use hE n (b + 1) _ v hu' (by omega) (by rw [zhour_oil, hd, if_pos q, ho]) hv
    · rw [if_neg q, if_neg q]
      rw [if_neg q] at hd
      cases v with
      | zero =>
        rw [if_pos (show u.oil = 0 from ho), if_neg (show ¬ (1 : Int32) = 0 by decide), if_neg (by omega)]
      | succ w =>
        have nz0 : ¬ u.oil = 0 := by rw [ho]; exact fun z => by have := (zJ_inj (a := w + 1) (b := 0) (by omega) (by omega)).1 z; omega
        rw [if_neg nz0, if_pos rfl, zclear_use hE n (b + 1) _ w hu' (by omega) (by rw [zhour_oil, hd, if_neg nz0, ho, zJ_pred]) (by omega)]
        by_cases z : zuse E n (zhour E (-1) u) ≤ w
        · rw [if_pos z, if_pos (by omega)]
        · rw [if_neg z, if_neg (by omega)]
def zG38 (D5 : Int32 → Option (Int32 × Int32)) (oil w sp sd x1 : Int32) : Option (Int32 × Int32 × Int32 × Int32) := if x1 = 2 then (D5 sd).bind fun v7 => some (oil, w, v7.1 + (1 : Int32), v7.2) else some (oil, w, sp, sd)
def zG17 (D5 : Int32 → Option (Int32 × Int32)) (oil w sp sd x1 : Int32) : Option (Int32 × Int32 × Int32 × Int32) := if x1 = 1 then zG38 D5 (if (oil + (9 : Int32)) < 99 then (oil + (9 : Int32)) else 99) w sp sd x1 else zG38 D5 oil w sp sd x1
theorem zm_someF (dn dr : Int32 → Int32) (D12 D5 : Int32 → Option (Int32 × Int32)) (h12 : ∀ s, D12 s = some (dn s - dn s / 12 * 12, dr s)) (h5 : ∀ s, D5 s = some (dn s - dn s / 5 * 5, dr s)) (s : Int32) (t : zT) : ((D12 s).bind fun v2 => if v2.1 = 0 then zG17 D5 t.oil 24 t.spider v2.2 v2.1 else zG17 D5 t.oil t.weight t.spider v2.2 v2.1) = some ((zmeetG (dn s) (dn (dr s)) (dr s) (dr (dr s)) t).2.oil, (zmeetG (dn s) (dn (dr s)) (dr s) (dr (dr s)) t).2.weight, (zmeetG (dn s) (dn (dr s)) (dr s) (dr (dr s)) t).2.spider, (zmeetG (dn s) (dn (dr s)) (dr s) (dr (dr s)) t).1) := by
  have h1 := h12 s
  have h2 := h5 (dr s)
  generalize dn (dr s) = d2 at *
  generalize dr (dr s) = s2 at *
  generalize dr s = s1 at *
  generalize dn s = d at *
  rw [h1, Option.bind_some]
  unfold zmeetG zG17 zG38
  rw [h2]
  generalize (d - d / 12 * 12) = x
  generalize (d2 - d2 / 5 * 5) = y
  by_cases q : x = 0
  · subst q; rfl
  · by_cases q1 : x = 1
    · subst q1; rfl
    · by_cases q2 : x = 2
      · subst q2; rfl
      · simp only [if_neg q, if_neg q1, if_neg q2]
/-- the least number that is said most often -/
def zArg (F : Nat → Int32) (b : Int32) : Prop := (b = -1 ∧ ∀ v, v < 25 → (F v).toInt ≤ 0) ∨ ∃ i, i < 25 ∧ b = zJ i ∧ 0 < (F i).toInt ∧ (∀ v, v < 25 → (F v).toInt ≤ (F i).toInt) ∧ ∀ v, v < i → (F v).toInt < (F i).toInt
theorem zArg_uniq {F : Nat → Int32} {b b' : Int32} (h : zArg F b) (h' : zArg F b') : b = b' := by
  rcases h with ⟨e, h⟩ | ⟨i, hi, e, h0, h1, h2⟩
  · rcases h' with ⟨e', h'⟩ | ⟨j, hj, e', g0, g1, g2⟩
    · rw [e, e']
    · have := h j hj; omega
  · rcases h' with ⟨e', h'⟩ | ⟨j, hj, e', g0, g1, g2⟩
    · have := h' i hi; omega
    · rw [e, e']
      have a1 := h1 j hj
      have a2 := g1 i hi
      rcases Nat.lt_trichotomy i j with z | z | z
      · have := g2 i z; omega
      · rw [z]
      · have := h2 j z; omega
theorem zArg_cong {F G : Nat → Int32} {b : Int32} (e : ∀ v, v < 25 → G v = F v) (h : zArg F b) : zArg G b := by
  rcases h with ⟨e', h⟩ | ⟨i, hi, e', h0, h1, h2⟩
  · exact Or.inl ⟨e', fun v hv => by rw [e v hv]; exact h v hv⟩
  · refine Or.inr ⟨i, hi, e', by rw [e i hi]; exact h0, fun v hv => by rw [e v hv, e i hi]; exact h1 v hv, fun v hv => by rw [e v (by omega), e i hi]; exact h2 v hv⟩
theorem zscan_times {E : zE} : ∀ (k i : Nat) (u : zT) (F G : Nat → Int32), (∀ v, v < 25 → F v = G v) → ∀ v, v < 25 → zscan E (-1) (ztimesG E) k i u F v = zscan E (-1) (ztimesG E) k i u G v
  | 0, _, _, _, _, h => h
  | k + 1, i, u, F, G, h => by
    refine zscan_times k (i + 1) (zhour E (-1) u) _ _ (fun v hv => ?_)
    unfold ztimesG
    split
    · exact h v hv
    · by_cases z : v = (zsaid E u).toNatClampNeg
      · subst z; rw [zupd_eq, zupd_eq, h _ hv]
      · rw [zupd_ne z, zupd_ne z, h v hv]
section
variable {A2_acts A2_seen A_acts A_seen B2_aldermen B2_codeLength B2_motions B2_oil B2_treasury B2_weight B_aldermen B_codeLength B_motions B_oil B_treasury B_weight D_aldermen D_codeLength D_motions D_oil D_treasury D_weight F_seed K_acts K_seen M_acts M_actsThen M_at M_bad M_badPlace M_begins M_code M_faultPlace M_fitMany M_hasImage M_hoarse M_hour M_joy M_never M_number M_ofVoting M_oil M_passed M_said M_seedNow M_seen M_seenThen M_size M_spider M_stops M_taped M_token M_treasury M_values M_weight R_clockIsTold R_depth R_digits R_end R_fault R_notMayStand R_nots R_number R_partIsDue R_place R_start R_token R_waits T2_hour T2_joy T2_oil T2_passed T2_spider T2_treasury T2_weight T_hour T_joy T_oil T_passed T_spider T_treasury T_weight V_hour V_joy V_oil V_passed V_spider V_treasury V_weight X_hour X_joy X_oil X_passed X_spider X_treasury X_weight Y_hour Y_joy Y_oil Y_passed Y_spider Y_treasury Y_weight Z_faultPlace Z_hasImage Z_tapeLength : Int32} {A2_before A2_refused A2_seenHour A2_seenNumber A_before A_refused A_seenHour A_seenNumber B2_call B2_code B2_cost B2_deaf B2_follows B2_joy B2_kind B2_lean B2_ruleFrom B2_ruleTo B_call B_code B_cost B_deaf B_follows B_joy B_kind B_lean B_ruleFrom B_ruleTo C_stack C_values D_call D_code D_cost D_deaf D_follows D_joy D_kind D_lean D_ruleFrom D_ruleTo F_times K_before K_refused K_seenHour K_seenNumber M_asked M_behind M_call M_callTold M_cost M_deaf M_extras M_fits M_imageRow M_kind M_lean M_leanTold M_past M_pastThen M_pleases M_rowSeen M_rowThen M_saidOften M_saids M_seenIn M_seenInThen M_seenSaid M_seenSaidThen M_signsSays M_signsVotes M_stack M_status M_statusThen M_tape M_told R_tape R_waiting S_heard S_unlike T2_call T2_lean T_call T_lean U_prices V_call V_lean X_call X_lean Y_call Y_lean Z_tape : Nat → Int32}
variable {E : zE} {t : zT} {n : Nat} {wo : Int32}
theorem zfill {nP : Nat} {x1 : Int32} {P0 : Nat → Int32} (hn : nP < 4000) : ∃ G, fJ7_fill_53178 nP P0 x1 = some G ∧ ∀ j, j < nP → G j = x1 := by
  have loop : ∀ (k i fuel : Nat) (P : Nat → Int32), k + i = nP → k < fuel → (∀ j, j < i → P j = x1) → ∃ G, lJ7_fill_53178_5 (fun P => some P) nP x1 (Int32.ofNat nP) fuel P (zJ i) = some G ∧ ∀ j, j < nP → G j = x1 := by
    intro k
    induction k with
    | zero =>
      intro i fuel P hk hf h
      obtain ⟨fuel, rfl, hf⟩ := zfu hf
      unfold lJ7_fill_53178_5
      rw [if_pos (show Int32.ofNat nP ≤ zJ i from zJ_yle (by omega) (by omega))]
      exact ⟨P, rfl, fun j hj => h j (by omega)⟩
    | succ k ih =>
      intro i fuel P hk hf h
      obtain ⟨fuel, rfl, hf⟩ := zfu hf
      unfold lJ7_fill_53178_5
      rw [if_neg (show ¬ Int32.ofNat nP ≤ zJ i from zJ_nle (by omega) (by omega)), ck_t (zinb (by omega) (by omega)), zJ_ix (by omega), zJ_succ]
      refine ih (i + 1) fuel _ (by omega) (by omega) (fun j hj => ?_)
      by_cases z : j = i
      · subst z; rw [zupd_eq]
      · rw [zupd_ne z]; exact h j (by omega)
  exact loop nP 0 FU _ (by omega) (by unfold FU; omega) (fun j hj => by omega)
theorem zl_most {ke : _} {Q : _} : ∀ (k i fuel : Nat) (x2 x3 : Int32), k + i = 25 → k < fuel → ((x2 = 0 ∧ x3 = -1 ∧ ∀ v, v < i → (F_times v).toInt ≤ 0) ∨ ∃ j, j < i ∧ x3 = zJ j ∧ x2 = F_times j ∧ 0 < (F_times j).toInt ∧ (∀ v, v < i → (F_times v).toInt ≤ (F_times j).toInt) ∧ ∀ v, v < j → (F_times v).toInt < (F_times j).toInt) → (∀ x, zArg F_times x → zOk (ke x) Q) → zOk (lX4_mostSaid_12 ke F_times fuel x2 x3 (zJ i)) Q := by
  intro k
  induction k with
  | zero =>
    intro i fuel x2 x3 hk hf h kk
    obtain ⟨fuel, rfl, hf⟩ := zfu hf
    unfold lX4_mostSaid_12
    refine zOk.pos (zJ_yle (a := 25) (by omega) (by omega)) (kk _ ?_)
    have : i = 25 := by omega
    subst this
    rcases h with ⟨a, b, c⟩ | ⟨j, hj, a, b, c⟩
    · exact Or.inl ⟨b, c⟩
    · exact Or.inr ⟨j, hj, a, c⟩
  | succ k ih =>
    intro i fuel x2 x3 hk hf h kk
    obtain ⟨fuel, rfl, hf⟩ := zfu hf
    unfold lX4_mostSaid_12
    refine zOk.neg (zJ_nle (a := 25) (by omega) (by omega)) ?_
    have hin : inb (zJ i) 25 = true := zinb (by omega) (by omega)
    rw [ck_t hin, ck_t hin, zJ_ix (by omega), zJ_succ]
    refine zOk.ite (fun q => ?_) (fun q => ?_)
    · rw [Int32.le_iff_toInt_le] at q
      refine ih (i + 1) fuel _ _ (by omega) (by omega) ?_ kk
      rcases h with ⟨a, b, c⟩ | ⟨j, hj, a, b, c0, c1, c2⟩
      · subst a
        refine Or.inl ⟨rfl, b, fun v hv => ?_⟩
        by_cases z : v = i
        · subst z; exact q
        · exact c v (by omega)
      · subst b
        refine Or.inr ⟨j, by omega, a, rfl, c0, fun v hv => ?_, c2⟩
        by_cases z : v = i
        · subst z; exact q
        · exact c1 v (by omega)
    · rw [Int32.le_iff_toInt_le] at q
      refine ih (i + 1) fuel _ _ (by omega) (by omega) ?_ kk
      refine Or.inr ⟨i, by omega, rfl, rfl, ?_, fun v hv => ?_, fun v hv => ?_⟩
      · rcases h with ⟨a, b, c⟩ | ⟨j, hj, a, b, c0, c1, c2⟩
        · subst a; have : (0 : Int32).toInt = 0 := rfl; omega
        · subst b; omega
      all_goals rcases h with ⟨a, b, c⟩ | ⟨j, hj, a, b, c0, c1, c2⟩
      · subst a
        have e0 : (0 : Int32).toInt = 0 := rfl
        by_cases z : v = i
        · subst z; omega
        · have := c v (by omega); omega
      · subst b
        by_cases z : v = i
        · subst z; omega
        · have := c1 v (by omega); omega
      · subst a
        have e0 : (0 : Int32).toInt = 0 := rfl
        have := c v (by omega); omega
      · subst b
        have := c1 v (by omega); omega
theorem zr_w25 {ke : _} {Q : _} : ∀ (k i fuel : Nat) (P : Nat → Int32), k + i = 25 → k < fuel → (∀ j, j < i → P j = 0) → (∀ G : Nat → Int32, (∀ j, j < 25 → G j = 0) → zOk (ke G) Q) → zOk (lX9_word_25 ke fuel P (zJ i)) Q := by
  intro k
  induction k with
  | zero =>
    intro i fuel P hk hf h kk
    obtain ⟨fuel, rfl, hf⟩ := zfu hf
    unfold lX9_word_25
    exact zOk.pos (zJ_ylt (a := 24) (by omega) (by omega)) (kk P (fun j hj => h j (by omega)))
  | succ k ih =>
    intro i fuel P hk hf h kk
    obtain ⟨fuel, rfl, hf⟩ := zfu hf
    unfold lX9_word_25
    refine zOk.neg (zJ_nlt (a := 24) (by omega) (by omega)) ?_
    rw [ck_t (zinb (by omega) (by omega)), zJ_ix (by omega), zJ_succ]
    refine ih (i + 1) fuel _ (by omega) (by omega) (fun j hj => ?_) kk
    by_cases z : j = i
    · subst z; rw [zupd_eq]
    · rw [zupd_ne z]; exact h j (by omega)
theorem zr_w105 {ke : _} {Q : _} : ∀ (k fuel : Nat) (x2 : Int32), k ≤ 25 → k < fuel → ((x2 = -1 ∧ ∀ v, k ≤ v → v < 25 → (M_saidOften v).toInt ≤ 0) ∨ ∃ j, k ≤ j ∧ j < 25 ∧ x2 = zJ j ∧ 0 < (M_saidOften j).toInt ∧ (∀ v, k ≤ v → v < 25 → (M_saidOften v).toInt ≤ (M_saidOften j).toInt) ∧ ∀ v, k ≤ v → v < j → (M_saidOften v).toInt < (M_saidOften j).toInt) → (∀ x, zArg M_saidOften x → zOk (ke x) Q) → zOk (lX9_word_105 ke M_saidOften fuel x2 (zJ k - 1)) Q := by
  intro k
  induction k with
  | zero =>
    intro fuel x2 hk hf h kk
    obtain ⟨fuel, rfl, hf⟩ := zfu hf
    unfold lX9_word_105
    refine zOk.pos (by decide) (kk _ ?_)
    rcases h with ⟨a, c⟩ | ⟨j, _, hj, a, c0, c1, c2⟩
    · exact Or.inl ⟨a, fun v hv => c v (by omega) hv⟩
    · exact Or.inr ⟨j, hj, a, c0, fun v hv => c1 v (by omega) hv, fun v hv => c2 v (by omega) hv⟩
  | succ k ih =>
    intro fuel x2 hk hf h kk
    obtain ⟨fuel, rfl, hf⟩ := zfu hf
    unfold lX9_word_105
    rw [zJ_pred]
    refine zOk.neg (zJ_nn (by omega)) ?_
    have hin : inb (zJ k) 25 = true := zinb (by omega) (by omega)
    rw [ck_t hin, ck_t hin, zJ_ix (by omega), show zJ k + (-1 : Int32) = zJ k - 1 by grind]
    refine zOk.ite (fun q => ?_) (fun q => ?_)
    · rw [Int32.le_iff_toInt_le] at q
      have q : (M_saidOften k).toInt ≤ 0 := q
      refine ih fuel _ (by omega) (by omega) ?_ kk
      rcases h with ⟨a, c⟩ | ⟨j, h1, hj, a, c0, c1, c2⟩
      · refine Or.inl ⟨a, fun v hv h5 => ?_⟩
        by_cases z : v = k
        · subst z; exact q
        · exact c v (by omega) h5
      · refine Or.inr ⟨j, by omega, hj, a, c0, fun v hv h5 => ?_, fun v hv h5 => ?_⟩
        · by_cases z : v = k
          · subst z; omega
          · exact c1 v (by omega) h5
        · by_cases z : v = k
          · subst z; omega
          · exact c2 v (by omega) h5
    · rw [Int32.le_iff_toInt_le] at q
      have q : ¬ (M_saidOften k).toInt ≤ 0 := q
      have take : (∀ v, k + 1 ≤ v → v < 25 → (M_saidOften v).toInt ≤ (M_saidOften k).toInt) → zOk (lX9_word_105 ke M_saidOften fuel (zJ k) (zJ k - 1)) Q := by
        intro hm
        refine ih fuel _ (by omega) (by omega) (Or.inr ⟨k, by omega, by omega, rfl, by omega, fun v hv h5 => ?_, fun v hv h5 => by omega⟩) kk
        by_cases z : v = k
        · subst z; omega
        · exact hm v (by omega) h5
      rcases h with ⟨a, c⟩ | ⟨j, h1, hj, a, c0, c1, c2⟩
      · exact zOk.pos a (take (fun v hv h5 => by have := c v hv h5; omega))
      · refine zOk.neg (by rw [a]; exact zJ_nm1 (by omega)) ?_
        have hin2 : inb x2 25 = true := by rw [a]; exact zinb hj (by omega)
        rw [ck_t hin2, a, zJ_ix (by omega)]
        refine zOk.ite (fun y => ?_) (fun y => ?_)
        · rw [Int32.lt_iff_toInt_lt] at y
          refine ih fuel _ (by omega) (by omega) (Or.inr ⟨j, by omega, hj, rfl, c0, fun v hv h5 => ?_, fun v hv h5 => ?_⟩) kk
          · by_cases z : v = k
            · subst z; omega
            · exact c1 v (by omega) h5
          · by_cases z : v = k
            · subst z; omega
            · exact c2 v (by omega) h5
        · rw [Int32.lt_iff_toInt_lt] at y
          exact take (fun v hv h5 => by have := c1 v hv h5; omega)
theorem zm_clear (hE : zEok E) (hr : zRef E M_told M_deaf M_kind M_cost M_pleases M_behind M_signsSays M_signsVotes) (hn : n ≤ 4000) {b : Nat} (hu : zTb E b t) (hb : b + n < 1000000) (hl : ∀ a, a < E.nA → M_lean a = t.lean a) (hcl : ∀ m, m < E.nM → M_call m = t.call m) : zOk (fX9_isClear t.hour t.oil t.weight t.spider t.treas t.joy t.passed (-1) M_said M_hoarse M_told M_deaf M_kind M_cost M_pleases M_behind M_signsSays M_signsVotes M_lean M_call M_asked M_stack M_rowThen (zJ n)) (zQ15 t M_lean M_call (zclear E n t)) := by
  have hcb : isb (zclear E n t) = true := by
    have : ∀ (n : Nat) (t : zT), zclear E n t = 0 ∨ zclear E n t = 1 := by
      intro n
      induction n with
      | zero => intro t; exact Or.inr rfl
      | succ n ih => intro t; unfold zclear; split; exact ih _; exact Or.inl rfl
    unfold isb; rw [decide_eq_true_eq]; exact this n t
  unfold fX9_isClear
  refine zOk.bind (zm_pack (n0 := 24) (p := 0) (by omega) (by omega)) (fun P hP => ?_)
  refine zr_clear hE hr (by omega) n 0 FU b _ _ t _ _ (by omega) (by unfold FU; omega) hu hb hl hcl (fun V S sd ho w => ?_)
  unfold jX9_isClear_45
  refine zOk.bind (zm_unpack (n0 := 24) (p := 0) (by omega) (by omega) hP.1) (fun r hr => ?_)
  obtain ⟨L, C, rfl, hL, hC⟩ := hr
  rw [ck_t hcb]
  exact zOk.pure ⟨_, _, L, C, V, S, P, rfl, hL, hC⟩
theorem zr_toOil {ke : _} {Q : _} (hE : zEok E) (hr : zRef E M_told M_deaf M_kind M_cost M_pleases M_behind M_signsSays M_signsVotes) (hn : n ≤ 96) (hu : zTb E 9999 t) (hl : ∀ a, a < E.nA → M_lean a = t.lean a) (hcl : ∀ m, m < E.nM → M_call m = t.call m) {ol : Nat} : ∀ (k v fuel : Nat) (oil0 M_said M_hoarse : Int32) (Lx Cx M_asked M_stack M_rowThen : Nat → Int32), k + v = 99 → k + 1 < fuel → ol ≤ v → (∀ a, a < 7 → Lx a = M_lean a) → (∀ m, m < 10 → Cx m = M_call m) → (∀ (oil1 sd ho : Int32) (L C V S R : Nat → Int32), (∀ a, a < 7 → L a = M_lean a) → (∀ m, m < 10 → C m = M_call m) → zOk (ke t.hour oil1 t.weight t.spider t.treas t.joy t.passed sd ho L C V S R (zJ (max v (zuse E n t) - ol))) Q) → zOk (lX9_toOil_33 ke (-1) M_told M_deaf M_kind M_cost M_pleases M_behind M_signsSays M_signsVotes (zJ n) (zJ ol) fuel t.hour oil0 t.weight t.spider t.treas t.joy t.passed M_said M_hoarse Lx Cx M_asked M_stack M_rowThen (-1) (zJ v)) Q := by
  have h7 := hE.a7
  have h10 := hE.m10
  have hU : zuse E n t ≤ n := zuse_le n t
  intro k
  induction k with
  | zero =>
    intro v fuel oil0 M_said M_hoarse Lx Cx M_asked M_stack M_rowThen hk hf hov hL hC kk
    obtain ⟨fuel, rfl, hf⟩ := zfu (show 0 < fuel by omega)
    have hu' : zTb E 9999 (zT.mk t.hour (zJ v) t.weight t.spider t.treas t.joy t.passed t.lean t.call) := by
      obtain ⟨⟨a1, a2, a3, a4, a5, a6, a7⟩, b2, b3, b4⟩ := hu
      exact ⟨⟨⟨zJ_yle (a := 0) (by omega) (by omega), zJ_yle (b := 99) (by omega) (by omega)⟩, a2, a3, a4, a5, a6, a7⟩, b2, b3, b4⟩
    have ec : zclear E n (zT.mk t.hour (zJ v) t.weight t.spider t.treas t.joy t.passed t.lean t.call) = if zuse E n t ≤ v then 1 else 0 := by
      rw [zclear_use hE n 9999 _ v hu' (by omega) rfl (by omega), zuse_cong hE n 9999 _ t hu' hu (by omega) rfl rfl]
    unfold lX9_toOil_33
    refine zOk.neg (zJ_nlt (a := 99) (by omega) (by omega)) (zOk.pos rfl ?_)
    refine zOk.bind (zm_clear (t := zT.mk t.hour (zJ v) t.weight t.spider t.treas t.joy t.passed t.lean t.call) hE hr (by omega) hu' (by omega) (fun a ha => (hL a (by omega)).trans (hl a ha)) (fun m hm => (hC m (by omega)).trans (hcl m hm))) (fun o ho => ?_)
    obtain ⟨sd, ho, L', C', V, S, P, rfl, hL', hC'⟩ := ho
    rw [if_pos (show zuse E n t ≤ v by omega)] at ec
    refine zOk.neg (by rw [ec]; show ¬ (1 : Int32) = 0; decide) ?_
    obtain ⟨fuel, rfl, hf⟩ := zfu (show 0 < fuel by omega)
    unfold lX9_toOil_33
    rw [zJ_succ, zJ_sub hov]
    have fin := kk (zJ v) sd ho L' C' V S P (fun a ha => (hL' a ha).trans (hL a ha)) (fun m hm => (hC' m hm).trans (hC m hm))
    rw [Nat.max_eq_left (by omega)] at fin
    exact zOk.pos (zJ_ylt (a := 99) (by omega) (by omega)) fin
  | succ k ih =>
    intro v fuel oil0 M_said M_hoarse Lx Cx M_asked M_stack M_rowThen hk hf hov hL hC kk
    obtain ⟨fuel, rfl, hf⟩ := zfu (show 0 < fuel by omega)
    have hu' : zTb E 9999 (zT.mk t.hour (zJ v) t.weight t.spider t.treas t.joy t.passed t.lean t.call) := by
      obtain ⟨⟨a1, a2, a3, a4, a5, a6, a7⟩, b2, b3, b4⟩ := hu
      exact ⟨⟨⟨zJ_yle (a := 0) (by omega) (by omega), zJ_yle (b := 99) (by omega) (by omega)⟩, a2, a3, a4, a5, a6, a7⟩, b2, b3, b4⟩
    have ec : zclear E n (zT.mk t.hour (zJ v) t.weight t.spider t.treas t.joy t.passed t.lean t.call) = if zuse E n t ≤ v then 1 else 0 := by
      rw [zclear_use hE n 9999 _ v hu' (by omega) rfl (by omega), zuse_cong hE n 9999 _ t hu' hu (by omega) rfl rfl]
    unfold lX9_toOil_33
    refine zOk.neg (zJ_nlt (a := 99) (by omega) (by omega)) (zOk.pos rfl ?_)
    refine zOk.bind (zm_clear (t := zT.mk t.hour (zJ v) t.weight t.spider t.treas t.joy t.passed t.lean t.call) hE hr (by omega) hu' (by omega) (fun a ha => (hL a (by omega)).trans (hl a ha)) (fun m hm => (hC m (by omega)).trans (hcl m hm))) (fun o ho => ?_)
    obtain ⟨sd, ho, L', C', V, S, P, rfl, hL', hC'⟩ := ho
    by_cases q : zuse E n t ≤ v
    · rw [if_pos q] at ec
      refine zOk.neg (by rw [ec]; show ¬ (1 : Int32) = 0; decide) ?_
      obtain ⟨fuel, rfl, hf⟩ := zfu (show 0 < fuel by omega)
      unfold lX9_toOil_33
      rw [zJ_succ, zJ_sub hov]
      have fin := kk (zJ v) sd ho L' C' V S P (fun a ha => (hL' a ha).trans (hL a ha)) (fun m hm => (hC' m hm).trans (hC m hm))
      rw [Nat.max_eq_left q] at fin
      exact zOk.ite (fun _ => fin) (fun _ => zOk.neg (zJ_nm1 (by omega)) fin)
    · rw [if_neg q] at ec
      refine zOk.pos ec ?_
      rw [zJ_succ]
      refine ih (v + 1) fuel _ _ _ L' C' _ _ _ (by omega) (by omega) (by omega) (fun a ha => (hL' a ha).trans (hL a ha)) (fun m hm => (hC' m hm).trans (hC m hm)) (fun oil1 sd ho L C V S R h1 h2 => ?_)
      have fin := kk oil1 sd ho L C V S R h1 h2
      rw [Nat.max_eq_right (by omega)] at fin
      rw [Nat.max_eq_right (by omega)]
      exact fin
theorem zm_some {s : Int32} : fX9_something t.oil t.weight t.spider s = some ((zmeet s t).2.oil, (zmeet s t).2.weight, (zmeet s t).2.spider, (zmeet s t).1) := by
  unfold fX9_something zmeet
  exact zm_someF zdrawn zdraw (fun s => fX9_drawOf s 12) (fun s => fX9_drawOf s 5) (fun s => by unfold fX9_drawOf; rw [ck_t (by decide)]; rfl) (fun s => by unfold fX9_drawOf; rw [ck_t (by decide)]; rfl) s t
theorem zr_years {ke : _} {Q : _} {mt : Int32 → zT → Int32 × zT} (hmt : zMt E mt) (hmr : ∀ s (t : zT), fX9_something t.oil t.weight t.spider s = some ((mt s t).2.oil, (mt s t).2.weight, (mt s t).2.spider, (mt s t).1)) (hE : zEok E) (hr : zRef E M_told M_deaf M_kind M_cost M_pleases M_behind M_signsSays M_signsVotes) (hn : n < 2147483647) : ∀ (k i fuel b : Nat) (M_asked M_stack : Nat → Int32) (u : zT) (M_said M_hoarse sd x4 : Int32), k + i = n → k < fuel → zTb E b u → b + k < 1000000 → (∀ a, a < E.nA → M_lean a = u.lean a) → (∀ m, m < E.nM → M_call m = u.call m) → (∀ (M_asked M_stack : Nat → Int32) (M_said M_hoarse M_seedNow : Int32), zOk (ke ((zyearsG E mt k sd u x4).2).hour ((zyearsG E mt k sd u x4).2).oil ((zyearsG E mt k sd u x4).2).weight ((zyearsG E mt k sd u x4).2).spider ((zyearsG E mt k sd u x4).2).treas ((zyearsG E mt k sd u x4).2).joy ((zyearsG E mt k sd u x4).2).passed M_said M_hoarse M_seedNow M_asked M_stack ((zyearsG E mt k sd u x4).1)) Q) → zOk (lX9_years_61 ke (-1) M_told M_deaf M_kind M_cost M_pleases M_behind M_signsSays M_signsVotes M_lean M_call (zJ n) fuel u.hour u.oil u.weight u.spider u.treas u.joy u.passed M_said M_hoarse sd M_asked M_stack x4 (zJ i)) Q := by
  intro k
  induction k with
  | zero =>
    intro i fuel b M_asked M_stack u M_said M_hoarse sd x4 hk hf hu hb hl hcl kk
    obtain ⟨fuel, rfl, hf⟩ := zfu hf
    unfold lX9_years_61
    exact zOk.pos (zJ_yle (by omega) (by omega)) (kk _ _ _ _ _)
  | succ k ih =>
    intro i fuel b M_asked M_stack u M_said M_hoarse sd x4 hk hf hu hb hl hcl kk
    obtain ⟨fuel, rfl, hf⟩ := zfu hf
    unfold lX9_years_61
    refine zOk.neg (zJ_nle (by omega) (by omega)) ?_
    refine zOk.eq (hmr sd u) ?_
    have e := hmt.kp sd u
    have hu' : zTb E b (mt sd u).2 := ⟨hmt.ok _ _ hu.ok, by rw [e.1]; exact hu.h0, by rw [e.1]; exact hu.hb, hu.b6⟩
    dsimp only
    rw [← e.1, ← e.2.1, ← e.2.2.1, ← e.2.2.2.1]
    have kk' := fun V S sd' ho x4 => ih (i + 1) fuel (b + 1) V S (zhour E (-1) (mt sd u).2) sd' ho (mt sd u).1 x4 (by omega) (by omega) (hu'.step hE (by omega)) (by omega) (by rw [zhour_lean, e.2.2.2.2.1]; exact hl) (by rw [zhour_call, e.2.2.2.2.2]; exact hcl)
    have e3 : zyearsG E mt (k + 1) sd u x4 = zyearsG E mt k (mt sd u).1 (zhour E (-1) (mt sd u).2) (if zsaid E (mt sd u).2 = -1 then x4 + 1 else x4) := rfl
    rw [e3] at kk
    generalize mt sd u = w at *
    refine zOk.bind (zm_hour hE hr hu'.ok hu'.h0 (by rw [e.2.2.2.2.1]; exact hl) (by rw [e.2.2.2.2.2]; exact hcl)) (fun o ho => ?_)
    obtain ⟨V, S, rfl⟩ := ho
    dsimp only
    rw [zJ_succ, Int32.add_zero]
    refine zOk.ite (fun q => kk' _ _ _ _ _ ?_) (fun q => kk' _ _ _ _ _ ?_)
    · rw [if_pos q] at kk; exact kk
    · rw [if_neg q] at kk; exact kk
end
