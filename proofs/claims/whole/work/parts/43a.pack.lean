/-! ===== pure: a town laid into a row, and taken out of it ===== -/
theorem zupd_eq {f : Nat → Int32} {k : Nat} {v : Int32} : upd f k v k = v := by unfold upd; rw [if_pos rfl]
theorem zupd_ne {f : Nat → Int32} {k j : Nat} {v : Int32} (h : j ≠ k) : upd f k v j = f j := by unfold upd; rw [if_neg h]
abbrev zPk (P : Nat → Int32) (p : Nat) (h o w s tr jo pa : Int32) (lean call : Nat → Int32) : Prop :=
  P p = h ∧ P (p + 1) = o ∧ P (p + 2) = w ∧ P (p + 3) = s ∧ P (p + 4) = tr ∧ P (p + 5) = jo ∧ P (p + 6) = pa ∧ (∀ a, a < 7 → P (p + 7 + a) = lean a) ∧ (∀ m, m < 10 → P (p + 14 + m) = call m)
theorem zJ_a1 {a : Nat} : zJ a + (1 : Int32) = zJ (a + 1) := zJ_add
theorem zJ_a2 {a : Nat} : zJ a + (2 : Int32) = zJ (a + 2) := zJ_add
theorem zJ_a3 {a : Nat} : zJ a + (3 : Int32) = zJ (a + 3) := zJ_add
theorem zJ_a4 {a : Nat} : zJ a + (4 : Int32) = zJ (a + 4) := zJ_add
theorem zJ_a5 {a : Nat} : zJ a + (5 : Int32) = zJ (a + 5) := zJ_add
theorem zJ_a6 {a : Nat} : zJ a + (6 : Int32) = zJ (a + 6) := zJ_add
theorem zJ_a7 {a : Nat} : zJ a + (7 : Int32) = zJ (a + 7) := zJ_add
section
variable {A2_acts A2_seen A_acts A_seen B2_aldermen B2_codeLength B2_motions B2_oil B2_treasury B2_weight B_aldermen B_codeLength B_motions B_oil B_treasury B_weight D_aldermen D_codeLength D_motions D_oil D_treasury D_weight F_seed K_acts K_seen M_acts M_actsThen M_at M_bad M_badPlace M_begins M_code M_faultPlace M_fitMany M_hasImage M_hoarse M_hour M_joy M_never M_number M_ofVoting M_oil M_passed M_said M_seedNow M_seen M_seenThen M_size M_spider M_stops M_taped M_token M_treasury M_values M_weight R_clockIsTold R_depth R_digits R_end R_fault R_notMayStand R_nots R_number R_partIsDue R_place R_start R_token R_waits T2_hour T2_joy T2_oil T2_passed T2_spider T2_treasury T2_weight T_hour T_joy T_oil T_passed T_spider T_treasury T_weight V_hour V_joy V_oil V_passed V_spider V_treasury V_weight X_hour X_joy X_oil X_passed X_spider X_treasury X_weight Y_hour Y_joy Y_oil Y_passed Y_spider Y_treasury Y_weight Z_faultPlace Z_hasImage Z_tapeLength : Int32} {A2_before A2_refused A2_seenHour A2_seenNumber A_before A_refused A_seenHour A_seenNumber B2_call B2_code B2_cost B2_deaf B2_follows B2_joy B2_kind B2_lean B2_ruleFrom B2_ruleTo B_call B_code B_cost B_deaf B_follows B_joy B_kind B_lean B_ruleFrom B_ruleTo C_stack C_values D_call D_code D_cost D_deaf D_follows D_joy D_kind D_lean D_ruleFrom D_ruleTo F_times K_before K_refused K_seenHour K_seenNumber M_asked M_behind M_call M_callTold M_cost M_deaf M_extras M_fits M_imageRow M_kind M_lean M_leanTold M_past M_pastThen M_pleases M_rowSeen M_rowThen M_saidOften M_saids M_seenIn M_seenInThen M_seenSaid M_seenSaidThen M_signsSays M_signsVotes M_stack M_status M_statusThen M_tape M_told R_tape R_waiting S_heard S_unlike T2_call T2_lean T_call T_lean U_prices V_call V_lean X_call X_lean Y_call Y_lean Z_tape : Nat → Int32}
variable {n0 p : Nat} {h o w s tr jo pa : Int32} {lean call P : Nat → Int32}
theorem zl_pack64 {ke : _} {Q : _} (hp : p + 24 ≤ n0) (hn : n0 ≤ 2147483647) : ∀ (k i fuel : Nat) (P : Nat → Int32), k + i = 7 → k < fuel → (∀ P', (∀ a, i ≤ a → a < 7 → P' (p + 7 + a) = lean a) → (∀ j, (j < p + 7 + i ∨ p + 14 ≤ j) → P' j = P j) → zOk (ke P') Q) → zOk (lX9_pack_64 ke n0 lean (zJ p) fuel P (zJ i)) Q := by
  intro k
  induction k with
  | zero =>
    intro i fuel P hk hf kk
    obtain ⟨fuel, rfl, hf⟩ := zfu hf
    unfold lX9_pack_64
    exact zOk.pos (zJ_yle (a := 7) (by omega) (by omega)) (kk P (fun a h1 h2 => by omega) (fun j _ => rfl))
  | succ k ih =>
    intro i fuel P hk hf kk
    obtain ⟨fuel, rfl, hf⟩ := zfu hf
    unfold lX9_pack_64
    refine zOk.neg (zJ_nle (a := 7) (by omega) (by omega)) ?_
    rw [zJ_a7, zJ_add, ck_t (zinb (by omega) (by omega)), ck_t (zinb (by omega) (by omega)), zJ_ix (by omega), zJ_ix (by omega), zJ_succ]
    refine ih (i + 1) fuel _ (by omega) (by omega) (fun P' h1 h2 => kk P' (fun a ha hb => ?_) (fun j hj => ?_))
    · by_cases q : a = i
      · subst q
        rw [h2 _ (by omega), zupd_eq]
      · exact h1 a (by omega) hb
    · rw [h2 _ (by omega), zupd_ne (by omega)]
theorem zl_pack92 {ke : _} {Q : _} (hp : p + 24 ≤ n0) (hn : n0 ≤ 2147483647) : ∀ (k i fuel : Nat) (P : Nat → Int32), k + i = 10 → k < fuel → (∀ P', (∀ a, i ≤ a → a < 10 → P' (p + 14 + a) = call a) → (∀ j, (j < p + 14 + i ∨ p + 24 ≤ j) → P' j = P j) → zOk (ke P') Q) → zOk (lX9_pack_92 ke n0 call (zJ p) fuel P (zJ i)) Q := by
  intro k
  induction k with
  | zero =>
    intro i fuel P hk hf kk
    obtain ⟨fuel, rfl, hf⟩ := zfu hf
    unfold lX9_pack_92
    exact zOk.pos (zJ_yle (a := 10) (by omega) (by omega)) (kk P (fun a h1 h2 => by omega) (fun j _ => rfl))
  | succ k ih =>
    intro i fuel P hk hf kk
    obtain ⟨fuel, rfl, hf⟩ := zfu hf
    unfold lX9_pack_92
    refine zOk.neg (zJ_nle (a := 10) (by omega) (by omega)) ?_
    rw [zJ_a7, zJ_a7, zJ_add, ck_t (zinb (by omega) (by omega)), ck_t (zinb (by omega) (by omega)), zJ_ix (by omega), zJ_ix (by omega), zJ_succ]
    refine ih (i + 1) fuel _ (by omega) (by omega) (fun P' h1 h2 => kk P' (fun a ha hb => ?_) (fun j hj => ?_))
    · by_cases q : a = i
      · subst q
        rw [show p + 14 + a = p + 7 + 7 + a by omega] at *
        rw [h2 _ (by omega), zupd_eq]
      · exact h1 a (by omega) hb
    · rw [h2 _ (by omega), zupd_ne (by omega)]
theorem zm_pack (hp : p + 24 ≤ n0) (hn : n0 ≤ 2147483647) : zOk (fX9_pack n0 h o w s tr jo pa lean call P (zJ p)) (fun P' => zPk P' p h o w s tr jo pa lean call ∧ ∀ j, (j < p ∨ p + 24 ≤ j) → P' j = P j) := by
  unfold fX9_pack
  simp only [zJ_a1, zJ_a2, zJ_a3, zJ_a4, zJ_a5, zJ_a6]
  rw [ck_t (zinb (by omega) (by omega)), ck_t (zinb (by omega) (by omega)), ck_t (zinb (by omega) (by omega)), ck_t (zinb (by omega) (by omega)), ck_t (zinb (by omega) (by omega)), ck_t (zinb (by omega) (by omega)), ck_t (zinb (by omega) (by omega)), zJ_ix (show p < 2147483648 by omega), zJ_ix (show p + 1 < 2147483648 by omega), zJ_ix (show p + 2 < 2147483648 by omega), zJ_ix (show p + 3 < 2147483648 by omega), zJ_ix (show p + 4 < 2147483648 by omega), zJ_ix (show p + 5 < 2147483648 by omega), zJ_ix (show p + 6 < 2147483648 by omega)]
  refine zl_pack64 hp hn 7 0 FU _ (by omega) (by unfold FU; omega) (fun P1 a1 a2 => ?_)
  refine zl_pack92 hp hn 10 0 FU _ (by omega) (by unfold FU; omega) (fun P2 b1 b2 => zOk.pure ?_)
  refine ⟨⟨?_, ?_, ?_, ?_, ?_, ?_, ?_, fun a ha => ?_, fun m hm => b1 m (by omega) hm⟩, fun j hj => ?_⟩
  all_goals first
    | (rw [b2 _ (by omega), a1 _ (by omega) ha])
    | (rw [b2 _ (by omega), a2 _ (by omega)]; simp (disch := omega) only [zupd_eq, zupd_ne, ne_eq])
theorem zl_unpack64 {ke : _} {Q : _} (hp : p + 24 ≤ n0) (hn : n0 ≤ 2147483647) : ∀ (k i fuel : Nat) (L : Nat → Int32), k + i = 7 → k < fuel → (∀ L', (∀ a, i ≤ a → a < 7 → L' a = P (p + 7 + a)) → (∀ j, j < i → L' j = L j) → zOk (ke L') Q) → zOk (lX9_unpack_64 ke n0 P (zJ p) fuel L (zJ i)) Q := by
  intro k
  induction k with
  | zero =>
    intro i fuel L hk hf kk
    obtain ⟨fuel, rfl, hf⟩ := zfu hf
    unfold lX9_unpack_64
    exact zOk.pos (zJ_yle (a := 7) (by omega) (by omega)) (kk L (fun a h1 h2 => by omega) (fun j _ => rfl))
  | succ k ih =>
    intro i fuel L hk hf kk
    obtain ⟨fuel, rfl, hf⟩ := zfu hf
    unfold lX9_unpack_64
    refine zOk.neg (zJ_nle (a := 7) (by omega) (by omega)) ?_
    rw [zJ_a7, zJ_add, ck_t (zinb (by omega) (by omega)), ck_t (zinb (by omega) (by omega)), zJ_ix (by omega), zJ_ix (by omega), zJ_succ]
    refine ih (i + 1) fuel _ (by omega) (by omega) (fun L' h1 h2 => kk L' (fun a ha hb => ?_) (fun j hj => ?_))
    · by_cases q : a = i
      · subst q
        rw [h2 _ (by omega), zupd_eq]
      · exact h1 a (by omega) hb
    · rw [h2 _ (by omega), zupd_ne (by omega)]
theorem zl_unpack92 {ke : _} {Q : _} (hp : p + 24 ≤ n0) (hn : n0 ≤ 2147483647) : ∀ (k i fuel : Nat) (L : Nat → Int32), k + i = 10 → k < fuel → (∀ L', (∀ a, i ≤ a → a < 10 → L' a = P (p + 14 + a)) → (∀ j, j < i → L' j = L j) → zOk (ke L') Q) → zOk (lX9_unpack_92 ke n0 P (zJ p) fuel L (zJ i)) Q := by
  intro k
  induction k with
  | zero =>
    intro i fuel L hk hf kk
    obtain ⟨fuel, rfl, hf⟩ := zfu hf
    unfold lX9_unpack_92
    exact zOk.pos (zJ_yle (a := 10) (by omega) (by omega)) (kk L (fun a h1 h2 => by omega) (fun j _ => rfl))
  | succ k ih =>
    intro i fuel L hk hf kk
    obtain ⟨fuel, rfl, hf⟩ := zfu hf
    unfold lX9_unpack_92
    refine zOk.neg (zJ_nle (a := 10) (by omega) (by omega)) ?_
    rw [zJ_a7, zJ_a7, zJ_add, ck_t (zinb (by omega) (by omega)), ck_t (zinb (by omega) (by omega)), zJ_ix (by omega), zJ_ix (by omega), zJ_succ]
    refine ih (i + 1) fuel _ (by omega) (by omega) (fun L' h1 h2 => kk L' (fun a ha hb => ?_) (fun j hj => ?_))
    · by_cases q : a = i
      · subst q
        rw [h2 _ (by omega), zupd_eq]
      · exact h1 a (by omega) hb
    · rw [h2 _ (by omega), zupd_ne (by omega)]
theorem zm_unpack {h' o' w' s' tr' jo' pa' : Int32} {lean' call' : Nat → Int32} (hp : p + 24 ≤ n0) (hn : n0 ≤ 2147483647) (hP : zPk P p h o w s tr jo pa lean call) : zOk (fX9_unpack n0 h' o' w' s' tr' jo' pa' lean' call' P (zJ p)) (fun r => ∃ L C, r = (h, o, w, s, tr, jo, pa, L, C) ∧ (∀ a, a < 7 → L a = lean a) ∧ (∀ m, m < 10 → C m = call m)) := by
  obtain ⟨e0, e1, e2, e3, e4, e5, e6, e7, e8⟩ := hP
  unfold fX9_unpack
  simp only [zJ_a1, zJ_a2, zJ_a3, zJ_a4, zJ_a5, zJ_a6]
  rw [ck_t (zinb (by omega) (by omega)), ck_t (zinb (by omega) (by omega)), ck_t (zinb (by omega) (by omega)), ck_t (zinb (by omega) (by omega)), ck_t (zinb (by omega) (by omega)), ck_t (zinb (by omega) (by omega)), ck_t (zinb (by omega) (by omega)), zJ_ix (show p < 2147483648 by omega), zJ_ix (show p + 1 < 2147483648 by omega), zJ_ix (show p + 2 < 2147483648 by omega), zJ_ix (show p + 3 < 2147483648 by omega), zJ_ix (show p + 4 < 2147483648 by omega), zJ_ix (show p + 5 < 2147483648 by omega), zJ_ix (show p + 6 < 2147483648 by omega), e0, e1, e2, e3, e4, e5, e6]
  refine zl_unpack64 hp hn 7 0 FU _ (by omega) (by unfold FU; omega) (fun L a1 a2 => ?_)
  refine zl_unpack92 hp hn 10 0 FU _ (by omega) (by unfold FU; omega) (fun C b1 b2 => zOk.pure ⟨L, C, rfl, fun a ha => (a1 a (by omega) ha).trans (e7 a ha), fun m hm => (b1 m (by omega) hm).trans (e8 m hm)⟩)
end
