/-! ===== pure: where to listen next ===== -/
def zorl (E : zE) (t : zT) (i : Nat) : List Nat → Int32 → Int32
  | [], s => s
  | x :: l, s => zorl E t i l (s ||| ((1 : Int32) <<< ((zsd E i (zto t (zJ x)) + (1 : Int32)) &&& 31)))
theorem zorl_orb {E : zE} {t : zT} {i : Nat} {f : Nat → Int32} : ∀ (l : List Nat) (c : Nat), (∀ j x, l[j]? = some x → f (c + j) = zsd E i (zto t (zJ x))) → zorl E t i l (zorb f c) = zorb f (c + l.length)
  | [], c, _ => rfl
  | x :: l, c, h => by
    have h0 := h 0 x rfl
    rw [Nat.add_zero] at h0
    show zorl E t i l (zorb f c ||| ((1 : Int32) <<< ((zsd E i (zto t (zJ x)) + (1 : Int32)) &&& 31))) = _
    rw [← h0]
    show zorl E t i l (zorb f (c + 1)) = _
    rw [zorl_orb l (c + 1) (fun j y hy => by rw [show c + 1 + j = c + (j + 1) by omega]; exact h (j + 1) y hy), List.length_cons]
    congr 1; omega
def zmx (D : Nat → Int32) : Nat → Nat → Int32 × Int32 → Int32 × Int32
  | 0, _, s => s
  | k + 1, i, s => zmx D k (i + 1) (if D i ≤ s.1 then s else (D i, zJ i + 1))
theorem zmx_cong {D D' : Nat → Int32} : ∀ (k i : Nat) (s : Int32 × Int32), (∀ j, i ≤ j → j < i + k → D j = D' j) → zmx D k i s = zmx D' k i s
  | 0, _, _, _ => rfl
  | k + 1, i, s, h => by
    show zmx D k (i + 1) (if D i ≤ s.1 then s else (D i, zJ i + 1)) = zmx D' k (i + 1) (if D' i ≤ s.1 then s else (D' i, zJ i + 1))
    rw [h i (by omega) (by omega)]
    exact zmx_cong k (i + 1) _ (fun j h1 h2 => h j (by omega) (by omega))
section
variable {A2_acts A2_seen A_acts A_seen B2_aldermen B2_codeLength B2_motions B2_oil B2_treasury B2_weight B_aldermen B_codeLength B_motions B_oil B_treasury B_weight D_aldermen D_codeLength D_motions D_oil D_treasury D_weight F_seed K_acts K_seen M_acts M_actsThen M_at M_bad M_badPlace M_begins M_code M_faultPlace M_fitMany M_hasImage M_hoarse M_hour M_joy M_never M_number M_ofVoting M_oil M_passed M_said M_seedNow M_seen M_seenThen M_size M_spider M_stops M_taped M_token M_treasury M_values M_weight R_clockIsTold R_depth R_digits R_end R_fault R_notMayStand R_nots R_number R_partIsDue R_place R_start R_token R_waits T2_hour T2_joy T2_oil T2_passed T2_spider T2_treasury T2_weight T_hour T_joy T_oil T_passed T_spider T_treasury T_weight V_hour V_joy V_oil V_passed V_spider V_treasury V_weight X_hour X_joy X_oil X_passed X_spider X_treasury X_weight Y_hour Y_joy Y_oil Y_passed Y_spider Y_treasury Y_weight Z_faultPlace Z_hasImage Z_tapeLength : Int32} {A2_before A2_refused A2_seenHour A2_seenNumber A_before A_refused A_seenHour A_seenNumber B2_call B2_code B2_cost B2_deaf B2_follows B2_joy B2_kind B2_lean B2_ruleFrom B2_ruleTo B_call B_code B_cost B_deaf B_follows B_joy B_kind B_lean B_ruleFrom B_ruleTo C_stack C_values D_call D_code D_cost D_deaf D_follows D_joy D_kind D_lean D_ruleFrom D_ruleTo F_times K_before K_refused K_seenHour K_seenNumber M_asked M_behind M_call M_callTold M_cost M_deaf M_extras M_fits M_imageRow M_kind M_lean M_leanTold M_past M_pastThen M_pleases M_rowSeen M_rowThen M_saidOften M_saids M_seenIn M_seenInThen M_seenSaid M_seenSaidThen M_signsSays M_signsVotes M_stack M_status M_statusThen M_tape M_told R_tape R_waiting S_heard S_unlike T2_call T2_lean T_call T_lean U_prices V_call V_lean X_call X_lean Y_call Y_lean Z_tape : Nat → Int32}
variable {E : zE} {t u : zT} {n ns : Nat} {wo : Int32}
theorem zl_addH {ke : (Nat → Int32) → Option (Nat → Int32)} : ∀ (k i fuel : Nat) (U : Nat → Int32), k + i = 48 → k < fuel → ∃ U', lX6_addHeard_2 ke S_heard fuel U (zJ i) = ke U' ∧ (∀ j, i ≤ j → j < 48 → U' j = U j ||| ((1 : Int32) <<< ((S_heard j + (1 : Int32)) &&& 31))) ∧ (∀ j, j < i → U' j = U j) := by
  intro k
  induction k with
  | zero =>
    intro i fuel U hk hf
    obtain ⟨fuel, rfl, hf⟩ := zfu hf
    unfold lX6_addHeard_2
    exact ⟨U, if_pos (zJ_yle (a := 48) (by omega) (by omega)), fun j h1 h2 => by omega, fun j _ => rfl⟩
  | succ k ih =>
    intro i fuel U hk hf
    obtain ⟨fuel, rfl, hf⟩ := zfu hf
    unfold lX6_addHeard_2
    have im : inb (zJ i) 48 = true := zinb (by omega) (by omega)
    rw [if_neg (show ¬ (48 : Int32) ≤ zJ i from zJ_nle (a := 48) (by omega) (by omega)), ck_t im, ck_t im, ck_t im, zJ_ix (by omega), zJ_succ]
    obtain ⟨U', e, h1, h2⟩ := ih (i + 1) fuel (upd U i (U i ||| ((1 : Int32) <<< ((S_heard i + (1 : Int32)) &&& 31)))) (by omega) (by omega)
    refine ⟨U', e, fun j ha hb => ?_, fun j hj => ?_⟩
    · by_cases z : j = i
      · subst z; rw [h2 _ (by omega), zupd_eq]
      · rw [h1 j (by omega) hb, zupd_ne z]
    · rw [h2 _ (by omega), zupd_ne (by omega)]
theorem zl_unl {ke : _} {Q : _} (hE : zEok E) (hc : zCls E B_aldermen B_motions B_deaf B_kind B_cost B_joy B_follows B_code B_ruleFrom B_ruleTo) (h8 : ns ≤ 8) (e : ∀ i, i < ns → (∃ q, 1 ≤ q ∧ q ≤ 48 ∧ A_seenHour i = zJ q)) (ht : zTb E 9999 t) : ∀ (k v fuel : Nat) (H U V S : Nat → Int32) (y1 y2 y3 y4 y5 y6 y7 : Int32) (yl yc : Nat → Int32), k + v = 100 → k < fuel → (∀ (H U' V S : Nat → Int32) (y1 y2 y3 y4 y5 y6 y7 : Int32) (yl yc : Nat → Int32), (∀ i, i < 48 → U' i = zorl E t i (zlf (zfo E t ns A_seenHour A_seenNumber) k v) (U i)) → zOk (ke H U' V S y1 y2 y3 y4 y5 y6 y7 yl yc) Q) → zOk (lX6_mostUnlikeHour_10 ke (zJ ns) A_seenHour A_seenNumber B_code B_ruleFrom B_ruleTo t.hour t.oil t.weight t.spider t.treas t.joy t.passed T_lean T_call fuel H U V S y1 y2 y3 y4 y5 y6 y7 yl yc (zJ v)) Q := by
  intro k
  induction k with
  | zero =>
    intro v fuel H U V S y1 y2 y3 y4 y5 y6 y7 yl yc hk hf kk
    obtain ⟨fuel, rfl, hf⟩ := zfu hf
    unfold lX6_mostUnlikeHour_10
    exact zOk.pos (zJ_ylt (a := 99) (by omega) (by omega)) (kk _ _ _ _ _ _ _ _ _ _ _ _ _ (fun _ _ => rfl))
  | succ k ih =>
    intro v fuel H U V S y1 y2 y3 y4 y5 y6 y7 yl yc hk hf kk
    obtain ⟨fuel, rfl, hf⟩ := zfu hf
    unfold lX6_mostUnlikeHour_10
    refine zOk.neg (zJ_nlt (a := 99) (by omega) (by omega)) ?_
    have st : zlf (zfo E t ns A_seenHour A_seenNumber) (k + 1) v = if zfo E t ns A_seenHour A_seenNumber v then v :: zlf (zfo E t ns A_seenHour A_seenNumber) k (v + 1) else zlf (zfo E t ns A_seenHour A_seenNumber) k (v + 1) := rfl
    rw [st] at kk
    rw [zJ_succ]
    have no : zfo E t ns A_seenHour A_seenNumber v = false → ∀ H V S y1 y2 y3 y4 y5 y6 y7 yl yc, _ := fun h H V S y1 y2 y3 y4 y5 y6 y7 yl yc => ih (v + 1) fuel H U V S y1 y2 y3 y4 y5 y6 y7 yl yc (by omega) (by omega) (by rw [h] at kk; exact kk)
    refine zOk.ite (fun q => no (by unfold zfo; rw [decide_eq_true q]; rfl) _ _ _ _ _ _ _ _ _ _ _ _) (fun q => ?_)
    refine zOk.bind (zc_fits (n := 48) hE hc h8 (by omega) e ht (v := v) (by omega)) (fun o ho => ?_)
    rw [ho.1]
    have ef : zfo E t ns A_seenHour A_seenNumber v = zfit E A_seenHour A_seenNumber (zto t (zJ v)) ns := by unfold zfo; rw [decide_eq_false q]; rfl
    cases hz : zfit E A_seenHour A_seenNumber (zto t (zJ v)) ns
    · exact zOk.pos rfl (no (by rw [ef, hz]) _ _ _ _ _ _ _ _ _ _ _ _)
    · refine zOk.neg (by decide) ?_
      rw [ef, hz, if_pos rfl] at kk
      obtain ⟨U', eU, hU, _⟩ := zl_addH (S_heard := o.2.1) (ke := fun U => some U) 48 0 FU U (by omega) (by unfold FU; omega)
      have eU : fX6_addHeard o.2.1 U = some U' := eU
      refine zOk.eq eU ?_
      refine ih (v + 1) fuel _ U' _ _ _ _ _ _ _ _ _ _ _ (by omega) (by omega) (fun H U2 V S y1 y2 y3 y4 y5 y6 y7 yl yc hU2 => kk _ _ _ _ _ _ _ _ _ _ _ _ _ (fun i hi => ?_))
      rw [hU2 i hi, hU i (by omega) hi, ho.2 i hi]
      rfl
theorem zl_57 {ke : _} {Q : _} {D : Nat → Int32} (hD : ∀ i, i < 48 → zbc (S_unlike i) = D i) : ∀ (k i fuel : Nat) (s : Int32 × Int32), k + i = 48 → k < fuel → zOk (ke (zmx D k i s).1 (zmx D k i s).2) Q → zOk (lX6_mostUnlikeHour_57 ke S_unlike fuel s.1 s.2 (zJ i)) Q := by
  intro k
  induction k with
  | zero =>
    intro i fuel s hk hf kk
    obtain ⟨fuel, rfl, hf⟩ := zfu hf
    unfold lX6_mostUnlikeHour_57
    exact zOk.pos (zJ_yle (a := 48) (by omega) (by omega)) kk
  | succ k ih =>
    intro i fuel s hk hf kk
    obtain ⟨fuel, rfl, hf⟩ := zfu hf
    unfold lX6_mostUnlikeHour_57
    refine zOk.neg (zJ_nle (a := 48) (by omega) (by omega)) ?_
    rw [ck_t (zinb (by omega) (by omega)), zJ_ix (by omega)]
    refine zOk.eq (zbc_eq _) ?_
    rw [hD i (by omega)]
    have st : zmx D (k + 1) i s = zmx D k (i + 1) (if D i ≤ s.1 then s else (D i, zJ i + 1)) := rfl
    rw [st] at kk
    refine zOk.ite (fun q => ?_) (fun q => ?_)
    · rw [if_pos q] at kk
      rw [zJ_succ]
      exact ih (i + 1) fuel s (by omega) (by omega) kk
    · rw [if_neg q] at kk
      have := ih (i + 1) fuel (D i, zJ i + 1) (by omega) (by omega) kk
      rw [zJ_succ] at this ⊢
      exact this
theorem zr_55 {ke : _} {Q : _} (hE : zEok E) (hr : zRef E M_told M_deaf M_kind M_cost M_pleases M_behind M_signsSays M_signsVotes) {a : Nat} (ha : a < 100) : ∀ (k i fuel b : Nat) (M_asked M_stack : Nat → Int32) (w : zT) (M_said M_hoarse : Int32) (SA : Nat → Int32), k + i = 48 → k < fuel → zTb E b w → b + k < 1000000 → (∀ c, c < E.nA → M_lean c = w.lean c) → (∀ m, m < E.nM → M_call m = w.call m) → (∀ j, zsd E j w = zsd E (i + j) u) → (∀ (M_asked M_stack : Nat → Int32) (M_said M_hoarse : Int32) (w : zT) (SA' : Nat → Int32), (∀ j, i ≤ j → j < 48 → SA' (48 * a + j) = zsd E j u) → (∀ j, j < 48 * a + i → SA' j = SA j) → zOk (ke w.hour w.oil w.weight w.spider w.treas w.joy w.passed M_said M_hoarse M_asked M_stack SA') Q) → zOk (lX9_listen_55 ke (-1) M_told M_deaf M_kind M_cost M_pleases M_behind M_signsSays M_signsVotes M_lean M_call (zJ a) fuel w.hour w.oil w.weight w.spider w.treas w.joy w.passed M_said M_hoarse M_asked M_stack SA (zJ i)) Q := by
  intro k
  induction k with
  | zero =>
    intro i fuel b M_asked M_stack w M_said M_hoarse SA hk hf hu hb hl hcl hw kk
    obtain ⟨fuel, rfl, hf⟩ := zfu hf
    unfold lX9_listen_55
    exact zOk.pos (zJ_yle (a := 48) (by omega) (by omega)) (kk _ _ _ _ _ SA (fun j h1 h2 => by omega) (fun _ _ => rfl))
  | succ k ih =>
    intro i fuel b M_asked M_stack w M_said M_hoarse SA hk hf hu hb hl hcl hw kk
    obtain ⟨fuel, rfl, hf⟩ := zfu hf
    unfold lX9_listen_55
    refine zOk.neg (zJ_nle (a := 48) (by omega) (by omega)) ?_
    refine zOk.bind (zm_hour hE hr hu.ok hu.h0 hl hcl) (fun o ho => ?_)
    obtain ⟨V, S, rfl⟩ := ho
    dsimp only
    have e1 : (48 : Int32) * zJ a + zJ i = zJ (48 * a + i) := by rw [show (48 : Int32) = zJ 48 from rfl, zJ_mul, zJ_add]
    rw [e1, ck_t (zinb (by omega) (by omega)), zJ_ix (by omega), zJ_succ]
    refine ih (i + 1) fuel (b + 1) V S (zhour E (-1) w) _ _ _ (by omega) (by omega) (hu.step hE (by omega)) (by omega) (by rw [zhour_lean]; exact hl) (by rw [zhour_call]; exact hcl) (fun j => ?_) (fun V S sd ho w' SA' h1 h2 => kk V S sd ho w' SA' (fun j ha hb => ?_) (fun j hj => ?_))
    · have := hw (j + 1)
      rw [show i + (j + 1) = i + 1 + j by omega] at this
      exact this
    · by_cases z : j = i
      · subst z; rw [h2 _ (by omega), zupd_eq]; exact hw 0
      · exact h1 j (by omega) hb
    · rw [h2 _ (by omega), zupd_ne (by omega)]
theorem zr_26 {ke : _} {Q : _} (hE : zEok E) (hr : zRef E M_told M_deaf M_kind M_cost M_pleases M_behind M_signsSays M_signsVotes) (ht : zTb E 9999 t) (hl : ∀ a, a < E.nA → M_lean a = t.lean a) (hcl : ∀ m, m < E.nM → M_call m = t.call m) {LF : List Nat} (hlen : LF.length ≤ 100) (hLF : ∀ x, x ∈ LF → x < 100) (hF : ∀ j x, LF[j]? = some x → M_fits j = zJ x) : ∀ (k a fuel : Nat) (sd ho : Int32) (Lx Cx V S R SA : Nat → Int32), k + a = LF.length → k < fuel → (∀ a, a < 7 → Lx a = M_lean a) → (∀ m, m < 10 → Cx m = M_call m) → (∀ b x, b < a → LF[b]? = some x → ∀ i, i < 48 → SA (48 * b + i) = zsd E i (zto t (zJ x))) → (∀ (sd ho : Int32) (L C V S R SA : Nat → Int32), (∀ a, a < 7 → L a = M_lean a) → (∀ m, m < 10 → C m = M_call m) → (∀ b x, LF[b]? = some x → ∀ i, i < 48 → SA (48 * b + i) = zsd E i (zto t (zJ x))) → zOk (ke t.hour t.oil t.weight t.spider t.treas t.joy t.passed sd ho L C V S R SA) Q) → zOk (lX9_listen_26 ke (-1) (zJ LF.length) M_told M_deaf M_kind M_cost M_pleases M_behind M_signsSays M_signsVotes M_fits fuel t.hour t.oil t.weight t.spider t.treas t.joy t.passed sd ho Lx Cx V S R SA (zJ a)) Q := by
  have h7 := hE.a7
  have h10 := hE.m10
  intro k
  induction k with
  | zero =>
    intro a fuel sd ho Lx Cx V S R SA hk hf hL hC hSA kk
    obtain ⟨fuel, rfl, hf⟩ := zfu hf
    unfold lX9_listen_26
    refine zOk.pos (zJ_yle (by omega) (by omega)) (kk _ _ _ _ _ _ _ _ hL hC (fun b x hx => hSA b x ?_ hx))
    have := (List.getElem?_eq_some_iff.1 hx).1
    omega
  | succ k ih =>
    intro a fuel sd ho Lx Cx V S R SA hk hf hL hC hSA kk
    obtain ⟨fuel, rfl, hf⟩ := zfu hf
    unfold lX9_listen_26
    refine zOk.neg (zJ_nle (by omega) (by omega)) ?_
    refine zOk.bind (zm_pack (n0 := 24) (p := 0) (by omega) (by omega)) (fun P hP => ?_)
    have hx : LF[a]? = some LF[a] := List.getElem?_eq_getElem (by omega)
    have hxm : LF[a] < 100 := hLF _ (List.getElem_mem (by omega))
    rw [ck_t (zinb (by omega) (by omega)), zJ_ix (by omega), hF a _ hx]
    refine zr_55 (u := zto t (zJ LF[a])) hE hr (a := a) (by omega) 48 0 FU 9999 _ _ (zto t (zJ LF[a])) _ _ _ (by omega) (by unfold FU; omega) (zto_b ht (by omega)) (by omega) (fun c hc => (hL c (by omega)).trans (hl c hc)) (fun m hm => (hC m (by omega)).trans (hcl m hm)) (fun j => by rw [Nat.zero_add]) (fun V' S' sd' ho' w SA' h1 h2 => ?_)
    refine zOk.bind (zm_unpack (n0 := 24) (p := 0) (by omega) (by omega) hP.1) (fun r hr' => ?_)
    obtain ⟨L', C', rfl, hL', hC'⟩ := hr'
    dsimp only
    rw [zJ_succ]
    refine ih (a + 1) fuel _ _ L' C' _ _ _ _ (by omega) (by omega) (fun c hc => (hL' c hc).trans (hL c hc)) (fun m hm => (hC' m hm).trans (hC m hm)) (fun b x hb hbx i hi => ?_) kk
    by_cases z : b = a
    · subst z
      rw [hx] at hbx; cases hbx
      exact h1 i (by omega) hi
    · rw [h2 _ (by omega)]
      exact hSA b x (by omega) hbx i hi
theorem zr_18 {ke : Int32 → Option Int32} {i a : Nat} {f : Nat → Int32} (hi : i < 48) (ha : a < 100) (hS : ∀ b, b ≤ a → M_saids (48 * b + i) = f b) : ∀ (k b fuel : Nat) (s : Int32), k + b = a → k < fuel → s = (if zold f a b then 0 else 1) → lX9_unlike_18 ke M_saids (zJ i) (zJ a) fuel s (zJ b) = ke (if zold f a a then 0 else 1) := by
  intro k
  induction k with
  | zero =>
    intro b fuel s hk hf hs
    obtain ⟨fuel, rfl, hf⟩ := zfu hf
    have : b = a := by omega
    subst this
    unfold lX9_unlike_18
    rw [if_pos (zJ_yle (by omega) (by omega)), hs]
  | succ k ih =>
    intro b fuel s hk hf hs
    obtain ⟨fuel, rfl, hf⟩ := zfu hf
    unfold lX9_unlike_18
    rw [if_neg (zJ_nle (by omega) (by omega))]
    have e1 : ∀ c : Nat, (48 : Int32) * zJ c + zJ i = zJ (48 * c + i) := fun c => by rw [show (48 : Int32) = zJ 48 from rfl, zJ_mul, zJ_add]
    cases hz : zold f a b
    rotate_left
    · rw [hz] at hs
      have hall : zold f a a = true := by
        obtain ⟨c, hc, ec⟩ := (zold_iff (f := f) (a := a) b).1 hz
        exact (zold_iff a).2 ⟨c, by omega, ec⟩
      have hs : s = 0 := hs
      rw [if_pos hs, hs, hall]; rfl
    · rw [hz] at hs
      rw [if_neg (by rw [hs]; decide), e1, e1, ck_t (zinb (by omega) (by omega)), ck_t (zinb (by omega) (by omega)), zJ_ix (by omega), zJ_ix (by omega), hS b (by omega), hS a (by omega), zJ_succ]
      by_cases q : f b = f a
      · rw [if_pos q]
        exact ih (b + 1) fuel 0 (by omega) (by omega) (by unfold zold; rw [hz, decide_eq_true q]; rfl)
      · rw [if_neg q]
        exact ih (b + 1) fuel 1 (by omega) (by omega) (by unfold zold; rw [hz, decide_eq_false q]; rfl)
theorem zm_unlike {i N : Nat} {f : Nat → Int32} (hi : i < 48) (hN : N ≤ 100) (hS : ∀ b, b < N → M_saids (48 * b + i) = f b) : fX9_unlike (zJ N) M_saids (zJ i) = some (zJ (zdist f N)) := by
  unfold fX9_unlike
  have loop : ∀ (k a fuel : Nat), k + a = N → k < fuel → lX9_unlike_4 (fun x => some x) (zJ N) M_saids (zJ i) fuel (zJ (zdist f a)) (zJ a) = some (zJ (zdist f N)) := by
    intro k
    induction k with
    | zero =>
      intro a fuel hk hf
      obtain ⟨fuel, rfl, hf⟩ := zfu hf
      have : a = N := by omega
      subst this
      unfold lX9_unlike_4
      rw [if_pos (zJ_yle (by omega) (by omega))]
    | succ k ih =>
      intro a fuel hk hf
      obtain ⟨fuel, rfl, hf⟩ := zfu hf
      unfold lX9_unlike_4
      rw [if_neg (zJ_nle (by omega) (by omega))]
      have e := zr_18 (M_saids := M_saids) (ke := fun x4 => jX9_unlike_68 (lX9_unlike_4 (fun x => some x) (zJ N) M_saids (zJ i) fuel) (zJ (zdist f a)) (zJ a) x4) hi (show a < 100 by omega) (fun b hb => hS b (by omega)) a 0 FU 1 (by omega) (by unfold FU; omega) rfl
      have e : lX9_unlike_18 (fun x4 => jX9_unlike_68 (lX9_unlike_4 (fun x => some x) (zJ N) M_saids (zJ i) fuel) (zJ (zdist f a)) (zJ a) x4) M_saids (zJ i) (zJ a) FU 1 0 = _ := e
      rw [e]
      unfold jX9_unlike_68
      have st : zdist f (a + 1) = zdist f a + if zold f a a then 0 else 1 := rfl
      have := ih (a + 1) fuel (by omega) (by omega)
      rw [st] at this
      cases hz : zold f a a
      · rw [hz] at this
        show (if (1 : Int32) = 0 then _ else _) = _
        rw [if_neg (by decide), zJ_a1, zJ_succ]; exact this
      · rw [hz] at this
        show (if (0 : Int32) = 0 then _ else _) = _
        rw [if_pos rfl, Int32.add_zero, zJ_succ]; exact this
  exact loop N 0 FU (by omega) (by unfold FU; omega)
theorem zr_108 {ke : _} {Q : _} {D : Nat → Int32} {N : Nat} (hD : ∀ i, i < 48 → fX9_unlike (zJ N) M_saids (zJ i) = some (D i)) : ∀ (k i fuel : Nat) (s : Int32 × Int32), k + i = 48 → k < fuel → zOk (ke (zmx D k i s).2 (zmx D k i s).1) Q → zOk (lX9_listen_108 ke (zJ N) M_saids fuel s.2 s.1 (zJ i)) Q := by
  intro k
  induction k with
  | zero =>
    intro i fuel s hk hf kk
    obtain ⟨fuel, rfl, hf⟩ := zfu hf
    unfold lX9_listen_108
    exact zOk.pos (zJ_yle (a := 48) (by omega) (by omega)) kk
  | succ k ih =>
    intro i fuel s hk hf kk
    obtain ⟨fuel, rfl, hf⟩ := zfu hf
    unfold lX9_listen_108
    refine zOk.neg (zJ_nle (a := 48) (by omega) (by omega)) (zOk.eq (hD i (by omega)) ?_)
    have st : zmx D (k + 1) i s = zmx D k (i + 1) (if D i ≤ s.1 then s else (D i, zJ i + 1)) := rfl
    rw [st] at kk
    refine zOk.ite (fun q => ?_) (fun q => ?_)
    · rw [if_neg (Int32.not_le.2 q)] at kk
      have := ih (i + 1) fuel (D i, zJ i + 1) (by omega) (by omega) kk
      rw [zJ_succ] at this ⊢
      exact this
    · rw [if_pos (Int32.not_lt.1 q)] at kk
      rw [zJ_succ]
      exact ih (i + 1) fuel s (by omega) (by omega) kk
end
section
variable {L : Nat} {xs : Nat → Int32} {sc : Nat → Int32} {ar : Nat → Nat → Int32} {O : Nat → Int64} {x4 : Int32}
theorem zst34 (h : zInv sc ar) (hx : inb (x4 + 1) L = true ∧ inb (x4 + 2) L = true ∧ inb (x4 + 3) L = true ∧ inb (x4 + 4) L = true ∧ inb (x4 + 5) L = true) : zOk (st34 L xs sc ar O x4) (fun o => zInv o.1 o.2.1) := by
  obtain ⟨E, t, hI⟩ := h
  have hJ := hI
  obtain ⟨hE, hc, hr, ht, ⟨c1, c2, c3, c4, c5, c6, c7, c8, c9⟩, ⟨m1, m2, m3, m4, m5, m6, m7, m8, m9⟩, hnv, hh, hse, hst, htp, hfp, him, hik⟩ := hI
  have h7 := hE.a7
  have h10 := hE.m10
  unfold st34
  try simp only [ck_t hx.1, ck_t hx.2.1, ck_t hx.2.2.1, ck_t hx.2.2.2.1, ck_t hx.2.2.2.2, c1, c2, c3, c4, c5, c6, c7, m1, m2, m3, m4, m5, m6, m7, hnv]
  generalize xs (x4 + 1).toNatClampNeg = p
  suffices key : ∃ (R : Sum Nat Int32) (a c : Int32), zOk (fX8_listen (ar 33) (ar 34) (sc 48) (ar 37) (ar 38) (ar 44) (ar 45) (ar 53) (ar 54) (ar 55) t.hour t.oil t.weight t.spider t.treas t.joy t.passed (ar 66) (ar 67) (sc 77) (sc 78) (sc 79) (sc 80) (sc 81) (sc 82) (sc 83) (ar 70) (ar 71) p) (fun v => v.1 = R) ∧ zOk (fX9_listen (sc 4) t.hour t.oil t.weight t.spider t.treas t.joy t.passed (sc 24) (-1) (sc 26) (sc 27) (sc 28) (ar 1) (ar 3) (ar 4) (ar 6) (ar 7) (ar 8) (ar 9) (ar 10) (ar 13) (ar 14) (ar 16) (ar 17) (ar 18) (ar 21) (ar 22) (ar 23) (ar 24) (ar 25) p) (fun o => ∃ (sd ho fm : Int32) (L C V S R1 R2 F G : Nat → Int32), o = (a, c, t.hour, t.oil, t.weight, t.spider, t.treas, t.joy, t.passed, sd, ho, fm, L, C, V, S, R1, R2, F, G) ∧ (∀ a, a < 7 → L a = ar 13 a) ∧ (∀ m, m < 10 → C m = ar 14 m)) ∧ ((R = Sum.inr a ∧ c = 0) ∨ (R = Sum.inl 1 ∧ c = 1)) by
    obtain ⟨R, a, c, ⟨v, ev, hv⟩, ⟨w, ew, sd, ho, fm, L', C', V, S, P1, P2, F, G, rfl, hL, hC⟩, hR⟩ := key
    rcases hR with ⟨rfl, rfl⟩ | ⟨rfl, rfl⟩
    · obtain ⟨o, eo, h1, h2⟩ : ∃ o, (fL_listen O (ar 33) (ar 34) (sc 48) (ar 37) (ar 38) (ar 44) (ar 45) (ar 53) (ar 54) (ar 55) t.hour t.oil t.weight t.spider t.treas t.joy t.passed (ar 66) (ar 67) (sc 77) (sc 78) (sc 79) (sc 80) (sc 81) (sc 82) (sc 83) (ar 70) (ar 71) p) = some o ∧ o.1 = 0 ∧ o.2.1 = vp_updL O 0 a.toInt64 := by
        unfold fL_listen; rw [ev]; show ∃ o, Sum.elim _ _ v.1 = some o ∧ _; rw [hv]; exact ⟨_, rfl, rfl, rfl⟩
      refine zOk.eq eo (zOk.eq ew (zOk.eq rfl (zOk.pos h1.symm (zOk.pos h1 (zOk.pos (by rw [h2]; exact zlgO) (zOk.pure ?_))))))
      exact zInv_q hJ (by repeat' (first | exact zSr0 | refine zSn rfl ?_ | refine zSs (by assumption) ?_)) (by repeat' (first | exact zAr0 | refine zAn rfl rfl rfl ?_ | refine zAn13 hL ?_ | refine zAn14 hC ?_ | refine zAs rfl ?_))
    · obtain ⟨o, eo, h1, h2⟩ : ∃ o, (fL_listen O (ar 33) (ar 34) (sc 48) (ar 37) (ar 38) (ar 44) (ar 45) (ar 53) (ar 54) (ar 55) t.hour t.oil t.weight t.spider t.treas t.joy t.passed (ar 66) (ar 67) (sc 77) (sc 78) (sc 79) (sc 80) (sc 81) (sc 82) (sc 83) (ar 70) (ar 71) p) = some o ∧ o.1 = 1 ∧ o.2.1 = O := by
        unfold fL_listen; rw [ev]; show ∃ o, Sum.elim _ _ v.1 = some o ∧ _; rw [hv]; exact ⟨_, rfl, rfl, rfl⟩
      refine zOk.eq eo (zOk.eq ew (zOk.eq rfl (zOk.pos h1.symm (zOk.neg (by rw [h1]; decide) (zOk.pure ?_)))))
      exact zInv_q hJ (by repeat' (first | exact zSr0 | refine zSn rfl ?_ | refine zSs (by assumption) ?_)) (by repeat' (first | exact zAr0 | refine zAn rfl rfl rfl ?_ | refine zAn13 hL ?_ | refine zAn14 hC ?_ | refine zAs rfl ?_))
  obtain ⟨ns, h8, ea, em, hrow⟩ := id hse
  rw [ea, em]
  have e48 : ∀ i, i < ns → (∃ q, 1 ≤ q ∧ q ≤ 48 ∧ ar 37 i = zJ q) := fun i hi => (hrow i hi).2.2.1
  have em' : ∀ i, i < ns → ar 21 i = ar 37 i ∧ ar 22 i = ar 38 i ∧ ∃ q, 1 ≤ q ∧ q ≤ 48 ∧ ar 37 i = zJ q := fun i hi => ⟨(hrow i hi).1, (hrow i hi).2.1, (hrow i hi).2.2.1⟩
  by_cases qw : p < 0 ∨ 1 < p
  · refine ⟨Sum.inl 1, 0, 1, ?_, ?_, Or.inr ⟨rfl, rfl⟩⟩
    · unfold fX8_listen; exact zOk.eq (zw_no qw) ⟨_, rfl, rfl⟩
    · unfold fX9_listen
      rcases qw with z | z
      · rw [if_pos z]; exact ⟨_, rfl, _, _, _, _, _, _, _, _, _, _, _, rfl, fun _ _ => rfl, fun _ _ => rfl⟩
      · by_cases z0 : p < 0
        · rw [if_pos z0]; exact ⟨_, rfl, _, _, _, _, _, _, _, _, _, _, _, rfl, fun _ _ => rfl, fun _ _ => rfl⟩
        · rw [if_neg z0, if_neg (by grind)]; exact ⟨_, rfl, _, _, _, _, _, _, _, _, _, _, _, rfl, fun _ _ => rfl, fun _ _ => rfl⟩
  · have ew := zin_yes qw
    have w0 : ¬ p < 0 := fun z => qw (Or.inl z)
    have w1 : p ≤ 1 := Int32.not_lt.1 (fun z => qw (Or.inr z))
    have hlen := zlf_len (f := zfo E t ns (ar 37) (ar 38)) 100 0
    have hmem := fun x => zlf_mem (f := zfo E t ns (ar 37) (ar 38)) 100 0 x
    have tl := zm_tell (t := t) (M_said := sc 26) (M_hoarse := sc 27) (M_fitMany := sc 28) (M_asked := ar 16) (M_stack := ar 17) (M_rowSeen := ar 23) (M_fits := ar 24) hE hr h8 em' ht m8 m9
    obtain ⟨LF, eLF⟩ : ∃ LF, zlf (zfo E t ns (ar 37) (ar 38)) 100 0 = LF := ⟨_, rfl⟩
    rw [eLF] at hlen hmem tl
    obtain ⟨f, hf⟩ : ∃ f : Nat → Nat → Int32, ∀ i a, f i a = zsd E i (zto t (zJ (LF.getD a 0))) := ⟨fun i a => zsd E i (zto t (zJ (LF.getD a 0))), fun _ _ => rfl⟩
    have hf1 : ∀ i j x, LF[j]? = some x → f i j = zsd E i (zto t (zJ x)) := fun i j x hx => by rw [hf, List.getD_eq_getElem?_getD, hx]; rfl
    have hbd : ∀ i a, i < 48 → a < LF.length → -1 ≤ f i a ∧ f i a ≤ 24 := by
      intro i a hi ha
      have hx : LF[a]? = some LF[a] := List.getElem?_eq_getElem ha
      have hxm := hmem LF[a] (List.getElem_mem ha)
      rw [hf1 i a _ hx]
      have hb := zTb.hs (wo := -1) hE i 9999 _ (zto_b ht (v := LF[a]) (by omega)) (by omega)
      exact zsaid_bd hb.h0
    obtain ⟨mx, emx⟩ : ∃ mx, zmx (fun i => zJ (zdist (f i) LF.length)) 48 0 (0, -1) = mx := ⟨_, rfl⟩
    have hm : ∀ q : Int32, zOk (fX6_mostUnlikeHour (ar 33) (ar 34) (zJ ns) (ar 37) (ar 38) (ar 44) (ar 45) (ar 53) (ar 54) (ar 55) t.hour t.oil t.weight t.spider t.treas t.joy t.passed (ar 66) (ar 67) (sc 77) (sc 78) (sc 79) (sc 80) (sc 81) (sc 82) (sc 83) (ar 70) (ar 71) q) (fun o => o.1 = if q = 0 then mx.2 else mx.1) := by
      intro q
      unfold fX6_mostUnlikeHour
      obtain ⟨G, eG, hG⟩ := zfill (P0 := ar 34) (nP := 48) (x1 := 0) (by omega)
      refine zOk.eq eG ?_
      refine zl_unl hE hc h8 e48 ht 100 0 FU _ _ _ _ _ _ _ _ _ _ _ _ _ (by omega) (by unfold FU; omega) (fun H U V S y1 y2 y3 y4 y5 y6 y7 yl yc hU => ?_)
      refine zl_57 (D := fun i => zJ (zdist (f i) LF.length)) (fun i hi => ?_) 48 0 FU (0, -1) (by omega) (by unfold FU; omega) ?_
      · rw [hU i hi, eLF, hG i hi]
        have := zorl_orb (E := E) (t := t) (i := i) (f := f i) LF 0 (fun j x hx => by rw [Nat.zero_add]; exact hf1 i j x hx)
        rw [Nat.zero_add] at this
        have this : zorl E t i LF 0 = zorb (f i) LF.length := this
        rw [this, zorb_bc (fun a ha => hbd i a hi ha)]
      · rw [emx]
        refine zOk.ite (fun z => ?_) (fun z => ?_)
        · rw [if_pos z]; exact ⟨_, rfl, rfl⟩
        · rw [if_neg z]; exact ⟨_, rfl, rfl⟩
    refine ⟨Sum.inr _, if p = 0 then mx.2 else mx.1, 0, ?_, ?_, Or.inl ⟨rfl, rfl⟩⟩
    · unfold fX8_listen; refine zOk.eq (zw_yes qw) (zOk.inr ?_)
      rcases zwhat w0 (Int32.not_lt.2 w1) with z | z
      · refine zOk.neg (by rw [z]; decide) (zOk.bind (hm 0) (fun o ho => ⟨_, rfl, ?_⟩))
        rw [if_pos rfl] at ho
        rw [if_pos z]
        exact congrArg Sum.inr ho
      · refine zOk.pos z (zOk.bind (hm 1) (fun o ho => ⟨_, rfl, ?_⟩))
        rw [if_neg (by decide)] at ho
        rw [if_neg (show ¬ p = 0 by rw [z]; decide)]
        exact congrArg Sum.inr ho
    · unfold fX9_listen; rw [if_neg w0, if_pos w1]
      refine zOk.bind tl (fun o ho => ?_)
      obtain ⟨sd, ho, L', C', V, S, P, G, rfl, hL', hC', hG⟩ := ho
      refine zr_26 hE hr ht (M_lean := ar 13) (M_call := ar 14) m8 m9 hlen (fun x hx => by have := hmem x hx; omega) hG LF.length 0 FU _ _ L' C' _ _ _ _ (by omega) (by unfold FU; omega) hL' hC' (fun b x hb => by omega) (fun sd ho L C V S R SA g1 g2 g3 => ?_)
      refine zr_108 (D := fun i => zJ (zdist (f i) LF.length)) (fun i hi => zm_unlike hi hlen (fun b hb => ?_)) 48 0 FU (0, -1) (by omega) (by unfold FU; omega) ?_
      · have hx : LF[b]? = some LF[b] := List.getElem?_eq_getElem hb
        rw [g3 b _ hx i hi, hf1 i b _ hx]
      · rw [emx]
        refine zOk.ite (fun z => ?_) (fun z => ?_)
        · rw [if_pos z]; exact ⟨_, rfl, _, _, _, _, _, _, _, _, _, _, _, rfl, g1, g2⟩
        · rw [if_neg z]; exact ⟨_, rfl, _, _, _, _, _, _, _, _, _, _, _, rfl, g1, g2⟩
end
