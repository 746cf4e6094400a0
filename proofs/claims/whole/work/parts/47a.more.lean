/-! ===== pure: hours, bribes, moves, images, the tape ===== -/
theorem zBind {α β : Type} {x : Option α} {a : α} {f : α → Option β} {r : Option β} (h : x = some a) (k : f a = r) : x.bind f = r := by rw [h]; exact k
theorem zElim {α β γ : Type} {f : α → Option γ} {g : β → Option γ} {b : β} {r : Option γ} (h : g b = r) : Sum.elim f g (Sum.inr b) = r := h
section
variable {A2_acts A2_seen A_acts A_seen B2_aldermen B2_codeLength B2_motions B2_oil B2_treasury B2_weight B_aldermen B_codeLength B_motions B_oil B_treasury B_weight D_aldermen D_codeLength D_motions D_oil D_treasury D_weight F_seed K_acts K_seen M_acts M_actsThen M_at M_bad M_badPlace M_begins M_code M_faultPlace M_fitMany M_hasImage M_hoarse M_hour M_joy M_never M_number M_ofVoting M_oil M_passed M_said M_seedNow M_seen M_seenThen M_size M_spider M_stops M_taped M_token M_treasury M_values M_weight R_clockIsTold R_depth R_digits R_end R_fault R_notMayStand R_nots R_number R_partIsDue R_place R_start R_token R_waits T2_hour T2_joy T2_oil T2_passed T2_spider T2_treasury T2_weight T_hour T_joy T_oil T_passed T_spider T_treasury T_weight V_hour V_joy V_oil V_passed V_spider V_treasury V_weight X_hour X_joy X_oil X_passed X_spider X_treasury X_weight Y_hour Y_joy Y_oil Y_passed Y_spider Y_treasury Y_weight Z_faultPlace Z_hasImage Z_tapeLength : Int32} {A2_before A2_refused A2_seenHour A2_seenNumber A_before A_refused A_seenHour A_seenNumber B2_call B2_code B2_cost B2_deaf B2_follows B2_joy B2_kind B2_lean B2_ruleFrom B2_ruleTo B_call B_code B_cost B_deaf B_follows B_joy B_kind B_lean B_ruleFrom B_ruleTo C_stack C_values D_call D_code D_cost D_deaf D_follows D_joy D_kind D_lean D_ruleFrom D_ruleTo F_times K_before K_refused K_seenHour K_seenNumber M_asked M_behind M_call M_callTold M_cost M_deaf M_extras M_fits M_imageRow M_kind M_lean M_leanTold M_past M_pastThen M_pleases M_rowSeen M_rowThen M_saidOften M_saids M_seenIn M_seenInThen M_seenSaid M_seenSaidThen M_signsSays M_signsVotes M_stack M_status M_statusThen M_tape M_told R_tape R_waiting S_heard S_unlike T2_call T2_lean T_call T_lean U_prices V_call V_lean X_call X_lean Y_call Y_lean Z_tape : Nat → Int32}
variable {E : zE} {t : zT} {n : Nat} {wo : Int32}
theorem zcopyA : (fX0_copyFrom A_acts A_seen A_before A_seenHour A_seenNumber A_refused A2_acts A2_seen A2_before A2_seenHour A2_seenNumber A2_refused T_hour T_oil T_weight T_spider T_treasury T_joy T_passed T_lean T_call T2_hour T2_oil T2_weight T2_spider T2_treasury T2_joy T2_passed T2_lean T2_call) = some (A2_acts, A2_seen, va_cpy A2_before A_before 0 0 960, va_cpy A2_seenHour A_seenHour 0 0 8, va_cpy A2_seenNumber A_seenNumber 0 0 8, va_cpy A2_refused A_refused 0 0 3, T2_hour, T2_oil, T2_weight, T2_spider, T2_treasury, T2_joy, T2_passed, va_cpy T2_lean T_lean 0 0 7, va_cpy T2_call T_call 0 0 10) := by
  unfold fX0_copyFrom
  refine zBind zcopy ?_
  rw [ck_t (by decide), ck_t (by decide), ck_t (by decide), ck_t (by decide)]
  rfl
theorem zl_hours {ke : _} {Q : _} (hE : zEok E) (hc : zCls E B_aldermen B_motions B_deaf B_kind B_cost B_joy B_follows B_code B_ruleFrom B_ruleTo) (hn : n < 2147483648) : ∀ (k i fuel b : Nat) (C_values C_stack : Nat → Int32) (u : zT), k + i = n → k < fuel → zTb E b u → b + k < 1000000 → (∀ a, a < E.nA → T_lean a = u.lean a) → (∀ m, m < E.nM → T_call m = u.call m) → (∀ C_values C_stack, zOk (ke C_values C_stack (zhs E (-1) k u).hour (zhs E (-1) k u).oil (zhs E (-1) k u).weight (zhs E (-1) k u).spider (zhs E (-1) k u).treas (zhs E (-1) k u).joy (zhs E (-1) k u).passed) Q) → zOk (lX8_hours_43 ke B_aldermen B_motions B_deaf B_kind B_cost B_joy B_follows B_code B_ruleFrom B_ruleTo T_lean T_call (zJ n) fuel C_values C_stack u.hour u.oil u.weight u.spider u.treas u.joy u.passed (zJ i)) Q := by
  intro k
  induction k with
  | zero =>
    intro i fuel b C_values C_stack u hk hf hu hb hl hcl kk
    obtain ⟨fuel, rfl, hf⟩ := zfu hf
    unfold lX8_hours_43
    exact zOk.pos (zJ_yle (by omega) (by omega)) (kk _ _)
  | succ k ih =>
    intro i fuel b C_values C_stack u hk hf hu hb hl hcl kk
    obtain ⟨fuel, rfl, hf⟩ := zfu hf
    unfold lX8_hours_43
    refine zOk.neg (zJ_nle (by omega) (by omega)) ?_
    refine zOk.bind (zc_hour hE hc hu.h0 hu.ok.oil hl hcl) (fun o ho => ?_)
    obtain ⟨said, V, S, r⟩ := o
    obtain ⟨-, h2⟩ := ho
    have h2 : r = _ := h2
    subst h2
    rw [zJ_succ]
    exact ih (i + 1) fuel (b + 1) V S (zhour E (-1) u) (by omega) (by omega) (hu.step hE (by omega)) (by omega) (by rw [zhour_lean]; exact hl) (by rw [zhour_call]; exact hcl) kk
end
section
variable {L : Nat} {xs : Nat → Int32} {sc : Nat → Int32} {ar : Nat → Nat → Int32} {O : Nat → Int64} {x4 : Int32}
theorem zst6 (h : zInv sc ar) (hx : inb (x4 + 1) L = true ∧ inb (x4 + 2) L = true ∧ inb (x4 + 3) L = true ∧ inb (x4 + 4) L = true ∧ inb (x4 + 5) L = true) : zOk (st6 L xs sc ar O x4) (fun o => zInv o.1 o.2.1) := by
  obtain ⟨E, t, hI⟩ := h
  have hJ := hI
  obtain ⟨hE, hc, hr, ht, ⟨c1, c2, c3, c4, c5, c6, c7, c8, c9⟩, ⟨m1, m2, m3, m4, m5, m6, m7, m8, m9⟩, hnv, hh, hse, hst, htp, hfp, him, hik⟩ := hI
  have h7 := hE.a7
  have h10 := hE.m10
  unfold st6
  try simp only [ck_t hx.1, ck_t hx.2.1, ck_t hx.2.2.1, ck_t hx.2.2.2.1, ck_t hx.2.2.2.2, c1, c2, c3, c4, c5, c6, c7, m1, m2, m3, m4, m5, m6, m7, hnv]
  generalize xs (x4 + 1).toNatClampNeg = p
  by_cases q : p < 1 ∨ 48 < p
  · have e1 : (fX8_hours (sc 47) (ar 36) (ar 39) (ar 44) (ar 45) (sc 54) (sc 55) (ar 47) (ar 48) (ar 50) (ar 51) (ar 52) (ar 53) (ar 54) (ar 55) t.hour t.oil t.weight t.spider t.treas t.joy t.passed (ar 66) (ar 67) p) = some (-1, sc 47, ar 36, upd (ar 39) 1 (ar 39 1 + 1), ar 44, ar 45, t.hour, t.oil, t.weight, t.spider, t.treas, t.joy, t.passed) := by
      unfold fX8_hours; rw [(zin_no q).1]; rfl
    have e2 : (fX9_hours (sc 4) t.hour t.oil t.weight t.spider t.treas t.joy t.passed (sc 23) (-1) (sc 26) (sc 27) (ar 1) (ar 3) (ar 4) (ar 6) (ar 7) (ar 8) (ar 9) (ar 10) (ar 11) (ar 13) (ar 14) (ar 15) (ar 16) (ar 17) p) = some (-1, 0, t.hour, t.oil, t.weight, t.spider, t.treas, t.joy, t.passed, sc 23, sc 26, sc 27, upd (ar 11) 1 (ar 11 1 + 1), ar 15, ar 16, ar 17) := by
      unfold fX9_hours; exact zBind (zi_no q rfl rfl) rfl
    refine zOk.eq e1 (zOk.eq e2 (zOk.pos rfl (zOk.pure ?_)))
    exact zInv_mk (E := E) (t := t) hE hc hr ht ⟨rfl, rfl, rfl, rfl, rfl, rfl, rfl, c8, c9⟩ ⟨rfl, rfl, rfl, rfl, rfl, rfl, rfl, m8, m9⟩ hnv hh hse (zStat_upd hst (by decide)) htp hfp him hik
  · obtain ⟨n, hn, rfl⟩ := zof_le (x := p) (k := 48) (by grind) (by omega) (by show p ≤ 48; grind)
    obtain ⟨h, hh9, eh⟩ := zof_le ht.h0 (by omega) ht.hb
    by_cases q2 : h + n ≤ 9999
    rotate_left
    · have e1 : (fX8_hours (sc 47) (ar 36) (ar 39) (ar 44) (ar 45) (sc 54) (sc 55) (ar 47) (ar 48) (ar 50) (ar 51) (ar 52) (ar 53) (ar 54) (ar 55) t.hour t.oil t.weight t.spider t.treas t.joy t.passed (ar 66) (ar 67) (zJ n)) = some (-1, sc 47, ar 36, upd (ar 39) 1 (ar 39 1 + 1), ar 44, ar 45, t.hour, t.oil, t.weight, t.spider, t.treas, t.joy, t.passed) := by
        unfold fX8_hours
        refine zBind (zin_yes q).1 ((if_pos rfl).trans ((if_neg ?_).trans rfl))
        · rw [eh, show (9999 : Int32) = zJ 9999 from rfl, zJ_sub (by omega)]; exact zJ_nle (by omega) (by omega)
      have e2 : (fX9_hours (sc 4) t.hour t.oil t.weight t.spider t.treas t.joy t.passed (sc 23) (-1) (sc 26) (sc 27) (ar 1) (ar 3) (ar 4) (ar 6) (ar 7) (ar 8) (ar 9) (ar 10) (ar 11) (ar 13) (ar 14) (ar 15) (ar 16) (ar 17) (zJ n)) = some (-1, 0, t.hour, t.oil, t.weight, t.spider, t.treas, t.joy, t.passed, sc 23, sc 26, sc 27, upd (ar 11) 1 (ar 11 1 + 1), ar 15, ar 16, ar 17) := by
        unfold fX9_hours
        refine zBind (zi_yes q rfl rfl) ((if_neg (by decide)).trans ((if_neg ?_).trans rfl))
        · rw [eh, show (9999 : Int32) = zJ 9999 from rfl, zJ_add]; exact zJ_nle (by omega) (by omega)
      refine zOk.eq e1 (zOk.eq e2 (zOk.pos rfl (zOk.pure ?_)))
      exact zInv_mk (E := E) (t := t) hE hc hr ht ⟨rfl, rfl, rfl, rfl, rfl, rfl, rfl, c8, c9⟩ ⟨rfl, rfl, rfl, rfl, rfl, rfl, rfl, m8, m9⟩ hnv hh hse (zStat_upd hst (by decide)) htp hfp him hik
    · obtain ⟨v, w, ev, ew, hh'⟩ := zkeep hE ht hh c8 c9 m8 m9
      have e1 : zOk (fX8_hours (sc 47) (ar 36) (ar 39) (ar 44) (ar 45) (sc 54) (sc 55) (ar 47) (ar 48) (ar 50) (ar 51) (ar 52) (ar 53) (ar 54) (ar 55) t.hour t.oil t.weight t.spider t.treas t.joy t.passed (ar 66) (ar 67) (zJ n)) (fun o => ∃ V S, o = ((zhs E (-1) n t).hour, v.1, v.2, ar 39, V, S, (zhs E (-1) n t).hour, (zhs E (-1) n t).oil, (zhs E (-1) n t).weight, (zhs E (-1) n t).spider, (zhs E (-1) n t).treas, (zhs E (-1) n t).joy, (zhs E (-1) n t).passed)) := by
        unfold fX8_hours
        refine zOk.eq (zin_yes q).1 (zOk.pos rfl (zOk.pos ?_ (zOk.eq ev ?_)))
        · rw [eh, show (9999 : Int32) = zJ 9999 from rfl, zJ_sub (by omega)]; exact zJ_yle (by omega) (by omega)
        · exact zl_hours hE hc (by omega) n 0 FU 9999 _ _ t (by omega) (by unfold FU; omega) ht (by omega) c8 c9 (fun V S => zOk.pure ⟨V, S, rfl⟩)
      have e2 : zOk (fX9_hours (sc 4) t.hour t.oil t.weight t.spider t.treas t.joy t.passed (sc 23) (-1) (sc 26) (sc 27) (ar 1) (ar 3) (ar 4) (ar 6) (ar 7) (ar 8) (ar 9) (ar 10) (ar 11) (ar 13) (ar 14) (ar 15) (ar 16) (ar 17) (zJ n)) (fun o => ∃ sd ho V S, o = ((zhs E (-1) n t).hour, 0, (zhs E (-1) n t).hour, (zhs E (-1) n t).oil, (zhs E (-1) n t).weight, (zhs E (-1) n t).spider, (zhs E (-1) n t).treas, (zhs E (-1) n t).joy, (zhs E (-1) n t).passed, w.1, sd, ho, ar 11, w.2, V, S)) := by
        unfold fX9_hours
        refine zOk.eq (zi_yes q rfl rfl) (zOk.neg (by decide) (zOk.pos ?_ (zOk.eq ew ?_)))
        · rw [eh, show (9999 : Int32) = zJ 9999 from rfl, zJ_add]; exact zJ_yle (by omega) (by omega)
        · refine zOk.bind (zm_goOn hE hr (by omega) ht (by omega) m8 m9) (fun o ho => ?_)
          obtain ⟨h, V, S, rfl⟩ := ho
          exact zOk.pure ⟨_, _, _, _, rfl⟩
      refine zOk.bind e1 (fun o ho => ?_)
      obtain ⟨V, S, rfl⟩ := ho
      refine zOk.bind e2 (fun o ho => ?_)
      obtain ⟨sd, ho, V', S', rfl⟩ := ho
      refine zOk.pos rfl (zOk.pure ?_)
      have hs := zTb.hs (wo := -1) hE n 9999 t ht (by omega)
      have hhr : (zhs E (-1) n t).hour = zJ (h + n) := by
        have : ∀ (n : Nat) (u : zT), (zhs E (-1) n u).hour = u.hour + zJ n := by
          intro n
          induction n with
          | zero => intro u; show u.hour = u.hour + 0; rw [Int32.add_zero]
          | succ n ih => intro u; show (zhs E (-1) n (zhour E (-1) u)).hour = _; rw [ih, zhour_hour, ← zJ_succ, Int32.add_assoc, Int32.add_comm 1]
        rw [this, eh, zJ_add]
      exact zInv_mk (E := E) (t := zhs E (-1) n t) hE hc hr ⟨hs.ok, hs.h0, by rw [hhr]; exact zJ_yle q2 (by omega), by omega⟩ ⟨rfl, rfl, rfl, rfl, rfl, rfl, rfl, by rw [zhs_lean]; exact c8, by rw [zhs_call]; exact c9⟩ ⟨rfl, rfl, rfl, rfl, rfl, rfl, rfl, by rw [zhs_lean]; exact m8, by rw [zhs_call]; exact m9⟩ hnv hh' hse hst htp hfp him hik
theorem zst10 (h : zInv sc ar) (hx : inb (x4 + 1) L = true ∧ inb (x4 + 2) L = true ∧ inb (x4 + 3) L = true ∧ inb (x4 + 4) L = true ∧ inb (x4 + 5) L = true) : zOk (st10 L xs sc ar O x4) (fun o => zInv o.1 o.2.1) := by
  obtain ⟨E, t, hI⟩ := h
  have hJ := hI
  obtain ⟨hE, hc, hr, ht, ⟨c1, c2, c3, c4, c5, c6, c7, c8, c9⟩, ⟨m1, m2, m3, m4, m5, m6, m7, m8, m9⟩, hnv, hh, hse, hst, htp, hfp, him, hik⟩ := hI
  have h7 := hE.a7
  have h10 := hE.m10
  unfold st10
  try simp only [ck_t hx.1, ck_t hx.2.1, ck_t hx.2.2.1, ck_t hx.2.2.2.1, ck_t hx.2.2.2.2, c1, c2, c3, c4, c5, c6, c7, m1, m2, m3, m4, m5, m6, m7, hnv]
  generalize xs (x4 + 1).toNatClampNeg = p
  generalize xs (x4 + 2).toNatClampNeg = p'
  by_cases q : ∃ m, m < E.nA ∧ p = zJ m
  rotate_left
  · have e := zal_no hE hc.a hr q
    have e1 : (fL_bribe O (sc 47) (ar 36) (ar 39) (sc 54) t.hour t.oil t.weight t.spider t.treas t.joy t.passed (ar 66) (ar 67) p p') = some (1, O, sc 47, ar 36, ar 39, t.treas, ar 66) := by unfold fL_bribe fX8_bribe; rw [e.1]; rfl
    have e2 : (fX9_bribe (sc 4) t.hour t.oil t.weight t.spider t.treas t.joy t.passed (sc 23) (ar 1) (ar 11) (ar 13) (ar 14) (ar 15) p p') = some (0, 1, t.treas, sc 23, ar 11, ar 13, ar 15) := by unfold fX9_bribe; rw [e.2]; rfl
    refine zOk.eq e1 (zOk.eq e2 (zOk.eq rfl (zOk.pos rfl (zOk.neg (by show ¬ (1 : Int32) = 0; decide) (zOk.pure ?_)))))
    exact zInv_q hJ (by repeat' (first | exact zSr0 | refine zSn rfl ?_ | refine zSs (by first | rfl | assumption) ?_)) (by repeat' (first | exact zAr0 | refine zAn rfl rfl rfl ?_ | refine zAs rfl ?_))
  · obtain ⟨m, hm, rfl⟩ := q
    have e := zal_yes hE hc.a hr hm
    have i7 : inb (zJ m) 7 = true := zinb (by omega) (by omega)
    by_cases q : (p' < 1 ∨ 9 < p') ∨ ¬ p' ≤ t.treas
    · have e1 : (fL_bribe O (sc 47) (ar 36) (ar 39) (sc 54) t.hour t.oil t.weight t.spider t.treas t.joy t.passed (ar 66) (ar 67) (zJ m) p') = some (0, vp_updL O 0 (-10 : Int32).toInt64, sc 47, ar 36, upd (ar 39) 1 (ar 39 1 + 1), t.treas, ar 66) := by
        have eb : (fX8_bribe (sc 47) (ar 36) (ar 39) (sc 54) t.hour t.oil t.weight t.spider t.treas t.joy t.passed (ar 66) (ar 67) (zJ m) p') = some (Sum.inr (-10), sc 47, ar 36, upd (ar 39) 1 (ar 39 1 + 1), t.treas, ar 66) := by
          unfold fX8_bribe
          refine zBind e.1 (zElim ?_)
          by_cases z : p' < 1 ∨ 9 < p'
          · exact zBind (zin_no z).1 rfl
          · exact zBind (zin_yes z).1 ((if_pos rfl).trans ((if_neg (q.resolve_left z)).trans rfl))
        unfold fL_bribe; rw [eb]; rfl
      have e2 : (fX9_bribe (sc 4) t.hour t.oil t.weight t.spider t.treas t.joy t.passed (sc 23) (ar 1) (ar 11) (ar 13) (ar 14) (ar 15) (zJ m) p') = some (-10, 0, t.treas, sc 23, upd (ar 11) 1 (ar 11 1 + 1), ar 13, ar 15) := by
        unfold fX9_bribe
        refine zBind e.2 ((if_neg (by decide)).trans ?_)
        by_cases z : p' < 1 ∨ 9 < p'
        · exact zBind (zi_no z rfl rfl) rfl
        · exact zBind (zi_yes z rfl rfl) ((if_neg (by decide)).trans ((if_neg (q.resolve_left z)).trans rfl))
      refine zOk.eq e1 (zOk.eq e2 (zOk.eq rfl (zOk.pos rfl (zOk.pos rfl (zOk.pos (zlgO (O := O)) (zOk.pure ?_))))))
      exact zInv_mk (E := E) (t := t) hE hc hr ht ⟨c1, c2, c3, c4, rfl, c6, c7, c8, c9⟩ ⟨m1, m2, m3, m4, rfl, m6, m7, m8, m9⟩ hnv hh hse (zStat_upd hst (by decide)) htp hfp him hik
    · obtain ⟨v, w, ev, ew, hh'⟩ := zkeep hE ht hh c8 c9 m8 m9
      have z : ¬ (p' < 1 ∨ 9 < p') := fun y => q (Or.inl y)
      have z2 : p' ≤ t.treas := Classical.byContradiction fun y => q (Or.inr y)
      have e1 : (fL_bribe O (sc 47) (ar 36) (ar 39) (sc 54) t.hour t.oil t.weight t.spider t.treas t.joy t.passed (ar 66) (ar 67) (zJ m) p') = some (0, vp_updL O 0 (if t.lean m + p' < 9 then t.lean m + p' else 9).toInt64, v.1, v.2, ar 39, t.treas - p', upd (ar 66) m (if t.lean m + p' < 9 then t.lean m + p' else 9)) := by
        have eb : (fX8_bribe (sc 47) (ar 36) (ar 39) (sc 54) t.hour t.oil t.weight t.spider t.treas t.joy t.passed (ar 66) (ar 67) (zJ m) p') = some (Sum.inr (if t.lean m + p' < 9 then t.lean m + p' else 9), v.1, v.2, ar 39, t.treas - p', upd (ar 66) m (if t.lean m + p' < 9 then t.lean m + p' else 9)) := by
          unfold fX8_bribe
          refine zBind e.1 (zElim (zBind (zin_yes z).1 ((if_pos rfl).trans ((if_pos z2).trans (zBind ev ?_)))))
          rw [ck_t i7, ck_t i7, ck_t i7, zJ_ix (by omega), zupd_eq, c8 m hm]
        unfold fL_bribe; rw [eb]; rfl
      have e2 : (fX9_bribe (sc 4) t.hour t.oil t.weight t.spider t.treas t.joy t.passed (sc 23) (ar 1) (ar 11) (ar 13) (ar 14) (ar 15) (zJ m) p') = some ((if t.lean m + p' < 9 then t.lean m + p' else 9), 0, t.treas - p', w.1, ar 11, upd (ar 13) m (if t.lean m + p' < 9 then t.lean m + p' else 9), w.2) := by
        unfold fX9_bribe
        refine zBind e.2 ((if_neg (by decide)).trans (zBind (zi_yes z rfl rfl) ((if_neg (by decide)).trans ((if_pos z2).trans (zBind ew ?_)))))
        rw [ck_t i7, ck_t i7, ck_t i7, zJ_ix (by omega), zupd_eq, m8 m hm]
      refine zOk.eq e1 (zOk.eq e2 (zOk.eq rfl (zOk.pos rfl (zOk.pos rfl (zOk.pos (zlgO (O := O)) (zOk.pure ?_))))))
      have ht' : zTb E 9999 (zT.mk t.hour t.oil t.weight t.spider (t.treas - p') t.joy t.passed (upd t.lean m (if t.lean m + p' < 9 then t.lean m + p' else 9)) t.call) := by
        obtain ⟨⟨a1, a2, a3, a4, a5, a6, a7⟩, b2, b3, b4⟩ := ht
        refine ⟨⟨a1, a2, a3, ?_, a5, fun a ha => ?_, a7⟩, b2, b3, b4⟩
        · show 0 ≤ t.treas - p' ∧ t.treas - p' ≤ 9999
          grind
        · show -9 ≤ upd t.lean m _ a ∧ upd t.lean m _ a ≤ 9
          by_cases y : a = m
          · subst y
            rw [zupd_eq]
            have := a6 a ha
            grind
          · rw [zupd_ne y]; exact a6 a ha
      have al : ∀ f : Nat → Int32, (∀ a, a < E.nA → f a = t.lean a) → ∀ a, a < E.nA → upd f m (if t.lean m + p' < 9 then t.lean m + p' else 9) a = upd t.lean m (if t.lean m + p' < 9 then t.lean m + p' else 9) a := by
        intro f hf a ha
        by_cases y : a = m
        · subst y; rw [zupd_eq, zupd_eq]
        · rw [zupd_ne y, zupd_ne y]; exact hf a ha
      exact zInv_mk (E := E) (t := zT.mk t.hour t.oil t.weight t.spider (t.treas - p') t.joy t.passed (upd t.lean m (if t.lean m + p' < 9 then t.lean m + p' else 9)) t.call) hE hc hr ht' ⟨c1, c2, c3, c4, rfl, c6, c7, al _ c8, c9⟩ ⟨m1, m2, m3, m4, rfl, m6, m7, al _ m8, m9⟩ hnv hh' hse hst htp hfp him hik
theorem zst11 (h : zInv sc ar) (hx : inb (x4 + 1) L = true ∧ inb (x4 + 2) L = true ∧ inb (x4 + 3) L = true ∧ inb (x4 + 4) L = true ∧ inb (x4 + 5) L = true) : zOk (st11 L xs sc ar O x4) (fun o => zInv o.1 o.2.1) := by
  obtain ⟨E, t, hI⟩ := h
  have hJ := hI
  obtain ⟨hE, hc, hr, ht, ⟨c1, c2, c3, c4, c5, c6, c7, c8, c9⟩, ⟨m1, m2, m3, m4, m5, m6, m7, m8, m9⟩, hnv, hh, hse, hst, htp, hfp, him, hik⟩ := hI
  have h7 := hE.a7
  have h10 := hE.m10
  unfold st11
  try simp only [ck_t hx.1, ck_t hx.2.1, ck_t hx.2.2.1, ck_t hx.2.2.2.1, ck_t hx.2.2.2.2, c1, c2, c3, c4, c5, c6, c7, m1, m2, m3, m4, m5, m6, m7, hnv]
  generalize xs (x4 + 1).toNatClampNeg = p
  generalize xs (x4 + 2).toNatClampNeg = p'
  by_cases q : ∃ m, m < E.nM ∧ p = zJ m
  rotate_left
  · have e := zmo_no hE hc.m hr q
    have e1 : (fL_move O (sc 47) (ar 36) (ar 39) (sc 55) t.hour t.oil t.weight t.spider t.treas t.joy t.passed (ar 66) (ar 67) p p') = some (1, O, sc 47, ar 36, ar 39, ar 67) := by unfold fL_move fX8_move; rw [e.1]; rfl
    have e2 : (fX9_move (sc 4) t.hour t.oil t.weight t.spider t.treas t.joy t.passed (sc 23) (ar 1) (ar 11) (ar 13) (ar 14) (ar 15) p p') = some (0, 1, sc 23, ar 11, ar 14, ar 15) := by unfold fX9_move; rw [e.2]; rfl
    refine zOk.eq e1 (zOk.eq e2 (zOk.eq rfl (zOk.pos rfl (zOk.neg (by show ¬ (1 : Int32) = 0; decide) (zOk.pure ?_)))))
    exact zInv_q hJ (by repeat' (first | exact zSr0 | refine zSn rfl ?_ | refine zSs (by first | rfl | assumption) ?_)) (by repeat' (first | exact zAr0 | refine zAn rfl rfl rfl ?_ | refine zAs rfl ?_))
  · obtain ⟨m, hm, rfl⟩ := q
    have e := zmo_yes hE hc.m hr hm
    have i7 : inb (zJ m) 10 = true := zinb (by omega) (by omega)
    by_cases q : (p' < 0 ∨ 24 < p') ∨ zis t.passed (zJ m) = true
    · have e1 : (fL_move O (sc 47) (ar 36) (ar 39) (sc 55) t.hour t.oil t.weight t.spider t.treas t.joy t.passed (ar 66) (ar 67) (zJ m) p') = some (0, vp_updL O 0 (-1 : Int32).toInt64, sc 47, ar 36, upd (ar 39) 1 (ar 39 1 + 1), ar 67) := by
        have eb : (fX8_move (sc 47) (ar 36) (ar 39) (sc 55) t.hour t.oil t.weight t.spider t.treas t.joy t.passed (ar 66) (ar 67) (zJ m) p') = some (Sum.inr (-1), sc 47, ar 36, upd (ar 39) 1 (ar 39 1 + 1), ar 67) := by
          unfold fX8_move
          refine zBind e.1 (zElim (zBind zisP ?_))
          cases hz : zis t.passed (zJ m)
          · have q : p' < 0 ∨ 24 < p' := q.resolve_right (by rw [hz]; decide)
            exact (if_pos rfl).trans (zBind (zin_no q).1 rfl)
          · exact (if_neg (by decide)).trans rfl
        unfold fL_move; rw [eb]; rfl
      have e2 : (fX9_move (sc 4) t.hour t.oil t.weight t.spider t.treas t.joy t.passed (sc 23) (ar 1) (ar 11) (ar 13) (ar 14) (ar 15) (zJ m) p') = some (-1, 0, sc 23, upd (ar 11) 1 (ar 11 1 + 1), ar 14, ar 15) := by
        unfold fX9_move
        refine zBind e.2 ((if_neg (by decide)).trans (zBind zisM ?_))
        cases hz : zis t.passed (zJ m)
        · have q : p' < 0 ∨ 24 < p' := q.resolve_right (by rw [hz]; decide)
          exact (if_pos rfl).trans (zBind (zi_no q rfl rfl) rfl)
        · exact (if_neg (by decide)).trans rfl
      refine zOk.eq e1 (zOk.eq e2 (zOk.eq rfl (zOk.pos rfl (zOk.pos rfl (zOk.pos (zlgO (O := O)) (zOk.pure ?_))))))
      exact zInv_mk (E := E) (t := t) hE hc hr ht ⟨c1, c2, c3, c4, c5, c6, c7, c8, c9⟩ ⟨m1, m2, m3, m4, m5, m6, m7, m8, m9⟩ hnv hh hse (zStat_upd hst (by decide)) htp hfp him hik
    · obtain ⟨v, w, ev, ew, hh'⟩ := zkeep hE ht hh c8 c9 m8 m9
      have z : ¬ (p' < 0 ∨ 24 < p') := fun y => q (Or.inl y)
      have z2 : zis t.passed (zJ m) = false := by
        cases hz : zis t.passed (zJ m)
        · rfl
        · exact absurd (Or.inr hz) q
      have e1 : (fL_move O (sc 47) (ar 36) (ar 39) (sc 55) t.hour t.oil t.weight t.spider t.treas t.joy t.passed (ar 66) (ar 67) (zJ m) p') = some (0, vp_updL O 0 (t.call m).toInt64, v.1, v.2, ar 39, upd (ar 67) m p') := by
        have eb : (fX8_move (sc 47) (ar 36) (ar 39) (sc 55) t.hour t.oil t.weight t.spider t.treas t.joy t.passed (ar 66) (ar 67) (zJ m) p') = some (Sum.inr (t.call m), v.1, v.2, ar 39, upd (ar 67) m p') := by
          unfold fX8_move
          refine zBind e.1 (zElim (zBind zisP ?_))
          rw [z2]
          refine (if_pos rfl).trans (zBind (zin_yes z).1 ((if_pos rfl).trans (zBind ev ?_)))
          rw [ck_t i7, ck_t i7, zJ_ix (by omega), c9 m hm]
        unfold fL_move; rw [eb]; rfl
      have e2 : (fX9_move (sc 4) t.hour t.oil t.weight t.spider t.treas t.joy t.passed (sc 23) (ar 1) (ar 11) (ar 13) (ar 14) (ar 15) (zJ m) p') = some (t.call m, 0, w.1, ar 11, upd (ar 14) m p', w.2) := by
        unfold fX9_move
        refine zBind e.2 ((if_neg (by decide)).trans (zBind zisM ?_))
        rw [z2]
        refine (if_pos rfl).trans (zBind (zi_yes z rfl rfl) ((if_neg (by decide)).trans (zBind ew ?_)))
        rw [ck_t i7, ck_t i7, zJ_ix (by omega), m9 m hm]
      refine zOk.eq e1 (zOk.eq e2 (zOk.eq rfl (zOk.pos rfl (zOk.pos rfl (zOk.pos (zlgO (O := O)) (zOk.pure ?_))))))
      have ht' : zTb E 9999 (zT.mk t.hour t.oil t.weight t.spider t.treas t.joy t.passed t.lean (upd t.call m p')) := by
        obtain ⟨⟨a1, a2, a3, a4, a5, a6, a7⟩, b2, b3, b4⟩ := ht
        refine ⟨⟨a1, a2, a3, a4, a5, a6, fun a ha => ?_⟩, b2, b3, b4⟩
        show 0 ≤ upd t.call m p' a ∧ upd t.call m p' a ≤ 24
        by_cases y : a = m
        · subst y
          rw [zupd_eq]
          grind
        · rw [zupd_ne y]; exact a7 a ha
      have al : ∀ f : Nat → Int32, (∀ a, a < E.nM → f a = t.call a) → ∀ a, a < E.nM → upd f m p' a = upd t.call m p' a := by
        intro f hf a ha
        by_cases y : a = m
        · subst y; rw [zupd_eq, zupd_eq]
        · rw [zupd_ne y, zupd_ne y]; exact hf a ha
      exact zInv_mk (E := E) (t := zT.mk t.hour t.oil t.weight t.spider t.treas t.joy t.passed t.lean (upd t.call m p')) hE hc hr ht' ⟨c1, c2, c3, c4, c5, c6, c7, c8, al _ c9⟩ ⟨m1, m2, m3, m4, m5, m6, m7, m8, al _ m9⟩ hnv hh' hse hst htp hfp him hik
theorem zl_copy {nP : Nat} {P1 : Nat → Int32} (hn : nP < 5000) : ∀ (k i fuel : Nat) (P : Nat → Int32), k + i = nP → k < fuel → ∃ P', lX9_copyTo_2 (fun P => some P) nP nP P1 fuel P (zJ i) = some P' ∧ (∀ j, i ≤ j → j < nP → P' j = P1 j) ∧ (∀ j, j < i → P' j = P j) := by
  intro k
  induction k with
  | zero =>
    intro i fuel P hk hf
    obtain ⟨fuel, rfl, hf⟩ := zfu hf
    unfold lX9_copyTo_2
    rw [if_pos (show Int32.ofNat nP ≤ zJ i from zJ_yle (by omega) (by omega))]
    exact ⟨P, rfl, fun j h1 h2 => by omega, fun j _ => rfl⟩
  | succ k ih =>
    intro i fuel P hk hf
    obtain ⟨fuel, rfl, hf⟩ := zfu hf
    unfold lX9_copyTo_2
    rw [if_neg (show ¬ Int32.ofNat nP ≤ zJ i from zJ_nle (by omega) (by omega)), ck_t (zinb (by omega) (by omega)), ck_t (zinb (by omega) (by omega)), zJ_ix (by omega), zJ_succ]
    obtain ⟨P', e, h1, h2⟩ := ih (i + 1) fuel (upd P i (P1 i)) (by omega) (by omega)
    refine ⟨P', e, fun j ha hb => ?_, fun j hj => ?_⟩
    · by_cases q : j = i
      · subst q; rw [h2 _ (by omega), zupd_eq]
      · exact h1 j (by omega) hb
    · rw [h2 _ (by omega), zupd_ne (by omega)]
theorem zm_copyTo {nP : Nat} {P P1 : Nat → Int32} (hn : nP < 5000) : ∃ P', fX9_copyTo nP nP P P1 = some P' ∧ ∀ j, j < nP → P' j = P1 j := by
  obtain ⟨P', e, h1, _⟩ := zl_copy (P1 := P1) hn nP 0 FU P (by omega) (by unfold FU; omega)
  exact ⟨P', e, fun j hj => h1 j (by omega) hj⟩
theorem zHist_cong {E : zE} (hE : zEok E) {n n' : Int32} {P P' Q Q' : Nat → Int32} (h : zHist E n n' P P') (e : ∀ j, j < 960 → Q j = P j) (e' : ∀ j, j < 960 → Q' j = P' j) : zHist E n n' Q Q' := by
  obtain ⟨k, hk, e1, e2, hr⟩ := h
  refine ⟨k, hk, e1, e2, fun i hi => ?_⟩
  obtain ⟨u, a1, a2, a3⟩ := hr i hi
  exact ⟨u, a1, zRow_cong hE a2 (fun j hj => e _ (by omega)), zRow_cong hE a3 (fun j hj => e' _ (by omega))⟩
theorem zSeenR_cong {n n' : Int32} {h s h' s' g r g' r' : Nat → Int32} (x : zSeenR n n' h s h' s') (e1 : ∀ j, j < 8 → g j = h j) (e2 : ∀ j, j < 8 → r j = s j) (e3 : ∀ j, j < 8 → g' j = h' j) (e4 : ∀ j, j < 8 → r' j = s' j) : zSeenR n n' g r g' r' := by
  obtain ⟨k, hk, a1, a2, hr⟩ := x
  refine ⟨k, hk, a1, a2, fun i hi => ?_⟩
  rw [e1 i (by omega), e2 i (by omega), e3 i (by omega), e4 i (by omega)]
  exact hr i hi
theorem zStat_cong {a b a' b' : Nat → Int32} (h : zStat a b) (e1 : ∀ j, j < 3 → a' j = a j) (e2 : ∀ j, j < 3 → b' j = b j) : zStat a' b' := fun i hi => by rw [e1 i hi, e2 i hi]; exact h i hi
theorem zcpy0 {f g : Nat → Int32} {n j : Nat} (h : j < n) : va_cpy f g 0 0 n j = f j := by rw [zcpy_at (by omega) (by omega)]; congr 1; omega
theorem zst38 (h : zInv sc ar) (hx : inb (x4 + 1) L = true ∧ inb (x4 + 2) L = true ∧ inb (x4 + 3) L = true ∧ inb (x4 + 4) L = true ∧ inb (x4 + 5) L = true) : zOk (st38 L xs sc ar O x4) (fun o => zInv o.1 o.2.1) := by
  obtain ⟨E, t, hI⟩ := h
  have hJ := hI
  obtain ⟨hE, hc, hr, ht, ⟨c1, c2, c3, c4, c5, c6, c7, c8, c9⟩, ⟨m1, m2, m3, m4, m5, m6, m7, m8, m9⟩, hnv, hh, hse, hst, htp, hfp, him, hik⟩ := hI
  have h7 := hE.a7
  have h10 := hE.m10
  unfold st38
  try simp only [ck_t hx.1, ck_t hx.2.1, ck_t hx.2.2.1, ck_t hx.2.2.2.1, ck_t hx.2.2.2.2, c1, c2, c3, c4, c5, c6, c7, m1, m2, m3, m4, m5, m6, m7, hnv]
  have e1 : (fX8_image (sc 2) (sc 47) (sc 48) (ar 36) (ar 37) (ar 38) (ar 39) (sc 49) (sc 50) (ar 40) (ar 41) (ar 42) (ar 43) t.hour t.oil t.weight t.spider t.treas t.joy t.passed (ar 66) (ar 67) (sc 84) (sc 85) (sc 86) (sc 87) (sc 88) (sc 89) (sc 90) (ar 72) (ar 73)) = some (1, sc 47, sc 48, va_cpy (ar 36) (ar 40) 0 0 960, va_cpy (ar 37) (ar 41) 0 0 8, va_cpy (ar 38) (ar 42) 0 0 8, va_cpy (ar 39) (ar 43) 0 0 3, t.hour, t.oil, t.weight, t.spider, t.treas, t.joy, t.passed, va_cpy (ar 66) (ar 72) 0 0 7, va_cpy (ar 67) (ar 73) 0 0 10) := by
    unfold fX8_image
    exact zBind zcopyA rfl
  obtain ⟨P, eP, hP, _⟩ := zm_pack (n0 := 24) (p := 0) (h := t.hour) (o := t.oil) (w := t.weight) (s := t.spider) (tr := t.treas) (jo := t.joy) (pa := t.passed) (lean := ar 13) (call := ar 14) (P := ar 26) (by omega) (by omega)
  obtain ⟨P1, f1, g1⟩ := zm_copyTo (nP := 960) (P := ar 27) (P1 := ar 15) (by omega)
  obtain ⟨P2, f2, g2⟩ := zm_copyTo (nP := 8) (P := ar 28) (P1 := ar 21) (by omega)
  obtain ⟨P3, f3, g3⟩ := zm_copyTo (nP := 8) (P := ar 29) (P1 := ar 22) (by omega)
  obtain ⟨P4, f4, g4⟩ := zm_copyTo (nP := 3) (P := ar 30) (P1 := ar 11) (by omega)
  have e2 : (fX9_image (sc 4) t.hour t.oil t.weight t.spider t.treas t.joy t.passed (sc 23) (sc 24) (sc 30) (sc 31) (sc 32) (ar 11) (ar 13) (ar 14) (ar 15) (ar 21) (ar 22) (ar 26) (ar 27) (ar 28) (ar 29) (ar 30)) = some (0, 1, sc 23, sc 24, P, P1, P2, P3, P4) := by
    unfold fX9_image; exact zBind eP (zBind f1 (zBind f2 (zBind f3 (zBind f4 rfl))))
  refine zOk.eq e1 (zOk.eq e2 (zOk.pure ?_))
  refine zInv_mk (E := E) (t := t) hE hc hr ht ⟨c1, c2, c3, c4, c5, c6, c7, c8, c9⟩ ⟨m1, m2, m3, m4, m5, m6, m7, m8, m9⟩ hnv hh hse hst htp hfp rfl (Or.inr ⟨rfl, t, ht, ?_, zPk_row hE m8 m9 hP, zHist_cong hE hh (fun j hj => zcpy0 hj) g1, zSeenR_cong hse (fun j hj => zcpy0 hj) (fun j hj => zcpy0 hj) g2 g3, zStat_cong hst (fun j hj => zcpy0 hj) g4⟩)
  exact ⟨rfl, rfl, rfl, rfl, rfl, rfl, rfl, fun a ha => (zcpy0 (by omega)).trans (c8 a ha), fun m hm => (zcpy0 (by omega)).trans (c9 m hm)⟩
theorem zst39 (h : zInv sc ar) (hx : inb (x4 + 1) L = true ∧ inb (x4 + 2) L = true ∧ inb (x4 + 3) L = true ∧ inb (x4 + 4) L = true ∧ inb (x4 + 5) L = true) : zOk (st39 L xs sc ar O x4) (fun o => zInv o.1 o.2.1) := by
  obtain ⟨E, t, hI⟩ := h
  have hJ := hI
  obtain ⟨hE, hc, hr, ht, ⟨c1, c2, c3, c4, c5, c6, c7, c8, c9⟩, ⟨m1, m2, m3, m4, m5, m6, m7, m8, m9⟩, hnv, hh, hse, hst, htp, hfp, him, hik⟩ := hI
  have h7 := hE.a7
  have h10 := hE.m10
  unfold st39
  try simp only [ck_t hx.1, ck_t hx.2.1, ck_t hx.2.2.1, ck_t hx.2.2.2.1, ck_t hx.2.2.2.2, c1, c2, c3, c4, c5, c6, c7, m1, m2, m3, m4, m5, m6, m7, hnv]
  rcases hik with hik | ⟨hik, u, hu, ⟨k1, k2, k3, k4, k5, k6, k7, k8, k9⟩, kr, kh, ks, kst⟩
  · have e1 : (fX8_restore (sc 2) (sc 47) (sc 48) (ar 36) (ar 37) (ar 38) (ar 39) (sc 49) (sc 50) (ar 40) (ar 41) (ar 42) (ar 43) t.hour t.oil t.weight t.spider t.treas t.joy t.passed (ar 66) (ar 67) (sc 84) (sc 85) (sc 86) (sc 87) (sc 88) (sc 89) (sc 90) (ar 72) (ar 73)) = some (0, sc 47, sc 48, ar 36, ar 37, ar 38, ar 39, t.hour, t.oil, t.weight, t.spider, t.treas, t.joy, t.passed, ar 66, ar 67) := by
      unfold fX8_restore; rw [hik]; rfl
    have e2 : (fX9_restore (sc 4) t.hour t.oil t.weight t.spider t.treas t.joy t.passed (sc 23) (sc 24) (sc 30) (sc 31) (sc 32) (ar 11) (ar 13) (ar 14) (ar 15) (ar 21) (ar 22) (ar 26) (ar 27) (ar 28) (ar 29) (ar 30)) = some (0, 0, t.hour, t.oil, t.weight, t.spider, t.treas, t.joy, t.passed, sc 23, sc 24, ar 11, ar 13, ar 14, ar 15, ar 21, ar 22) := by
      unfold fX9_restore; rw [him, hik]; rfl
    refine zOk.eq e1 (zOk.eq e2 (zOk.pos rfl (zOk.pure ?_)))
    exact zInv_mk (E := E) (t := t) hE hc hr ht ⟨rfl, rfl, rfl, rfl, rfl, rfl, rfl, c8, c9⟩ ⟨rfl, rfl, rfl, rfl, rfl, rfl, rfl, m8, m9⟩ hnv hh hse hst htp hfp him (Or.inl hik)
  · have e1 : (fX8_restore (sc 2) (sc 47) (sc 48) (ar 36) (ar 37) (ar 38) (ar 39) (sc 49) (sc 50) (ar 40) (ar 41) (ar 42) (ar 43) t.hour t.oil t.weight t.spider t.treas t.joy t.passed (ar 66) (ar 67) (sc 84) (sc 85) (sc 86) (sc 87) (sc 88) (sc 89) (sc 90) (ar 72) (ar 73)) = some (1, sc 49, sc 50, va_cpy (ar 40) (ar 36) 0 0 960, va_cpy (ar 41) (ar 37) 0 0 8, va_cpy (ar 42) (ar 38) 0 0 8, va_cpy (ar 43) (ar 39) 0 0 3, u.hour, u.oil, u.weight, u.spider, u.treas, u.joy, u.passed, va_cpy (ar 72) (ar 66) 0 0 7, va_cpy (ar 73) (ar 67) 0 0 10) := by
      unfold fX8_restore; rw [hik, k1, k2, k3, k4, k5, k6, k7]
      exact (if_neg (by decide)).trans (zBind zcopyA rfl)
    obtain ⟨b0, b1, b2, b3, b4, b5, b6, b7, b8⟩ := id kr
    obtain ⟨w, ew, Lw, Cw, rfl, hLw, hCw⟩ := zm_unpack (n0 := 24) (p := 0) (P := ar 26) (h' := t.hour) (o' := t.oil) (w' := t.weight) (s' := t.spider) (tr' := t.treas) (jo' := t.joy) (pa' := t.passed) (lean' := ar 13) (call' := ar 14) (h := u.hour) (o := u.oil) (w := u.weight) (s := u.spider) (tr := u.treas) (jo := u.joy) (pa := u.passed) (lean := fun a => ar 26 (0 + 7 + a)) (call := fun m => ar 26 (0 + 14 + m)) (by omega) (by omega) ⟨b0, b1, b2, b3, b4, b5, b6, fun _ _ => rfl, fun _ _ => rfl⟩
    obtain ⟨P1, f1, g1⟩ := zm_copyTo (nP := 960) (P := ar 15) (P1 := ar 27) (by omega)
    obtain ⟨P2, f2, g2⟩ := zm_copyTo (nP := 8) (P := ar 21) (P1 := ar 28) (by omega)
    obtain ⟨P3, f3, g3⟩ := zm_copyTo (nP := 8) (P := ar 22) (P1 := ar 29) (by omega)
    obtain ⟨P4, f4, g4⟩ := zm_copyTo (nP := 3) (P := ar 11) (P1 := ar 30) (by omega)
    have e2 : (fX9_restore (sc 4) t.hour t.oil t.weight t.spider t.treas t.joy t.passed (sc 23) (sc 24) (sc 30) (sc 31) (sc 32) (ar 11) (ar 13) (ar 14) (ar 15) (ar 21) (ar 22) (ar 26) (ar 27) (ar 28) (ar 29) (ar 30)) = some (1, 0, u.hour, u.oil, u.weight, u.spider, u.treas, u.joy, u.passed, sc 31, sc 32, P4, Lw, Cw, P1, P2, P3) := by
      unfold fX9_restore; rw [him, hik]
      exact (if_neg (by decide)).trans (zBind ew (zBind f1 (zBind f2 (zBind f3 (zBind f4 rfl)))))
    refine zOk.eq e1 (zOk.eq e2 (zOk.pos rfl (zOk.pure ?_)))
    exact zInv_mk (E := E) (t := u) hE hc hr hu ⟨rfl, rfl, rfl, rfl, rfl, rfl, rfl, fun a ha => (zcpy0 (by omega)).trans (k8 a ha), fun m hm => (zcpy0 (by omega)).trans (k9 m hm)⟩ ⟨rfl, rfl, rfl, rfl, rfl, rfl, rfl, fun a ha => (hLw a (by omega)).trans (b7 a ha), fun m hm => (hCw m (by omega)).trans (b8 m hm)⟩ hnv (zHist_cong hE kh (fun j hj => zcpy0 hj) g1) (zSeenR_cong ks (fun j hj => zcpy0 hj) (fun j hj => zcpy0 hj) g2 g3) (zStat_cong kst (fun j hj => zcpy0 hj) g4) htp hfp him (Or.inr ⟨hik, u, hu, ⟨k1, k2, k3, k4, k5, k6, k7, k8, k9⟩, kr, kh, ks, kst⟩)
end
