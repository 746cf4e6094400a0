/-! ===== pure: the game, orders of the day ===== -/
def zgain (c ot w j : Int32) : Int32 := if c = 1 then 0 else if w = 0 then -1 else if ot = 1 then (2 : Int32) * j else j
theorem zgain_c {c ot w j : Int32} : fX3_gain c ot w j = some (zgain c ot w j) := by
  unfold fX3_gain zgain
  split
  · rfl
  · split
    · rfl
    · split <;> rfl
def zrest (w1 w2 j1 j2 a b : Int32) : Bool := !decide (zgain a b w1 j1 < zgain (1 - a) b w1 j1) && !decide (zgain b a w2 j2 < zgain (1 - b) a w2 j2)
theorem zl_67 {ka kb : Int32 → Option (Int32 × (Nat → Int32) × (Nat → Int32))} {x4 w1 w2 j1 j2 a s b : Int32} {n : Nat} (hb : ¬ 1 < b) : lX3_restingCouples_67 ka kb x4 w1 w2 j1 j2 a (n + 1) s b = if zrest w1 w2 j1 j2 a b then (if x4 = 0 then lX3_restingCouples_67 ka kb x4 w1 w2 j1 j2 a n (s + 1) (b + 1) else ka b) else lX3_restingCouples_67 ka kb x4 w1 w2 j1 j2 a n s (b + 1) := by
  rw [lX3_restingCouples_67, if_neg hb]
  simp only [zgain_c, Option.bind_some]
  unfold zrest
  by_cases q1 : zgain a b w1 j1 < zgain (1 - a) b w1 j1
  · simp [q1]
  · by_cases q2 : zgain b a w2 j2 < zgain (1 - b) a w2 j2
    · simp [q1, q2]
    · simp [q1, q2]
theorem zl_67e {ka kb : Int32 → Option (Int32 × (Nat → Int32) × (Nat → Int32))} {x4 w1 w2 j1 j2 a s b : Int32} {n : Nat} (hb : 1 < b) : lX3_restingCouples_67 ka kb x4 w1 w2 j1 j2 a (n + 1) s b = kb s := by
  rw [lX3_restingCouples_67, if_pos hb]
theorem zl_67w {ka kb : Int32 → Option (Int32 × (Nat → Int32) × (Nat → Int32))} {x4 w1 w2 j1 j2 a s : Int32} : lX3_restingCouples_67 ka kb x4 w1 w2 j1 j2 a FU s 0 = if x4 = 0 then kb (s + (if zrest w1 w2 j1 j2 a 0 then 1 else 0) + (if zrest w1 w2 j1 j2 a 1 then 1 else 0)) else if zrest w1 w2 j1 j2 a 0 then ka 0 else if zrest w1 w2 j1 j2 a 1 then ka 1 else kb s := by
  rw [show FU = 4997 + 1 + 1 + 1 from rfl, zl_67 (by decide), show (0 : Int32) + 1 = 1 from rfl, zl_67 (b := 1) (by decide), zl_67 (b := 1) (by decide), show (1 : Int32) + 1 = 2 from rfl, zl_67e (b := 2) (by decide), zl_67e (b := 2) (by decide), zl_67e (b := 2) (by decide)]
  by_cases q : x4 = 0
  · cases h0 : zrest w1 w2 j1 j2 a 0 <;> cases h1 : zrest w1 w2 j1 j2 a 1 <;> simp [q]
  · cases h0 : zrest w1 w2 j1 j2 a 0 <;> cases h1 : zrest w1 w2 j1 j2 a 1 <;> simp [q]
def zcouples (R : Int32 → Int32 → Bool) : Int32 := 0 + (if R 0 0 then 1 else 0) + (if R 0 1 then 1 else 0) + (if R 1 0 then 1 else 0) + (if R 1 1 then 1 else 0)
def zfirstC (R : Int32 → Int32 → Bool) : Int32 := if R 0 0 then 0 else if R 0 1 then 1 else if R 1 0 then 10 else if R 1 1 then 11 else -1
theorem zl_58s {ka : Int32 → Int32 → Option (Int32 × (Nat → Int32) × (Nat → Int32))} {kb : Int32 → Option (Int32 × (Nat → Int32) × (Nat → Int32))} {x4 w1 w2 j1 j2 s a : Int32} {n : Nat} (h : ¬ 1 < a) : lX3_restingCouples_58 ka kb x4 w1 w2 j1 j2 (n + 1) s a = lX3_restingCouples_67 (fun b => ka a b) (fun s => lX3_restingCouples_58 ka kb x4 w1 w2 j1 j2 n s (a + 1)) x4 w1 w2 j1 j2 a FU s 0 := by rw [lX3_restingCouples_58, if_neg h]
theorem zl_58e {ka : Int32 → Int32 → Option (Int32 × (Nat → Int32) × (Nat → Int32))} {kb : Int32 → Option (Int32 × (Nat → Int32) × (Nat → Int32))} {x4 w1 w2 j1 j2 s a : Int32} {n : Nat} (h : 1 < a) : lX3_restingCouples_58 ka kb x4 w1 w2 j1 j2 (n + 1) s a = kb s := by rw [lX3_restingCouples_58, if_pos h]
theorem zl_58 {V S : Nat → Int32} {x4 w1 w2 j1 j2 : Int32} : lX3_restingCouples_58 (fun a b => some ((((10 : Int32) * a) + b), V, S)) (fun x => if x4 = 0 then some (x, V, S) else some (-1, V, S)) x4 w1 w2 j1 j2 FU 0 0 = some (if x4 = 0 then zcouples (zrest w1 w2 j1 j2) else zfirstC (zrest w1 w2 j1 j2), V, S) := by
  have hf : FU = 4997 + 1 + 1 + 1 := rfl
  conv => lhs; rw [hf]
  simp only [zl_58s (show ¬ (1 : Int32) < 0 by decide), zl_67w, zl_58s (show ¬ (1 : Int32) < 0 + 1 by decide), zl_58e (show (1 : Int32) < 0 + 1 + 1 by decide)]
  unfold zcouples zfirstC
  rw [show (0 : Int32) + 1 = 1 from rfl]
  by_cases q : x4 = 0
  · simp only [if_pos q]
  · simp only [if_neg q]
    cases zrest w1 w2 j1 j2 0 0 <;> cases zrest w1 w2 j1 j2 0 1 <;> cases zrest w1 w2 j1 j2 1 0 <;> cases zrest w1 w2 j1 j2 1 1 <;> rfl
section
variable {A2_acts A2_seen A_acts A_seen B2_aldermen B2_codeLength B2_motions B2_oil B2_treasury B2_weight B_aldermen B_codeLength B_motions B_oil B_treasury B_weight D_aldermen D_codeLength D_motions D_oil D_treasury D_weight F_seed K_acts K_seen M_acts M_actsThen M_at M_bad M_badPlace M_begins M_code M_faultPlace M_fitMany M_hasImage M_hoarse M_hour M_joy M_never M_number M_ofVoting M_oil M_passed M_said M_seedNow M_seen M_seenThen M_size M_spider M_stops M_taped M_token M_treasury M_values M_weight R_clockIsTold R_depth R_digits R_end R_fault R_notMayStand R_nots R_number R_partIsDue R_place R_start R_token R_waits T2_hour T2_joy T2_oil T2_passed T2_spider T2_treasury T2_weight T_hour T_joy T_oil T_passed T_spider T_treasury T_weight V_hour V_joy V_oil V_passed V_spider V_treasury V_weight X_hour X_joy X_oil X_passed X_spider X_treasury X_weight Y_hour Y_joy Y_oil Y_passed Y_spider Y_treasury Y_weight Z_faultPlace Z_hasImage Z_tapeLength : Int32} {A2_before A2_refused A2_seenHour A2_seenNumber A_before A_refused A_seenHour A_seenNumber B2_call B2_code B2_cost B2_deaf B2_follows B2_joy B2_kind B2_lean B2_ruleFrom B2_ruleTo B_call B_code B_cost B_deaf B_follows B_joy B_kind B_lean B_ruleFrom B_ruleTo C_stack C_values D_call D_code D_cost D_deaf D_follows D_joy D_kind D_lean D_ruleFrom D_ruleTo F_times K_before K_refused K_seenHour K_seenNumber M_asked M_behind M_call M_callTold M_cost M_deaf M_extras M_fits M_imageRow M_kind M_lean M_leanTold M_past M_pastThen M_pleases M_rowSeen M_rowThen M_saidOften M_saids M_seenIn M_seenInThen M_seenSaid M_seenSaidThen M_signsSays M_signsVotes M_stack M_status M_statusThen M_tape M_told R_tape R_waiting S_heard S_unlike T2_call T2_lean T_call T_lean U_prices V_call V_lean X_call X_lean Y_call Y_lean Z_tape : Nat → Int32}
variable {E : zE} {t : zT} {n : Nat} {wo : Int32}
theorem zm_gain (hE : zEok E) (hr : zRef E M_told M_deaf M_kind M_cost M_pleases M_behind M_signsSays M_signsVotes) (ht : zTok E t) (hl : ∀ a, a < E.nA → M_lean a = t.lean a) {m : Nat} (hm : m < E.nM) {said c ot : Int32} : zOk (fX9_gain t.treas t.passed M_told M_deaf M_kind M_cost M_pleases M_signsVotes M_lean M_asked M_stack (zJ m) said c ot) (fun o => o.1 = zgain c ot (if zwould E t m said then 1 else 0) (E.joy m)) := by
  have h10 := hE.m10
  unfold fX9_gain zgain
  refine zOk.ite (fun q => ?_) (fun q => ?_)
  · rw [if_pos q]; exact zOk.pure rfl
  · rw [if_neg q]
    refine zOk.bind (zm_would hE hr ht hl hm) (fun o ho => ?_)
    rw [ho]
    refine zOk.ite (fun q2 => ?_) (fun q2 => ?_)
    · rw [if_pos q2]; exact zOk.pure rfl
    · rw [if_neg q2, ck_t (zinb (by omega) (by omega)), ck_t (zinb (by omega) (by omega)), zJ_ix (by omega), hr.joy m hm]
      refine zOk.ite (fun q3 => ?_) (fun q3 => ?_)
      · rw [if_pos q3]; exact zOk.pure rfl
      · rw [if_neg q3]; exact zOk.pure rfl
def zgs (R : Int32 → Int32 → Bool) : Nat → Nat → Int32 × Int32 → Int32 × Int32
  | 0, _, s => s
  | k + 1, c, s => zgs R k (c + 1) (if R (zJ (c / 2)) (zJ (c % 2)) then (s.1 + 1, if s.2 = -1 then (10 : Int32) * zJ (c / 2) + zJ (c % 2) else s.2) else s)
theorem zr_game {ke : _} {Q : _} (hE : zEok E) (hr : zRef E M_told M_deaf M_kind M_cost M_pleases M_behind M_signsSays M_signsVotes) (ht : zTok E t) (hl : ∀ a, a < E.nA → M_lean a = t.lean a) {m1 m2 : Nat} (hm1 : m1 < E.nM) (hm2 : m2 < E.nM) {said : Int32} : ∀ (k c fuel : Nat) (M_asked M_stack : Nat → Int32) (s : Int32 × Int32), k + c = 4 → k < fuel → (∀ V S, zOk (ke V S (zgs (zrest (if zwould E t m1 said then 1 else 0) (if zwould E t m2 said then 1 else 0) (E.joy m1) (E.joy m2)) k c s).1 (zgs (zrest (if zwould E t m1 said then 1 else 0) (if zwould E t m2 said then 1 else 0) (E.joy m1) (E.joy m2)) k c s).2) Q) → zOk (lX9_game_90 ke t.treas t.passed M_told M_deaf M_kind M_cost M_pleases M_signsVotes M_lean (zJ m1) (zJ m2) said fuel M_asked M_stack s.1 s.2 (zJ c)) Q := by
  intro k
  induction k with
  | zero =>
    intro c fuel M_asked M_stack s hk hf kk
    obtain ⟨fuel, rfl, hf⟩ := zfu hf
    unfold lX9_game_90
    exact zOk.pos (zJ_yle (a := 4) (by omega) (by omega)) (kk _ _)
  | succ k ih =>
    intro c fuel M_asked M_stack s hk hf kk
    obtain ⟨fuel, rfl, hf⟩ := zfu hf
    unfold lX9_game_90
    refine zOk.neg (zJ_nle (a := 4) (by omega) (by omega)) ?_
    have e1 : zJ c / (2 : Int32) = zJ (c / 2) := zJ_div (b := 2) (by omega) (by omega)
    have e2 : zJ c - zJ (c / 2) * (2 : Int32) = zJ (c % 2) := by rw [← e1]; exact zJ_mod (b := 2) (by omega) (by omega)
    rw [e1, e2, zJ_succ]
    have ih' := fun V S s' (e : s' = (if zrest (if zwould E t m1 said then 1 else 0) (if zwould E t m2 said then 1 else 0) (E.joy m1) (E.joy m2) (zJ (c / 2)) (zJ (c % 2)) then (s.1 + 1, if s.2 = -1 then (10 : Int32) * zJ (c / 2) + zJ (c % 2) else s.2) else s)) => ih (c + 1) fuel V S s' (by omega) (by omega) (by rw [e]; exact kk)
    unfold zrest at ih'
    generalize zJ (c / 2) = a at *
    generalize zJ (c % 2) = b at *
    refine zOk.bind (zm_gain hE hr ht hl hm1) (fun o1 h1 => zOk.bind (zm_gain hE hr ht hl hm1) (fun o2 h2 => ?_))
    rw [h1, h2]
    refine zOk.ite (fun q => ?_) (fun q => ?_)
    · exact ih' _ _ _ (by simp [q])
    · refine zOk.bind (zm_gain hE hr ht hl hm2) (fun o3 h3 => zOk.bind (zm_gain hE hr ht hl hm2) (fun o4 h4 => ?_))
      rw [h3, h4]
      refine zOk.ite (fun q2 => ?_) (fun q2 => ?_)
      · have q2' : ¬ zgain b a (if zwould E t m2 said then 1 else 0) (E.joy m2) < zgain (1 - b) a (if zwould E t m2 said then 1 else 0) (E.joy m2) := Int32.not_lt.2 q2
        refine zOk.ite (fun q3 => ?_) (fun q3 => ?_)
        · exact ih' _ _ (s.1 + 1, (10 : Int32) * a + b) (by simp [q, q2', q3])
        · exact ih' _ _ (s.1 + 1, s.2) (by simp [q, q2', q3])
      · have q2' : zgain b a (if zwould E t m2 said then 1 else 0) (E.joy m2) < zgain (1 - b) a (if zwould E t m2 said then 1 else 0) (E.joy m2) := Int32.not_le.1 q2
        exact ih' _ _ _ (by simp [q, q2'])
def zgF1 (r : Bool) (v : Int32) (s : Int32 × Int32) : Int32 × Int32 := if r then (s.1 + 1, if s.2 = -1 then v else s.2) else s
theorem zgF_dec : ∀ r0 r1 r2 r3 : Bool, zgF1 r3 11 (zgF1 r2 10 (zgF1 r1 1 (zgF1 r0 0 (0, -1)))) = (0 + (if r0 then 1 else 0) + (if r1 then 1 else 0) + (if r2 then 1 else 0) + (if r3 then 1 else 0), if r0 then 0 else if r1 then 1 else if r2 then 10 else if r3 then 11 else -1) := by decide
theorem zgs4 {R : Int32 → Int32 → Bool} : zgs R 4 0 (0, -1) = (zcouples R, zfirstC R) := by
  have e : zgs R 4 0 (0, -1) = zgF1 (R 1 1) 11 (zgF1 (R 1 0) 10 (zgF1 (R 0 1) 1 (zgF1 (R 0 0) 0 (0, -1)))) := rfl
  rw [e]
  exact zgF_dec _ _ _ _
end
section
variable {L : Nat} {xs : Nat → Int32} {sc : Nat → Int32} {ar : Nat → Nat → Int32} {O : Nat → Int64} {x4 : Int32}
theorem zst36 (h : zInv sc ar) (hx : inb (x4 + 1) L = true ∧ inb (x4 + 2) L = true ∧ inb (x4 + 3) L = true ∧ inb (x4 + 4) L = true ∧ inb (x4 + 5) L = true) : zOk (st36 L xs sc ar O x4) (fun o => zInv o.1 o.2.1) := by
  obtain ⟨E, t, hI⟩ := h
  have hJ := hI
  obtain ⟨hE, hc, hr, ht, ⟨c1, c2, c3, c4, c5, c6, c7, c8, c9⟩, ⟨m1, m2, m3, m4, m5, m6, m7, m8, m9⟩, hnv, hh, hse, hst, htp, hfp, him, hik⟩ := hI
  have h7 := hE.a7
  have h10 := hE.m10
  unfold st36
  try simp only [ck_t hx.1, ck_t hx.2.1, ck_t hx.2.2.1, ck_t hx.2.2.2.1, ck_t hx.2.2.2.2, c1, c2, c3, c4, c5, c6, c7, m1, m2, m3, m4, m5, m6, m7, hnv]
  generalize xs (x4 + 1).toNatClampNeg = p
  generalize xs (x4 + 2).toNatClampNeg = p'
  generalize xs (x4 + 3).toNatClampNeg = p''
  suffices key : ∃ (R : Sum Nat Int32) (a c : Int32), zOk (fX8_game (ar 44) (ar 45) (sc 54) (sc 55) (ar 47) (ar 48) (ar 50) (ar 51) (ar 53) (ar 54) (ar 55) t.hour t.oil t.weight t.spider t.treas t.passed (ar 66) p p' p'') (fun v => v.1 = R) ∧ zOk (fX9_game (sc 4) t.hour t.oil t.weight t.spider t.treas t.passed (ar 1) (ar 3) (ar 4) (ar 6) (ar 7) (ar 9) (ar 10) (ar 13) (ar 16) (ar 17) p p' p'') (fun o => ∃ V S : Nat → Int32, o = (a, c, V, S)) ∧ ((R = Sum.inr a ∧ c = 0) ∨ (R = Sum.inl 1 ∧ c = 1) ∨ (R = Sum.inl 2 ∧ c = 2)) by
    obtain ⟨R, a, c, ⟨v, ev, hv⟩, ⟨w, ew, V, S, rfl⟩, hR⟩ := key
    rcases hR with ⟨rfl, rfl⟩ | ⟨rfl, rfl⟩ | ⟨rfl, rfl⟩
    · obtain ⟨o, eo, h1, h2⟩ : ∃ o, (fL_game O (ar 44) (ar 45) (sc 54) (sc 55) (ar 47) (ar 48) (ar 50) (ar 51) (ar 53) (ar 54) (ar 55) t.hour t.oil t.weight t.spider t.treas t.passed (ar 66) p p' p'') = some o ∧ o.1 = 0 ∧ o.2.1 = vp_updL O 0 a.toInt64 := by
        unfold fL_game; rw [ev]; show ∃ o, Sum.elim _ _ v.1 = some o ∧ _; rw [hv]; exact ⟨_, rfl, rfl, rfl⟩
      refine zOk.eq eo (zOk.eq ew (zOk.eq rfl (zOk.pos h1.symm (zOk.pos h1 (zOk.pos (by rw [h2]; exact zlgO) (zOk.pure ?_))))))
      exact zInv_q hJ (by repeat' (first | exact zSr0 | refine zSn rfl ?_ | refine zSs (by assumption) ?_)) (by repeat' (first | exact zAr0 | refine zAn rfl rfl rfl ?_ | refine zAn13 hL ?_ | refine zAn14 hC ?_ | refine zAs rfl ?_))
    · obtain ⟨o, eo, h1, h2⟩ : ∃ o, (fL_game O (ar 44) (ar 45) (sc 54) (sc 55) (ar 47) (ar 48) (ar 50) (ar 51) (ar 53) (ar 54) (ar 55) t.hour t.oil t.weight t.spider t.treas t.passed (ar 66) p p' p'') = some o ∧ o.1 = 1 ∧ o.2.1 = O := by
        unfold fL_game; rw [ev]; show ∃ o, Sum.elim _ _ v.1 = some o ∧ _; rw [hv]; exact ⟨_, rfl, rfl, rfl⟩
      refine zOk.eq eo (zOk.eq ew (zOk.eq rfl (zOk.pos h1.symm (zOk.neg (by rw [h1]; decide) (zOk.pure ?_)))))
      exact zInv_q hJ (by repeat' (first | exact zSr0 | refine zSn rfl ?_ | refine zSs (by assumption) ?_)) (by repeat' (first | exact zAr0 | refine zAn rfl rfl rfl ?_ | refine zAn13 hL ?_ | refine zAn14 hC ?_ | refine zAs rfl ?_))
    · obtain ⟨o, eo, h1, h2⟩ : ∃ o, (fL_game O (ar 44) (ar 45) (sc 54) (sc 55) (ar 47) (ar 48) (ar 50) (ar 51) (ar 53) (ar 54) (ar 55) t.hour t.oil t.weight t.spider t.treas t.passed (ar 66) p p' p'') = some o ∧ o.1 = 2 ∧ o.2.1 = O := by
        unfold fL_game; rw [ev]; show ∃ o, Sum.elim _ _ v.1 = some o ∧ _; rw [hv]; exact ⟨_, rfl, rfl, rfl⟩
      refine zOk.eq eo (zOk.eq ew (zOk.eq rfl (zOk.pos h1.symm (zOk.neg (by rw [h1]; decide) (zOk.pure ?_)))))
      exact zInv_q hJ (by repeat' (first | exact zSr0 | refine zSn rfl ?_ | refine zSs (by assumption) ?_)) (by repeat' (first | exact zAr0 | refine zAn rfl rfl rfl ?_ | refine zAn13 hL ?_ | refine zAn14 hC ?_ | refine zAs rfl ?_))
  by_cases q : ∃ m, m < E.nM ∧ p = zJ m
  rotate_left
  · have e := zmo_no hE hc.m hr q
    refine ⟨Sum.inl 1, 0, 1, ?_, ?_, Or.inr (Or.inl ⟨rfl, rfl⟩)⟩
    · unfold fX8_game; exact zOk.eq e.1 ⟨_, rfl, rfl⟩
    · unfold fX9_game; exact zOk.eq e.2 (zOk.pos rfl ⟨_, rfl, _, _, rfl⟩)
  · obtain ⟨m, hm, rfl⟩ := q
    have e := zmo_yes hE hc.m hr hm
    by_cases q : ∃ m, m < E.nM ∧ p' = zJ m
    rotate_left
    · have e' := zmo_no hE hc.m hr q
      refine ⟨Sum.inl 1, 0, 1, ?_, ?_, Or.inr (Or.inl ⟨rfl, rfl⟩)⟩
      · unfold fX8_game; exact zOk.eq e.1 (zOk.inr (zOk.eq e'.1 ⟨_, rfl, rfl⟩))
      · unfold fX9_game; exact zOk.eq e.2 (zOk.neg (by decide) (zOk.eq e'.2 (zOk.pos rfl ⟨_, rfl, _, _, rfl⟩)))
    · obtain ⟨m', hm', rfl⟩ := q
      have e' := zmo_yes hE hc.m hr hm'
      by_cases qw : p'' < 0 ∨ 1 < p''
      · refine ⟨Sum.inl 1, 0, 1, ?_, ?_, Or.inr (Or.inl ⟨rfl, rfl⟩)⟩
        · unfold fX8_game; exact zOk.eq e.1 (zOk.inr (zOk.eq e'.1 (zOk.inr (zOk.eq (zw_no qw) ⟨_, rfl, rfl⟩))))
        · unfold fX9_game; refine zOk.eq e.2 (zOk.neg (by decide) (zOk.eq e'.2 (zOk.neg (by decide) ?_)))
          refine zOk.ite (fun _ => ⟨_, rfl, _, _, rfl⟩) (fun z => zOk.neg (by grind) ⟨_, rfl, _, _, rfl⟩)
      · have w0 : ¬ p'' < 0 := fun z => qw (Or.inl z)
        have w1 : p'' ≤ 1 := Int32.not_lt.1 (fun z => qw (Or.inr z))
        have c8' : ∀ {P : _ → Prop}, zOk _ P → zOk (fX8_game (ar 44) (ar 45) (sc 54) (sc 55) (ar 47) (ar 48) (ar 50) (ar 51) (ar 53) (ar 54) (ar 55) t.hour t.oil t.weight t.spider t.treas t.passed (ar 66) (zJ m) (zJ m') p'') P := fun h => by
          unfold fX8_game; exact zOk.eq e.1 (zOk.inr (zOk.eq e'.1 (zOk.inr (zOk.eq (zw_yes qw) (zOk.inr h)))))
        have sd := zm_said (V := ar 16) (S := ar 17) hE hr ht.h0
        have c9' : ∀ {P : _ → Prop}, (∀ V S, zOk ((fun v16 : Int32 × (Nat → Int32) × (Nat → Int32) => if zJ m = zJ m' then (fX9_fail 0 2).bind fun v19 => some (v19.1, v19.2, v16.2.1, v16.2.2) else (fX9_isOf t.passed (zJ m)).bind fun v21 => if v21 = 0 then (fX9_isOf t.passed (zJ m')).bind fun v26 => if v26 = 0 then if v16.1 = (-1) then (fX9_fail 0 2).bind fun v49 => some (v49.1, v49.2, v16.2.1, v16.2.2) else lX9_game_90 (fun (M_asked_43) (M_stack_44) (x5_45) (x6_46) => if p'' = 0 then some (x5_45, 0, M_asked_43, M_stack_44) else some (x6_46, 0, M_asked_43, M_stack_44)) t.treas t.passed (ar 1) (ar 3) (ar 4) (ar 6) (ar 7) (ar 10) (ar 13) (zJ m) (zJ m') v16.1 FU v16.2.1 v16.2.2 0 (-1) 0 else (fX9_fail 0 2).bind fun v29 => some (v29.1, v29.2, v16.2.1, v16.2.2) else (fX9_fail 0 2).bind fun v24 => some (v24.1, v24.2, v16.2.1, v16.2.2)) (zsaid E t, V, S)) P) → zOk (fX9_game (sc 4) t.hour t.oil t.weight t.spider t.treas t.passed (ar 1) (ar 3) (ar 4) (ar 6) (ar 7) (ar 9) (ar 10) (ar 13) (ar 16) (ar 17) (zJ m) (zJ m') p'') P := fun h => by
          unfold fX9_game; refine zOk.eq e.2 (zOk.neg (by decide) (zOk.eq e'.2 (zOk.neg (by decide) (zOk.neg w0 (zOk.pos w1 ?_)))))
          refine zOk.bind sd (fun o ho => ?_)
          obtain ⟨s1, V, S⟩ := o
          have ho : s1 = zsaid E t := ho
          subst ho
          exact h V S
        by_cases qq : zJ m = zJ m'
        · refine ⟨Sum.inl 2, 0, 2, ?_, ?_, Or.inr (Or.inr ⟨rfl, rfl⟩)⟩
          · refine c8' (zOk.pos qq ⟨_, rfl, rfl⟩)
          · exact c9' (fun V S => zOk.pos qq ⟨_, rfl, _, _, rfl⟩)
        · cases z1 : zis t.passed (zJ m)
          rotate_left
          · refine ⟨Sum.inl 2, 0, 2, ?_, ?_, Or.inr (Or.inr ⟨rfl, rfl⟩)⟩
            · exact c8' (zOk.neg qq (zOk.eq zisP (by rw [z1]; exact zOk.neg (by decide) ⟨_, rfl, rfl⟩)))
            · exact c9' (fun V S => zOk.neg qq (zOk.eq zisM (by rw [z1]; exact zOk.neg (by decide) ⟨_, rfl, _, _, rfl⟩)))
          · cases z2 : zis t.passed (zJ m')
            rotate_left
            · refine ⟨Sum.inl 2, 0, 2, ?_, ?_, Or.inr (Or.inr ⟨rfl, rfl⟩)⟩
              · exact c8' (zOk.neg qq (zOk.eq zisP (by rw [z1]; exact zOk.pos rfl (zOk.eq zisP (by rw [z2]; exact zOk.neg (by decide) ⟨_, rfl, rfl⟩)))))
              · exact c9' (fun V S => zOk.neg qq (zOk.eq zisM (by rw [z1]; exact zOk.pos rfl (zOk.eq zisM (by rw [z2]; exact zOk.neg (by decide) ⟨_, rfl, _, _, rfl⟩)))))
            · have sh := zc_nsaid (V := ar 44) (S := ar 45) hE hc ht.h0
              by_cases q3 : zsaid E t = -1
              · refine ⟨Sum.inl 2, 0, 2, ?_, ?_, Or.inr (Or.inr ⟨rfl, rfl⟩)⟩
                · refine c8' (zOk.neg qq (zOk.eq zisP (by rw [z1]; exact zOk.pos rfl (zOk.eq zisP (by rw [z2]; refine zOk.pos rfl (zOk.bind sh (fun o ho => ?_)); have ho : o.1 = zsaid E t := ho; rw [ho]; exact zOk.pos q3 ⟨_, rfl, rfl⟩)))))
                · exact c9' (fun V S => zOk.neg qq (zOk.eq zisM (by rw [z1]; exact zOk.pos rfl (zOk.eq zisM (by rw [z2]; exact zOk.pos rfl (zOk.pos q3 ⟨_, rfl, _, _, rfl⟩))))))
              · refine ⟨Sum.inr _, if p'' = 0 then zcouples (zrest (if zwould E t m (zsaid E t) then 1 else 0) (if zwould E t m' (zsaid E t) then 1 else 0) (E.joy m) (E.joy m')) else zfirstC (zrest (if zwould E t m (zsaid E t) then 1 else 0) (if zwould E t m' (zsaid E t) then 1 else 0) (E.joy m) (E.joy m')), 0, ?_, ?_, Or.inl ⟨rfl, rfl⟩⟩
                · refine c8' (zOk.neg qq (zOk.eq zisP ?_))
                  rw [z1]
                  refine zOk.pos rfl (zOk.eq zisP ?_)
                  rw [z2]
                  refine zOk.pos rfl (zOk.bind sh (fun o ho => ?_))
                  have ho : o.1 = zsaid E t := ho
                  rw [ho]
                  refine zOk.neg q3 ?_
                  have rc : ∀ (V S : Nat → Int32) (p3 : Int32), zOk (fX3_restingCouples V S (sc 54) (ar 47) (ar 48) (ar 50) (ar 51) (ar 53) (ar 54) (ar 55) t.treas t.passed (ar 66) (zJ m) (zJ m') (zsaid E t) p3) (fun o => o.1 = if p3 = 0 then zcouples (zrest (if zwould E t m (zsaid E t) then 1 else 0) (if zwould E t m' (zsaid E t) then 1 else 0) (E.joy m) (E.joy m')) else zfirstC (zrest (if zwould E t m (zsaid E t) then 1 else 0) (if zwould E t m' (zsaid E t) then 1 else 0) (E.joy m) (E.joy m'))) := by
                    intro V S p3
                    unfold fX3_restingCouples
                    refine zOk.bind (zc_would hE hc c8 hm) (fun o1 h1 => zOk.bind (zc_would hE hc c8 hm') (fun o2 h2 => ?_))
                    rw [h1, h2, ck_t (zinb (by omega) (by omega)), ck_t (zinb (by omega) (by omega)), zJ_ix (by omega), zJ_ix (by omega), hc.joy m hm, hc.joy m' hm']
                    exact ⟨_, zl_58, rfl⟩
                  rcases zwhat w0 (Int32.not_lt.2 w1) with y | y
                  · refine zOk.neg (by rw [y]; decide) (zOk.bind (rc _ _ 0) (fun o ho => ⟨_, rfl, ?_⟩))
                    rw [if_pos rfl] at ho
                    rw [if_pos y]
                    exact congrArg Sum.inr ho
                  · refine zOk.pos y (zOk.bind (rc _ _ 1) (fun o ho => ⟨_, rfl, ?_⟩))
                    rw [if_neg (by decide)] at ho
                    rw [if_neg (by rw [y]; decide)]
                    exact congrArg Sum.inr ho
                · refine c9' (fun V S => zOk.neg qq (zOk.eq zisM ?_))
                  rw [z1]
                  refine zOk.pos rfl (zOk.eq zisM ?_)
                  rw [z2]
                  refine zOk.pos rfl (zOk.neg q3 ?_)
                  refine zr_game hE hr ht.ok m8 hm hm' 4 0 FU V S (0, -1) (by omega) (by unfold FU; omega) (fun V S => ?_)
                  rw [zgs4]
                  refine zOk.ite (fun y => ?_) (fun y => ?_)
                  · rw [if_pos y]; exact ⟨_, rfl, _, _, rfl⟩
                  · rw [if_neg y]; exact ⟨_, rfl, _, _, rfl⟩
end
