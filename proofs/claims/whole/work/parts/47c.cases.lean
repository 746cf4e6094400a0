/-! ===== pure: cases: to oil, the word, years ===== -/
section
variable {L : Nat} {xs : Nat → Int32} {sc : Nat → Int32} {ar : Nat → Nat → Int32} {O : Nat → Int64} {x4 : Int32}
theorem zst27 (h : zInv sc ar) (hx : inb (x4 + 1) L = true ∧ inb (x4 + 2) L = true ∧ inb (x4 + 3) L = true ∧ inb (x4 + 4) L = true ∧ inb (x4 + 5) L = true) : zOk (st27 L xs sc ar O x4) (fun o => zInv o.1 o.2.1) := by
  obtain ⟨E, t, hI⟩ := h
  have hJ := hI
  obtain ⟨hE, hc, hr, ht, ⟨c1, c2, c3, c4, c5, c6, c7, c8, c9⟩, ⟨m1, m2, m3, m4, m5, m6, m7, m8, m9⟩, hnv, hh, hse, hst, htp, hfp, him, hik⟩ := hI
  have h7 := hE.a7
  have h10 := hE.m10
  unfold st27
  try simp only [ck_t hx.1, ck_t hx.2.1, ck_t hx.2.2.1, ck_t hx.2.2.2.1, ck_t hx.2.2.2.2, c1, c2, c3, c4, c5, c6, c7, m1, m2, m3, m4, m5, m6, m7, hnv]
  generalize xs (x4 + 1).toNatClampNeg = p
  suffices key : ∃ (R : Sum Nat Int32) (a c : Int32), zOk (fX8_toOil (ar 44) (ar 45) (ar 53) (ar 54) (ar 55) t.hour t.oil t.weight t.spider t.treas t.joy t.passed (ar 66) (ar 67) (sc 70) (sc 71) (sc 72) (sc 73) (sc 74) (sc 75) (sc 76) (ar 68) (ar 69) p) (fun v => v.1 = R) ∧ zOk (fX9_toOil (sc 4) t.hour t.oil t.weight t.spider t.treas t.joy t.passed (-1) (sc 26) (sc 27) (ar 1) (ar 3) (ar 4) (ar 6) (ar 7) (ar 8) (ar 9) (ar 10) (ar 13) (ar 14) (ar 16) (ar 17) (ar 18) p) (zQ16 t (ar 13) (ar 14) a c) ∧ ((R = Sum.inr a ∧ c = 0) ∨ (R = Sum.inl 2 ∧ c = 1)) by
    obtain ⟨R, a, c, ⟨v, ev, hv⟩, ⟨w, ew, sd, ho, L', C', V, S, P, rfl, hL, hC⟩, hR⟩ := key
    rcases hR with ⟨rfl, rfl⟩ | ⟨rfl, rfl⟩
    · obtain ⟨o, eo, h1, h2⟩ : ∃ o, (fL_toOil O (ar 44) (ar 45) (ar 53) (ar 54) (ar 55) t.hour t.oil t.weight t.spider t.treas t.joy t.passed (ar 66) (ar 67) (sc 70) (sc 71) (sc 72) (sc 73) (sc 74) (sc 75) (sc 76) (ar 68) (ar 69) p) = some o ∧ o.1 = 0 ∧ o.2.1 = vp_updL O 0 a.toInt64 := by
        unfold fL_toOil; rw [ev]; show ∃ o, Sum.elim _ _ v.1 = some o ∧ _; rw [hv]; exact ⟨_, rfl, rfl, rfl⟩
      refine zOk.eq eo (zOk.eq ew (zOk.eq rfl (zOk.pos h1.symm (zOk.pos h1 (zOk.pos (by rw [h2]; exact zlgO) (zOk.pure ?_))))))
      exact zInv_q hJ (by repeat' (first | exact zSr0 | refine zSn rfl ?_ | refine zSs (by assumption) ?_)) (by repeat' (first | exact zAr0 | refine zAn rfl rfl rfl ?_ | refine zAn13 hL ?_ | refine zAn14 hC ?_ | refine zAs rfl ?_))
    · obtain ⟨o, eo, h1, h2⟩ : ∃ o, (fL_toOil O (ar 44) (ar 45) (ar 53) (ar 54) (ar 55) t.hour t.oil t.weight t.spider t.treas t.joy t.passed (ar 66) (ar 67) (sc 70) (sc 71) (sc 72) (sc 73) (sc 74) (sc 75) (sc 76) (ar 68) (ar 69) p) = some o ∧ o.1 = 1 ∧ o.2.1 = O := by
        unfold fL_toOil; rw [ev]; show ∃ o, Sum.elim _ _ v.1 = some o ∧ _; rw [hv]; exact ⟨_, rfl, rfl, rfl⟩
      refine zOk.eq eo (zOk.eq ew (zOk.eq rfl (zOk.pos h1.symm (zOk.neg (by rw [h1]; decide) (zOk.pure ?_)))))
      exact zInv_q hJ (by repeat' (first | exact zSr0 | refine zSn rfl ?_ | refine zSs (by assumption) ?_)) (by repeat' (first | exact zAr0 | refine zAn rfl rfl rfl ?_ | refine zAn13 hL ?_ | refine zAn14 hC ?_ | refine zAs rfl ?_))
  by_cases q : p < 1 ∨ 96 < p
  · have e := zin_no q
    refine ⟨Sum.inl 2, 0, 1, ?_, ?_, Or.inr ⟨rfl, rfl⟩⟩
    · unfold fX8_toOil; exact zOk.eq (zr_no q) ⟨_, rfl, rfl⟩
    · unfold fX9_toOil; exact zOk.eq (zi_no q rfl rfl) (zOk.pos rfl ⟨_, rfl, _, _, _, _, _, _, _, rfl, fun _ _ => rfl, fun _ _ => rfl⟩)
  · have e := zin_yes q
    obtain ⟨n, hn, rfl⟩ := zof_le (x := p) (k := 96) (by grind) (by omega) (by show p ≤ 96; grind)
    obtain ⟨ol, hol, eo⟩ := zof_le (x := t.oil) (k := 99) ht.ok.oil.1 (by omega) ht.ok.oil.2
    have hU := zuse_le (E := E) n t
    refine ⟨Sum.inr _, zJ (max ol (zuse E n t) - ol), 0, ?_, ?_, Or.inl ⟨rfl, rfl⟩⟩
    · unfold fX8_toOil; refine zOk.eq (zr_yes q) (zOk.inr ?_)
      refine zOk.bind (zc_times hE hc ht (by omega) (by omega)) (fun o ho => ?_)
      have ho : o.1 = zJ (n - zuse E n t) := by rw [ho]; exact (zsilent_use n 0 t 0).trans (by rw [Nat.zero_add])
      rw [ho, zJ_sub (by omega), show n - (n - zuse E n t) = zuse E n t by omega, eo]
      refine zOk.pos (zJ_yle (b := 99) (by omega) (by omega)) ⟨_, rfl, ?_⟩
      show Sum.inr (if (0 : Int32) < zJ (zuse E n t) - zJ ol then zJ (zuse E n t) - zJ ol else 0) = _
      congr 1
      by_cases z : zuse E n t ≤ ol
      · rw [Nat.max_eq_left z, Nat.sub_self, if_neg]
        · rfl
        · rw [Int32.lt_iff_toInt_lt]
          have : (zJ (zuse E n t) - zJ ol).toInt = (zuse E n t : Int) - ol := by
            rw [Int32.toInt_sub, zJ_toInt (by omega), zJ_toInt (by omega), Int.bmod_eq_of_le (by omega) (by omega)]
          rw [this]
          show ¬ (0 : Int) < _
          omega
      · rw [Nat.max_eq_right (by omega), zJ_sub (by omega), if_pos (show (0 : Int32) < zJ (zuse E n t - ol) from zJ_ylt (a := 0) (by omega) (by omega))]
    · unfold fX9_toOil; refine zOk.eq (zi_yes q rfl rfl) (zOk.neg (by decide) ?_)
      rw [eo]
      refine zr_toOil hE hr (by omega) ht m8 m9 (99 - ol) ol FU _ _ _ _ _ _ _ _ (by omega) (by unfold FU; omega) (by omega) (fun _ _ => rfl) (fun _ _ => rfl) (fun oil1 sd ho L C V S R h1 h2 => ?_)
      exact zOk.pure ⟨sd, ho, L, C, V, S, R, by rw [eo], h1, h2⟩
theorem zst29 (h : zInv sc ar) (hx : inb (x4 + 1) L = true ∧ inb (x4 + 2) L = true ∧ inb (x4 + 3) L = true ∧ inb (x4 + 4) L = true ∧ inb (x4 + 5) L = true) : zOk (st29 L xs sc ar O x4) (fun o => zInv o.1 o.2.1) := by
  obtain ⟨E, t, hI⟩ := h
  have hJ := hI
  obtain ⟨hE, hc, hr, ht, ⟨c1, c2, c3, c4, c5, c6, c7, c8, c9⟩, ⟨m1, m2, m3, m4, m5, m6, m7, m8, m9⟩, hnv, hh, hse, hst, htp, hfp, him, hik⟩ := hI
  have h7 := hE.a7
  have h10 := hE.m10
  unfold st29
  try simp only [ck_t hx.1, ck_t hx.2.1, ck_t hx.2.2.1, ck_t hx.2.2.2.1, ck_t hx.2.2.2.2, c1, c2, c3, c4, c5, c6, c7, m1, m2, m3, m4, m5, m6, m7, hnv]
  generalize xs (x4 + 1).toNatClampNeg = p
  suffices key : ∃ (R : Sum Nat Int32) (a c : Int32), zOk (fX8_word (ar 32) (ar 44) (ar 45) (ar 53) (ar 54) (ar 55) t.hour t.oil t.weight t.spider t.treas t.joy t.passed (ar 66) (ar 67) (sc 70) (sc 71) (sc 72) (sc 73) (sc 74) (sc 75) (sc 76) (ar 68) (ar 69) p) (fun v => v.1 = R) ∧ zOk (fX9_word (sc 4) t.hour t.oil t.weight t.spider t.treas t.joy t.passed (-1) (sc 26) (sc 27) (ar 1) (ar 3) (ar 4) (ar 6) (ar 7) (ar 8) (ar 9) (ar 10) (ar 13) (ar 14) (ar 16) (ar 17) (ar 18) (ar 20) p) (fun o => ∃ (sd ho : Int32) (L C V S R F : Nat → Int32), o = (a, c, t.hour, t.oil, t.weight, t.spider, t.treas, t.joy, t.passed, sd, ho, L, C, V, S, R, F) ∧ (∀ a, a < 7 → L a = ar 13 a) ∧ (∀ m, m < 10 → C m = ar 14 m)) ∧ ((R = Sum.inr a ∧ c = 0) ∨ (R = Sum.inl 2 ∧ c = 1)) by
    obtain ⟨R, a, c, ⟨v, ev, hv⟩, ⟨w, ew, sd, ho, L', C', V, S, P, F, rfl, hL, hC⟩, hR⟩ := key
    rcases hR with ⟨rfl, rfl⟩ | ⟨rfl, rfl⟩
    · obtain ⟨o, eo, h1, h2⟩ : ∃ o, (fL_word O (ar 32) (ar 44) (ar 45) (ar 53) (ar 54) (ar 55) t.hour t.oil t.weight t.spider t.treas t.joy t.passed (ar 66) (ar 67) (sc 70) (sc 71) (sc 72) (sc 73) (sc 74) (sc 75) (sc 76) (ar 68) (ar 69) p) = some o ∧ o.1 = 0 ∧ o.2.1 = vp_updL O 0 a.toInt64 := by
        unfold fL_word; rw [ev]; show ∃ o, Sum.elim _ _ v.1 = some o ∧ _; rw [hv]; exact ⟨_, rfl, rfl, rfl⟩
      refine zOk.eq eo (zOk.eq ew (zOk.eq rfl (zOk.pos h1.symm (zOk.pos h1 (zOk.pos (by rw [h2]; exact zlgO) (zOk.pure ?_))))))
      exact zInv_q hJ (by repeat' (first | exact zSr0 | refine zSn rfl ?_ | refine zSs (by assumption) ?_)) (by repeat' (first | exact zAr0 | refine zAn rfl rfl rfl ?_ | refine zAn13 hL ?_ | refine zAn14 hC ?_ | refine zAs rfl ?_))
    · obtain ⟨o, eo, h1, h2⟩ : ∃ o, (fL_word O (ar 32) (ar 44) (ar 45) (ar 53) (ar 54) (ar 55) t.hour t.oil t.weight t.spider t.treas t.joy t.passed (ar 66) (ar 67) (sc 70) (sc 71) (sc 72) (sc 73) (sc 74) (sc 75) (sc 76) (ar 68) (ar 69) p) = some o ∧ o.1 = 1 ∧ o.2.1 = O := by
        unfold fL_word; rw [ev]; show ∃ o, Sum.elim _ _ v.1 = some o ∧ _; rw [hv]; exact ⟨_, rfl, rfl, rfl⟩
      refine zOk.eq eo (zOk.eq ew (zOk.eq rfl (zOk.pos h1.symm (zOk.neg (by rw [h1]; decide) (zOk.pure ?_)))))
      exact zInv_q hJ (by repeat' (first | exact zSr0 | refine zSn rfl ?_ | refine zSs (by assumption) ?_)) (by repeat' (first | exact zAr0 | refine zAn rfl rfl rfl ?_ | refine zAn13 hL ?_ | refine zAn14 hC ?_ | refine zAs rfl ?_))
  by_cases q : p < 0 ∨ 96 < p
  · have e := zin_no q
    refine ⟨Sum.inl 2, 0, 1, ?_, ?_, Or.inr ⟨rfl, rfl⟩⟩
    · unfold fX8_word; exact zOk.eq (zr_no q) ⟨_, rfl, rfl⟩
    · unfold fX9_word; exact zOk.eq (zi_no q rfl rfl) (zOk.pos rfl ⟨_, rfl, _, _, _, _, _, _, _, _, rfl, fun _ _ => rfl, fun _ _ => rfl⟩)
  · have e := zin_yes q
    obtain ⟨n, hn, rfl⟩ := zof_le (x := p) (k := 96) (by grind) (by omega) (by show p ≤ 96; grind)
    have cm : zOk (fX4_mostSaid (ar 32) (ar 44) (ar 45) (ar 53) (ar 54) (ar 55) t.hour t.oil t.weight t.spider t.treas t.joy t.passed (ar 66) (ar 67) (sc 70) (sc 71) (sc 72) (sc 73) (sc 74) (sc 75) (sc 76) (ar 68) (ar 69) (zJ n)) (fun v => zArg (zscan E (-1) (ztimesG E) n 0 t (fun _ => 0)) v.1) := by
      unfold fX4_mostSaid
      refine zOk.bind (zc_count hE hc ht (by omega) (by omega) (zfill (by omega))) (fun o ho => ?_)
      obtain ⟨G, hG, eG⟩ := ho
      rw [eG]
      refine zl_most 25 0 FU _ _ (by omega) (by unfold FU; omega) (Or.inl ⟨rfl, rfl, fun v hv => by omega⟩) (fun x hx => ⟨_, rfl, zArg_cong (fun v hv => zscan_times n 0 t _ _ (fun v hv => (hG v hv).symm) v hv) hx⟩)
    have c8 : zOk (fX8_word (ar 32) (ar 44) (ar 45) (ar 53) (ar 54) (ar 55) t.hour t.oil t.weight t.spider t.treas t.joy t.passed (ar 66) (ar 67) (sc 70) (sc 71) (sc 72) (sc 73) (sc 74) (sc 75) (sc 76) (ar 68) (ar 69) (zJ n)) (fun v => ∃ x, v.1 = Sum.inr x ∧ zArg (zscan E (-1) (ztimesG E) n 0 t (fun _ => 0)) x) := by
      unfold fX8_word; refine zOk.eq (zr_yes q) (zOk.inr ?_)
      exact zOk.bind cm (fun v hv => ⟨_, rfl, v.1, rfl, hv⟩)
    have c9 : zOk (fX9_word (sc 4) t.hour t.oil t.weight t.spider t.treas t.joy t.passed (-1) (sc 26) (sc 27) (ar 1) (ar 3) (ar 4) (ar 6) (ar 7) (ar 8) (ar 9) (ar 10) (ar 13) (ar 14) (ar 16) (ar 17) (ar 18) (ar 20) (zJ n)) (fun o => ∃ (x sd ho : Int32) (L C V S R F : Nat → Int32), zArg (zscan E (-1) (ztimesG E) n 0 t (fun _ => 0)) x ∧ o = (x, 0, t.hour, t.oil, t.weight, t.spider, t.treas, t.joy, t.passed, sd, ho, L, C, V, S, R, F) ∧ (∀ a, a < 7 → L a = ar 13 a) ∧ (∀ m, m < 10 → C m = ar 14 m)) := by
      unfold fX9_word; refine zOk.eq (zi_yes q rfl rfl) (zOk.neg (by decide) ?_)
      refine zr_w25 25 0 FU _ (by omega) (by unfold FU; omega) (fun j hj => by omega) (fun G hG => ?_)
      refine zOk.bind (zm_pack (n0 := 24) (p := 0) (by omega) (by omega)) (fun P hP => ?_)
      refine zr_word hE hr (by omega) n 0 FU 9999 _ _ t _ _ G (by omega) (by unfold FU; omega) ht (by omega) m8 m9 (fun V S sd ho w => ?_)
      refine zOk.bind (zm_unpack (n0 := 24) (p := 0) (by omega) (by omega) hP.1) (fun r hr => ?_)
      obtain ⟨L, C, rfl, hL, hC⟩ := hr
      refine zr_w105 25 FU _ (by omega) (by unfold FU; omega) (Or.inl ⟨rfl, fun v h1 h2 => by omega⟩) (fun x hx => ?_)
      exact zOk.pure ⟨x, _, _, L, C, V, S, P, _, zArg_cong (fun v hv => zscan_times n 0 t _ _ (fun v hv => (hG v hv).symm) v hv) hx, rfl, hL, hC⟩
    obtain ⟨v, ev, x, hx, ha⟩ := c8
    obtain ⟨w, ew, y, sd, ho, L', C', V, S, P, F, hb, rfl, hL, hC⟩ := c9
    have := zArg_uniq ha hb
    subst this
    exact ⟨Sum.inr x, x, 0, ⟨v, ev, hx⟩, ⟨_, ew, sd, ho, L', C', V, S, P, F, rfl, hL, hC⟩, Or.inl ⟨rfl, rfl⟩⟩
theorem zst37 (h : zInv sc ar) (hx : inb (x4 + 1) L = true ∧ inb (x4 + 2) L = true ∧ inb (x4 + 3) L = true ∧ inb (x4 + 4) L = true ∧ inb (x4 + 5) L = true) : zOk (st37 L xs sc ar O x4) (fun o => zInv o.1 o.2.1) := by
  obtain ⟨E, t, hI⟩ := h
  have hJ := hI
  obtain ⟨hE, hc, hr, ht, ⟨c1, c2, c3, c4, c5, c6, c7, c8, c9⟩, ⟨m1, m2, m3, m4, m5, m6, m7, m8, m9⟩, hnv, hh, hse, hst, htp, hfp, him, hik⟩ := hI
  have h7 := hE.a7
  have h10 := hE.m10
  unfold st37
  try simp only [ck_t hx.1, ck_t hx.2.1, ck_t hx.2.2.1, ck_t hx.2.2.2.1, ck_t hx.2.2.2.2, c1, c2, c3, c4, c5, c6, c7, m1, m2, m3, m4, m5, m6, m7, hnv]
  generalize xs (x4 + 1).toNatClampNeg = p
  generalize xs (x4 + 2).toNatClampNeg = p'
  generalize xs (x4 + 3).toNatClampNeg = p''
  suffices key : ∃ (R : Sum Nat Int32) (a c : Int32), zOk (fX8_years (sc 33) (ar 44) (ar 45) (sc 54) (sc 55) (ar 47) (ar 48) (ar 50) (ar 51) (ar 52) (ar 53) (ar 54) (ar 55) t.hour t.oil t.weight t.spider t.treas t.joy t.passed (ar 66) (ar 67) (sc 70) (sc 71) (sc 72) (sc 73) (sc 74) (sc 75) (sc 76) (ar 68) (ar 69) p p' p'') (fun v => v.1 = R) ∧ zOk (fX9_years (sc 4) t.hour t.oil t.weight t.spider t.treas t.joy t.passed (-1) (sc 26) (sc 27) (sc 29) (ar 1) (ar 3) (ar 4) (ar 6) (ar 7) (ar 8) (ar 9) (ar 10) (ar 13) (ar 14) (ar 16) (ar 17) (ar 18) p p' p'') (fun o => ∃ (sd ho se : Int32) (L C V S R : Nat → Int32), o = (a, c, t.hour, t.oil, t.weight, t.spider, t.treas, t.joy, t.passed, sd, ho, se, L, C, V, S, R) ∧ (∀ a, a < 7 → L a = ar 13 a) ∧ (∀ m, m < 10 → C m = ar 14 m)) ∧ ((R = Sum.inr a ∧ c = 0) ∨ (R = Sum.inl 1 ∧ c = 1) ∨ (R = Sum.inl 2 ∧ c = 2)) by
    obtain ⟨R, a, c, ⟨v, ev, hv⟩, ⟨w, ew, sd, ho, se, L', C', V, S, P, rfl, hL, hC⟩, hR⟩ := key
    rcases hR with ⟨rfl, rfl⟩ | ⟨rfl, rfl⟩ | ⟨rfl, rfl⟩
    · obtain ⟨o, eo, h1, h2⟩ : ∃ o, (fL_years O (sc 33) (ar 44) (ar 45) (sc 54) (sc 55) (ar 47) (ar 48) (ar 50) (ar 51) (ar 52) (ar 53) (ar 54) (ar 55) t.hour t.oil t.weight t.spider t.treas t.joy t.passed (ar 66) (ar 67) (sc 70) (sc 71) (sc 72) (sc 73) (sc 74) (sc 75) (sc 76) (ar 68) (ar 69) p p' p'') = some o ∧ o.1 = 0 ∧ o.2.1 = vp_updL O 0 a.toInt64 := by
        unfold fL_years; rw [ev]; show ∃ o, Sum.elim _ _ v.1 = some o ∧ _; rw [hv]; exact ⟨_, rfl, rfl, rfl⟩
      refine zOk.eq eo (zOk.eq ew (zOk.eq rfl (zOk.pos h1.symm (zOk.pos h1 (zOk.pos (by rw [h2]; exact zlgO) (zOk.pure ?_))))))
      exact zInv_q hJ (by repeat' (first | exact zSr0 | refine zSn rfl ?_ | refine zSs (by assumption) ?_)) (by repeat' (first | exact zAr0 | refine zAn rfl rfl rfl ?_ | refine zAn13 hL ?_ | refine zAn14 hC ?_ | refine zAs rfl ?_))
    · obtain ⟨o, eo, h1, h2⟩ : ∃ o, (fL_years O (sc 33) (ar 44) (ar 45) (sc 54) (sc 55) (ar 47) (ar 48) (ar 50) (ar 51) (ar 52) (ar 53) (ar 54) (ar 55) t.hour t.oil t.weight t.spider t.treas t.joy t.passed (ar 66) (ar 67) (sc 70) (sc 71) (sc 72) (sc 73) (sc 74) (sc 75) (sc 76) (ar 68) (ar 69) p p' p'') = some o ∧ o.1 = 1 ∧ o.2.1 = O := by
        unfold fL_years; rw [ev]; show ∃ o, Sum.elim _ _ v.1 = some o ∧ _; rw [hv]; exact ⟨_, rfl, rfl, rfl⟩
      refine zOk.eq eo (zOk.eq ew (zOk.eq rfl (zOk.pos h1.symm (zOk.neg (by rw [h1]; decide) (zOk.pure ?_)))))
      exact zInv_q hJ (by repeat' (first | exact zSr0 | refine zSn rfl ?_ | refine zSs (by assumption) ?_)) (by repeat' (first | exact zAr0 | refine zAn rfl rfl rfl ?_ | refine zAn13 hL ?_ | refine zAn14 hC ?_ | refine zAs rfl ?_))
    · obtain ⟨o, eo, h1, h2⟩ : ∃ o, (fL_years O (sc 33) (ar 44) (ar 45) (sc 54) (sc 55) (ar 47) (ar 48) (ar 50) (ar 51) (ar 52) (ar 53) (ar 54) (ar 55) t.hour t.oil t.weight t.spider t.treas t.joy t.passed (ar 66) (ar 67) (sc 70) (sc 71) (sc 72) (sc 73) (sc 74) (sc 75) (sc 76) (ar 68) (ar 69) p p' p'') = some o ∧ o.1 = 2 ∧ o.2.1 = O := by
        unfold fL_years; rw [ev]; show ∃ o, Sum.elim _ _ v.1 = some o ∧ _; rw [hv]; exact ⟨_, rfl, rfl, rfl⟩
      refine zOk.eq eo (zOk.eq ew (zOk.eq rfl (zOk.pos h1.symm (zOk.neg (by rw [h1]; decide) (zOk.pure ?_)))))
      exact zInv_q hJ (by repeat' (first | exact zSr0 | refine zSn rfl ?_ | refine zSs (by assumption) ?_)) (by repeat' (first | exact zAr0 | refine zAn rfl rfl rfl ?_ | refine zAn13 hL ?_ | refine zAn14 hC ?_ | refine zAs rfl ?_))
  by_cases qw : p'' < 0 ∨ 2 < p''
  · refine ⟨Sum.inl 1, 0, 1, ?_, ?_, Or.inr (Or.inl ⟨rfl, rfl⟩)⟩
    · unfold fX8_years; exact zOk.eq (zw_no qw) ⟨_, rfl, rfl⟩
    · unfold fX9_years; exact zOk.eq (zi_no qw rfl rfl) (zOk.pos rfl ⟨_, rfl, _, _, _, _, _, _, _, _, rfl, fun _ _ => rfl, fun _ _ => rfl⟩)
  · by_cases q : p' < 0 ∨ 96 < p'
    · refine ⟨Sum.inl 2, 0, 2, ?_, ?_, Or.inr (Or.inr ⟨rfl, rfl⟩)⟩
      · unfold fX8_years; exact zOk.eq (zw_yes qw) (zOk.inr (zOk.eq (zr_no q) ⟨_, rfl, rfl⟩))
      · unfold fX9_years; exact zOk.eq (zi_yes qw rfl rfl) (zOk.neg (by decide) (zOk.eq (zi_no q rfl rfl) (zOk.pos rfl ⟨_, rfl, _, _, _, _, _, _, _, _, rfl, fun _ _ => rfl, fun _ _ => rfl⟩)))
    · obtain ⟨n, hn, rfl⟩ := zof_le (x := p') (k := 96) (by grind) (by omega) (by show p' ≤ 96; grind)
      obtain ⟨mt, hz, hzr⟩ : ∃ mt : Int32 → zT → Int32 × zT, zMt E mt ∧ ∀ s (t : zT), fX9_something t.oil t.weight t.spider s = some ((mt s t).2.oil, (mt s t).2.weight, (mt s t).2.spider, (mt s t).1) := ⟨zmeet, zMt_meet, fun s t => zm_some⟩
      have hok : ∀ (k b : Nat) (s c : Int32) (u : zT), zTok E u → zTok E (zyearsG E mt k s u c).2 := by
        intro k
        induction k with
        | zero => intro b s c u hu; exact hu
        | succ k ih => intro b s c u hu; exact ih 0 _ _ _ (zhour_ok hE (hz.ok _ _ hu))
      obtain ⟨pn, hpn, ep⟩ := (hok n 0 p 0 t ht.ok).passed
      have hpn := zpow hpn h10
      refine ⟨Sum.inr _, if p'' = 2 then (zyearsG E mt n p t 0).1 else if p'' = 0 then zbc (zyearsG E mt n p t 0).2.passed else (zyearsG E mt n p t 0).2.joy, 0, ?_, ?_, Or.inl ⟨rfl, rfl⟩⟩
      · unfold fX8_years; refine zOk.eq (zw_yes qw) (zOk.inr (zOk.eq (zr_yes q) (zOk.inr ?_)))
        refine zOk.bind (zc_seed hz hE hc ht (by omega) (by omega) c8 c9) (fun o ho => ?_)
        obtain ⟨F, V, S, L, C, rfl⟩ := ho
        refine zOk.ite (fun z => ⟨_, rfl, ?_⟩) (fun z => ?_)
        · rw [if_pos z]
        · rw [if_neg z]
          refine zOk.eq rfl (zOk.ite (fun y => ?_) (fun y => ?_))
          · rw [if_pos y]
            exact zOk.eq (show fX7_howManyPassed _ = some (zbc _) from rfl) ⟨_, rfl, rfl⟩
          · rw [if_neg y]
            exact ⟨_, rfl, rfl⟩
      · unfold fX9_years; refine zOk.eq (zi_yes qw rfl rfl) (zOk.neg (by decide) (zOk.eq (zi_yes q rfl rfl) (zOk.neg (by decide) ?_)))
        refine zOk.bind (zm_pack (n0 := 24) (p := 0) (by omega) (by omega)) (fun P hP => ?_)
        refine zr_years hz hzr hE hr (by omega) n 0 FU 9999 _ _ t _ _ p 0 (by omega) (by unfold FU; omega) ht (by omega) m8 m9 (fun V S sd ho se => ?_)
        have fin : ∀ x : Int32, x = (if p'' = 2 then (zyearsG E mt n p t 0).1 else if p'' = 0 then zbc (zyearsG E mt n p t 0).2.passed else (zyearsG E mt n p t 0).2.joy) → zOk (jX9_years_127 0 (zyearsG E mt n p t 0).2.hour (zyearsG E mt n p t 0).2.oil (zyearsG E mt n p t 0).2.weight (zyearsG E mt n p t 0).2.spider (zyearsG E mt n p t 0).2.treas (zyearsG E mt n p t 0).2.joy (zyearsG E mt n p t 0).2.passed sd ho se (ar 13) (ar 14) V S P x) (fun o => ∃ (sd ho se : Int32) (L C V S R : Nat → Int32), o = ((if p'' = 2 then (zyearsG E mt n p t 0).1 else if p'' = 0 then zbc (zyearsG E mt n p t 0).2.passed else (zyearsG E mt n p t 0).2.joy), 0, t.hour, t.oil, t.weight, t.spider, t.treas, t.joy, t.passed, sd, ho, se, L, C, V, S, R) ∧ (∀ a, a < 7 → L a = ar 13 a) ∧ (∀ m, m < 10 → C m = ar 14 m)) := by
          intro x hx
          unfold jX9_years_127
          refine zOk.bind (zm_unpack (n0 := 24) (p := 0) (by omega) (by omega) hP.1) (fun r hr => ?_)
          obtain ⟨L, C, rfl, hL, hC⟩ := hr
          rw [hx]
          exact zOk.pure ⟨_, _, _, L, C, V, S, P, rfl, hL, hC⟩
        refine zOk.ite (fun z => ?_) (fun z => zOk.ite (fun y => ?_) (fun y => ?_))
        · refine zOk.eq (by rw [ep]; exact zbits' hpn) (fin _ ?_)
          rw [if_neg (by rw [z]; decide), if_pos z, ep]
        · exact fin _ (by rw [if_neg (by rw [y]; decide), if_neg z])
        · refine fin _ ?_
          rw [if_pos]
          obtain ⟨k, hk, rfl⟩ := zof_le (x := p'') (k := 2) (by grind) (by omega) (by show p'' ≤ 2; grind)
          rcases (show k = 0 ∨ k = 1 ∨ k = 2 by omega) with rfl | rfl | rfl
          · exact absurd rfl z
          · exact absurd rfl y
          · rfl
end
