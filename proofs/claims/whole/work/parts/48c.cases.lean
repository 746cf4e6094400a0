/-! ===== pure: cases of the council ===== -/
section
variable {L : Nat} {xs : Nat → Int32} {sc : Nat → Int32} {ar : Nat → Nat → Int32} {O : Nat → Int64} {x4 : Int32}
theorem zst3 (h : zInv sc ar) (hx : inb (x4 + 1) L = true ∧ inb (x4 + 2) L = true ∧ inb (x4 + 3) L = true ∧ inb (x4 + 4) L = true ∧ inb (x4 + 5) L = true) : zOk (st3 L xs sc ar O x4) (fun o => zInv o.1 o.2.1) := by
  obtain ⟨E, t, hI⟩ := h
  have hJ := hI
  obtain ⟨hE, hc, hr, ht, ⟨c1, c2, c3, c4, c5, c6, c7, c8, c9⟩, ⟨m1, m2, m3, m4, m5, m6, m7, m8, m9⟩, hnv, hh, hse, hst, htp, hfp, him, hik⟩ := hI
  have h7 := hE.a7
  have h10 := hE.m10
  unfold st3
  try simp only [ck_t hx.1, ck_t hx.2.1, ck_t hx.2.2.1, ck_t hx.2.2.2.1, ck_t hx.2.2.2.2, c1, c2, c3, c4, c5, c6, c7, m1, m2, m3, m4, m5, m6, m7, hnv]
  generalize xs (x4 + 1).toNatClampNeg = p
  suffices key : ∃ (R : Sum Nat Int32) (a c : Int32), zOk (fX8_count (sc 0) (sc 47) (sc 48) (ar 39) (sc 54) (sc 55) (ar 52) t.hour t.oil t.weight t.spider t.treas t.joy t.passed p) (fun v => v = R) ∧ zOk (fX9_count (sc 4) (sc 5) t.hour t.oil t.weight t.spider t.treas t.joy t.passed (sc 23) (sc 24) (ar 1) (ar 8) (ar 11) p) (fun o => o = (a, c)) ∧ ((R = Sum.inr a ∧ c = 0) ∨ (R = Sum.inl 1 ∧ c = 1)) by
    obtain ⟨R, a, c, ⟨v, ev, hv⟩, ⟨w, ew, rfl⟩, hR⟩ := key
    rcases hR with ⟨rfl, rfl⟩ | ⟨rfl, rfl⟩
    · obtain ⟨o, eo, h1, h2⟩ : ∃ o, (fL_count O (sc 0) (sc 47) (sc 48) (ar 39) (sc 54) (sc 55) (ar 52) t.hour t.oil t.weight t.spider t.treas t.joy t.passed p) = some o ∧ o.1 = 0 ∧ o.2 = vp_updL O 0 a.toInt64 := by
        unfold fL_count; rw [ev]; show ∃ o, Sum.elim _ _ v = some o ∧ _; rw [hv]; exact ⟨_, rfl, rfl, rfl⟩
      refine zOk.eq eo (zOk.eq ew (zOk.eq rfl (zOk.pos h1.symm (zOk.pos h1 (zOk.pos (by rw [h2]; exact zlgO) (zOk.pure ?_))))))
      exact zInv_q hJ (by repeat' (first | exact zSr0 | refine zSn rfl ?_ | refine zSs (by assumption) ?_)) (by repeat' (first | exact zAr0 | refine zAn rfl rfl rfl ?_ | refine zAn13 hL ?_ | refine zAn14 hC ?_ | refine zAs rfl ?_))
    · obtain ⟨o, eo, h1, h2⟩ : ∃ o, (fL_count O (sc 0) (sc 47) (sc 48) (ar 39) (sc 54) (sc 55) (ar 52) t.hour t.oil t.weight t.spider t.treas t.joy t.passed p) = some o ∧ o.1 = 1 ∧ o.2 = O := by
        unfold fL_count; rw [ev]; show ∃ o, Sum.elim _ _ v = some o ∧ _; rw [hv]; exact ⟨_, rfl, rfl, rfl⟩
      refine zOk.eq eo (zOk.eq ew (zOk.eq rfl (zOk.pos h1.symm (zOk.neg (by rw [h1]; decide) (zOk.pure ?_)))))
      exact zInv_q hJ (by repeat' (first | exact zSr0 | refine zSn rfl ?_ | refine zSs (by assumption) ?_)) (by repeat' (first | exact zAr0 | refine zAn rfl rfl rfl ?_ | refine zAn13 hL ?_ | refine zAn14 hC ?_ | refine zAs rfl ?_))
  by_cases q : p < 0 ∨ 15 < p
  · refine ⟨Sum.inl 1, 0, 1, ?_, ?_, Or.inr ⟨rfl, rfl⟩⟩
    · unfold fX8_count
      repeat' (refine zOk.neg (by rintro rfl; revert q; decide) ?_)
      exact ⟨_, rfl, rfl⟩
    · unfold fX9_count
      repeat' (refine zOk.neg (by rintro rfl; revert q; decide) ?_)
      exact ⟨_, rfl, rfl⟩
  · obtain ⟨n, hn, rfl⟩ := zof_le (x := p) (k := 15) (by grind) (by omega) (by show p ≤ 15; grind)
    obtain ⟨ka, hka, ea1, ea2, _⟩ := hh
    obtain ⟨ks, hks, es1, es2, _⟩ := hse
    obtain ⟨kt, hkt, et1, et2, _⟩ := htp
    have r3 := hr.a
    have r4 := hr.m
    have q3 := hc.a
    have q4 := hc.m
    have s0 := hst 0 (by omega)
    have s1 := hst 1 (by omega)
    have s2 := hst 2 (by omega)
    rcases (show n = 0 ∨ n = 1 ∨ n = 2 ∨ n = 3 ∨ n = 4 ∨ n = 5 ∨ n = 6 ∨ n = 7 ∨ n = 8 ∨ n = 9 ∨ n = 10 ∨ n = 11 ∨ n = 12 ∨ n = 13 ∨ n = 14 ∨ n = 15 by omega) with rfl | rfl | rfl | rfl | rfl | rfl | rfl | rfl | rfl | rfl | rfl | rfl | rfl | rfl | rfl | rfl
    · exact ⟨Sum.inr _, sc 54, 0, ⟨_, rfl, rfl⟩, ⟨_, rfl, by show (ar 1 3, (0 : Int32)) = _; rw [r3, q3]⟩, Or.inl ⟨rfl, rfl⟩⟩
    · exact ⟨Sum.inr _, sc 55, 0, ⟨_, rfl, rfl⟩, ⟨_, rfl, by show (ar 1 4, (0 : Int32)) = _; rw [r4, q4]⟩, Or.inl ⟨rfl, rfl⟩⟩
    · exact ⟨Sum.inr _, t.hour, 0, ⟨_, rfl, rfl⟩, ⟨_, rfl, rfl⟩, Or.inl ⟨rfl, rfl⟩⟩
    · exact ⟨Sum.inr _, t.oil, 0, ⟨_, rfl, rfl⟩, ⟨_, rfl, rfl⟩, Or.inl ⟨rfl, rfl⟩⟩
    · exact ⟨Sum.inr _, t.weight, 0, ⟨_, rfl, rfl⟩, ⟨_, rfl, rfl⟩, Or.inl ⟨rfl, rfl⟩⟩
    · exact ⟨Sum.inr _, t.spider, 0, ⟨_, rfl, rfl⟩, ⟨_, rfl, rfl⟩, Or.inl ⟨rfl, rfl⟩⟩
    · exact ⟨Sum.inr _, t.treas, 0, ⟨_, rfl, rfl⟩, ⟨_, rfl, rfl⟩, Or.inl ⟨rfl, rfl⟩⟩
    · exact ⟨Sum.inr _, t.joy, 0, ⟨_, rfl, rfl⟩, ⟨_, rfl, rfl⟩, Or.inl ⟨rfl, rfl⟩⟩
    · exact ⟨Sum.inr _, t.passed, 0, ⟨_, rfl, rfl⟩, ⟨_, rfl, rfl⟩, Or.inl ⟨rfl, rfl⟩⟩
    · refine ⟨Sum.inr _, zfold (zblk E t.passed) E.nM 0 0, 0, ?_, ?_, Or.inl ⟨rfl, rfl⟩⟩
      · show zOk ((fX3_blockedMotions (sc 55) (ar 52) t.passed).bind fun v => some (Sum.inr v)) _
        refine zOk.bind (P := fun v => v = zfold (zblk E t.passed) E.nM 0 0) ?_ (fun v hv => ⟨_, rfl, congrArg Sum.inr hv⟩)
        unfold fX3_blockedMotions
        exact zl_blk hE hc E.nM 0 FU 0 (by omega) (by unfold FU; omega) ⟨_, rfl, rfl⟩
      · show zOk ((fX9_blocked t.passed (ar 1) (ar 8)).bind fun v => some (v, 0)) _
        refine zOk.bind (P := fun v => v = zfold (zblk E t.passed) E.nM 0 0) ?_ (fun v hv => ⟨_, rfl, by rw [hv]⟩)
        unfold fX9_blocked
        exact zr_blk hE hr E.nM 0 FU 0 (by omega) (by unfold FU; omega) ⟨_, rfl, rfl⟩
    · exact ⟨Sum.inr _, sc 47, 0, ⟨_, rfl, rfl⟩, ⟨_, rfl, by show (sc 23, (0 : Int32)) = _; rw [ea1, ea2]⟩, Or.inl ⟨rfl, rfl⟩⟩
    · exact ⟨Sum.inr _, sc 48, 0, ⟨_, rfl, rfl⟩, ⟨_, rfl, by show (sc 24, (0 : Int32)) = _; rw [es1, es2]⟩, Or.inl ⟨rfl, rfl⟩⟩
    · exact ⟨Sum.inr _, sc 0, 0, ⟨_, rfl, rfl⟩, ⟨_, rfl, by show (sc 5, (0 : Int32)) = _; rw [et1, et2]⟩, Or.inl ⟨rfl, rfl⟩⟩
    · exact ⟨Sum.inr _, ar 39 0, 0, ⟨_, rfl, rfl⟩, ⟨_, rfl, by show (ar 11 0, (0 : Int32)) = _; rw [s0]⟩, Or.inl ⟨rfl, rfl⟩⟩
    · exact ⟨Sum.inr _, ar 39 1, 0, ⟨_, rfl, rfl⟩, ⟨_, rfl, by show (ar 11 1, (0 : Int32)) = _; rw [s1]⟩, Or.inl ⟨rfl, rfl⟩⟩
    · exact ⟨Sum.inr _, ar 39 2, 0, ⟨_, rfl, rfl⟩, ⟨_, rfl, by show (ar 11 2, (0 : Int32)) = _; rw [s2]⟩, Or.inl ⟨rfl, rfl⟩⟩
theorem zst4 (h : zInv sc ar) (hx : inb (x4 + 1) L = true ∧ inb (x4 + 2) L = true ∧ inb (x4 + 3) L = true ∧ inb (x4 + 4) L = true ∧ inb (x4 + 5) L = true) : zOk (st4 L xs sc ar O x4) (fun o => zInv o.1 o.2.1) := by
  obtain ⟨E, t, hI⟩ := h
  have hJ := hI
  obtain ⟨hE, hc, hr, ht, ⟨c1, c2, c3, c4, c5, c6, c7, c8, c9⟩, ⟨m1, m2, m3, m4, m5, m6, m7, m8, m9⟩, hnv, hh, hse, hst, htp, hfp, him, hik⟩ := hI
  have h7 := hE.a7
  have h10 := hE.m10
  unfold st4
  try simp only [ck_t hx.1, ck_t hx.2.1, ck_t hx.2.2.1, ck_t hx.2.2.2.1, ck_t hx.2.2.2.2, c1, c2, c3, c4, c5, c6, c7, m1, m2, m3, m4, m5, m6, m7, hnv]
  generalize xs (x4 + 1).toNatClampNeg = p
  generalize xs (x4 + 2).toNatClampNeg = p'
  suffices key : ∃ (R : Sum Nat Int32) (a c : Int32), zOk (fX8_alderman (ar 44) (ar 45) (sc 54) (sc 55) (ar 47) (ar 48) (ar 50) (ar 51) (ar 53) (ar 54) (ar 55) t.passed (ar 66) (ar 67) p p') (fun v => v.1 = R) ∧ zOk (fX9_alderman (sc 4) t.passed (ar 1) (ar 3) (ar 4) (ar 6) (ar 7) (ar 10) (ar 13) (ar 14) (ar 16) (ar 17) p p') (fun o => ∃ V S : Nat → Int32, o = (a, c, V, S)) ∧ ((R = Sum.inr a ∧ c = 0) ∨ (R = Sum.inl 1 ∧ c = 1)) by
    obtain ⟨R, a, c, ⟨v, ev, hv⟩, ⟨w, ew, V, S, rfl⟩, hR⟩ := key
    rcases hR with ⟨rfl, rfl⟩ | ⟨rfl, rfl⟩
    · obtain ⟨o, eo, h1, h2⟩ : ∃ o, (fL_alderman O (ar 44) (ar 45) (sc 54) (sc 55) (ar 47) (ar 48) (ar 50) (ar 51) (ar 53) (ar 54) (ar 55) t.passed (ar 66) (ar 67) p p') = some o ∧ o.1 = 0 ∧ o.2.1 = vp_updL O 0 a.toInt64 := by
        unfold fL_alderman; rw [ev]; show ∃ o, Sum.elim _ _ v.1 = some o ∧ _; rw [hv]; exact ⟨_, rfl, rfl, rfl⟩
      refine zOk.eq eo (zOk.eq ew (zOk.eq rfl (zOk.pos h1.symm (zOk.pos h1 (zOk.pos (by rw [h2]; exact zlgO) (zOk.pure ?_))))))
      exact zInv_q hJ (by repeat' (first | exact zSr0 | refine zSn rfl ?_ | refine zSs (by assumption) ?_)) (by repeat' (first | exact zAr0 | refine zAn rfl rfl rfl ?_ | refine zAn13 hL ?_ | refine zAn14 hC ?_ | refine zAs rfl ?_))
    · obtain ⟨o, eo, h1, h2⟩ : ∃ o, (fL_alderman O (ar 44) (ar 45) (sc 54) (sc 55) (ar 47) (ar 48) (ar 50) (ar 51) (ar 53) (ar 54) (ar 55) t.passed (ar 66) (ar 67) p p') = some o ∧ o.1 = 1 ∧ o.2.1 = O := by
        unfold fL_alderman; rw [ev]; show ∃ o, Sum.elim _ _ v.1 = some o ∧ _; rw [hv]; exact ⟨_, rfl, rfl, rfl⟩
      refine zOk.eq eo (zOk.eq ew (zOk.eq rfl (zOk.pos h1.symm (zOk.neg (by rw [h1]; decide) (zOk.pure ?_)))))
      exact zInv_q hJ (by repeat' (first | exact zSr0 | refine zSn rfl ?_ | refine zSs (by assumption) ?_)) (by repeat' (first | exact zAr0 | refine zAn rfl rfl rfl ?_ | refine zAn13 hL ?_ | refine zAn14 hC ?_ | refine zAs rfl ?_))
  by_cases q : ∃ m, m < E.nA ∧ p = zJ m
  rotate_left
  · have e := zal_no hE hc.a hr q
    refine ⟨Sum.inl 1, 0, 1, ?_, ?_, Or.inr ⟨rfl, rfl⟩⟩
    · unfold fX8_alderman; exact zOk.eq e.1 ⟨_, rfl, rfl⟩
    · unfold fX9_alderman; exact zOk.eq e.2 (zOk.pos rfl ⟨_, rfl, _, _, rfl⟩)
  · obtain ⟨a, ha, rfl⟩ := q
    have e := zal_yes hE hc.a hr ha
    by_cases qw : p' < 0 ∨ 2 < p'
    · refine ⟨Sum.inl 1, 0, 1, ?_, ?_, Or.inr ⟨rfl, rfl⟩⟩
      · unfold fX8_alderman; refine zOk.eq e.1 (zOk.inr ?_)
        repeat' (refine zOk.neg (by rintro rfl; revert qw; decide) ?_)
        exact ⟨_, rfl, rfl⟩
      · unfold fX9_alderman; exact zOk.eq e.2 (zOk.neg (by decide) (zOk.eq (zi_no qw rfl rfl) (zOk.pos rfl ⟨_, rfl, _, _, rfl⟩)))
    · obtain ⟨n, hn, rfl⟩ := zof_le (x := p') (k := 2) (by grind) (by omega) (by show p' ≤ 2; grind)
      have i7 : inb (zJ a) 7 = true := zinb (by omega) (by omega)
      have i14 : inb (zJ a) 14 = true := zinb (by omega) (by omega)
      have ix : (zJ a).toNatClampNeg = a := zJ_ix (by omega)
      rcases (show n = 0 ∨ n = 1 ∨ n = 2 by omega) with rfl | rfl | rfl
      · refine ⟨Sum.inr _, t.lean a, 0, ?_, ?_, Or.inl ⟨rfl, rfl⟩⟩
        · unfold fX8_alderman; refine zOk.eq e.1 (zOk.inr (zOk.pos rfl ?_))
          rw [ck_t i7, ix, c8 a ha]; exact ⟨_, rfl, rfl⟩
        · unfold fX9_alderman; refine zOk.eq e.2 (zOk.neg (by decide) (zOk.eq (zi_yes qw rfl rfl) (zOk.neg (by decide) (zOk.pos rfl ?_))))
          rw [ck_t i7, ix, m8 a ha]; exact ⟨_, rfl, _, _, rfl⟩
      · refine ⟨Sum.inr _, E.deaf a, 0, ?_, ?_, Or.inl ⟨rfl, rfl⟩⟩
        · unfold fX8_alderman; refine zOk.eq e.1 (zOk.inr (zOk.neg (by decide) (zOk.pos rfl ?_)))
          rw [ck_t i7, ix, hc.deaf a ha]; exact ⟨_, rfl, rfl⟩
        · unfold fX9_alderman; refine zOk.eq e.2 (zOk.neg (by decide) (zOk.eq (zi_yes qw rfl rfl) (zOk.neg (by decide) (zOk.neg (by decide) (zOk.pos rfl ?_)))))
          rw [ck_t i14, ix, hr.deaf a ha]; exact ⟨_, rfl, _, _, rfl⟩
      · refine ⟨Sum.inr _, zfold (zsway E t a) E.nM 0 0, 0, ?_, ?_, Or.inl ⟨rfl, rfl⟩⟩
        · unfold fX8_alderman; refine zOk.eq e.1 (zOk.inr (zOk.neg (by decide) (zOk.neg (by decide) (zOk.pos rfl ?_))))
          unfold fX3_swayedBy
          have l := zl_sway (ke := fun V S x => some (x, V, S)) (Q := fun o => o.1 = zfold (zsway E t a) E.nM 0 0) hE hc c8 c9 (a := a) E.nM 0 FU (ar 44) (ar 45) 0 (by omega) (by unfold FU; omega) (fun V S => ⟨_, rfl, rfl⟩)
          exact zOk.bind l (fun o ho => ⟨_, rfl, congrArg Sum.inr ho⟩)
        · unfold fX9_alderman; refine zOk.eq e.2 (zOk.neg (by decide) (zOk.eq (zi_yes qw rfl rfl) (zOk.neg (by decide) (zOk.neg (by decide) (zOk.neg (by decide) ?_)))))
          unfold fX9_swayed
          have l := zr_sway (ke := fun V S x => some (x, V, S)) (Q := fun o => o.1 = zfold (zsway E t a) E.nM 0 0) hE hr ht.ok m8 m9 (a := a) (by omega) E.nM 0 FU (ar 16) (ar 17) 0 (by omega) (by unfold FU; omega) (fun V S => ⟨_, rfl, rfl⟩)
          exact zOk.bind l (fun o ho => ⟨_, rfl, _, _, by rw [ho]⟩)
set_option maxRecDepth 20000 in
theorem zbit1 : ∀ m : Fin 10, ∀ n : Fin 1024, ((zJ n.1 >>> (zJ m.1 &&& 31)) &&& (1 : Int32)) = if zis (zJ n.1) (zJ m.1) then 1 else 0 := by decide +kernel
theorem zst5 (h : zInv sc ar) (hx : inb (x4 + 1) L = true ∧ inb (x4 + 2) L = true ∧ inb (x4 + 3) L = true ∧ inb (x4 + 4) L = true ∧ inb (x4 + 5) L = true) : zOk (st5 L xs sc ar O x4) (fun o => zInv o.1 o.2.1) := by
  obtain ⟨E, t, hI⟩ := h
  have hJ := hI
  obtain ⟨hE, hc, hr, ht, ⟨c1, c2, c3, c4, c5, c6, c7, c8, c9⟩, ⟨m1, m2, m3, m4, m5, m6, m7, m8, m9⟩, hnv, hh, hse, hst, htp, hfp, him, hik⟩ := hI
  have h7 := hE.a7
  have h10 := hE.m10
  unfold st5
  try simp only [ck_t hx.1, ck_t hx.2.1, ck_t hx.2.2.1, ck_t hx.2.2.2.1, ck_t hx.2.2.2.2, c1, c2, c3, c4, c5, c6, c7, m1, m2, m3, m4, m5, m6, m7, hnv]
  generalize xs (x4 + 1).toNatClampNeg = p
  generalize xs (x4 + 2).toNatClampNeg = p'
  suffices key : ∃ (R : Sum Nat Int32) (a c : Int32), zOk (fX8_motion (sc 55) (ar 48) (ar 50) (ar 51) (ar 52) t.passed (ar 67) p p') (fun v => v = R) ∧ zOk (fX9_motion (sc 4) t.passed (ar 1) (ar 4) (ar 6) (ar 7) (ar 8) (ar 14) p p') (fun o => o = (a, c)) ∧ ((R = Sum.inr a ∧ c = 0) ∨ (R = Sum.inl 1 ∧ c = 1)) by
    obtain ⟨R, a, c, ⟨v, ev, hv⟩, ⟨w, ew, rfl⟩, hR⟩ := key
    rcases hR with ⟨rfl, rfl⟩ | ⟨rfl, rfl⟩
    · obtain ⟨o, eo, h1, h2⟩ : ∃ o, (fL_motion O (sc 55) (ar 48) (ar 50) (ar 51) (ar 52) t.passed (ar 67) p p') = some o ∧ o.1 = 0 ∧ o.2 = vp_updL O 0 a.toInt64 := by
        unfold fL_motion; rw [ev]; show ∃ o, Sum.elim _ _ v = some o ∧ _; rw [hv]; exact ⟨_, rfl, rfl, rfl⟩
      refine zOk.eq eo (zOk.eq ew (zOk.eq rfl (zOk.pos h1.symm (zOk.pos h1 (zOk.pos (by rw [h2]; exact zlgO) (zOk.pure ?_))))))
      exact zInv_q hJ (by repeat' (first | exact zSr0 | refine zSn rfl ?_ | refine zSs (by assumption) ?_)) (by repeat' (first | exact zAr0 | refine zAn rfl rfl rfl ?_ | refine zAn13 hL ?_ | refine zAn14 hC ?_ | refine zAs rfl ?_))
    · obtain ⟨o, eo, h1, h2⟩ : ∃ o, (fL_motion O (sc 55) (ar 48) (ar 50) (ar 51) (ar 52) t.passed (ar 67) p p') = some o ∧ o.1 = 1 ∧ o.2 = O := by
        unfold fL_motion; rw [ev]; show ∃ o, Sum.elim _ _ v = some o ∧ _; rw [hv]; exact ⟨_, rfl, rfl, rfl⟩
      refine zOk.eq eo (zOk.eq ew (zOk.eq rfl (zOk.pos h1.symm (zOk.neg (by rw [h1]; decide) (zOk.pure ?_)))))
      exact zInv_q hJ (by repeat' (first | exact zSr0 | refine zSn rfl ?_ | refine zSs (by assumption) ?_)) (by repeat' (first | exact zAr0 | refine zAn rfl rfl rfl ?_ | refine zAn13 hL ?_ | refine zAn14 hC ?_ | refine zAs rfl ?_))
  by_cases q : ∃ m, m < E.nM ∧ p = zJ m
  rotate_left
  · have e := zmo_no hE hc.m hr q
    refine ⟨Sum.inl 1, 0, 1, ?_, ?_, Or.inr ⟨rfl, rfl⟩⟩
    · unfold fX8_motion; exact zOk.eq e.1 ⟨_, rfl, rfl⟩
    · unfold fX9_motion; exact zOk.eq e.2 (zOk.pos rfl ⟨_, rfl, rfl⟩)
  · obtain ⟨m, hm, rfl⟩ := q
    have e := zmo_yes hE hc.m hr hm
    by_cases qw : p' < 0 ∨ 6 < p'
    · refine ⟨Sum.inl 1, 0, 1, ?_, ?_, Or.inr ⟨rfl, rfl⟩⟩
      · unfold fX8_motion; refine zOk.eq e.1 (zOk.inr ?_)
        repeat' (refine zOk.neg (by rintro rfl; revert qw; decide) ?_)
        exact ⟨_, rfl, rfl⟩
      · unfold fX9_motion; refine zOk.eq e.2 (zOk.neg (by decide) ?_)
        repeat' (refine zOk.neg (by rintro rfl; revert qw; decide) ?_)
        exact ⟨_, rfl, rfl⟩
    · obtain ⟨n, hn, rfl⟩ := zof_le (x := p') (k := 6) (by grind) (by omega) (by show p' ≤ 6; grind)
      have i10 : inb (zJ m) 10 = true := zinb (by omega) (by omega)
      have i20 : inb (zJ m) 20 = true := zinb (by omega) (by omega)
      have ix : (zJ m).toNatClampNeg = m := zJ_ix (by omega)
      rcases (show n = 0 ∨ n = 1 ∨ n = 2 ∨ n = 3 ∨ n = 4 ∨ n = 5 ∨ n = 6 by omega) with rfl | rfl | rfl | rfl | rfl | rfl | rfl
      · refine ⟨Sum.inr _, E.kind m, 0, ?_, ?_, Or.inl ⟨rfl, rfl⟩⟩
        · unfold fX8_motion; refine zOk.eq e.1 (zOk.inr ?_)
          iterate 0 (refine zOk.neg (by decide) ?_)
          refine zOk.pos rfl ?_
          rw [ck_t i10, ix, hc.kind m hm]; exact ⟨_, rfl, rfl⟩
        · unfold fX9_motion; refine zOk.eq e.2 (zOk.neg (by decide) ?_)
          iterate 0 (refine zOk.neg (by decide) ?_)
          refine zOk.pos rfl ?_
          rw [ck_t i20, ix, hr.kind m hm]; exact ⟨_, rfl, rfl⟩
      · refine ⟨Sum.inr _, t.call m, 0, ?_, ?_, Or.inl ⟨rfl, rfl⟩⟩
        · unfold fX8_motion; refine zOk.eq e.1 (zOk.inr ?_)
          iterate 1 (refine zOk.neg (by decide) ?_)
          refine zOk.pos rfl ?_
          rw [ck_t i10, ix, c9 m hm]; exact ⟨_, rfl, rfl⟩
        · unfold fX9_motion; refine zOk.eq e.2 (zOk.neg (by decide) ?_)
          iterate 1 (refine zOk.neg (by decide) ?_)
          refine zOk.pos rfl ?_
          rw [ck_t i10, ix, m9 m hm]; exact ⟨_, rfl, rfl⟩
      · refine ⟨Sum.inr _, E.cost m, 0, ?_, ?_, Or.inl ⟨rfl, rfl⟩⟩
        · unfold fX8_motion; refine zOk.eq e.1 (zOk.inr ?_)
          iterate 2 (refine zOk.neg (by decide) ?_)
          refine zOk.pos rfl ?_
          rw [ck_t i10, ix, hc.cost m hm]; exact ⟨_, rfl, rfl⟩
        · unfold fX9_motion; refine zOk.eq e.2 (zOk.neg (by decide) ?_)
          iterate 2 (refine zOk.neg (by decide) ?_)
          refine zOk.pos rfl ?_
          rw [ck_t i20, ix, hr.cost m hm]; exact ⟨_, rfl, rfl⟩
      · refine ⟨Sum.inr _, E.joy m, 0, ?_, ?_, Or.inl ⟨rfl, rfl⟩⟩
        · unfold fX8_motion; refine zOk.eq e.1 (zOk.inr ?_)
          iterate 3 (refine zOk.neg (by decide) ?_)
          refine zOk.pos rfl ?_
          rw [ck_t i10, ix, hc.joy m hm]; exact ⟨_, rfl, rfl⟩
        · unfold fX9_motion; refine zOk.eq e.2 (zOk.neg (by decide) ?_)
          iterate 3 (refine zOk.neg (by decide) ?_)
          refine zOk.pos rfl ?_
          rw [ck_t i20, ix, hr.joy m hm]; exact ⟨_, rfl, rfl⟩
      · refine ⟨Sum.inr _, E.fol m, 0, ?_, ?_, Or.inl ⟨rfl, rfl⟩⟩
        · unfold fX8_motion; refine zOk.eq e.1 (zOk.inr ?_)
          iterate 4 (refine zOk.neg (by decide) ?_)
          refine zOk.pos rfl ?_
          rw [ck_t i10, ix, hc.fol m hm]; exact ⟨_, rfl, rfl⟩
        · unfold fX9_motion; refine zOk.eq e.2 (zOk.neg (by decide) ?_)
          iterate 4 (refine zOk.neg (by decide) ?_)
          refine zOk.pos rfl ?_
          rw [ck_t i20, ix, hr.fol m hm]; exact ⟨_, rfl, rfl⟩
      · refine ⟨Sum.inr _, if zis t.passed (zJ m) then 1 else 0, 0, ?_, ?_, Or.inl ⟨rfl, rfl⟩⟩
        · unfold fX8_motion; refine zOk.eq e.1 (zOk.inr ?_)
          iterate 5 (refine zOk.neg (by decide) ?_)
          refine zOk.pos rfl (zOk.eq zisP ?_)
          cases hz : zis t.passed (zJ m)
          · exact zOk.pos rfl ⟨_, rfl, rfl⟩
          · exact zOk.neg (by decide) ⟨_, rfl, rfl⟩
        · unfold fX9_motion; refine zOk.eq e.2 (zOk.neg (by decide) ?_)
          iterate 5 (refine zOk.neg (by decide) ?_)
          refine zOk.pos rfl ⟨_, rfl, ?_⟩
          obtain ⟨pn, hpn, ep⟩ := ht.ok.passed
          have hpn := zpow hpn h10
          rw [ep]
          congr 1
          exact zbit1 ⟨m, by omega⟩ ⟨pn, hpn⟩
      · obtain ⟨n', c', a1, a2, a3, a4, a5⟩ := zl_chain (B_motions := sc 55) (B_follows := ar 52) (M_behind := ar 8) hE hc.m hc.fol hr.fol m m (E.fol m) 0 0 FU FU FU 0 (by omega) (hE.fol m hm) (by omega) (by omega) (by unfold FU; omega) (by unfold FU; omega) (by unfold FU; omega) (by omega) (fun q _ => Nat.zero_testBit q) (by decide) (by omega)
        refine ⟨Sum.inr _, zJ c', 0, ?_, ?_, Or.inl ⟨rfl, rfl⟩⟩
        · unfold fX8_motion; refine zOk.eq e.1 (zOk.inr ?_)
          iterate 6 (refine zOk.neg (by decide) ?_)
          refine zOk.pos rfl ?_
          have ec : fX1_chainOf (sc 55) (ar 52) (zJ m) = some (zJ n') := by
            unfold fX1_chainOf
            rw [ck_t i10, ix, hc.fol m hm]
            exact a3 _
          refine zOk.eq ec ?_
          exact zOk.eq (zbc_eq _) ⟨_, rfl, by rw [a2]⟩
        · unfold fX9_motion; refine zOk.eq e.2 (zOk.neg (by decide) ?_)
          iterate 6 (refine zOk.neg (by decide) ?_)
          refine zOk.pos rfl ?_
          have ec : fX9_chain (ar 8) (zJ m) = some (zJ c') := by
            unfold fX9_chain
            rw [ck_t i20, ix, hr.fol m hm]
            exact a4 _
          exact zOk.eq ec ⟨_, rfl, rfl⟩
theorem zst20 (h : zInv sc ar) (hx : inb (x4 + 1) L = true ∧ inb (x4 + 2) L = true ∧ inb (x4 + 3) L = true ∧ inb (x4 + 4) L = true ∧ inb (x4 + 5) L = true) : zOk (st20 L xs sc ar O x4) (fun o => zInv o.1 o.2.1) := by
  obtain ⟨E, t, hI⟩ := h
  have hJ := hI
  obtain ⟨hE, hc, hr, ht, ⟨c1, c2, c3, c4, c5, c6, c7, c8, c9⟩, ⟨m1, m2, m3, m4, m5, m6, m7, m8, m9⟩, hnv, hh, hse, hst, htp, hfp, him, hik⟩ := hI
  have h7 := hE.a7
  have h10 := hE.m10
  unfold st20
  try simp only [ck_t hx.1, ck_t hx.2.1, ck_t hx.2.2.1, ck_t hx.2.2.2.1, ck_t hx.2.2.2.2, c1, c2, c3, c4, c5, c6, c7, m1, m2, m3, m4, m5, m6, m7, hnv]
  generalize xs (x4 + 1).toNatClampNeg = p
  generalize xs (x4 + 2).toNatClampNeg = p'
  suffices key : ∃ (R : Sum Nat Int32) (a c : Int32), zOk (fX8_votes (ar 44) (ar 45) (sc 54) (sc 55) (ar 47) (ar 48) (ar 50) (ar 51) (ar 53) (ar 54) (ar 55) t.passed (ar 66) p p') (fun v => v.1 = R) ∧ zOk (fX9_votes (sc 4) t.passed (ar 1) (ar 3) (ar 4) (ar 6) (ar 7) (ar 10) (ar 13) (ar 16) (ar 17) p p') (fun o => ∃ V S : Nat → Int32, o = (a, c, V, S)) ∧ ((R = Sum.inr a ∧ c = 0) ∨ (R = Sum.inl 1 ∧ c = 1) ∨ (R = Sum.inl 2 ∧ c = 2)) by
    obtain ⟨R, a, c, ⟨v, ev, hv⟩, ⟨w, ew, V, S, rfl⟩, hR⟩ := key
    rcases hR with ⟨rfl, rfl⟩ | ⟨rfl, rfl⟩ | ⟨rfl, rfl⟩
    · obtain ⟨o, eo, h1, h2⟩ : ∃ o, (fL_votes O (ar 44) (ar 45) (sc 54) (sc 55) (ar 47) (ar 48) (ar 50) (ar 51) (ar 53) (ar 54) (ar 55) t.passed (ar 66) p p') = some o ∧ o.1 = 0 ∧ o.2.1 = vp_updL O 0 a.toInt64 := by
        unfold fL_votes; rw [ev]; show ∃ o, Sum.elim _ _ v.1 = some o ∧ _; rw [hv]; exact ⟨_, rfl, rfl, rfl⟩
      refine zOk.eq eo (zOk.eq ew (zOk.eq rfl (zOk.pos h1.symm (zOk.pos h1 (zOk.pos (by rw [h2]; exact zlgO) (zOk.pure ?_))))))
      exact zInv_q hJ (by repeat' (first | exact zSr0 | refine zSn rfl ?_ | refine zSs (by assumption) ?_)) (by repeat' (first | exact zAr0 | refine zAn rfl rfl rfl ?_ | refine zAn13 hL ?_ | refine zAn14 hC ?_ | refine zAs rfl ?_))
    · obtain ⟨o, eo, h1, h2⟩ : ∃ o, (fL_votes O (ar 44) (ar 45) (sc 54) (sc 55) (ar 47) (ar 48) (ar 50) (ar 51) (ar 53) (ar 54) (ar 55) t.passed (ar 66) p p') = some o ∧ o.1 = 1 ∧ o.2.1 = O := by
        unfold fL_votes; rw [ev]; show ∃ o, Sum.elim _ _ v.1 = some o ∧ _; rw [hv]; exact ⟨_, rfl, rfl, rfl⟩
      refine zOk.eq eo (zOk.eq ew (zOk.eq rfl (zOk.pos h1.symm (zOk.neg (by rw [h1]; decide) (zOk.pure ?_)))))
      exact zInv_q hJ (by repeat' (first | exact zSr0 | refine zSn rfl ?_ | refine zSs (by assumption) ?_)) (by repeat' (first | exact zAr0 | refine zAn rfl rfl rfl ?_ | refine zAn13 hL ?_ | refine zAn14 hC ?_ | refine zAs rfl ?_))
    · obtain ⟨o, eo, h1, h2⟩ : ∃ o, (fL_votes O (ar 44) (ar 45) (sc 54) (sc 55) (ar 47) (ar 48) (ar 50) (ar 51) (ar 53) (ar 54) (ar 55) t.passed (ar 66) p p') = some o ∧ o.1 = 2 ∧ o.2.1 = O := by
        unfold fL_votes; rw [ev]; show ∃ o, Sum.elim _ _ v.1 = some o ∧ _; rw [hv]; exact ⟨_, rfl, rfl, rfl⟩
      refine zOk.eq eo (zOk.eq ew (zOk.eq rfl (zOk.pos h1.symm (zOk.neg (by rw [h1]; decide) (zOk.pure ?_)))))
      exact zInv_q hJ (by repeat' (first | exact zSr0 | refine zSn rfl ?_ | refine zSs (by assumption) ?_)) (by repeat' (first | exact zAr0 | refine zAn rfl rfl rfl ?_ | refine zAn13 hL ?_ | refine zAn14 hC ?_ | refine zAs rfl ?_))
  by_cases q : ∃ m, m < E.nM ∧ p = zJ m
  rotate_left
  · have e := zmo_no hE hc.m hr q
    refine ⟨Sum.inl 1, 0, 1, ?_, ?_, Or.inr (Or.inl ⟨rfl, rfl⟩)⟩
    · unfold fX8_votes; exact zOk.eq e.1 ⟨_, rfl, rfl⟩
    · unfold fX9_votes; exact zOk.eq e.2 (zOk.pos rfl ⟨_, rfl, _, _, rfl⟩)
  · obtain ⟨m, hm, rfl⟩ := q
    have e := zmo_yes hE hc.m hr hm
    by_cases q : p' < 0 ∨ 24 < p'
    · refine ⟨Sum.inl 2, 0, 2, ?_, ?_, Or.inr (Or.inr ⟨rfl, rfl⟩)⟩
      · unfold fX8_votes; exact zOk.eq e.1 (zOk.inr (zOk.eq (zr_no q) ⟨_, rfl, rfl⟩))
      · unfold fX9_votes; exact zOk.eq e.2 (zOk.neg (by decide) (zOk.eq (zi_no q rfl rfl) (zOk.pos rfl ⟨_, rfl, _, _, rfl⟩)))
    · refine ⟨Sum.inr _, zsup E t m p', 0, ?_, ?_, Or.inl ⟨rfl, rfl⟩⟩
      · unfold fX8_votes; refine zOk.eq e.1 (zOk.inr (zOk.eq (zr_yes q) (zOk.inr ?_)))
        exact zOk.bind (zc_sup hE hc c8 hm) (fun o ho => ⟨_, rfl, congrArg Sum.inr ho⟩)
      · unfold fX9_votes; refine zOk.eq e.2 (zOk.neg (by decide) (zOk.eq (zi_yes q rfl rfl) (zOk.neg (by decide) ?_)))
        exact zOk.bind (zm_sup hE hr ht.ok m8 hm) (fun o ho => ⟨_, rfl, _, _, by rw [ho]⟩)
theorem zl_bought {E : zE} (h7 : E.nA ≤ 7) {M_told : Nat → Int32} (h3 : M_told 3 = zJ E.nA) {ke : Int32 → Option (Int32 × Int32 × (Nat → Int32) × (Nat → Int32))} {Q : Int32 × Int32 × (Nat → Int32) × (Nat → Int32) → Prop} {c : Nat} (hc : c ≤ E.nA) : ∀ (k n fuel : Nat), k + (c + n) = E.nA → k < fuel → (E.nA ≠ 0 → n ≠ 0 → c + n ≤ E.nA / 2 + 1) → zOk (ke (zJ (if E.nA = 0 then n else max n (E.nA / 2 + 1 - c)))) Q → zOk (lX9_bought_50 ke M_told (zJ c) fuel (zJ n)) Q := by
  intro k
  induction k with
  | zero =>
    intro n fuel hk hf hn kk
    obtain ⟨fuel, rfl, hf⟩ := zfu hf
    unfold lX9_bought_50
    rw [ck_t (by decide), show (3 : Int32).toNatClampNeg = 3 from rfl, h3, zJ_add]
    refine zOk.pos (zJ_yle (by omega) (by omega)) ?_
    by_cases q : E.nA = 0
    · rw [if_pos q] at kk; exact kk
    · rw [if_neg q, Nat.max_eq_left (by omega)] at kk; exact kk
  | succ k ih =>
    intro n fuel hk hf hn kk
    obtain ⟨fuel, rfl, hf⟩ := zfu hf
    unfold lX9_bought_50
    rw [ck_t (by decide), show (3 : Int32).toNatClampNeg = 3 from rfl, h3, zJ_add]
    refine zOk.neg (zJ_nle (by omega) (by omega)) ?_
    have em : fX9_isMore M_told (zJ (c + n)) = some (if c + n ≤ E.nA - (c + n) then 0 else 1) := by
      unfold fX9_isMore
      rw [ck_t (by decide), show (3 : Int32).toNatClampNeg = 3 from rfl, h3, zJ_sub (by omega)]
      by_cases q : c + n ≤ E.nA - (c + n)
      · rw [if_pos q, if_pos (zJ_yle q (by omega))]
      · rw [if_neg q, if_neg (zJ_nle (by omega) (by omega))]
    refine zOk.eq em ?_
    rw [if_neg (by omega)] at kk
    by_cases q : c + n ≤ E.nA - (c + n)
    · rw [if_pos q, zJ_succ]
      refine zOk.pos rfl (ih (n + 1) fuel (by omega) (by omega) (fun _ _ => by omega) ?_)
      rw [if_neg (by omega), Nat.max_eq_right (by omega)]
      rw [Nat.max_eq_right (by omega)] at kk
      exact kk
    · rw [if_neg q]
      refine zOk.neg (by decide) ?_
      rw [Nat.max_eq_left (by omega)] at kk
      exact kk
theorem zst21 (h : zInv sc ar) (hx : inb (x4 + 1) L = true ∧ inb (x4 + 2) L = true ∧ inb (x4 + 3) L = true ∧ inb (x4 + 4) L = true ∧ inb (x4 + 5) L = true) : zOk (st21 L xs sc ar O x4) (fun o => zInv o.1 o.2.1) := by
  obtain ⟨E, t, hI⟩ := h
  have hJ := hI
  obtain ⟨hE, hc, hr, ht, ⟨c1, c2, c3, c4, c5, c6, c7, c8, c9⟩, ⟨m1, m2, m3, m4, m5, m6, m7, m8, m9⟩, hnv, hh, hse, hst, htp, hfp, him, hik⟩ := hI
  have h7 := hE.a7
  have h10 := hE.m10
  unfold st21
  try simp only [ck_t hx.1, ck_t hx.2.1, ck_t hx.2.2.1, ck_t hx.2.2.2.1, ck_t hx.2.2.2.2, c1, c2, c3, c4, c5, c6, c7, m1, m2, m3, m4, m5, m6, m7, hnv]
  generalize xs (x4 + 1).toNatClampNeg = p
  generalize xs (x4 + 2).toNatClampNeg = p'
  suffices key : ∃ (R : Sum Nat Int32) (a c : Int32), zOk (fX8_bought (ar 44) (ar 45) (sc 54) (sc 55) (ar 47) (ar 48) (ar 50) (ar 51) (ar 53) (ar 54) (ar 55) t.passed (ar 66) p p') (fun v => v.1 = R) ∧ zOk (fX9_bought (sc 4) t.passed (ar 1) (ar 3) (ar 4) (ar 6) (ar 7) (ar 10) (ar 13) (ar 16) (ar 17) p p') (fun o => ∃ V S : Nat → Int32, o = (a, c, V, S)) ∧ ((R = Sum.inr a ∧ c = 0) ∨ (R = Sum.inl 1 ∧ c = 1) ∨ (R = Sum.inl 2 ∧ c = 2)) by
    obtain ⟨R, a, c, ⟨v, ev, hv⟩, ⟨w, ew, V, S, rfl⟩, hR⟩ := key
    rcases hR with ⟨rfl, rfl⟩ | ⟨rfl, rfl⟩ | ⟨rfl, rfl⟩
    · obtain ⟨o, eo, h1, h2⟩ : ∃ o, (fL_bought O (ar 44) (ar 45) (sc 54) (sc 55) (ar 47) (ar 48) (ar 50) (ar 51) (ar 53) (ar 54) (ar 55) t.passed (ar 66) p p') = some o ∧ o.1 = 0 ∧ o.2.1 = vp_updL O 0 a.toInt64 := by
        unfold fL_bought; rw [ev]; show ∃ o, Sum.elim _ _ v.1 = some o ∧ _; rw [hv]; exact ⟨_, rfl, rfl, rfl⟩
      refine zOk.eq eo (zOk.eq ew (zOk.eq rfl (zOk.pos h1.symm (zOk.pos h1 (zOk.pos (by rw [h2]; exact zlgO) (zOk.pure ?_))))))
      exact zInv_q hJ (by repeat' (first | exact zSr0 | refine zSn rfl ?_ | refine zSs (by assumption) ?_)) (by repeat' (first | exact zAr0 | refine zAn rfl rfl rfl ?_ | refine zAn13 hL ?_ | refine zAn14 hC ?_ | refine zAs rfl ?_))
    · obtain ⟨o, eo, h1, h2⟩ : ∃ o, (fL_bought O (ar 44) (ar 45) (sc 54) (sc 55) (ar 47) (ar 48) (ar 50) (ar 51) (ar 53) (ar 54) (ar 55) t.passed (ar 66) p p') = some o ∧ o.1 = 1 ∧ o.2.1 = O := by
        unfold fL_bought; rw [ev]; show ∃ o, Sum.elim _ _ v.1 = some o ∧ _; rw [hv]; exact ⟨_, rfl, rfl, rfl⟩
      refine zOk.eq eo (zOk.eq ew (zOk.eq rfl (zOk.pos h1.symm (zOk.neg (by rw [h1]; decide) (zOk.pure ?_)))))
      exact zInv_q hJ (by repeat' (first | exact zSr0 | refine zSn rfl ?_ | refine zSs (by assumption) ?_)) (by repeat' (first | exact zAr0 | refine zAn rfl rfl rfl ?_ | refine zAn13 hL ?_ | refine zAn14 hC ?_ | refine zAs rfl ?_))
    · obtain ⟨o, eo, h1, h2⟩ : ∃ o, (fL_bought O (ar 44) (ar 45) (sc 54) (sc 55) (ar 47) (ar 48) (ar 50) (ar 51) (ar 53) (ar 54) (ar 55) t.passed (ar 66) p p') = some o ∧ o.1 = 2 ∧ o.2.1 = O := by
        unfold fL_bought; rw [ev]; show ∃ o, Sum.elim _ _ v.1 = some o ∧ _; rw [hv]; exact ⟨_, rfl, rfl, rfl⟩
      refine zOk.eq eo (zOk.eq ew (zOk.eq rfl (zOk.pos h1.symm (zOk.neg (by rw [h1]; decide) (zOk.pure ?_)))))
      exact zInv_q hJ (by repeat' (first | exact zSr0 | refine zSn rfl ?_ | refine zSs (by assumption) ?_)) (by repeat' (first | exact zAr0 | refine zAn rfl rfl rfl ?_ | refine zAn13 hL ?_ | refine zAn14 hC ?_ | refine zAs rfl ?_))
  by_cases q : ∃ m, m < E.nM ∧ p = zJ m
  rotate_left
  · have e := zmo_no hE hc.m hr q
    refine ⟨Sum.inl 1, 0, 1, ?_, ?_, Or.inr (Or.inl ⟨rfl, rfl⟩)⟩
    · unfold fX8_bought; exact zOk.eq e.1 ⟨_, rfl, rfl⟩
    · unfold fX9_bought; exact zOk.eq e.2 (zOk.pos rfl ⟨_, rfl, _, _, rfl⟩)
  · obtain ⟨m, hm, rfl⟩ := q
    have e := zmo_yes hE hc.m hr hm
    by_cases q : p' < 0 ∨ 24 < p'
    · refine ⟨Sum.inl 2, 0, 2, ?_, ?_, Or.inr (Or.inr ⟨rfl, rfl⟩)⟩
      · unfold fX8_bought; exact zOk.eq e.1 (zOk.inr (zOk.eq (zr_no q) ⟨_, rfl, rfl⟩))
      · unfold fX9_bought; exact zOk.eq e.2 (zOk.neg (by decide) (zOk.eq (zi_no q rfl rfl) (zOk.pos rfl ⟨_, rfl, _, _, rfl⟩)))
    · obtain ⟨n, hn, es⟩ := zsupN_r (E := E) (t := t) (m := m) (said := p') E.nA (by omega)
      have hn128 : n < 128 := Nat.lt_of_lt_of_le hn (Nat.pow_le_pow_right (n := 2) (by omega) h7)
      obtain ⟨k, hk, ek⟩ := zbc_lt ⟨E.nA, by omega⟩ ⟨n, hn128⟩ hn
      have hk : k.1 ≤ E.nA := hk
      have ek : zbc (zJ n) = zJ k.1 := ek
      refine ⟨Sum.inr _, zJ (if E.nA = 0 then 0 else max 0 (E.nA / 2 + 1 - k.1)), 0, ?_, ?_, Or.inl ⟨rfl, rfl⟩⟩
      · unfold fX8_bought; refine zOk.eq e.1 (zOk.inr (zOk.eq (zr_yes q) (zOk.inr ?_)))
        refine zOk.bind (zc_sup hE hc c8 hm) (fun o ho => ?_)
        have ho : o.1 = zJ n := ho.trans es
        rw [ho]
        have ev : fX3_votesLacking (sc 54) (zJ n) = some (zJ (if E.nA = 0 then 0 else max 0 (E.nA / 2 + 1 - k.1))) := by
          unfold fX3_votesLacking
          rw [hc.a]
          by_cases z : E.nA = 0
          · rw [if_pos z, z]; rfl
          · rw [if_neg z, if_neg (show ¬ zJ E.nA = 0 from fun y => z ((zJ_inj (b := 0) (by omega) (by omega)).1 y)), zbc_eq, Option.bind_some, ek, show (2 : Int32) = zJ 2 from rfl, zJ_div (by omega) (by omega), zJ_succ]
            congr 1
            by_cases y : k.1 < E.nA / 2 + 1
            · rw [zJ_sub (by omega), if_pos (show (0 : Int32) < zJ _ from zJ_ylt (a := 0) (by omega) (by omega)), Nat.max_eq_right (by omega)]
            · rw [if_neg, show max 0 (E.nA / 2 + 1 - k.1) = 0 by omega]
              · rfl
              · rw [Int32.lt_iff_toInt_lt, Int32.toInt_sub, zJ_toInt (by omega), zJ_toInt (by omega), Int.bmod_eq_of_le (by omega) (by omega)]
                show ¬ (0 : Int) < _
                omega
        exact zOk.eq ev ⟨_, rfl, rfl⟩
      · unfold fX9_bought; refine zOk.eq e.2 (zOk.neg (by decide) (zOk.eq (zi_yes q rfl rfl) (zOk.neg (by decide) ?_)))
        refine zOk.bind (zm_sup hE hr ht.ok m8 hm) (fun o ho => ?_)
        have ho : o.1 = zJ n := ho.trans es
        rw [ho]
        refine zOk.eq (zbits' (by omega)) ?_
        rw [ek]
        exact zl_bought h7 hr.a hk (E.nA - k.1) 0 FU (by omega) (by unfold FU; omega) (fun _ z => absurd rfl z) ⟨_, rfl, _, _, rfl⟩
theorem zst24 (h : zInv sc ar) (hx : inb (x4 + 1) L = true ∧ inb (x4 + 2) L = true ∧ inb (x4 + 3) L = true ∧ inb (x4 + 4) L = true ∧ inb (x4 + 5) L = true) : zOk (st24 L xs sc ar O x4) (fun o => zInv o.1 o.2.1) := by
  obtain ⟨E, t, hI⟩ := h
  have hJ := hI
  obtain ⟨hE, hc, hr, ht, ⟨c1, c2, c3, c4, c5, c6, c7, c8, c9⟩, ⟨m1, m2, m3, m4, m5, m6, m7, m8, m9⟩, hnv, hh, hse, hst, htp, hfp, him, hik⟩ := hI
  have h7 := hE.a7
  have h10 := hE.m10
  unfold st24
  try simp only [ck_t hx.1, ck_t hx.2.1, ck_t hx.2.2.1, ck_t hx.2.2.2.1, ck_t hx.2.2.2.2, c1, c2, c3, c4, c5, c6, c7, m1, m2, m3, m4, m5, m6, m7, hnv]
  generalize xs (x4 + 1).toNatClampNeg = p
  suffices key : ∃ (R : Sum Nat Int32) (a c : Int32), zOk (fX8_needs (sc 55) (ar 52) t.passed p) (fun v => v = R) ∧ zOk (fX9_needs (sc 4) t.passed (ar 1) (ar 8) p) (fun o => o = (a, c)) ∧ ((R = Sum.inr a ∧ c = 0) ∨ (R = Sum.inl 1 ∧ c = 1)) by
    obtain ⟨R, a, c, ⟨v, ev, hv⟩, ⟨w, ew, rfl⟩, hR⟩ := key
    rcases hR with ⟨rfl, rfl⟩ | ⟨rfl, rfl⟩
    · obtain ⟨o, eo, h1, h2⟩ : ∃ o, (fL_needs O (sc 55) (ar 52) t.passed p) = some o ∧ o.1 = 0 ∧ o.2 = vp_updL O 0 a.toInt64 := by
        unfold fL_needs; rw [ev]; show ∃ o, Sum.elim _ _ v = some o ∧ _; rw [hv]; exact ⟨_, rfl, rfl, rfl⟩
      refine zOk.eq eo (zOk.eq ew (zOk.eq rfl (zOk.pos h1.symm (zOk.pos h1 (zOk.pos (by rw [h2]; exact zlgO) (zOk.pure ?_))))))
      exact zInv_q hJ (by repeat' (first | exact zSr0 | refine zSn rfl ?_ | refine zSs (by assumption) ?_)) (by repeat' (first | exact zAr0 | refine zAn rfl rfl rfl ?_ | refine zAn13 hL ?_ | refine zAn14 hC ?_ | refine zAs rfl ?_))
    · obtain ⟨o, eo, h1, h2⟩ : ∃ o, (fL_needs O (sc 55) (ar 52) t.passed p) = some o ∧ o.1 = 1 ∧ o.2 = O := by
        unfold fL_needs; rw [ev]; show ∃ o, Sum.elim _ _ v = some o ∧ _; rw [hv]; exact ⟨_, rfl, rfl, rfl⟩
      refine zOk.eq eo (zOk.eq ew (zOk.eq rfl (zOk.pos h1.symm (zOk.neg (by rw [h1]; decide) (zOk.pure ?_)))))
      exact zInv_q hJ (by repeat' (first | exact zSr0 | refine zSn rfl ?_ | refine zSs (by assumption) ?_)) (by repeat' (first | exact zAr0 | refine zAn rfl rfl rfl ?_ | refine zAn13 hL ?_ | refine zAn14 hC ?_ | refine zAs rfl ?_))
  by_cases q : ∃ m, m < E.nM ∧ p = zJ m
  rotate_left
  · have e := zmo_no hE hc.m hr q
    refine ⟨Sum.inl 1, 0, 1, ?_, ?_, Or.inr ⟨rfl, rfl⟩⟩
    · unfold fX8_needs; exact zOk.eq e.1 ⟨_, rfl, rfl⟩
    · unfold fX9_needs; exact zOk.eq e.2 (zOk.pos rfl ⟨_, rfl, rfl⟩)
  · obtain ⟨m, hm, rfl⟩ := q
    have e := zmo_yes hE hc.m hr hm
    have i10 : inb (zJ m) 10 = true := zinb (by omega) (by omega)
    have i20 : inb (zJ m) 20 = true := zinb (by omega) (by omega)
    have ix : (zJ m).toNatClampNeg = m := zJ_ix (by omega)
    obtain ⟨n', c', a1, a2, a3, a4, a5⟩ := zl_chain (B_motions := sc 55) (B_follows := ar 52) (M_behind := ar 8) hE hc.m hc.fol hr.fol m m (E.fol m) 0 0 FU FU FU 0 (by omega) (hE.fol m hm) (by omega) (by omega) (by unfold FU; omega) (by unfold FU; omega) (by unfold FU; omega) (by omega) (fun q _ => Nat.zero_testBit q) (by decide) (by omega)
    refine ⟨Sum.inr _, zJ n' &&& (t.passed ^^^ (-1 : Int32)), 0, ?_, ?_, Or.inl ⟨rfl, rfl⟩⟩
    · unfold fX8_needs; refine zOk.eq e.1 (zOk.inr ?_)
      have ec : fX1_chainOf (sc 55) (ar 52) (zJ m) = some (zJ n') := by
        unfold fX1_chainOf
        rw [ck_t i10, ix, hc.fol m hm]
        exact a3 _
      exact zOk.eq ec ⟨_, rfl, rfl⟩
    · unfold fX9_needs; refine zOk.eq e.2 (zOk.neg (by decide) ?_)
      rw [ck_t i20, ix, hr.fol m hm]
      exact ⟨_, a5 _, rfl⟩
theorem zst25 (h : zInv sc ar) (hx : inb (x4 + 1) L = true ∧ inb (x4 + 2) L = true ∧ inb (x4 + 3) L = true ∧ inb (x4 + 4) L = true ∧ inb (x4 + 5) L = true) : zOk (st25 L xs sc ar O x4) (fun o => zInv o.1 o.2.1) := by
  obtain ⟨E, t, hI⟩ := h
  have hJ := hI
  obtain ⟨hE, hc, hr, ht, ⟨c1, c2, c3, c4, c5, c6, c7, c8, c9⟩, ⟨m1, m2, m3, m4, m5, m6, m7, m8, m9⟩, hnv, hh, hse, hst, htp, hfp, him, hik⟩ := hI
  have h7 := hE.a7
  have h10 := hE.m10
  unfold st25
  try simp only [ck_t hx.1, ck_t hx.2.1, ck_t hx.2.2.1, ck_t hx.2.2.2.1, ck_t hx.2.2.2.2, c1, c2, c3, c4, c5, c6, c7, m1, m2, m3, m4, m5, m6, m7, hnv]
  generalize xs (x4 + 1).toNatClampNeg = p
  generalize xs (x4 + 2).toNatClampNeg = p'
  suffices key : ∃ (R : Sum Nat Int32) (a c : Int32), zOk (fX8_allies (ar 44) (ar 45) (sc 54) (sc 55) (ar 47) (ar 48) (ar 50) (ar 51) (ar 53) (ar 54) (ar 55) t.passed (ar 66) (ar 67) p p') (fun v => v.1 = R) ∧ zOk (fX9_allies (sc 4) t.passed (ar 1) (ar 3) (ar 4) (ar 6) (ar 7) (ar 10) (ar 13) (ar 14) (ar 16) (ar 17) p p') (fun o => ∃ V S : Nat → Int32, o = (a, c, V, S)) ∧ ((R = Sum.inr a ∧ c = 0) ∨ (R = Sum.inl 1 ∧ c = 1)) by
    obtain ⟨R, a, c, ⟨v, ev, hv⟩, ⟨w, ew, V, S, rfl⟩, hR⟩ := key
    rcases hR with ⟨rfl, rfl⟩ | ⟨rfl, rfl⟩
    · obtain ⟨o, eo, h1, h2⟩ : ∃ o, (fL_allies O (ar 44) (ar 45) (sc 54) (sc 55) (ar 47) (ar 48) (ar 50) (ar 51) (ar 53) (ar 54) (ar 55) t.passed (ar 66) (ar 67) p p') = some o ∧ o.1 = 0 ∧ o.2.1 = vp_updL O 0 a.toInt64 := by
        unfold fL_allies; rw [ev]; show ∃ o, Sum.elim _ _ v.1 = some o ∧ _; rw [hv]; exact ⟨_, rfl, rfl, rfl⟩
      refine zOk.eq eo (zOk.eq ew (zOk.eq rfl (zOk.pos h1.symm (zOk.pos h1 (zOk.pos (by rw [h2]; exact zlgO) (zOk.pure ?_))))))
      exact zInv_q hJ (by repeat' (first | exact zSr0 | refine zSn rfl ?_ | refine zSs (by assumption) ?_)) (by repeat' (first | exact zAr0 | refine zAn rfl rfl rfl ?_ | refine zAn13 hL ?_ | refine zAn14 hC ?_ | refine zAs rfl ?_))
    · obtain ⟨o, eo, h1, h2⟩ : ∃ o, (fL_allies O (ar 44) (ar 45) (sc 54) (sc 55) (ar 47) (ar 48) (ar 50) (ar 51) (ar 53) (ar 54) (ar 55) t.passed (ar 66) (ar 67) p p') = some o ∧ o.1 = 1 ∧ o.2.1 = O := by
        unfold fL_allies; rw [ev]; show ∃ o, Sum.elim _ _ v.1 = some o ∧ _; rw [hv]; exact ⟨_, rfl, rfl, rfl⟩
      refine zOk.eq eo (zOk.eq ew (zOk.eq rfl (zOk.pos h1.symm (zOk.neg (by rw [h1]; decide) (zOk.pure ?_)))))
      exact zInv_q hJ (by repeat' (first | exact zSr0 | refine zSn rfl ?_ | refine zSs (by assumption) ?_)) (by repeat' (first | exact zAr0 | refine zAn rfl rfl rfl ?_ | refine zAn13 hL ?_ | refine zAn14 hC ?_ | refine zAs rfl ?_))
  by_cases q : ∃ m, m < E.nA ∧ p = zJ m
  rotate_left
  · have e := zal_no hE hc.a hr q
    refine ⟨Sum.inl 1, 0, 1, ?_, ?_, Or.inr ⟨rfl, rfl⟩⟩
    · unfold fX8_allies; exact zOk.eq e.1 ⟨_, rfl, rfl⟩
    · unfold fX9_allies; exact zOk.eq e.2 (zOk.pos rfl ⟨_, rfl, _, _, rfl⟩)
  · obtain ⟨a, ha, rfl⟩ := q
    have e := zal_yes hE hc.a hr ha
    by_cases q2 : ∃ m, m < E.nA ∧ p' = zJ m
    rotate_left
    · have e2 := zal_no hE hc.a hr q2
      refine ⟨Sum.inl 1, 0, 1, ?_, ?_, Or.inr ⟨rfl, rfl⟩⟩
      · unfold fX8_allies; exact zOk.eq e.1 (zOk.inr (zOk.eq e2.1 ⟨_, rfl, rfl⟩))
      · unfold fX9_allies; exact zOk.eq e.2 (zOk.neg (by decide) (zOk.eq e2.2 (zOk.pos rfl ⟨_, rfl, _, _, rfl⟩)))
    · obtain ⟨b, hb, rfl⟩ := q2
      have e2 := zal_yes hE hc.a hr hb
      refine ⟨Sum.inr _, zfold (zally E t a b) E.nM 0 0, 0, ?_, ?_, Or.inl ⟨rfl, rfl⟩⟩
      · unfold fX8_allies; refine zOk.eq e.1 (zOk.inr (zOk.eq e2.1 (zOk.inr ?_)))
        unfold fX3_votesAlike
        have l := zl_ally (ke := fun V S x => some (x, V, S)) (Q := fun o => o.1 = zfold (zally E t a b) E.nM 0 0) hE hc c8 c9 ha hb E.nM 0 FU (ar 44) (ar 45) 0 (by omega) (by unfold FU; omega) (fun V S => ⟨_, rfl, rfl⟩)
        exact zOk.bind l (fun o ho => ⟨_, rfl, congrArg Sum.inr ho⟩)
      · unfold fX9_allies; refine zOk.eq e.2 (zOk.neg (by decide) (zOk.eq e2.2 (zOk.neg (by decide) ?_)))
        exact zr_ally hE hr ht.ok m8 m9 ha hb E.nM 0 FU (ar 16) (ar 17) 0 (by omega) (by unfold FU; omega) (fun V S => ⟨_, rfl, _, _, rfl⟩)
theorem zst30 (h : zInv sc ar) (hx : inb (x4 + 1) L = true ∧ inb (x4 + 2) L = true ∧ inb (x4 + 3) L = true ∧ inb (x4 + 4) L = true ∧ inb (x4 + 5) L = true) : zOk (st30 L xs sc ar O x4) (fun o => zInv o.1 o.2.1) := by
  obtain ⟨E, t, hI⟩ := h
  have hJ := hI
  obtain ⟨hE, hc, hr, ht, ⟨c1, c2, c3, c4, c5, c6, c7, c8, c9⟩, ⟨m1, m2, m3, m4, m5, m6, m7, m8, m9⟩, hnv, hh, hse, hst, htp, hfp, him, hik⟩ := hI
  have h7 := hE.a7
  have h10 := hE.m10
  unfold st30
  try simp only [ck_t hx.1, ck_t hx.2.1, ck_t hx.2.2.1, ck_t hx.2.2.2.1, ck_t hx.2.2.2.2, c1, c2, c3, c4, c5, c6, c7, m1, m2, m3, m4, m5, m6, m7, hnv]
  generalize xs (x4 + 1).toNatClampNeg = p
  suffices key : ∃ (R : Sum Nat Int32) (a c : Int32), zOk (fX8_heldUp (ar 44) (ar 45) (sc 54) (sc 55) (ar 47) (ar 48) (ar 50) (ar 51) (ar 52) (ar 53) (ar 54) (ar 55) t.hour t.oil t.weight t.spider t.treas t.joy t.passed (ar 66) (ar 67) (sc 70) (sc 71) (sc 72) (sc 73) (sc 74) (sc 75) (sc 76) (ar 68) (ar 69) p) (fun v => v.1 = R) ∧ zOk (fX9_heldUp (sc 4) t.hour t.oil t.weight t.spider t.treas t.joy t.passed (-1) (sc 26) (sc 27) (ar 1) (ar 3) (ar 4) (ar 6) (ar 7) (ar 8) (ar 9) (ar 10) (ar 13) (ar 14) (ar 16) (ar 17) (ar 18) p) (fun o => ∃ (sd ho : Int32) (L C V S R : Nat → Int32), o = (a, c, t.hour, t.oil, t.weight, t.spider, t.treas, t.joy, t.passed, -1, sd, ho, L, C, V, S, R) ∧ (∀ a, a < 7 → L a = ar 13 a) ∧ (∀ m, m < 10 → C m = ar 14 m)) ∧ ((R = Sum.inr a ∧ c = 0) ∨ (R = Sum.inl 1 ∧ c = 1)) by
    obtain ⟨R, a, c, ⟨v, ev, hv⟩, ⟨w, ew, sd, ho, L', C', V, S, P, rfl, hL, hC⟩, hR⟩ := key
    rcases hR with ⟨rfl, rfl⟩ | ⟨rfl, rfl⟩
    · obtain ⟨o, eo, h1, h2⟩ : ∃ o, (fL_heldUp O (ar 44) (ar 45) (sc 54) (sc 55) (ar 47) (ar 48) (ar 50) (ar 51) (ar 52) (ar 53) (ar 54) (ar 55) t.hour t.oil t.weight t.spider t.treas t.joy t.passed (ar 66) (ar 67) (sc 70) (sc 71) (sc 72) (sc 73) (sc 74) (sc 75) (sc 76) (ar 68) (ar 69) p) = some o ∧ o.1 = 0 ∧ o.2.1 = vp_updL O 0 a.toInt64 := by
        unfold fL_heldUp; rw [ev]; show ∃ o, Sum.elim _ _ v.1 = some o ∧ _; rw [hv]; exact ⟨_, rfl, rfl, rfl⟩
      refine zOk.eq eo (zOk.eq ew (zOk.eq rfl (zOk.pos h1.symm (zOk.pos h1 (zOk.pos (by rw [h2]; exact zlgO) (zOk.pure ?_))))))
      exact zInv_q hJ (by repeat' (first | exact zSr0 | refine zSn rfl ?_ | refine zSs (by assumption) ?_)) (by repeat' (first | exact zAr0 | refine zAn rfl rfl rfl ?_ | refine zAn13 hL ?_ | refine zAn14 hC ?_ | refine zAs rfl ?_))
    · obtain ⟨o, eo, h1, h2⟩ : ∃ o, (fL_heldUp O (ar 44) (ar 45) (sc 54) (sc 55) (ar 47) (ar 48) (ar 50) (ar 51) (ar 52) (ar 53) (ar 54) (ar 55) t.hour t.oil t.weight t.spider t.treas t.joy t.passed (ar 66) (ar 67) (sc 70) (sc 71) (sc 72) (sc 73) (sc 74) (sc 75) (sc 76) (ar 68) (ar 69) p) = some o ∧ o.1 = 1 ∧ o.2.1 = O := by
        unfold fL_heldUp; rw [ev]; show ∃ o, Sum.elim _ _ v.1 = some o ∧ _; rw [hv]; exact ⟨_, rfl, rfl, rfl⟩
      refine zOk.eq eo (zOk.eq ew (zOk.eq rfl (zOk.pos h1.symm (zOk.neg (by rw [h1]; decide) (zOk.pure ?_)))))
      exact zInv_q hJ (by repeat' (first | exact zSr0 | refine zSn rfl ?_ | refine zSs (by assumption) ?_)) (by repeat' (first | exact zAr0 | refine zAn rfl rfl rfl ?_ | refine zAn13 hL ?_ | refine zAn14 hC ?_ | refine zAs rfl ?_))
  by_cases q : ∃ m, m < E.nM ∧ p = zJ m
  rotate_left
  · have e := zmo_no hE hc.m hr q
    refine ⟨Sum.inl 1, 0, 1, ?_, ?_, Or.inr ⟨rfl, rfl⟩⟩
    · unfold fX8_heldUp; exact zOk.eq e.1 ⟨_, rfl, rfl⟩
    · unfold fX9_heldUp; exact zOk.eq e.2 (zOk.pos rfl ⟨_, rfl, _, _, _, _, _, _, _, rfl, fun _ _ => rfl, fun _ _ => rfl⟩)
  · obtain ⟨m, hm, rfl⟩ := q
    have e := zmo_yes hE hc.m hr hm
    obtain ⟨pn, hpn, ep⟩ := ht.ok.passed
    obtain ⟨n1, b1, b2, b3, b4⟩ := zhs_bits (E := E) h10 (wo := -1) 48 t pn hpn ep
    obtain ⟨n2, d1, d2, d3, d4⟩ := zhs_bits (E := E) h10 (wo := zJ m) 48 t pn hpn ep
    have b1' := zpow b1 h10
    have d1' := zpow d1 h10
    refine ⟨Sum.inr _, zJ (zdiff n2 n1), 0, ?_, ?_, Or.inl ⟨rfl, rfl⟩⟩
    · unfold fX8_heldUp; refine zOk.eq e.1 (zOk.inr ?_)
      refine zOk.bind (zc_townAfter (n := 48) (wo := -1) hE hc ht (by omega) (by omega) c8 c9) (fun o ho => ?_)
      obtain ⟨V, S, L, C, rfl⟩ := ho
      refine zOk.bind (zc_townAfter (n := 48) (wo := zJ m) hE hc ht (by omega) (by omega) c8 c9) (fun o ho => ?_)
      obtain ⟨V, S, L, C, rfl⟩ := ho
      refine ⟨_, rfl, ?_⟩
      dsimp only
      rw [d2, b2, zandnot d1']
    · unfold fX9_heldUp; refine zOk.eq e.2 (zOk.neg (by decide) ?_)
      refine zOk.bind (zm_passedBy (n := 48) (wo := -1) hE hr (by omega) ht (by omega) m8 m9) (fun o ho => ?_)
      obtain ⟨sd, ho, L1, C1, V, S, P, rfl, hL1, hC1⟩ := ho
      refine zOk.bind (zm_passedBy (n := 48) (wo := zJ m) hE hr (by omega) ht (by omega) (fun a ha => (hL1 a (by omega)).trans (m8 a ha)) (fun j hj => (hC1 j (by omega)).trans (m9 j hj))) (fun o ho => ?_)
      obtain ⟨sd2, ho2, L2, C2, V2, S2, P2, rfl, hL2, hC2⟩ := ho
      refine ⟨_, rfl, sd2, ho2, L2, C2, V2, S2, P2, ?_, fun a ha => (hL2 a ha).trans (hL1 a ha), fun j hj => (hC2 j hj).trans (hC1 j hj)⟩
      have ee : zdiff (zdiff n2 n1) (2 ^ m) = zdiff n2 n1 := by
        apply zext (n := 10) (zdiff_lt (zdiff_lt d1')) (zdiff_lt d1')
        intro i hi
        rw [zdiff_bit hi, zdiff_bit hi, Nat.testBit_two_pow]
        by_cases z : m = i
        · subst z
          rw [d4 m hi rfl]
          cases hz : pn.testBit m
          · simp
          · rw [b3 m hz]; simp
        · rw [decide_eq_false z]; simp
      dsimp only
      rw [d2, b2, zandnot d1', show (1 : Int32) <<< (zJ m &&& 31) = zbit m from rfl, zbit_nat (by omega), zandnot (zdiff_lt d1'), ee]
end
