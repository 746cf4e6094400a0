/-! ===== pure: cases of questions of hours ahead ===== -/
theorem zOk.inr {α β γ : Type} {f : α → Option γ} {g : β → Option γ} {b : β} {P : γ → Prop} (h : zOk (g b) P) : zOk (Sum.elim f g (Sum.inr b)) P := h
theorem zOk.inl {α β γ : Type} {f : α → Option γ} {g : β → Option γ} {b : α} {P : γ → Prop} (h : zOk (f b) P) : zOk (Sum.elim f g (Sum.inl b)) P := h
theorem zr_no {p lo hi : Int32} (q : p < lo ∨ hi < p) : fX8_checkRange p lo hi = some (Sum.inl 2) := by unfold fX8_checkRange; rw [(zin_no q).1]; rfl
theorem zr_yes {p lo hi : Int32} (q : ¬ (p < lo ∨ hi < p)) : fX8_checkRange p lo hi = some (Sum.inr ()) := by unfold fX8_checkRange; rw [(zin_yes q).1]; rfl
theorem zw_no {p hi : Int32} (q : p < 0 ∨ hi < p) : fX8_checkWhat p hi = some (Sum.inl 1) := by unfold fX8_checkWhat; rw [(zin_no q).1]; rfl
theorem zw_yes {p hi : Int32} (q : ¬ (p < 0 ∨ hi < p)) : fX8_checkWhat p hi = some (Sum.inr ()) := by unfold fX8_checkWhat; rw [(zin_yes q).1]; rfl
theorem zi_no {p lo hi : Int32} {a b : Int64} (q : p < lo ∨ hi < p) (ha : a = lo.toInt64) (hb : b = hi.toInt64) : fX9_isIn p.toInt64 a b = some 0 := by rw [ha, hb]; exact (zin_no q).2
theorem zi_yes {p lo hi : Int32} {a b : Int64} (q : ¬ (p < lo ∨ hi < p)) (ha : a = lo.toInt64) (hb : b = hi.toInt64) : fX9_isIn p.toInt64 a b = some 1 := by rw [ha, hb]; exact (zin_yes q).2
section
variable {E : zE} {t : zT} {wo : Int32}
theorem zfirst_when {p : Int32} (hz : zis t.passed p = false) {n : Nat} : zfirst E (-1) (fun v => zis v.passed p) (n + 1) 0 t = zfirst E (-1) (fun v => zis (zhour E (-1) v).passed p) n 1 t := by
  rw [zfirst_shift (p := fun v => zis v.passed p)]
  show (if zis t.passed p then zJ 0 else _) = _
  rw [hz]; rfl
theorem zupd_self {f : Nat → Int32} {k : Nat} : upd f k (f k) = f := by
  funext j
  unfold upd
  split
  · rename_i h; rw [h]
  · rfl
theorem zfirst_cong {p q : zT → Bool} (h : ∀ v, p v = q v) : ∀ (k i : Nat) (u : zT), zfirst E wo p k i u = zfirst E wo q k i u := by
  have : p = q := funext h
  subst this
  intros; rfl
end
section
variable {L : Nat} {xs : Nat → Int32} {sc : Nat → Int32} {ar : Nat → Nat → Int32} {O : Nat → Int64} {x4 : Int32}
theorem zst13 (h : zInv sc ar) (hx : inb (x4 + 1) L = true ∧ inb (x4 + 2) L = true ∧ inb (x4 + 3) L = true ∧ inb (x4 + 4) L = true ∧ inb (x4 + 5) L = true) : zOk (st13 L xs sc ar O x4) (fun o => zInv o.1 o.2.1) := by
  obtain ⟨E, t, hI⟩ := h
  have hJ := hI
  obtain ⟨hE, hc, hr, ht, ⟨c1, c2, c3, c4, c5, c6, c7, c8, c9⟩, ⟨m1, m2, m3, m4, m5, m6, m7, m8, m9⟩, hnv, hh, hse, hst, htp, hfp, him, hik⟩ := hI
  have h7 := hE.a7
  have h10 := hE.m10
  unfold st13
  try simp only [ck_t hx.1, ck_t hx.2.1, ck_t hx.2.2.1, ck_t hx.2.2.2.1, ck_t hx.2.2.2.2, c1, c2, c3, c4, c5, c6, c7, m1, m2, m3, m4, m5, m6, m7, hnv]
  generalize xs (x4 + 1).toNatClampNeg = p
  suffices key : ∃ (R : Sum Nat Int32) (a c : Int32), zOk (fX8_saying (ar 44) (ar 45) (ar 53) (ar 54) (ar 55) t.hour t.oil t.weight t.spider t.treas t.joy t.passed (ar 66) (ar 67) (sc 70) (sc 71) (sc 72) (sc 73) (sc 74) (sc 75) (sc 76) (ar 68) (ar 69) p) (fun v => v.1 = R) ∧ zOk (fX9_saying (sc 4) t.hour t.oil t.weight t.spider t.treas t.joy t.passed (-1) (sc 26) (sc 27) (ar 1) (ar 3) (ar 4) (ar 6) (ar 7) (ar 8) (ar 9) (ar 10) (ar 13) (ar 14) (ar 16) (ar 17) (ar 18) p) (zQ16 t (ar 13) (ar 14) a c) ∧ ((R = Sum.inr a ∧ c = 0) ∨ (R = Sum.inl 2 ∧ c = 1)) by
    obtain ⟨R, a, c, ⟨v, ev, hv⟩, ⟨w, ew, sd, ho, L', C', V, S, P, rfl, hL, hC⟩, hR⟩ := key
    rcases hR with ⟨rfl, rfl⟩ | ⟨rfl, rfl⟩
    · obtain ⟨o, eo, h1, h2⟩ : ∃ o, (fL_saying O (ar 44) (ar 45) (ar 53) (ar 54) (ar 55) t.hour t.oil t.weight t.spider t.treas t.joy t.passed (ar 66) (ar 67) (sc 70) (sc 71) (sc 72) (sc 73) (sc 74) (sc 75) (sc 76) (ar 68) (ar 69) p) = some o ∧ o.1 = 0 ∧ o.2.1 = vp_updL O 0 a.toInt64 := by
        unfold fL_saying; rw [ev]; show ∃ o, Sum.elim _ _ v.1 = some o ∧ _; rw [hv]; exact ⟨_, rfl, rfl, rfl⟩
      refine zOk.eq eo (zOk.eq ew (zOk.eq rfl (zOk.pos h1.symm (zOk.pos h1 (zOk.pos (by rw [h2]; exact zlgO) (zOk.pure ?_))))))
      exact zInv_q hJ (by repeat' (first | exact zSr0 | refine zSn rfl ?_ | refine zSs (by assumption) ?_)) (by repeat' (first | exact zAr0 | refine zAn rfl rfl rfl ?_ | refine zAn13 hL ?_ | refine zAn14 hC ?_ | refine zAs rfl ?_))
    · obtain ⟨o, eo, h1, h2⟩ : ∃ o, (fL_saying O (ar 44) (ar 45) (ar 53) (ar 54) (ar 55) t.hour t.oil t.weight t.spider t.treas t.joy t.passed (ar 66) (ar 67) (sc 70) (sc 71) (sc 72) (sc 73) (sc 74) (sc 75) (sc 76) (ar 68) (ar 69) p) = some o ∧ o.1 = 1 ∧ o.2.1 = O := by
        unfold fL_saying; rw [ev]; show ∃ o, Sum.elim _ _ v.1 = some o ∧ _; rw [hv]; exact ⟨_, rfl, rfl, rfl⟩
      refine zOk.eq eo (zOk.eq ew (zOk.eq rfl (zOk.pos h1.symm (zOk.neg (by rw [h1]; decide) (zOk.pure ?_)))))
      exact zInv_q hJ (by repeat' (first | exact zSr0 | refine zSn rfl ?_ | refine zSs (by assumption) ?_)) (by repeat' (first | exact zAr0 | refine zAn rfl rfl rfl ?_ | refine zAn13 hL ?_ | refine zAn14 hC ?_ | refine zAs rfl ?_))
  by_cases q : p < 1 ∨ 96 < p
  · have e := zin_no q
    refine ⟨Sum.inl 2, 0, 1, ?_, ?_, Or.inr ⟨rfl, rfl⟩⟩
    · unfold fX8_saying; exact zOk.eq (zr_no q) ⟨_, rfl, rfl⟩
    · unfold fX9_saying; exact zOk.eq (zi_no q rfl rfl) (zOk.pos rfl ⟨_, rfl, _, _, _, _, _, _, _, rfl, fun _ _ => rfl, fun _ _ => rfl⟩)
  · have e := zin_yes q
    obtain ⟨n, hn, rfl⟩ := zof_le (x := p) (k := 96) (by grind) (by omega) (by show p ≤ 96; grind)
    obtain ⟨m, rfl⟩ : ∃ m, n = m + 1 := ⟨n - 1, by have := (zJ_le (a := 1) (by omega) (by omega)).1 (Int32.not_lt.1 (fun z => q (Or.inl z))); omega⟩
    refine ⟨Sum.inr _, zscan E (-1) (fun _ _ v => zsaid E v) (m + 1) 0 t (-1), 0, ?_, ?_, Or.inl ⟨rfl, rfl⟩⟩
    · unfold fX8_saying; refine zOk.eq (zr_yes q) (zOk.inr ?_)
      exact zOk.bind (zc_saidIn hE hc ht (by omega) (by omega)) (fun o ho => ⟨_, rfl, congrArg Sum.inr ho⟩)
    · unfold fX9_saying; refine zOk.eq (zi_yes q rfl rfl) (zOk.neg (by decide) ?_)
      refine zOk.bind (zm_pack (n0 := 24) (p := 0) (by omega) (by omega)) (fun P hP => ?_)
      refine zOk.bind (zm_goOn hE hr (by omega) ht (by omega) m8 m9) (fun o ho => ?_)
      obtain ⟨h, V, S, rfl⟩ := ho
      refine zOk.bind (zm_unpack (n0 := 24) (p := 0) (by omega) (by omega) hP.1) (fun r hr => ?_)
      obtain ⟨L, C, rfl, hL, hC⟩ := hr
      exact zOk.pure ⟨_, _, L, C, V, S, P, rfl, hL, hC⟩
theorem zst14 (h : zInv sc ar) (hx : inb (x4 + 1) L = true ∧ inb (x4 + 2) L = true ∧ inb (x4 + 3) L = true ∧ inb (x4 + 4) L = true ∧ inb (x4 + 5) L = true) : zOk (st14 L xs sc ar O x4) (fun o => zInv o.1 o.2.1) := by
  obtain ⟨E, t, hI⟩ := h
  have hJ := hI
  obtain ⟨hE, hc, hr, ht, ⟨c1, c2, c3, c4, c5, c6, c7, c8, c9⟩, ⟨m1, m2, m3, m4, m5, m6, m7, m8, m9⟩, hnv, hh, hse, hst, htp, hfp, him, hik⟩ := hI
  have h7 := hE.a7
  have h10 := hE.m10
  unfold st14
  try simp only [ck_t hx.1, ck_t hx.2.1, ck_t hx.2.2.1, ck_t hx.2.2.2.1, ck_t hx.2.2.2.2, c1, c2, c3, c4, c5, c6, c7, m1, m2, m3, m4, m5, m6, m7, hnv]
  generalize xs (x4 + 1).toNatClampNeg = p
  suffices key : ∃ (R : Sum Nat Int32) (a c : Int32), zOk (fX8_when (ar 44) (ar 45) (sc 54) (sc 55) (ar 47) (ar 48) (ar 50) (ar 51) (ar 52) (ar 53) (ar 54) (ar 55) t.hour t.oil t.weight t.spider t.treas t.joy t.passed (ar 66) (ar 67) (sc 70) (sc 71) (sc 72) (sc 73) (sc 74) (sc 75) (sc 76) (ar 68) (ar 69) p) (fun v => v.1 = R) ∧ zOk (fX9_when (sc 4) t.hour t.oil t.weight t.spider t.treas t.joy t.passed (-1) (sc 26) (sc 27) (ar 1) (ar 3) (ar 4) (ar 6) (ar 7) (ar 8) (ar 9) (ar 10) (ar 13) (ar 14) (ar 16) (ar 17) (ar 18) p) (zQ16 t (ar 13) (ar 14) a c) ∧ ((R = Sum.inr a ∧ c = 0) ∨ (R = Sum.inl 1 ∧ c = 1)) by
    obtain ⟨R, a, c, ⟨v, ev, hv⟩, ⟨w, ew, sd, ho, L', C', V, S, P, rfl, hL, hC⟩, hR⟩ := key
    rcases hR with ⟨rfl, rfl⟩ | ⟨rfl, rfl⟩
    · obtain ⟨o, eo, h1, h2⟩ : ∃ o, (fL_when O (ar 44) (ar 45) (sc 54) (sc 55) (ar 47) (ar 48) (ar 50) (ar 51) (ar 52) (ar 53) (ar 54) (ar 55) t.hour t.oil t.weight t.spider t.treas t.joy t.passed (ar 66) (ar 67) (sc 70) (sc 71) (sc 72) (sc 73) (sc 74) (sc 75) (sc 76) (ar 68) (ar 69) p) = some o ∧ o.1 = 0 ∧ o.2.1 = vp_updL O 0 a.toInt64 := by
        unfold fL_when; rw [ev]; show ∃ o, Sum.elim _ _ v.1 = some o ∧ _; rw [hv]; exact ⟨_, rfl, rfl, rfl⟩
      refine zOk.eq eo (zOk.eq ew (zOk.eq rfl (zOk.pos h1.symm (zOk.pos h1 (zOk.pos (by rw [h2]; exact zlgO) (zOk.pure ?_))))))
      exact zInv_q hJ (by repeat' (first | exact zSr0 | refine zSn rfl ?_ | refine zSs (by assumption) ?_)) (by repeat' (first | exact zAr0 | refine zAn rfl rfl rfl ?_ | refine zAn13 hL ?_ | refine zAn14 hC ?_ | refine zAs rfl ?_))
    · obtain ⟨o, eo, h1, h2⟩ : ∃ o, (fL_when O (ar 44) (ar 45) (sc 54) (sc 55) (ar 47) (ar 48) (ar 50) (ar 51) (ar 52) (ar 53) (ar 54) (ar 55) t.hour t.oil t.weight t.spider t.treas t.joy t.passed (ar 66) (ar 67) (sc 70) (sc 71) (sc 72) (sc 73) (sc 74) (sc 75) (sc 76) (ar 68) (ar 69) p) = some o ∧ o.1 = 1 ∧ o.2.1 = O := by
        unfold fL_when; rw [ev]; show ∃ o, Sum.elim _ _ v.1 = some o ∧ _; rw [hv]; exact ⟨_, rfl, rfl, rfl⟩
      refine zOk.eq eo (zOk.eq ew (zOk.eq rfl (zOk.pos h1.symm (zOk.neg (by rw [h1]; decide) (zOk.pure ?_)))))
      exact zInv_q hJ (by repeat' (first | exact zSr0 | refine zSn rfl ?_ | refine zSs (by assumption) ?_)) (by repeat' (first | exact zAr0 | refine zAn rfl rfl rfl ?_ | refine zAn13 hL ?_ | refine zAn14 hC ?_ | refine zAs rfl ?_))
  by_cases q : ∃ m, m < E.nM ∧ p = zJ m
  rotate_left
  · have e := zmo_no hE hc.m hr q
    refine ⟨Sum.inl 1, 0, 1, ?_, ?_, Or.inr ⟨rfl, rfl⟩⟩
    · unfold fX8_when; exact zOk.eq e.1 ⟨_, rfl, rfl⟩
    · unfold fX9_when; exact zOk.eq e.2 (zOk.pos rfl ⟨_, rfl, _, _, _, _, _, _, _, rfl, fun _ _ => rfl, fun _ _ => rfl⟩)
  · obtain ⟨m, hm, rfl⟩ := q
    have e := zmo_yes hE hc.m hr hm
    have fin : zOk (fX9_when (sc 4) t.hour t.oil t.weight t.spider t.treas t.joy t.passed (-1) (sc 26) (sc 27) (ar 1) (ar 3) (ar 4) (ar 6) (ar 7) (ar 8) (ar 9) (ar 10) (ar 13) (ar 14) (ar 16) (ar 17) (ar 18) (zJ m)) (zQ16 t (ar 13) (ar 14) (zfirst E (-1) (fun v => zis v.passed (zJ m)) 97 0 t) 0) := by
      unfold fX9_when; refine zOk.eq e.2 (zOk.neg (by decide) ?_)
      refine zOk.bind (zm_passedIn (n := 96) hE hr (by omega) ht (by omega) m8 m9) (fun o ho => ?_)
      obtain ⟨sd, ho, L, C, V, S, P, rfl, hL, hC⟩ := ho
      exact zOk.pure ⟨_, _, L, C, V, S, P, rfl, hL, hC⟩
    refine ⟨Sum.inr _, zfirst E (-1) (fun v => zis v.passed (zJ m)) 97 0 t, 0, ?_, fin, Or.inl ⟨rfl, rfl⟩⟩
    unfold fX8_when; refine zOk.eq e.1 (zOk.inr ?_)
    refine zOk.eq zisP ?_
    cases hz : zis t.passed (zJ m)
    · refine zOk.pos rfl ?_
      refine zOk.bind (zc_passing (n := 96) hE hc ht (by omega) (by omega) c8 c9) (fun o ho => ⟨_, rfl, ?_⟩)
      rw [zfirst_when hz]
      show Sum.inr o.1 = _
      rw [ho]
    · refine zOk.neg (by decide) ⟨_, rfl, ?_⟩
      show Sum.inr 0 = Sum.inr (if zis t.passed (zJ m) then zJ 0 else _)
      rw [hz]; rfl
theorem zst15 (h : zInv sc ar) (hx : inb (x4 + 1) L = true ∧ inb (x4 + 2) L = true ∧ inb (x4 + 3) L = true ∧ inb (x4 + 4) L = true ∧ inb (x4 + 5) L = true) : zOk (st15 L xs sc ar O x4) (fun o => zInv o.1 o.2.1) := by
  obtain ⟨E, t, hI⟩ := h
  have hJ := hI
  obtain ⟨hE, hc, hr, ht, ⟨c1, c2, c3, c4, c5, c6, c7, c8, c9⟩, ⟨m1, m2, m3, m4, m5, m6, m7, m8, m9⟩, hnv, hh, hse, hst, htp, hfp, him, hik⟩ := hI
  have h7 := hE.a7
  have h10 := hE.m10
  unfold st15
  try simp only [ck_t hx.1, ck_t hx.2.1, ck_t hx.2.2.1, ck_t hx.2.2.2.1, ck_t hx.2.2.2.2, c1, c2, c3, c4, c5, c6, c7, m1, m2, m3, m4, m5, m6, m7, hnv]
  generalize xs (x4 + 1).toNatClampNeg = p
  generalize xs (x4 + 2).toNatClampNeg = p'
  suffices key : ∃ (R : Sum Nat Int32) (a c : Int32), zOk (fX8_then (ar 44) (ar 45) (sc 54) (sc 55) (ar 47) (ar 48) (ar 50) (ar 51) (ar 52) (ar 53) (ar 54) (ar 55) t.hour t.oil t.weight t.spider t.treas t.joy t.passed (ar 66) (ar 67) (sc 70) (sc 71) (sc 72) (sc 73) (sc 74) (sc 75) (sc 76) (ar 68) (ar 69) p p') (fun v => v.1 = R) ∧ zOk (fX9_then (sc 4) t.hour t.oil t.weight t.spider t.treas t.joy t.passed (-1) (sc 26) (sc 27) (ar 1) (ar 3) (ar 4) (ar 6) (ar 7) (ar 8) (ar 9) (ar 10) (ar 13) (ar 14) (ar 16) (ar 17) (ar 18) p p') (zQ16 t (ar 13) (ar 14) a c) ∧ ((R = Sum.inr a ∧ c = 0) ∨ (R = Sum.inl 1 ∧ c = 1) ∨ (R = Sum.inl 2 ∧ c = 2)) by
    obtain ⟨R, a, c, ⟨v, ev, hv⟩, ⟨w, ew, sd, ho, L', C', V, S, P, rfl, hL, hC⟩, hR⟩ := key
    rcases hR with ⟨rfl, rfl⟩ | ⟨rfl, rfl⟩ | ⟨rfl, rfl⟩
    · obtain ⟨o, eo, h1, h2⟩ : ∃ o, (fL_then O (ar 44) (ar 45) (sc 54) (sc 55) (ar 47) (ar 48) (ar 50) (ar 51) (ar 52) (ar 53) (ar 54) (ar 55) t.hour t.oil t.weight t.spider t.treas t.joy t.passed (ar 66) (ar 67) (sc 70) (sc 71) (sc 72) (sc 73) (sc 74) (sc 75) (sc 76) (ar 68) (ar 69) p p') = some o ∧ o.1 = 0 ∧ o.2.1 = vp_updL O 0 a.toInt64 := by
        unfold fL_then; rw [ev]; show ∃ o, Sum.elim _ _ v.1 = some o ∧ _; rw [hv]; exact ⟨_, rfl, rfl, rfl⟩
      refine zOk.eq eo (zOk.eq ew (zOk.eq rfl (zOk.pos h1.symm (zOk.pos h1 (zOk.pos (by rw [h2]; exact zlgO) (zOk.pure ?_))))))
      exact zInv_q hJ (by repeat' (first | exact zSr0 | refine zSn rfl ?_ | refine zSs (by assumption) ?_)) (by repeat' (first | exact zAr0 | refine zAn rfl rfl rfl ?_ | refine zAn13 hL ?_ | refine zAn14 hC ?_ | refine zAs rfl ?_))
    · obtain ⟨o, eo, h1, h2⟩ : ∃ o, (fL_then O (ar 44) (ar 45) (sc 54) (sc 55) (ar 47) (ar 48) (ar 50) (ar 51) (ar 52) (ar 53) (ar 54) (ar 55) t.hour t.oil t.weight t.spider t.treas t.joy t.passed (ar 66) (ar 67) (sc 70) (sc 71) (sc 72) (sc 73) (sc 74) (sc 75) (sc 76) (ar 68) (ar 69) p p') = some o ∧ o.1 = 1 ∧ o.2.1 = O := by
        unfold fL_then; rw [ev]; show ∃ o, Sum.elim _ _ v.1 = some o ∧ _; rw [hv]; exact ⟨_, rfl, rfl, rfl⟩
      refine zOk.eq eo (zOk.eq ew (zOk.eq rfl (zOk.pos h1.symm (zOk.neg (by rw [h1]; decide) (zOk.pure ?_)))))
      exact zInv_q hJ (by repeat' (first | exact zSr0 | refine zSn rfl ?_ | refine zSs (by assumption) ?_)) (by repeat' (first | exact zAr0 | refine zAn rfl rfl rfl ?_ | refine zAn13 hL ?_ | refine zAn14 hC ?_ | refine zAs rfl ?_))
    · obtain ⟨o, eo, h1, h2⟩ : ∃ o, (fL_then O (ar 44) (ar 45) (sc 54) (sc 55) (ar 47) (ar 48) (ar 50) (ar 51) (ar 52) (ar 53) (ar 54) (ar 55) t.hour t.oil t.weight t.spider t.treas t.joy t.passed (ar 66) (ar 67) (sc 70) (sc 71) (sc 72) (sc 73) (sc 74) (sc 75) (sc 76) (ar 68) (ar 69) p p') = some o ∧ o.1 = 2 ∧ o.2.1 = O := by
        unfold fL_then; rw [ev]; show ∃ o, Sum.elim _ _ v.1 = some o ∧ _; rw [hv]; exact ⟨_, rfl, rfl, rfl⟩
      refine zOk.eq eo (zOk.eq ew (zOk.eq rfl (zOk.pos h1.symm (zOk.neg (by rw [h1]; decide) (zOk.pure ?_)))))
      exact zInv_q hJ (by repeat' (first | exact zSr0 | refine zSn rfl ?_ | refine zSs (by assumption) ?_)) (by repeat' (first | exact zAr0 | refine zAn rfl rfl rfl ?_ | refine zAn13 hL ?_ | refine zAn14 hC ?_ | refine zAs rfl ?_))
  by_cases qw : p' < 0 ∨ 1 < p'
  · refine ⟨Sum.inl 1, 0, 1, ?_, ?_, Or.inr (Or.inl ⟨rfl, rfl⟩)⟩
    · unfold fX8_then; exact zOk.eq (zw_no qw) ⟨_, rfl, rfl⟩
    · unfold fX9_then
      rcases qw with z | z
      · rw [if_pos z]; exact ⟨_, rfl, _, _, _, _, _, _, _, rfl, fun _ _ => rfl, fun _ _ => rfl⟩
      · by_cases z0 : p' < 0
        · rw [if_pos z0]; exact ⟨_, rfl, _, _, _, _, _, _, _, rfl, fun _ _ => rfl, fun _ _ => rfl⟩
        · rw [if_neg z0, if_neg (by grind)]; exact ⟨_, rfl, _, _, _, _, _, _, _, rfl, fun _ _ => rfl, fun _ _ => rfl⟩
  · have ew := zin_yes qw
    have w0 : ¬ p' < 0 := fun z => qw (Or.inl z)
    have w1 : p' ≤ 1 := Int32.not_lt.1 (fun z => qw (Or.inr z))
    by_cases q : p < 0 ∨ 96 < p
    · have e := zin_no q
      refine ⟨Sum.inl 2, 0, 2, ?_, ?_, Or.inr (Or.inr ⟨rfl, rfl⟩)⟩
      · unfold fX8_then; exact zOk.eq (zw_yes qw) (zOk.inr (zOk.eq (zr_no q) ⟨_, rfl, rfl⟩))
      · unfold fX9_then; rw [if_neg w0, if_pos w1]; exact zOk.eq (zi_no q rfl rfl) (zOk.pos rfl ⟨_, rfl, _, _, _, _, _, _, _, rfl, fun _ _ => rfl, fun _ _ => rfl⟩)
    · have e := zin_yes q
      obtain ⟨n, hn, rfl⟩ := zof_le (x := p) (k := 96) (by grind) (by omega) (by show p ≤ 96; grind)
      refine ⟨Sum.inr _, if p' = 0 then (zhs E (-1) n t).treas else (zhs E (-1) n t).joy, 0, ?_, ?_, Or.inl ⟨rfl, rfl⟩⟩
      · unfold fX8_then; refine zOk.eq (zw_yes qw) (zOk.inr (zOk.eq (zr_yes q) (zOk.inr ?_)))
        refine zOk.bind (zc_townAfter hE hc ht (by omega) (by omega) c8 c9) (fun o ho => ?_)
        obtain ⟨V, S, L, C, rfl⟩ := ho
        refine zOk.ite (fun z => ⟨_, rfl, ?_⟩) (fun z => ⟨_, rfl, ?_⟩)
        · rw [if_pos z]
        · rw [if_neg z]
      · unfold fX9_then; rw [if_neg w0, if_pos w1]; refine zOk.eq (zi_yes q rfl rfl) (zOk.neg (by decide) ?_)
        refine zOk.bind (zm_pack (n0 := 24) (p := 0) (by omega) (by omega)) (fun P hP => ?_)
        refine zOk.bind (zm_goOn hE hr (by omega) ht (by omega) m8 m9) (fun o ho => ?_)
        obtain ⟨h, V, S, rfl⟩ := ho
        have fin : ∀ x : Int32, x = (if p' = 0 then (zhs E (-1) n t).treas else (zhs E (-1) n t).joy) → zOk (jX9_then_67 0 (zhs E (-1) n t).hour (zhs E (-1) n t).oil (zhs E (-1) n t).weight (zhs E (-1) n t).spider (zhs E (-1) n t).treas (zhs E (-1) n t).joy (zhs E (-1) n t).passed (zscan E (-1) (fun _ _ v => zsaid E v) n 0 t (sc 26)) h (ar 13) (ar 14) V S P x) (zQ16 t (ar 13) (ar 14) (if p' = 0 then (zhs E (-1) n t).treas else (zhs E (-1) n t).joy) 0) := by
          intro x hx
          unfold jX9_then_67
          refine zOk.bind (zm_unpack (n0 := 24) (p := 0) (by omega) (by omega) hP.1) (fun r hr => ?_)
          obtain ⟨L, C, rfl, hL, hC⟩ := hr
          rw [hx]
          exact zOk.pure ⟨_, _, L, C, V, S, P, rfl, hL, hC⟩
        exact zOk.ite (fun z => fin _ (by rw [if_pos z])) (fun z => fin _ (by rw [if_neg z]))
theorem zst16 (h : zInv sc ar) (hx : inb (x4 + 1) L = true ∧ inb (x4 + 2) L = true ∧ inb (x4 + 3) L = true ∧ inb (x4 + 4) L = true ∧ inb (x4 + 5) L = true) : zOk (st16 L xs sc ar O x4) (fun o => zInv o.1 o.2.1) := by
  obtain ⟨E, t, hI⟩ := h
  have hJ := hI
  obtain ⟨hE, hc, hr, ht, ⟨c1, c2, c3, c4, c5, c6, c7, c8, c9⟩, ⟨m1, m2, m3, m4, m5, m6, m7, m8, m9⟩, hnv, hh, hse, hst, htp, hfp, him, hik⟩ := hI
  have h7 := hE.a7
  have h10 := hE.m10
  unfold st16
  try simp only [ck_t hx.1, ck_t hx.2.1, ck_t hx.2.2.1, ck_t hx.2.2.2.1, ck_t hx.2.2.2.2, c1, c2, c3, c4, c5, c6, c7, m1, m2, m3, m4, m5, m6, m7, hnv]
  generalize xs (x4 + 1).toNatClampNeg = p
  suffices key : ∃ (R : Sum Nat Int32) (a c : Int32), zOk (fX8_fails (ar 44) (ar 45) (ar 53) (ar 54) (ar 55) t.hour t.oil t.weight t.spider t.treas t.joy t.passed (ar 66) (ar 67) (sc 70) (sc 71) (sc 72) (sc 73) (sc 74) (sc 75) (sc 76) (ar 68) (ar 69) p) (fun v => v.1 = R) ∧ zOk (fX9_fails (sc 4) t.hour t.oil t.weight t.spider t.treas t.joy t.passed (-1) (sc 26) (sc 27) (ar 1) (ar 3) (ar 4) (ar 6) (ar 7) (ar 8) (ar 9) (ar 10) (ar 13) (ar 14) (ar 16) (ar 17) (ar 18) p) (zQ16 t (ar 13) (ar 14) a c) ∧ ((R = Sum.inr a ∧ c = 0) ∨ (R = Sum.inl 1 ∧ c = 1)) by
    obtain ⟨R, a, c, ⟨v, ev, hv⟩, ⟨w, ew, sd, ho, L', C', V, S, P, rfl, hL, hC⟩, hR⟩ := key
    rcases hR with ⟨rfl, rfl⟩ | ⟨rfl, rfl⟩
    · obtain ⟨o, eo, h1, h2⟩ : ∃ o, (fL_fails O (ar 44) (ar 45) (ar 53) (ar 54) (ar 55) t.hour t.oil t.weight t.spider t.treas t.joy t.passed (ar 66) (ar 67) (sc 70) (sc 71) (sc 72) (sc 73) (sc 74) (sc 75) (sc 76) (ar 68) (ar 69) p) = some o ∧ o.1 = 0 ∧ o.2.1 = vp_updL O 0 a.toInt64 := by
        unfold fL_fails; rw [ev]; show ∃ o, Sum.elim _ _ v.1 = some o ∧ _; rw [hv]; exact ⟨_, rfl, rfl, rfl⟩
      refine zOk.eq eo (zOk.eq ew (zOk.eq rfl (zOk.pos h1.symm (zOk.pos h1 (zOk.pos (by rw [h2]; exact zlgO) (zOk.pure ?_))))))
      exact zInv_q hJ (by repeat' (first | exact zSr0 | refine zSn rfl ?_ | refine zSs (by assumption) ?_)) (by repeat' (first | exact zAr0 | refine zAn rfl rfl rfl ?_ | refine zAn13 hL ?_ | refine zAn14 hC ?_ | refine zAs rfl ?_))
    · obtain ⟨o, eo, h1, h2⟩ : ∃ o, (fL_fails O (ar 44) (ar 45) (ar 53) (ar 54) (ar 55) t.hour t.oil t.weight t.spider t.treas t.joy t.passed (ar 66) (ar 67) (sc 70) (sc 71) (sc 72) (sc 73) (sc 74) (sc 75) (sc 76) (ar 68) (ar 69) p) = some o ∧ o.1 = 1 ∧ o.2.1 = O := by
        unfold fL_fails; rw [ev]; show ∃ o, Sum.elim _ _ v.1 = some o ∧ _; rw [hv]; exact ⟨_, rfl, rfl, rfl⟩
      refine zOk.eq eo (zOk.eq ew (zOk.eq rfl (zOk.pos h1.symm (zOk.neg (by rw [h1]; decide) (zOk.pure ?_)))))
      exact zInv_q hJ (by repeat' (first | exact zSr0 | refine zSn rfl ?_ | refine zSs (by assumption) ?_)) (by repeat' (first | exact zAr0 | refine zAn rfl rfl rfl ?_ | refine zAn13 hL ?_ | refine zAn14 hC ?_ | refine zAs rfl ?_))
  by_cases qw : p < 0 ∨ 1 < p
  · refine ⟨Sum.inl 1, 0, 1, ?_, ?_, Or.inr ⟨rfl, rfl⟩⟩
    · unfold fX8_fails; exact zOk.eq (zw_no qw) ⟨_, rfl, rfl⟩
    · unfold fX9_fails
      rcases qw with z | z
      · rw [if_pos z]; exact ⟨_, rfl, _, _, _, _, _, _, _, rfl, fun _ _ => rfl, fun _ _ => rfl⟩
      · by_cases z0 : p < 0
        · rw [if_pos z0]; exact ⟨_, rfl, _, _, _, _, _, _, _, rfl, fun _ _ => rfl, fun _ _ => rfl⟩
        · rw [if_neg z0, if_neg (by grind)]; exact ⟨_, rfl, _, _, _, _, _, _, _, rfl, fun _ _ => rfl, fun _ _ => rfl⟩
  · have ew := zin_yes qw
    have w0 : ¬ p < 0 := fun z => qw (Or.inl z)
    have w1 : p ≤ 1 := Int32.not_lt.1 (fun z => qw (Or.inr z))
    refine ⟨Sum.inr _, zfirst E (-1) (fun v => if p = 0 then decide (zsaid E v = -1) else decide (zhoarse E v = 1)) 96 1 t, 0, ?_, ?_, Or.inl ⟨rfl, rfl⟩⟩
    · unfold fX8_fails; refine zOk.eq (zw_yes qw) (zOk.inr ?_)
      refine zOk.ite (fun z => ?_) (fun z => ?_)
      · refine zOk.bind (zc_silent hE hc ht (by omega)) (fun o ho => ⟨_, rfl, ?_⟩)
        simp only [if_pos z]
        exact congrArg Sum.inr ho
      · refine zOk.bind (zc_hoarse hE hc ht (by omega)) (fun o ho => ⟨_, rfl, ?_⟩)
        simp only [if_neg z]
        exact congrArg Sum.inr ho
    · unfold fX9_fails; rw [if_neg w0, if_pos w1]
      refine zOk.bind (zm_pack (n0 := 24) (p := 0) (by omega) (by omega)) (fun P hP => ?_)
      refine zr_fails hE hr 96 1 FU 9999 _ _ t _ _ (by omega) (by unfold FU; omega) ht (by omega) m8 m9 (fun V S sd ho w => ?_)
      unfold jX9_fails_78
      refine zOk.bind (zm_unpack (n0 := 24) (p := 0) (by omega) (by omega) hP.1) (fun r hr => ?_)
      obtain ⟨L, C, rfl, hL, hC⟩ := hr
      exact zOk.pure ⟨_, _, L, C, V, S, P, rfl, hL, hC⟩
theorem zst17 (h : zInv sc ar) (hx : inb (x4 + 1) L = true ∧ inb (x4 + 2) L = true ∧ inb (x4 + 3) L = true ∧ inb (x4 + 4) L = true ∧ inb (x4 + 5) L = true) : zOk (st17 L xs sc ar O x4) (fun o => zInv o.1 o.2.1) := by
  obtain ⟨E, t, hI⟩ := h
  have hJ := hI
  obtain ⟨hE, hc, hr, ht, ⟨c1, c2, c3, c4, c5, c6, c7, c8, c9⟩, ⟨m1, m2, m3, m4, m5, m6, m7, m8, m9⟩, hnv, hh, hse, hst, htp, hfp, him, hik⟩ := hI
  have h7 := hE.a7
  have h10 := hE.m10
  unfold st17
  try simp only [ck_t hx.1, ck_t hx.2.1, ck_t hx.2.2.1, ck_t hx.2.2.2.1, ck_t hx.2.2.2.2, c1, c2, c3, c4, c5, c6, c7, m1, m2, m3, m4, m5, m6, m7, hnv]
  generalize xs (x4 + 1).toNatClampNeg = p
  generalize xs (x4 + 2).toNatClampNeg = p'
  suffices key : ∃ (R : Sum Nat Int32) (a c : Int32), zOk (fX8_calls (ar 44) (ar 45) (ar 53) (ar 54) (ar 55) t.hour t.oil t.weight t.spider t.treas t.joy t.passed (ar 66) (ar 67) (sc 70) (sc 71) (sc 72) (sc 73) (sc 74) (sc 75) (sc 76) (ar 68) (ar 69) p p') (fun v => v.1 = R) ∧ zOk (fX9_calls (sc 4) t.hour t.oil t.weight t.spider t.treas t.joy t.passed (-1) (sc 26) (sc 27) (ar 1) (ar 3) (ar 4) (ar 6) (ar 7) (ar 8) (ar 9) (ar 10) (ar 13) (ar 14) (ar 16) (ar 17) (ar 18) p p') (zQ16 t (ar 13) (ar 14) a c) ∧ ((R = Sum.inr a ∧ c = 0) ∨ (R = Sum.inl 2 ∧ c = 1)) by
    obtain ⟨R, a, c, ⟨v, ev, hv⟩, ⟨w, ew, sd, ho, L', C', V, S, P, rfl, hL, hC⟩, hR⟩ := key
    rcases hR with ⟨rfl, rfl⟩ | ⟨rfl, rfl⟩
    · obtain ⟨o, eo, h1, h2⟩ : ∃ o, (fL_calls O (ar 44) (ar 45) (ar 53) (ar 54) (ar 55) t.hour t.oil t.weight t.spider t.treas t.joy t.passed (ar 66) (ar 67) (sc 70) (sc 71) (sc 72) (sc 73) (sc 74) (sc 75) (sc 76) (ar 68) (ar 69) p p') = some o ∧ o.1 = 0 ∧ o.2.1 = vp_updL O 0 a.toInt64 := by
        unfold fL_calls; rw [ev]; show ∃ o, Sum.elim _ _ v.1 = some o ∧ _; rw [hv]; exact ⟨_, rfl, rfl, rfl⟩
      refine zOk.eq eo (zOk.eq ew (zOk.eq rfl (zOk.pos h1.symm (zOk.pos h1 (zOk.pos (by rw [h2]; exact zlgO) (zOk.pure ?_))))))
      exact zInv_q hJ (by repeat' (first | exact zSr0 | refine zSn rfl ?_ | refine zSs (by assumption) ?_)) (by repeat' (first | exact zAr0 | refine zAn rfl rfl rfl ?_ | refine zAn13 hL ?_ | refine zAn14 hC ?_ | refine zAs rfl ?_))
    · obtain ⟨o, eo, h1, h2⟩ : ∃ o, (fL_calls O (ar 44) (ar 45) (ar 53) (ar 54) (ar 55) t.hour t.oil t.weight t.spider t.treas t.joy t.passed (ar 66) (ar 67) (sc 70) (sc 71) (sc 72) (sc 73) (sc 74) (sc 75) (sc 76) (ar 68) (ar 69) p p') = some o ∧ o.1 = 1 ∧ o.2.1 = O := by
        unfold fL_calls; rw [ev]; show ∃ o, Sum.elim _ _ v.1 = some o ∧ _; rw [hv]; exact ⟨_, rfl, rfl, rfl⟩
      refine zOk.eq eo (zOk.eq ew (zOk.eq rfl (zOk.pos h1.symm (zOk.neg (by rw [h1]; decide) (zOk.pure ?_)))))
      exact zInv_q hJ (by repeat' (first | exact zSr0 | refine zSn rfl ?_ | refine zSs (by assumption) ?_)) (by repeat' (first | exact zAr0 | refine zAn rfl rfl rfl ?_ | refine zAn13 hL ?_ | refine zAn14 hC ?_ | refine zAs rfl ?_))
  by_cases q : p < 0 ∨ 24 < p
  · have e := zin_no q
    refine ⟨Sum.inl 2, 0, 1, ?_, ?_, Or.inr ⟨rfl, rfl⟩⟩
    · unfold fX8_calls; exact zOk.eq (zr_no q) ⟨_, rfl, rfl⟩
    · unfold fX9_calls; exact zOk.eq (zi_no q rfl rfl) (zOk.pos rfl ⟨_, rfl, _, _, _, _, _, _, _, rfl, fun _ _ => rfl, fun _ _ => rfl⟩)
  · have e := zin_yes q
    by_cases q2 : p' < 0 ∨ 96 < p'
    · have e2 := zin_no q2
      refine ⟨Sum.inl 2, 0, 1, ?_, ?_, Or.inr ⟨rfl, rfl⟩⟩
      · unfold fX8_calls; exact zOk.eq (zr_yes q) (zOk.inr (zOk.eq (zr_no q2) ⟨_, rfl, rfl⟩))
      · unfold fX9_calls; exact zOk.eq (zi_yes q rfl rfl) (zOk.neg (by decide) (zOk.eq (zi_no q2 rfl rfl) (zOk.pos rfl ⟨_, rfl, _, _, _, _, _, _, _, rfl, fun _ _ => rfl, fun _ _ => rfl⟩)))
    · have e2 := zin_yes q2
      obtain ⟨n, hn, rfl⟩ := zof_le (x := p') (k := 96) (by grind) (by omega) (by show p' ≤ 96; grind)
      refine ⟨Sum.inr _, zscan E (-1) (fun s _ v => if zsaid E v = p then s + 1 else s) n 0 t 0, 0, ?_, ?_, Or.inl ⟨rfl, rfl⟩⟩
      · unfold fX8_calls; refine zOk.eq (zr_yes q) (zOk.inr (zOk.eq (zr_yes q2) (zOk.inr ?_)))
        exact zOk.bind (zc_times hE hc ht (by omega) (by omega)) (fun o ho => ⟨_, rfl, congrArg Sum.inr ho⟩)
      · unfold fX9_calls; refine zOk.eq (zi_yes q rfl rfl) (zOk.neg (by decide) (zOk.eq (zi_yes q2 rfl rfl) (zOk.neg (by decide) ?_)))
        refine zOk.bind (zm_pack (n0 := 24) (p := 0) (by omega) (by omega)) (fun P hP => ?_)
        refine zr_calls hE hr (by omega) n 0 FU 9999 _ _ t _ _ _ (by omega) (by unfold FU; omega) ht (by omega) m8 m9 (fun V S sd ho w => ?_)
        refine zOk.bind (zm_unpack (n0 := 24) (p := 0) (by omega) (by omega) hP.1) (fun r hr => ?_)
        obtain ⟨L, C, rfl, hL, hC⟩ := hr
        exact zOk.pure ⟨_, _, L, C, V, S, P, rfl, hL, hC⟩
theorem zst26 (h : zInv sc ar) (hx : inb (x4 + 1) L = true ∧ inb (x4 + 2) L = true ∧ inb (x4 + 3) L = true ∧ inb (x4 + 4) L = true ∧ inb (x4 + 5) L = true) : zOk (st26 L xs sc ar O x4) (fun o => zInv o.1 o.2.1) := by
  obtain ⟨E, t, hI⟩ := h
  have hJ := hI
  obtain ⟨hE, hc, hr, ht, ⟨c1, c2, c3, c4, c5, c6, c7, c8, c9⟩, ⟨m1, m2, m3, m4, m5, m6, m7, m8, m9⟩, hnv, hh, hse, hst, htp, hfp, him, hik⟩ := hI
  have h7 := hE.a7
  have h10 := hE.m10
  unfold st26
  try simp only [ck_t hx.1, ck_t hx.2.1, ck_t hx.2.2.1, ck_t hx.2.2.2.1, ck_t hx.2.2.2.2, c1, c2, c3, c4, c5, c6, c7, m1, m2, m3, m4, m5, m6, m7, hnv]
  generalize xs (x4 + 1).toNatClampNeg = p
  suffices key : ∃ (R : Sum Nat Int32) (a c : Int32), zOk (fX8_passing (ar 44) (ar 45) (sc 54) (sc 55) (ar 47) (ar 48) (ar 50) (ar 51) (ar 52) (ar 53) (ar 54) (ar 55) t.hour t.oil t.weight t.spider t.treas t.joy t.passed (ar 66) (ar 67) (sc 70) (sc 71) (sc 72) (sc 73) (sc 74) (sc 75) (sc 76) (ar 68) (ar 69) p) (fun v => v.1 = R) ∧ zOk (fX9_passing (sc 4) t.hour t.oil t.weight t.spider t.treas t.joy t.passed (-1) (sc 26) (sc 27) (ar 1) (ar 3) (ar 4) (ar 6) (ar 7) (ar 8) (ar 9) (ar 10) (ar 13) (ar 14) (ar 16) (ar 17) (ar 18) p) (zQ16 t (ar 13) (ar 14) a c) ∧ ((R = Sum.inr a ∧ c = 0) ∨ (R = Sum.inl 2 ∧ c = 1)) by
    obtain ⟨R, a, c, ⟨v, ev, hv⟩, ⟨w, ew, sd, ho, L', C', V, S, P, rfl, hL, hC⟩, hR⟩ := key
    rcases hR with ⟨rfl, rfl⟩ | ⟨rfl, rfl⟩
    · obtain ⟨o, eo, h1, h2⟩ : ∃ o, (fL_passing O (ar 44) (ar 45) (sc 54) (sc 55) (ar 47) (ar 48) (ar 50) (ar 51) (ar 52) (ar 53) (ar 54) (ar 55) t.hour t.oil t.weight t.spider t.treas t.joy t.passed (ar 66) (ar 67) (sc 70) (sc 71) (sc 72) (sc 73) (sc 74) (sc 75) (sc 76) (ar 68) (ar 69) p) = some o ∧ o.1 = 0 ∧ o.2.1 = vp_updL O 0 a.toInt64 := by
        unfold fL_passing; rw [ev]; show ∃ o, Sum.elim _ _ v.1 = some o ∧ _; rw [hv]; exact ⟨_, rfl, rfl, rfl⟩
      refine zOk.eq eo (zOk.eq ew (zOk.eq rfl (zOk.pos h1.symm (zOk.pos h1 (zOk.pos (by rw [h2]; exact zlgO) (zOk.pure ?_))))))
      exact zInv_q hJ (by repeat' (first | exact zSr0 | refine zSn rfl ?_ | refine zSs (by assumption) ?_)) (by repeat' (first | exact zAr0 | refine zAn rfl rfl rfl ?_ | refine zAn13 hL ?_ | refine zAn14 hC ?_ | refine zAs rfl ?_))
    · obtain ⟨o, eo, h1, h2⟩ : ∃ o, (fL_passing O (ar 44) (ar 45) (sc 54) (sc 55) (ar 47) (ar 48) (ar 50) (ar 51) (ar 52) (ar 53) (ar 54) (ar 55) t.hour t.oil t.weight t.spider t.treas t.joy t.passed (ar 66) (ar 67) (sc 70) (sc 71) (sc 72) (sc 73) (sc 74) (sc 75) (sc 76) (ar 68) (ar 69) p) = some o ∧ o.1 = 1 ∧ o.2.1 = O := by
        unfold fL_passing; rw [ev]; show ∃ o, Sum.elim _ _ v.1 = some o ∧ _; rw [hv]; exact ⟨_, rfl, rfl, rfl⟩
      refine zOk.eq eo (zOk.eq ew (zOk.eq rfl (zOk.pos h1.symm (zOk.neg (by rw [h1]; decide) (zOk.pure ?_)))))
      exact zInv_q hJ (by repeat' (first | exact zSr0 | refine zSn rfl ?_ | refine zSs (by assumption) ?_)) (by repeat' (first | exact zAr0 | refine zAn rfl rfl rfl ?_ | refine zAn13 hL ?_ | refine zAn14 hC ?_ | refine zAs rfl ?_))
  by_cases q : p < 0 ∨ 96 < p
  · have e := zin_no q
    refine ⟨Sum.inl 2, 0, 1, ?_, ?_, Or.inr ⟨rfl, rfl⟩⟩
    · unfold fX8_passing; exact zOk.eq (zr_no q) ⟨_, rfl, rfl⟩
    · unfold fX9_passing; exact zOk.eq (zi_no q rfl rfl) (zOk.pos rfl ⟨_, rfl, _, _, _, _, _, _, _, rfl, fun _ _ => rfl, fun _ _ => rfl⟩)
  · have e := zin_yes q
    obtain ⟨n, hn, rfl⟩ := zof_le (x := p) (k := 96) (by grind) (by omega) (by show p ≤ 96; grind)
    refine ⟨Sum.inr _, (zhs E (-1) n t).passed, 0, ?_, ?_, Or.inl ⟨rfl, rfl⟩⟩
    · unfold fX8_passing; refine zOk.eq (zr_yes q) (zOk.inr ?_)
      refine zOk.bind (zc_townAfter hE hc ht (by omega) (by omega) c8 c9) (fun o ho => ?_)
      obtain ⟨V, S, L, C, rfl⟩ := ho
      exact ⟨_, rfl, rfl⟩
    · unfold fX9_passing; refine zOk.eq (zi_yes q rfl rfl) (zOk.neg (by decide) ?_)
      refine zOk.bind (zm_passedBy hE hr (by omega) ht (by omega) m8 m9) (fun o ho => ?_)
      obtain ⟨sd, ho, L, C, V, S, P, rfl, hL, hC⟩ := ho
      exact zOk.pure ⟨_, _, L, C, V, S, P, rfl, hL, hC⟩
theorem zst28 (h : zInv sc ar) (hx : inb (x4 + 1) L = true ∧ inb (x4 + 2) L = true ∧ inb (x4 + 3) L = true ∧ inb (x4 + 4) L = true ∧ inb (x4 + 5) L = true) : zOk (st28 L xs sc ar O x4) (fun o => zInv o.1 o.2.1) := by
  obtain ⟨E, t, hI⟩ := h
  have hJ := hI
  obtain ⟨hE, hc, hr, ht, ⟨c1, c2, c3, c4, c5, c6, c7, c8, c9⟩, ⟨m1, m2, m3, m4, m5, m6, m7, m8, m9⟩, hnv, hh, hse, hst, htp, hfp, him, hik⟩ := hI
  have h7 := hE.a7
  have h10 := hE.m10
  unfold st28
  try simp only [ck_t hx.1, ck_t hx.2.1, ck_t hx.2.2.1, ck_t hx.2.2.2.1, ck_t hx.2.2.2.2, c1, c2, c3, c4, c5, c6, c7, m1, m2, m3, m4, m5, m6, m7, hnv]
  generalize xs (x4 + 1).toNatClampNeg = p
  generalize xs (x4 + 2).toNatClampNeg = p'
  suffices key : ∃ (R : Sum Nat Int32) (a c : Int32), zOk (fX8_hush (ar 44) (ar 45) (ar 53) (ar 54) (ar 55) t.hour t.oil t.weight t.spider t.treas t.joy t.passed (ar 66) (ar 67) (sc 70) (sc 71) (sc 72) (sc 73) (sc 74) (sc 75) (sc 76) (ar 68) (ar 69) p p') (fun v => v.1 = R) ∧ zOk (fX9_hush (sc 4) t.hour t.oil t.weight t.spider t.treas t.joy t.passed (-1) (sc 26) (sc 27) (ar 1) (ar 3) (ar 4) (ar 6) (ar 7) (ar 8) (ar 9) (ar 10) (ar 13) (ar 14) (ar 16) (ar 17) (ar 18) p p') (zQ16 t (ar 13) (ar 14) a c) ∧ ((R = Sum.inr a ∧ c = 0) ∨ (R = Sum.inl 1 ∧ c = 1) ∨ (R = Sum.inl 2 ∧ c = 2)) by
    obtain ⟨R, a, c, ⟨v, ev, hv⟩, ⟨w, ew, sd, ho, L', C', V, S, P, rfl, hL, hC⟩, hR⟩ := key
    rcases hR with ⟨rfl, rfl⟩ | ⟨rfl, rfl⟩ | ⟨rfl, rfl⟩
    · obtain ⟨o, eo, h1, h2⟩ : ∃ o, (fL_hush O (ar 44) (ar 45) (ar 53) (ar 54) (ar 55) t.hour t.oil t.weight t.spider t.treas t.joy t.passed (ar 66) (ar 67) (sc 70) (sc 71) (sc 72) (sc 73) (sc 74) (sc 75) (sc 76) (ar 68) (ar 69) p p') = some o ∧ o.1 = 0 ∧ o.2.1 = vp_updL O 0 a.toInt64 := by
        unfold fL_hush; rw [ev]; show ∃ o, Sum.elim _ _ v.1 = some o ∧ _; rw [hv]; exact ⟨_, rfl, rfl, rfl⟩
      refine zOk.eq eo (zOk.eq ew (zOk.eq rfl (zOk.pos h1.symm (zOk.pos h1 (zOk.pos (by rw [h2]; exact zlgO) (zOk.pure ?_))))))
      exact zInv_q hJ (by repeat' (first | exact zSr0 | refine zSn rfl ?_ | refine zSs (by assumption) ?_)) (by repeat' (first | exact zAr0 | refine zAn rfl rfl rfl ?_ | refine zAn13 hL ?_ | refine zAn14 hC ?_ | refine zAs rfl ?_))
    · obtain ⟨o, eo, h1, h2⟩ : ∃ o, (fL_hush O (ar 44) (ar 45) (ar 53) (ar 54) (ar 55) t.hour t.oil t.weight t.spider t.treas t.joy t.passed (ar 66) (ar 67) (sc 70) (sc 71) (sc 72) (sc 73) (sc 74) (sc 75) (sc 76) (ar 68) (ar 69) p p') = some o ∧ o.1 = 1 ∧ o.2.1 = O := by
        unfold fL_hush; rw [ev]; show ∃ o, Sum.elim _ _ v.1 = some o ∧ _; rw [hv]; exact ⟨_, rfl, rfl, rfl⟩
      refine zOk.eq eo (zOk.eq ew (zOk.eq rfl (zOk.pos h1.symm (zOk.neg (by rw [h1]; decide) (zOk.pure ?_)))))
      exact zInv_q hJ (by repeat' (first | exact zSr0 | refine zSn rfl ?_ | refine zSs (by assumption) ?_)) (by repeat' (first | exact zAr0 | refine zAn rfl rfl rfl ?_ | refine zAn13 hL ?_ | refine zAn14 hC ?_ | refine zAs rfl ?_))
    · obtain ⟨o, eo, h1, h2⟩ : ∃ o, (fL_hush O (ar 44) (ar 45) (ar 53) (ar 54) (ar 55) t.hour t.oil t.weight t.spider t.treas t.joy t.passed (ar 66) (ar 67) (sc 70) (sc 71) (sc 72) (sc 73) (sc 74) (sc 75) (sc 76) (ar 68) (ar 69) p p') = some o ∧ o.1 = 2 ∧ o.2.1 = O := by
        unfold fL_hush; rw [ev]; show ∃ o, Sum.elim _ _ v.1 = some o ∧ _; rw [hv]; exact ⟨_, rfl, rfl, rfl⟩
      refine zOk.eq eo (zOk.eq ew (zOk.eq rfl (zOk.pos h1.symm (zOk.neg (by rw [h1]; decide) (zOk.pure ?_)))))
      exact zInv_q hJ (by repeat' (first | exact zSr0 | refine zSn rfl ?_ | refine zSs (by assumption) ?_)) (by repeat' (first | exact zAr0 | refine zAn rfl rfl rfl ?_ | refine zAn13 hL ?_ | refine zAn14 hC ?_ | refine zAs rfl ?_))
  by_cases qw : p' < 0 ∨ 1 < p'
  · refine ⟨Sum.inl 1, 0, 1, ?_, ?_, Or.inr (Or.inl ⟨rfl, rfl⟩)⟩
    · unfold fX8_hush; exact zOk.eq (zw_no qw) ⟨_, rfl, rfl⟩
    · unfold fX9_hush
      rcases qw with z | z
      · rw [if_pos z]; exact ⟨_, rfl, _, _, _, _, _, _, _, rfl, fun _ _ => rfl, fun _ _ => rfl⟩
      · by_cases z0 : p' < 0
        · rw [if_pos z0]; exact ⟨_, rfl, _, _, _, _, _, _, _, rfl, fun _ _ => rfl, fun _ _ => rfl⟩
        · rw [if_neg z0, if_neg (by grind)]; exact ⟨_, rfl, _, _, _, _, _, _, _, rfl, fun _ _ => rfl, fun _ _ => rfl⟩
  · have ew := zin_yes qw
    have w0 : ¬ p' < 0 := fun z => qw (Or.inl z)
    have w1 : p' ≤ 1 := Int32.not_lt.1 (fun z => qw (Or.inr z))
    by_cases q : p < 0 ∨ 96 < p
    · have e := zin_no q
      refine ⟨Sum.inl 2, 0, 2, ?_, ?_, Or.inr (Or.inr ⟨rfl, rfl⟩)⟩
      · unfold fX8_hush; exact zOk.eq (zw_yes qw) (zOk.inr (zOk.eq (zr_no q) ⟨_, rfl, rfl⟩))
      · unfold fX9_hush; rw [if_neg w0, if_pos w1]; exact zOk.eq (zi_no q rfl rfl) (zOk.pos rfl ⟨_, rfl, _, _, _, _, _, _, _, rfl, fun _ _ => rfl, fun _ _ => rfl⟩)
    · have e := zin_yes q
      obtain ⟨n, hn, rfl⟩ := zof_le (x := p) (k := 96) (by grind) (by omega) (by show p ≤ 96; grind)
      refine ⟨Sum.inr _, if p' = 0 then (zscan E (-1) (zhushG E) n 1 t (0, -1, 0)).1 else (zscan E (-1) (zhushG E) n 1 t (0, -1, 0)).2.1, 0, ?_, ?_, Or.inl ⟨rfl, rfl⟩⟩
      · unfold fX8_hush; refine zOk.eq (zw_yes qw) (zOk.inr (zOk.eq (zr_yes q) (zOk.inr ?_)))
        refine zOk.ite (fun z => ?_) (fun z => ?_)
        · refine zOk.bind (zc_hush hE hc ht (by omega) (by omega)) (fun o ho => ⟨_, rfl, ?_⟩)
          rw [if_neg (by decide)] at ho
          rw [if_neg (by rw [z]; decide)]
          exact congrArg Sum.inr ho
        · refine zOk.bind (zc_hush hE hc ht (by omega) (by omega)) (fun o ho => ⟨_, rfl, ?_⟩)
          rw [if_pos rfl] at ho
          rw [if_pos ((zwhat w0 (Int32.not_lt.2 w1)).resolve_right z)]
          exact congrArg Sum.inr ho
      · unfold fX9_hush; rw [if_neg w0, if_pos w1]; refine zOk.eq (zi_yes q rfl rfl) (zOk.neg (by decide) ?_)
        refine zOk.bind (zm_pack (n0 := 24) (p := 0) (by omega) (by omega)) (fun P hP => ?_)
        refine zr_hush hE hr (by omega) n 1 FU 9999 _ _ t _ _ (0, -1, 0) (by omega) (by unfold FU; omega) ht (by omega) m8 m9 (fun V S sd ho w => ?_)
        refine zOk.bind (zm_unpack (n0 := 24) (p := 0) (by omega) (by omega) hP.1) (fun r hr => ?_)
        obtain ⟨L, C, rfl, hL, hC⟩ := hr
        refine zOk.ite (fun z => zOk.pure ?_) (fun z => zOk.pure ?_)
        · rw [if_pos z]; exact ⟨_, _, L, C, V, S, P, rfl, hL, hC⟩
        · rw [if_neg z]; exact ⟨_, _, L, C, V, S, P, rfl, hL, hC⟩
theorem zst18 (h : zInv sc ar) (hx : inb (x4 + 1) L = true ∧ inb (x4 + 2) L = true ∧ inb (x4 + 3) L = true ∧ inb (x4 + 4) L = true ∧ inb (x4 + 5) L = true) : zOk (st18 L xs sc ar O x4) (fun o => zInv o.1 o.2.1) := by
  obtain ⟨E, t, hI⟩ := h
  have hJ := hI
  obtain ⟨hE, hc, hr, ht, ⟨c1, c2, c3, c4, c5, c6, c7, c8, c9⟩, ⟨m1, m2, m3, m4, m5, m6, m7, m8, m9⟩, hnv, hh, hse, hst, htp, hfp, him, hik⟩ := hI
  have h7 := hE.a7
  have h10 := hE.m10
  unfold st18
  try simp only [ck_t hx.1, ck_t hx.2.1, ck_t hx.2.2.1, ck_t hx.2.2.2.1, ck_t hx.2.2.2.2, c1, c2, c3, c4, c5, c6, c7, m1, m2, m3, m4, m5, m6, m7, hnv]
  generalize xs (x4 + 1).toNatClampNeg = p
  suffices key : ∃ (R : Sum Nat Int32) (a c : Int32), zOk (fX8_toWind t.weight p) (fun v => v = R) ∧ zOk (fX9_toWind (sc 4) t.weight p) (fun o => o = (a, c)) ∧ ((R = Sum.inr a ∧ c = 0) ∨ (R = Sum.inl 2 ∧ c = 1)) by
    obtain ⟨R, a, c, ⟨v, ev, hv⟩, ⟨w, ew, rfl⟩, hR⟩ := key
    rcases hR with ⟨rfl, rfl⟩ | ⟨rfl, rfl⟩
    · obtain ⟨o, eo, h1, h2⟩ : ∃ o, (fL_toWind O t.weight p) = some o ∧ o.1 = 0 ∧ o.2 = vp_updL O 0 a.toInt64 := by
        unfold fL_toWind; rw [ev]; show ∃ o, Sum.elim _ _ v = some o ∧ _; rw [hv]; exact ⟨_, rfl, rfl, rfl⟩
      refine zOk.eq eo (zOk.eq ew (zOk.eq rfl (zOk.pos h1.symm (zOk.pos h1 (zOk.pos (by rw [h2]; exact zlgO) (zOk.pure ?_))))))
      exact zInv_q hJ (by repeat' (first | exact zSr0 | refine zSn rfl ?_ | refine zSs (by assumption) ?_)) (by repeat' (first | exact zAr0 | refine zAn rfl rfl rfl ?_ | refine zAn13 hL ?_ | refine zAn14 hC ?_ | refine zAs rfl ?_))
    · obtain ⟨o, eo, h1, h2⟩ : ∃ o, (fL_toWind O t.weight p) = some o ∧ o.1 = 1 ∧ o.2 = O := by
        unfold fL_toWind; rw [ev]; show ∃ o, Sum.elim _ _ v = some o ∧ _; rw [hv]; exact ⟨_, rfl, rfl, rfl⟩
      refine zOk.eq eo (zOk.eq ew (zOk.eq rfl (zOk.pos h1.symm (zOk.neg (by rw [h1]; decide) (zOk.pure ?_)))))
      exact zInv_q hJ (by repeat' (first | exact zSr0 | refine zSn rfl ?_ | refine zSs (by assumption) ?_)) (by repeat' (first | exact zAr0 | refine zAn rfl rfl rfl ?_ | refine zAn13 hL ?_ | refine zAn14 hC ?_ | refine zAs rfl ?_))
  by_cases q : p < 1 ∨ 96 < p
  · have e := zin_no q
    refine ⟨Sum.inl 2, 0, 1, ?_, ?_, Or.inr ⟨rfl, rfl⟩⟩
    · unfold fX8_toWind; exact zOk.eq (zr_no q) ⟨_, rfl, rfl⟩
    · unfold fX9_toWind; exact zOk.eq (zi_no q rfl rfl) (zOk.pos rfl ⟨_, rfl, rfl⟩)
  · have e := zin_yes q
    refine ⟨Sum.inr _, (if 0 < p - t.weight then p - t.weight else 0), 0, ?_, ?_, Or.inl ⟨rfl, rfl⟩⟩
    · unfold fX8_toWind; exact zOk.eq (zr_yes q) ⟨_, rfl, rfl⟩
    · unfold fX9_toWind; exact zOk.eq (zi_yes q rfl rfl) ⟨_, rfl, rfl⟩
end
