/-! ===== pure: cases of the acts ===== -/
theorem zInv_mk {E : zE} {t : zT} {sc : Nat → Int32} {ar : Nat → Nat → Int32} (h1 : zEok E) (h2 : zCls E (sc 54) (sc 55) (ar 47) (ar 48) (ar 50) (ar 51) (ar 52) (ar 53) (ar 54) (ar 55)) (h3 : zRef E (ar 1) (ar 3) (ar 4) (ar 6) (ar 7) (ar 8) (ar 9) (ar 10)) (h4 : zTb E 9999 t)
  (h5 : zTw t E.nA E.nM (sc 63) (sc 64) (sc 65) (sc 66) (sc 67) (sc 68) (sc 69) (ar 66) (ar 67)) (h6 : zTw t E.nA E.nM (sc 16) (sc 17) (sc 18) (sc 19) (sc 20) (sc 21) (sc 22) (ar 13) (ar 14)) (h7 : sc 25 = -1) (h8 : zHist E (sc 47) (sc 23) (ar 36) (ar 15)) (h9 : zSeenR (sc 48) (sc 24) (ar 37) (ar 38) (ar 21) (ar 22)) (h10 : zStat (ar 39) (ar 11))
  (h11 : zTapeR (sc 0) (sc 5) (ar 0) (ar 12)) (h12 : sc 14 = sc 1) (h13 : sc 30 = sc 2) (h14 : sc 2 = 0 ∨ (sc 2 = 1 ∧ zKept E sc ar)) : zInv sc ar := ⟨E, t, h1, h2, h3, h4, h5, h6, h7, h8, h9, h10, h11, h12, h13, h14⟩
theorem zStat_upd {a b : Nat → Int32} {k : Nat} (h : zStat a b) (hk : k < 3) : zStat (upd a k (a k + 1)) (upd b k (b k + 1)) := fun i hi => by
  by_cases e : i = k
  · subst e; rw [zupd_eq, zupd_eq, h i hi]
  · rw [zupd_ne e, zupd_ne e, h i hi]
theorem zin_no {p lo hi : Int32} (q : p < lo ∨ hi < p) : fX8_isOutside p lo hi = some 1 ∧ fX9_isIn p.toInt64 lo.toInt64 hi.toInt64 = some 0 := by
  rw [zoutside, zisIn]
  rcases q with q | q
  · rw [if_pos q, if_pos q]; exact ⟨rfl, rfl⟩
  · rw [if_pos q, if_pos q]; constructor <;> split <;> rfl
theorem zin_yes {p lo hi : Int32} (q : ¬ (p < lo ∨ hi < p)) : fX8_isOutside p lo hi = some 0 ∧ fX9_isIn p.toInt64 lo.toInt64 hi.toInt64 = some 1 := by
  rw [zoutside, zisIn, if_neg (fun z => q (Or.inl z)), if_neg (fun z => q (Or.inr z)), if_neg (fun z => q (Or.inl z)), if_neg (fun z => q (Or.inr z))]
  exact ⟨rfl, rfl⟩
section
variable {L : Nat} {xs : Nat → Int32} {sc : Nat → Int32} {ar : Nat → Nat → Int32} {O : Nat → Int64} {x4 : Int32}
theorem zst7 (h : zInv sc ar) (hx : inb (x4 + 1) L = true ∧ inb (x4 + 2) L = true ∧ inb (x4 + 3) L = true ∧ inb (x4 + 4) L = true ∧ inb (x4 + 5) L = true) : zOk (st7 L xs sc ar O x4) (fun o => zInv o.1 o.2.1) := by
  obtain ⟨E, t, hI⟩ := h
  have hJ := hI
  obtain ⟨hE, hc, hr, ht, ⟨c1, c2, c3, c4, c5, c6, c7, c8, c9⟩, ⟨m1, m2, m3, m4, m5, m6, m7, m8, m9⟩, hnv, hh, hse, hst, htp, hfp, him, hik⟩ := hI
  have h7 := hE.a7
  have h10 := hE.m10
  unfold st7
  try simp only [ck_t hx.1, ck_t hx.2.1, ck_t hx.2.2.1, ck_t hx.2.2.2.1, ck_t hx.2.2.2.2, c1, c2, c3, c4, c5, c6, c7, m1, m2, m3, m4, m5, m6, m7, hnv]
  generalize xs (x4 + 1).toNatClampNeg = p
  unfold fX8_wind fX9_wind
  by_cases q : p < 1 ∨ 99 < p
  · have e := zin_no q
    refine zOk.bind (P := fun v => v = (-1, sc 47, ar 36, upd (ar 39) 1 (ar 39 1 + 1), t.weight)) ?_ (fun v hv => ?_)
    · rw [e.1]; exact ⟨_, rfl, rfl⟩
    subst hv
    refine zOk.bind (P := fun v => v = (-1, 0, t.weight, sc 23, upd (ar 11) 1 (ar 11 1 + 1), ar 15)) ?_ (fun v hv => ?_)
    · exact ⟨_, (by show (fX9_isIn p.toInt64 (1 : Int32).toInt64 (99 : Int32).toInt64).bind _ = _; rw [e.2]; rfl), rfl⟩
    subst hv
    refine zOk.pos rfl (zOk.pure ?_)
    exact zInv_mk (E := E) (t := t) hE hc hr ht ⟨c1, c2, rfl, c4, c5, c6, c7, c8, c9⟩ ⟨m1, m2, rfl, m4, m5, m6, m7, m8, m9⟩ hnv hh hse (zStat_upd hst (by decide)) htp hfp him hik
  · have e := zin_yes q
    have q1 : 1 ≤ p ∧ p ≤ 99 := ⟨Int32.not_lt.1 (fun z => q (Or.inl z)), Int32.not_lt.1 (fun z => q (Or.inr z))⟩
    obtain ⟨v, w, ev, ew, hh'⟩ := zkeep hE ht hh c8 c9 m8 m9
    refine zOk.bind (P := fun o => o = ((if t.weight + p < 99 then t.weight + p else 99), v.1, v.2, ar 39, (if t.weight + p < 99 then t.weight + p else 99))) ?_ (fun o ho => ?_)
    · rw [e.1]; exact ⟨_, (by show (fX0_keepAct _ _ _ _ _ _ _ _ _ _ _).bind _ = _; rw [ev]; rfl), rfl⟩
    subst ho
    refine zOk.bind (P := fun o => o = ((if t.weight + p < 99 then t.weight + p else 99), 0, (if t.weight + p < 99 then t.weight + p else 99), w.1, ar 11, w.2)) ?_ (fun o ho => ?_)
    · exact ⟨_, (by show (fX9_isIn p.toInt64 (1 : Int32).toInt64 (99 : Int32).toInt64).bind _ = _; rw [e.2]; show (fX9_keep _ _ _ _ _ _ _ _ _ _ _).bind _ = _; rw [ew]; rfl), rfl⟩
    subst ho
    refine zOk.pos rfl (zOk.pure ?_)
    have ht' : zTb E 9999 (zT.mk t.hour t.oil (if t.weight + p < 99 then t.weight + p else 99) t.spider t.treas t.joy t.passed t.lean t.call) := by
      obtain ⟨⟨a1, a2, a3, a4, a5, a6, a7⟩, b2, b3, b4⟩ := ht
      exact ⟨⟨a1, (by show 0 ≤ (if t.weight + p < 99 then t.weight + p else 99) ∧ (if t.weight + p < 99 then t.weight + p else 99) ≤ 99; grind), a3, a4, a5, a6, a7⟩, b2, b3, b4⟩
    exact zInv_mk (E := E) (t := zT.mk t.hour t.oil (if t.weight + p < 99 then t.weight + p else 99) t.spider t.treas t.joy t.passed t.lean t.call) hE hc hr ht' ⟨c1, c2, rfl, c4, c5, c6, c7, c8, c9⟩ ⟨m1, m2, rfl, m4, m5, m6, m7, m8, m9⟩ hnv hh' hse hst htp hfp him hik
theorem zst8 (h : zInv sc ar) (hx : inb (x4 + 1) L = true ∧ inb (x4 + 2) L = true ∧ inb (x4 + 3) L = true ∧ inb (x4 + 4) L = true ∧ inb (x4 + 5) L = true) : zOk (st8 L xs sc ar O x4) (fun o => zInv o.1 o.2.1) := by
  obtain ⟨E, t, hI⟩ := h
  have hJ := hI
  obtain ⟨hE, hc, hr, ht, ⟨c1, c2, c3, c4, c5, c6, c7, c8, c9⟩, ⟨m1, m2, m3, m4, m5, m6, m7, m8, m9⟩, hnv, hh, hse, hst, htp, hfp, him, hik⟩ := hI
  have h7 := hE.a7
  have h10 := hE.m10
  unfold st8
  try simp only [ck_t hx.1, ck_t hx.2.1, ck_t hx.2.2.1, ck_t hx.2.2.2.1, ck_t hx.2.2.2.2, c1, c2, c3, c4, c5, c6, c7, m1, m2, m3, m4, m5, m6, m7, hnv]
  generalize xs (x4 + 1).toNatClampNeg = p
  unfold fX8_oil fX9_oil
  by_cases q : p < 1 ∨ 99 < p
  · have e := zin_no q
    refine zOk.bind (P := fun v => v = (-1, sc 47, ar 36, upd (ar 39) 1 (ar 39 1 + 1), t.oil)) ?_ (fun v hv => ?_)
    · rw [e.1]; exact ⟨_, rfl, rfl⟩
    subst hv
    refine zOk.bind (P := fun v => v = (-1, 0, t.oil, sc 23, upd (ar 11) 1 (ar 11 1 + 1), ar 15)) ?_ (fun v hv => ?_)
    · exact ⟨_, (by show (fX9_isIn p.toInt64 (1 : Int32).toInt64 (99 : Int32).toInt64).bind _ = _; rw [e.2]; rfl), rfl⟩
    subst hv
    refine zOk.pos rfl (zOk.pure ?_)
    exact zInv_mk (E := E) (t := t) hE hc hr ht ⟨c1, rfl, c3, c4, c5, c6, c7, c8, c9⟩ ⟨m1, rfl, m3, m4, m5, m6, m7, m8, m9⟩ hnv hh hse (zStat_upd hst (by decide)) htp hfp him hik
  · have e := zin_yes q
    have q1 : 1 ≤ p ∧ p ≤ 99 := ⟨Int32.not_lt.1 (fun z => q (Or.inl z)), Int32.not_lt.1 (fun z => q (Or.inr z))⟩
    obtain ⟨v, w, ev, ew, hh'⟩ := zkeep hE ht hh c8 c9 m8 m9
    refine zOk.bind (P := fun o => o = ((if t.oil + p < 99 then t.oil + p else 99), v.1, v.2, ar 39, (if t.oil + p < 99 then t.oil + p else 99))) ?_ (fun o ho => ?_)
    · rw [e.1]; exact ⟨_, (by show (fX0_keepAct _ _ _ _ _ _ _ _ _ _ _).bind _ = _; rw [ev]; rfl), rfl⟩
    subst ho
    refine zOk.bind (P := fun o => o = ((if t.oil + p < 99 then t.oil + p else 99), 0, (if t.oil + p < 99 then t.oil + p else 99), w.1, ar 11, w.2)) ?_ (fun o ho => ?_)
    · exact ⟨_, (by show (fX9_isIn p.toInt64 (1 : Int32).toInt64 (99 : Int32).toInt64).bind _ = _; rw [e.2]; show (fX9_keep _ _ _ _ _ _ _ _ _ _ _).bind _ = _; rw [ew]; rfl), rfl⟩
    subst ho
    refine zOk.pos rfl (zOk.pure ?_)
    have ht' : zTb E 9999 (zT.mk t.hour (if t.oil + p < 99 then t.oil + p else 99) t.weight t.spider t.treas t.joy t.passed t.lean t.call) := by
      obtain ⟨⟨a1, a2, a3, a4, a5, a6, a7⟩, b2, b3, b4⟩ := ht
      exact ⟨⟨(by show 0 ≤ (if t.oil + p < 99 then t.oil + p else 99) ∧ (if t.oil + p < 99 then t.oil + p else 99) ≤ 99; grind), a2, a3, a4, a5, a6, a7⟩, b2, b3, b4⟩
    exact zInv_mk (E := E) (t := zT.mk t.hour (if t.oil + p < 99 then t.oil + p else 99) t.weight t.spider t.treas t.joy t.passed t.lean t.call) hE hc hr ht' ⟨c1, rfl, c3, c4, c5, c6, c7, c8, c9⟩ ⟨m1, rfl, m3, m4, m5, m6, m7, m8, m9⟩ hnv hh' hse hst htp hfp him hik
theorem zst9 (h : zInv sc ar) (hx : inb (x4 + 1) L = true ∧ inb (x4 + 2) L = true ∧ inb (x4 + 3) L = true ∧ inb (x4 + 4) L = true ∧ inb (x4 + 5) L = true) : zOk (st9 L xs sc ar O x4) (fun o => zInv o.1 o.2.1) := by
  obtain ⟨E, t, hI⟩ := h
  have hJ := hI
  obtain ⟨hE, hc, hr, ht, ⟨c1, c2, c3, c4, c5, c6, c7, c8, c9⟩, ⟨m1, m2, m3, m4, m5, m6, m7, m8, m9⟩, hnv, hh, hse, hst, htp, hfp, him, hik⟩ := hI
  have h7 := hE.a7
  have h10 := hE.m10
  unfold st9
  try simp only [ck_t hx.1, ck_t hx.2.1, ck_t hx.2.2.1, ck_t hx.2.2.2.1, ck_t hx.2.2.2.2, c1, c2, c3, c4, c5, c6, c7, m1, m2, m3, m4, m5, m6, m7, hnv]
  generalize xs (x4 + 1).toNatClampNeg = p
  unfold fX8_spider fX9_spider
  by_cases q : p < 1 ∨ 24 < p
  · have e := zin_no q
    refine zOk.bind (P := fun v => v = (-1, sc 47, ar 36, upd (ar 39) 1 (ar 39 1 + 1), t.spider)) ?_ (fun v hv => ?_)
    · rw [e.1]; exact ⟨_, rfl, rfl⟩
    subst hv
    refine zOk.bind (P := fun v => v = (-1, 0, t.spider, sc 23, upd (ar 11) 1 (ar 11 1 + 1), ar 15)) ?_ (fun v hv => ?_)
    · exact ⟨_, (by show (fX9_isIn p.toInt64 (1 : Int32).toInt64 (24 : Int32).toInt64).bind _ = _; rw [e.2]; rfl), rfl⟩
    subst hv
    refine zOk.pos rfl (zOk.pure ?_)
    exact zInv_mk (E := E) (t := t) hE hc hr ht ⟨c1, c2, c3, rfl, c5, c6, c7, c8, c9⟩ ⟨m1, m2, m3, rfl, m5, m6, m7, m8, m9⟩ hnv hh hse (zStat_upd hst (by decide)) htp hfp him hik
  · have e := zin_yes q
    have q1 : 1 ≤ p ∧ p ≤ 24 := ⟨Int32.not_lt.1 (fun z => q (Or.inl z)), Int32.not_lt.1 (fun z => q (Or.inr z))⟩
    obtain ⟨v, w, ev, ew, hh'⟩ := zkeep hE ht hh c8 c9 m8 m9
    refine zOk.bind (P := fun o => o = (t.spider, v.1, v.2, ar 39, p)) ?_ (fun o ho => ?_)
    · rw [e.1]; exact ⟨_, (by show (fX0_keepAct _ _ _ _ _ _ _ _ _ _ _).bind _ = _; rw [ev]; rfl), rfl⟩
    subst ho
    refine zOk.bind (P := fun o => o = (t.spider, 0, p, w.1, ar 11, w.2)) ?_ (fun o ho => ?_)
    · exact ⟨_, (by show (fX9_isIn p.toInt64 (1 : Int32).toInt64 (24 : Int32).toInt64).bind _ = _; rw [e.2]; show (fX9_keep _ _ _ _ _ _ _ _ _ _ _).bind _ = _; rw [ew]; rfl), rfl⟩
    subst ho
    refine zOk.pos rfl (zOk.pure ?_)
    have ht' : zTb E 9999 (zT.mk t.hour t.oil t.weight (p) t.treas t.joy t.passed t.lean t.call) := by
      obtain ⟨⟨a1, a2, a3, a4, a5, a6, a7⟩, b2, b3, b4⟩ := ht
      exact ⟨⟨a1, a2, (by show 0 ≤ p ∧ p ≤ 24; grind), a4, a5, a6, a7⟩, b2, b3, b4⟩
    exact zInv_mk (E := E) (t := zT.mk t.hour t.oil t.weight (p) t.treas t.joy t.passed t.lean t.call) hE hc hr ht' ⟨c1, c2, c3, rfl, c5, c6, c7, c8, c9⟩ ⟨m1, m2, m3, rfl, m5, m6, m7, m8, m9⟩ hnv hh' hse hst htp hfp him hik
theorem zst2 (h : zInv sc ar) (hx : inb (x4 + 1) L = true ∧ inb (x4 + 2) L = true ∧ inb (x4 + 3) L = true ∧ inb (x4 + 4) L = true ∧ inb (x4 + 5) L = true) : zOk (st2 L xs sc ar O x4) (fun o => zInv o.1 o.2.1) := by
  obtain ⟨E, t, hI⟩ := h
  have hJ := hI
  obtain ⟨hE, hc, hr, ht, ⟨c1, c2, c3, c4, c5, c6, c7, c8, c9⟩, ⟨m1, m2, m3, m4, m5, m6, m7, m8, m9⟩, hnv, hh, hse, hst, htp, hfp, him, hik⟩ := hI
  have h7 := hE.a7
  have h10 := hE.m10
  unfold st2
  try simp only [ck_t hx.1, ck_t hx.2.1, ck_t hx.2.2.1, ck_t hx.2.2.2.1, ck_t hx.2.2.2.2, c1, c2, c3, c4, c5, c6, c7, m1, m2, m3, m4, m5, m6, m7, hnv]
  exact zOk.pos hfp.symm (zOk.pure (zInv_q hJ (zSn rfl zSr0) zAr0))
theorem zst35 (h : zInv sc ar) (hx : inb (x4 + 1) L = true ∧ inb (x4 + 2) L = true ∧ inb (x4 + 3) L = true ∧ inb (x4 + 4) L = true ∧ inb (x4 + 5) L = true) : zOk (st35 L xs sc ar O x4) (fun o => zInv o.1 o.2.1) := by
  obtain ⟨E, t, hI⟩ := h
  have hJ := hI
  obtain ⟨hE, hc, hr, ht, ⟨c1, c2, c3, c4, c5, c6, c7, c8, c9⟩, ⟨m1, m2, m3, m4, m5, m6, m7, m8, m9⟩, hnv, hh, hse, hst, htp, hfp, him, hik⟩ := hI
  have h7 := hE.a7
  have h10 := hE.m10
  unfold st35
  try simp only [ck_t hx.1, ck_t hx.2.1, ck_t hx.2.2.1, ck_t hx.2.2.2.1, ck_t hx.2.2.2.2, c1, c2, c3, c4, c5, c6, c7, m1, m2, m3, m4, m5, m6, m7, hnv]
  refine zOk.pure ?_
  exact zInv_mk (E := E) (t := t) hE hc hr ht ⟨c1, c2, c3, c4, c5, c6, c7, c8, c9⟩ ⟨m1, m2, m3, m4, m5, m6, m7, m8, m9⟩ hnv hh ⟨0, by omega, rfl, rfl, fun i hi => absurd hi (Nat.not_lt_zero i)⟩ hst htp hfp him hik
theorem zst12 (h : zInv sc ar) (hx : inb (x4 + 1) L = true ∧ inb (x4 + 2) L = true ∧ inb (x4 + 3) L = true ∧ inb (x4 + 4) L = true ∧ inb (x4 + 5) L = true) : zOk (st12 L xs sc ar O x4) (fun o => zInv o.1 o.2.1) := by
  obtain ⟨E, t, hI⟩ := h
  have hJ := hI
  obtain ⟨hE, hc, hr, ht, ⟨c1, c2, c3, c4, c5, c6, c7, c8, c9⟩, ⟨m1, m2, m3, m4, m5, m6, m7, m8, m9⟩, hnv, hh, hse, hst, htp, hfp, him, hik⟩ := hI
  have h7 := hE.a7
  have h10 := hE.m10
  unfold st12
  try simp only [ck_t hx.1, ck_t hx.2.1, ck_t hx.2.2.1, ck_t hx.2.2.2.1, ck_t hx.2.2.2.2, c1, c2, c3, c4, c5, c6, c7, m1, m2, m3, m4, m5, m6, m7, hnv]
  obtain ⟨k, hk, e1, e2, hrow⟩ := id hh
  unfold fX8_undo fX9_undo
  rw [e1, e2]
  by_cases q : k = 0
  · subst q
    refine zOk.bind (P := fun v => v = (-1, sc 47, t.hour, t.oil, t.weight, t.spider, t.treas, t.joy, t.passed, ar 66, ar 67)) ?_ (fun v hv => ?_)
    · rw [e1]; exact ⟨_, rfl, rfl⟩
    subst hv
    refine zOk.bind (P := fun v => v = (-1, 0, t.hour, t.oil, t.weight, t.spider, t.treas, t.joy, t.passed, sc 23, ar 13, ar 14)) ?_ (fun v hv => ?_)
    · rw [e2]; exact ⟨_, rfl, rfl⟩
    subst hv
    refine zOk.pos rfl (zOk.pure ?_)
    exact zInv_mk (E := E) (t := t) hE hc hr ht ⟨rfl, rfl, rfl, rfl, rfl, rfl, rfl, c8, c9⟩ ⟨rfl, rfl, rfl, rfl, rfl, rfl, rfl, m8, m9⟩ hnv hh hse hst htp hfp him hik
  · obtain ⟨j, rfl⟩ : ∃ j, k = j + 1 := ⟨k - 1, by omega⟩
    obtain ⟨u, hu, r1, r2⟩ := hrow j (by omega)
    obtain ⟨a0, a1, a2, a3, a4, a5, a6, a7, a8⟩ := r1
    obtain ⟨b0, b1, b2, b3, b4, b5, b6, b7, b8⟩ := r2
    have m1' : zJ j * (24 : Int32) = zJ (24 * j) := by rw [show (24 : Int32) = zJ 24 from rfl, zJ_mul, Nat.mul_comm]
    have m2' : (24 : Int32) * zJ j = zJ (24 * j) := by rw [show (24 : Int32) = zJ 24 from rfl, zJ_mul]
    have nz0 : ¬ zJ (j + 1) = (0 : Int32) := fun z => by have := (zJ_inj (a := j + 1) (b := 0) (by omega) (by omega)).1 z; omega
    refine zOk.bind (P := fun v => v = (zJ j, zJ j, u.hour, u.oil, u.weight, u.spider, u.treas, u.joy, u.passed, va_cpy (ar 36) (ar 66) (24 * j + 7) 0 7, va_cpy (ar 36) (ar 67) (24 * j + 14) 0 10)) ?_ (fun v hv => ?_)
    · rw [if_neg nz0]
      unfold fX0_takeBackAct
      rw [if_neg (show ¬ zJ (j + 1) ≤ 0 from zJ_nle (b := 0) (by omega) (by omega)), zJ_pred, m1', zc_read (by omega), a0, a1, a2, a3, a4, a5, a6]
      exact ⟨_, rfl, rfl⟩
    subst hv
    rw [if_neg nz0, zJ_pred, m2']
    obtain ⟨w, ew, Lw, Cw, rfl, hLw, hCw⟩ := zm_unpack (n0 := 960) (p := 24 * j) (P := ar 15) (h' := t.hour) (o' := t.oil) (w' := t.weight) (s' := t.spider) (tr' := t.treas) (jo' := t.joy) (pa' := t.passed) (lean' := ar 13) (call' := ar 14) (h := u.hour) (o := u.oil) (w := u.weight) (s := u.spider) (tr := u.treas) (jo := u.joy) (pa := u.passed) (lean := fun a => ar 15 (24 * j + 7 + a)) (call := fun m => ar 15 (24 * j + 14 + m)) (by omega) (by omega) ⟨b0, b1, b2, b3, b4, b5, b6, fun _ _ => rfl, fun _ _ => rfl⟩
    rw [ew]
    refine zOk.pos rfl (zOk.pure ?_)
    exact zInv_mk (E := E) (t := u) hE hc hr hu ⟨rfl, rfl, rfl, rfl, rfl, rfl, rfl, fun a ha => (zcpy_at (Nat.zero_le _) (by omega)).trans (a7 a ha), fun m hm => (zcpy_at (Nat.zero_le _) (by omega)).trans (a8 m hm)⟩ ⟨rfl, rfl, rfl, rfl, rfl, rfl, rfl, fun a ha => (hLw a (by omega)).trans (b7 a ha), fun m hm => (hCw m (by omega)).trans (b8 m hm)⟩ hnv ⟨j, by omega, rfl, rfl, fun i hi => hrow i (by omega)⟩ hse hst htp hfp him hik
theorem zst32 (h : zInv sc ar) (hx : inb (x4 + 1) L = true ∧ inb (x4 + 2) L = true ∧ inb (x4 + 3) L = true ∧ inb (x4 + 4) L = true ∧ inb (x4 + 5) L = true) : zOk (st32 L xs sc ar O x4) (fun o => zInv o.1 o.2.1) := by
  obtain ⟨E, t, hI⟩ := h
  have hJ := hI
  obtain ⟨hE, hc, hr, ht, ⟨c1, c2, c3, c4, c5, c6, c7, c8, c9⟩, ⟨m1, m2, m3, m4, m5, m6, m7, m8, m9⟩, hnv, hh, hse, hst, htp, hfp, him, hik⟩ := hI
  have h7 := hE.a7
  have h10 := hE.m10
  unfold st32
  try simp only [ck_t hx.1, ck_t hx.2.1, ck_t hx.2.2.1, ck_t hx.2.2.2.1, ck_t hx.2.2.2.2, c1, c2, c3, c4, c5, c6, c7, m1, m2, m3, m4, m5, m6, m7, hnv]
  generalize xs (x4 + 1).toNatClampNeg = p
  generalize xs (x4 + 2).toNatClampNeg = p'
  obtain ⟨k, hk, e1, e2, hrow⟩ := id hse
  rw [e1, e2]
  have no : fX8_see (zJ k) (ar 37) (ar 38) (ar 39) p p' = some (-1, zJ k, ar 37, ar 38, upd (ar 39) 2 (ar 39 2 + 1)) → fX9_see (sc 4) (zJ k) (ar 11) (ar 21) (ar 22) p p' = some (-1, 0, zJ k, upd (ar 11) 2 (ar 11 2 + 1), ar 21, ar 22) → zOk ((fX8_see (zJ k) (ar 37) (ar 38) (ar 39) p p').bind fun v3 => (fX9_see (sc 4) (zJ k) (ar 11) (ar 21) (ar 22) p p').bind fun v6 => if v3.1 = v6.1 then some ((upd (upd (upd sc 4 v6.2.1) 24 v6.2.2.1) 48 v3.2.1), (va_up (va_up (va_up (va_up (va_up (va_up ar 11 v6.2.2.2.1) 21 v6.2.2.2.2.1) 22 v6.2.2.2.2.2) 37 v3.2.2.1) 38 v3.2.2.2.1) 39 v3.2.2.2.2), O) else none) (fun o => zInv o.1 o.2.1) := by
    intro e1 e2
    refine zOk.eq e1 (zOk.eq e2 (zOk.pos rfl (zOk.pure ?_)))
    exact zInv_mk (E := E) (t := t) hE hc hr ht ⟨c1, c2, c3, c4, c5, c6, c7, c8, c9⟩ ⟨m1, m2, m3, m4, m5, m6, m7, m8, m9⟩ hnv hh ⟨k, hk, rfl, rfl, hrow⟩ (zStat_upd hst (by decide)) htp hfp him hik
  by_cases q : k = 8
  · subst q
    exact no rfl rfl
  · have n8 : ¬ (8 : Int32) ≤ zJ k := zJ_nle (a := 8) (by omega) (by omega)
    have n8' : ¬ zJ k = 8 := fun z => q ((zJ_inj (b := 8) (by omega) (by omega)).1 z)
    by_cases q1 : p < 1 ∨ 48 < p
    · have e := zin_no q1
      refine no ?_ ?_
      · unfold fX8_see; rw [if_neg n8, e.1]; rfl
      · unfold fX9_see; rw [if_neg n8']; show (fX9_isIn p.toInt64 (1 : Int32).toInt64 (48 : Int32).toInt64).bind _ = _; rw [e.2]; rfl
    · have e := zin_yes q1
      by_cases q2 : p' < -1 ∨ 24 < p'
      · have e2 := zin_no q2
        refine no ?_ ?_
        · unfold fX8_see; rw [if_neg n8, e.1, e2.1]; rfl
        · unfold fX9_see; rw [if_neg n8']; show (fX9_isIn p.toInt64 (1 : Int32).toInt64 (48 : Int32).toInt64).bind _ = _; rw [e.2]; show (fX9_isIn p'.toInt64 (-1 : Int32).toInt64 (24 : Int32).toInt64).bind _ = _; rw [e2.2]; rfl
      · have e2 := zin_yes q2
        have i8 : inb (zJ k) 8 = true := zinb (by omega) (by omega)
        have ea : fX0_addSeen (zJ k) (ar 37) (ar 38) p p' = some (zJ (k + 1), upd (ar 37) k p, upd (ar 38) k p') := by
          unfold fX0_addSeen
          rw [if_neg (zJ_nn (by omega)), if_neg n8, ck_t i8, ck_t i8, zJ_ix (by omega), zJ_succ]
        have e3 : fX8_see (zJ k) (ar 37) (ar 38) (ar 39) p p' = some (zJ (k + 1), zJ (k + 1), upd (ar 37) k p, upd (ar 38) k p', ar 39) := by
          unfold fX8_see; rw [if_neg n8, e.1, e2.1, ea]; rfl
        have e4 : fX9_see (sc 4) (zJ k) (ar 11) (ar 21) (ar 22) p p' = some (zJ (k + 1), 0, zJ (k + 1), ar 11, upd (ar 21) k p, upd (ar 22) k p') := by
          unfold fX9_see; rw [if_neg n8']; show (fX9_isIn p.toInt64 (1 : Int32).toInt64 (48 : Int32).toInt64).bind _ = _; rw [e.2]; show (fX9_isIn p'.toInt64 (-1 : Int32).toInt64 (24 : Int32).toInt64).bind _ = _; rw [e2.2]
          show ck (inb (zJ k) 8) _ = _
          rw [ck_t i8, ck_t i8, zJ_ix (by omega), zJ_succ]
        refine zOk.eq e3 (zOk.eq e4 (zOk.pos rfl (zOk.pure ?_)))
        obtain ⟨pn, hpn, rfl⟩ := zof_le (x := p) (k := 48) (by grind) (by omega) (by show p ≤ 48; grind)
        have hp1 : 1 ≤ pn := (zJ_le (a := 1) (by omega) (by omega)).1 (Int32.not_lt.1 (fun z => q1 (Or.inl z)))
        refine zInv_mk (E := E) (t := t) hE hc hr ht ⟨c1, c2, c3, c4, c5, c6, c7, c8, c9⟩ ⟨m1, m2, m3, m4, m5, m6, m7, m8, m9⟩ hnv hh ⟨k + 1, by omega, rfl, rfl, fun i hi => ?_⟩ hst htp hfp him hik
        show upd (ar 21) k (zJ pn) i = upd (ar 37) k (zJ pn) i ∧ upd (ar 22) k p' i = upd (ar 38) k p' i ∧ (∃ q, 1 ≤ q ∧ q ≤ 48 ∧ upd (ar 37) k (zJ pn) i = zJ q) ∧ -1 ≤ upd (ar 38) k p' i ∧ upd (ar 38) k p' i ≤ 24
        by_cases z : i = k
        · subst z
          simp only [zupd_eq]
          exact ⟨trivial, trivial, ⟨pn, hp1, hpn, rfl⟩, by grind, by grind⟩
        · simp only [zupd_ne z]
          exact hrow i (by omega)
end
