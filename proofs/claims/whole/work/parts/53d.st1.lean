/-! ===== pure: borough keeps what holds ===== -/
theorem zTake {h o w s tr jo pa ac se im : Int32} {t lt df kd cq cs ps bh sS sV le0 ca0 : Nat → Int32} {nA nM : Nat} (hA : nA ≤ 7) (hM : nM ≤ 10) (e10 : t 10 = zJ nA) (e11 : t 11 = zJ nM) : ∃ t1 lt1 df1 kd1 cq1 cs1 ps1 bh1 sS1 sV1 le1 ca1, fX9_takeOver h o w s tr jo pa ac se im t lt df kd cq cs ps bh sS sV le0 ca0 = some (0, t1 0, t1 1, 0, t1 2, 0, 0, 0, 0, 0, t1, lt1, df1, kd1, cq1, cs1, ps1, bh1, sS1, sV1, le1, ca1) ∧ (∀ j, j < 7 → t1 j = t (7 + j)) ∧ (∀ j, j < 7 → lt1 j = lt (7 + j)) ∧ (∀ j, j < 7 → df1 j = df (7 + j)) ∧ (∀ j, j < 10 → kd1 j = kd (10 + j)) ∧ (∀ j, j < 10 → cq1 j = cq (10 + j)) ∧ (∀ j, j < 10 → cs1 j = cs (10 + j)) ∧ (∀ j, j < 10 → ps1 j = ps (10 + j)) ∧ (∀ j, j < 10 → bh1 j = bh (10 + j)) ∧ (∀ j, j < 700 → sS1 j = sS (700 + j)) ∧ (∀ j, j < 700 → sV1 j = sV (700 + j)) ∧ (∀ j, j < nA → le1 j = lt1 j) ∧ (∀ j, j < nM → ca1 j = cq1 j) := by
  obtain ⟨t1, a1, b1⟩ := ztake7 (P := t)
  obtain ⟨lt1, a2, b2⟩ := ztake7 (P := lt)
  obtain ⟨df1, a3, b3⟩ := ztake7 (P := df)
  obtain ⟨kd1, a4, b4⟩ := ztake10 (P := kd)
  obtain ⟨cq1, a5, b5⟩ := ztake10 (P := cq)
  obtain ⟨cs1, a6, b6⟩ := ztake10 (P := cs)
  obtain ⟨ps1, a7, b7⟩ := ztake10 (P := ps)
  obtain ⟨bh1, a8, b8⟩ := ztake10 (P := bh)
  obtain ⟨sS1, a9, b9⟩ := ztake700 (P := sS)
  obtain ⟨sV1, a10, b10⟩ := ztake700 (P := sV)
  have l : zOk (lX9_takeOver_122 (fun le1 => lX9_takeOver_162 (fun ca1 => some (0, t1 0, t1 1, 0, t1 2, 0, 0, 0, 0, 0, t1, lt1, df1, kd1, cq1, cs1, ps1, bh1, sS1, sV1, le1, ca1)) t1 cq1 FU ca0 0) t1 lt1 FU le0 0) (fun o => ∃ le1 ca1, o = (0, t1 0, t1 1, 0, t1 2, 0, 0, 0, 0, 0, t1, lt1, df1, kd1, cq1, cs1, ps1, bh1, sS1, sV1, le1, ca1) ∧ (∀ j, j < nA → le1 j = lt1 j) ∧ (∀ j, j < nM → ca1 j = cq1 j)) := by
    refine ztakeL hA ((b1 3 (by omega)).trans e10) 7 0 FU le0 (by omega) (by unfold FU; omega) (fun j hj => by omega) (fun le1 h1 => ?_)
    refine ztakeC hM ((b1 4 (by omega)).trans e11) 10 0 FU ca0 (by omega) (by unfold FU; omega) (fun j hj => by omega) (fun ca1 h2 => ⟨_, rfl, le1, ca1, rfl, h1, h2⟩)
  obtain ⟨o, eo, le1, ca1, rfl, h1, h2⟩ := l
  refine ⟨t1, lt1, df1, kd1, cq1, cs1, ps1, bh1, sS1, sV1, le1, ca1, ?_, b1, b2, b3, b4, b5, b6, b7, b8, b9, b10, h1, h2⟩
  unfold fX9_takeOver
  refine zBind a1 (zBind a2 (zBind a3 (zBind a4 (zBind a5 (zBind a6 (zBind a7 (zBind a8 (zBind a9 (zBind a10 ?_)))))))))
  rw [ck_t (by decide), ck_t (by decide), ck_t (by decide)]
  exact eo
theorem zst1 {L : Nat} {xs : Nat → Int32} {sc : Nat → Int32} {ar : Nat → Nat → Int32} {O : Nat → Int64} {x4 : Int32} (h : zInv sc ar) (hx : inb (x4 + 1) L = true ∧ inb (x4 + 2) L = true ∧ inb (x4 + 3) L = true ∧ inb (x4 + 4) L = true ∧ inb (x4 + 5) L = true) : zOk (st1 L xs sc ar O x4) (fun o => zInv o.1 o.2.1) := by
  obtain ⟨E, t, hE, hc, hr, ht, hT, hM, hnv, hh, hse, hst, htp, hfp, him, hik⟩ := h
  have h7 := hE.a7
  have h10 := hE.m10
  have hs7 := hr.says.1
  have hv7 := hr.votes.1
  unfold st1
  refine zOk.ck hx.1 ?_
  generalize xs (x4 + 1).toNatClampNeg = a
  obtain ⟨K, hK7, ek, ek', hby⟩ := id htp
  have n1 : ¬ (1 : Int32) = 0 := by decide
  by_cases qa : a < 0 ∨ sc 0 < a
  · have e8 : fX8_borough (sc 0) (sc 1) (sc 2) (ar 0) (sc 34) (sc 35) (sc 36) (sc 37) (sc 38) (sc 39) (sc 40) (sc 41) (sc 42) (sc 43) (sc 44) (sc 45) (sc 46) (ar 35) (sc 47) (sc 48) (ar 39) (sc 51) (sc 52) (sc 53) (sc 54) (sc 55) (sc 56) (ar 46) (ar 47) (ar 48) (ar 49) (ar 50) (ar 51) (ar 52) (ar 53) (ar 54) (ar 55) (sc 57) (sc 58) (sc 59) (sc 60) (sc 61) (sc 62) (ar 56) (ar 57) (ar 58) (ar 59) (ar 60) (ar 61) (ar 62) (ar 63) (ar 64) (ar 65) (sc 63) (sc 64) (sc 65) (sc 66) (sc 67) (sc 68) (sc 69) (ar 66) (ar 67) a = some (Sum.inl 2, (sc 0), (sc 1), (sc 2), (sc 34), (sc 35), (sc 36), (sc 37), (sc 38), (sc 39), (sc 40), (sc 41), (sc 42), (sc 43), (sc 44), (sc 45), (sc 46), (ar 35), (sc 47), (sc 48), (ar 39), (sc 51), (sc 52), (sc 53), (sc 54), (sc 55), (sc 56), (ar 46), (ar 47), (ar 48), (ar 49), (ar 50), (ar 51), (ar 52), (ar 53), (ar 54), (ar 55), (sc 57), (sc 58), (sc 59), (sc 60), (sc 61), (sc 62), (ar 56), (ar 57), (ar 58), (ar 59), (ar 60), (ar 61), (ar 62), (ar 63), (ar 64), (ar 65), (sc 63), (sc 64), (sc 65), (sc 66), (sc 67), (sc 68), (sc 69), (ar 66), (ar 67)) := by
      unfold fX8_borough
      by_cases q : a < 0
      · rw [if_pos q]
      · rw [if_neg q, if_neg (Int32.not_le.2 (qa.resolve_left q))]
    have e9 : fX9_borough (sc 3) (sc 4) (sc 5) (sc 6) (sc 7) (sc 8) (sc 9) (sc 10) (sc 11) (sc 12) (sc 13) (sc 14) (sc 15) (sc 16) (sc 17) (sc 18) (sc 19) (sc 20) (sc 21) (sc 22) (sc 23) (sc 24) (sc 30) (ar 1) (ar 2) (ar 3) (ar 4) (ar 5) (ar 6) (ar 7) (ar 8) (ar 9) (ar 10) (ar 11) (ar 12) (ar 13) (ar 14) a = some (0, (sc 3), 1, (sc 5), (sc 6), (sc 7), (sc 8), (sc 9), (sc 10), (sc 11), (sc 12), (sc 13), (sc 14), (sc 15), (sc 16), (sc 17), (sc 18), (sc 19), (sc 20), (sc 21), (sc 22), (sc 23), (sc 24), (sc 30), (ar 1), (ar 2), (ar 3), (ar 4), (ar 5), (ar 6), (ar 7), (ar 8), (ar 9), (ar 10), (ar 11), (ar 13), (ar 14)) := by
      unfold fX9_borough
      by_cases q : a < 0
      · rw [if_pos q]; rfl
      · rw [if_neg q, if_neg (Int32.not_le.2 (by rw [ek', ← ek]; exact qa.resolve_left q))]; rfl
    have e8' : fL_borough O (sc 0) (sc 1) (sc 2) (ar 0) (sc 34) (sc 35) (sc 36) (sc 37) (sc 38) (sc 39) (sc 40) (sc 41) (sc 42) (sc 43) (sc 44) (sc 45) (sc 46) (ar 35) (sc 47) (sc 48) (ar 39) (sc 51) (sc 52) (sc 53) (sc 54) (sc 55) (sc 56) (ar 46) (ar 47) (ar 48) (ar 49) (ar 50) (ar 51) (ar 52) (ar 53) (ar 54) (ar 55) (sc 57) (sc 58) (sc 59) (sc 60) (sc 61) (sc 62) (ar 56) (ar 57) (ar 58) (ar 59) (ar 60) (ar 61) (ar 62) (ar 63) (ar 64) (ar 65) (sc 63) (sc 64) (sc 65) (sc 66) (sc 67) (sc 68) (sc 69) (ar 66) (ar 67) a = some (1, O, (sc 0), (sc 1), (sc 2), (sc 34), (sc 35), (sc 36), (sc 37), (sc 38), (sc 39), (sc 40), (sc 41), (sc 42), (sc 43), (sc 44), (sc 45), (sc 46), (ar 35), (sc 47), (sc 48), (ar 39), (sc 51), (sc 52), (sc 53), (sc 54), (sc 55), (sc 56), (ar 46), (ar 47), (ar 48), (ar 49), (ar 50), (ar 51), (ar 52), (ar 53), (ar 54), (ar 55), (sc 57), (sc 58), (sc 59), (sc 60), (sc 61), (sc 62), (ar 56), (ar 57), (ar 58), (ar 59), (ar 60), (ar 61), (ar 62), (ar 63), (ar 64), (ar 65), (sc 63), (sc 64), (sc 65), (sc 66), (sc 67), (sc 68), (sc 69), (ar 66), (ar 67)) := by
      unfold fL_borough
      exact zBind e8 rfl
    refine zOk.eq e8' (zOk.ck hx.1 (zOk.eq e9 (zOk.eq rfl (zOk.pos rfl (zOk.neg n1 (zOk.pure ?_))))))
    exact zInv_mk (E := E) (t := t) hE hc hr ht hT hM hnv hh hse hst htp hfp him hik
  · obtain ⟨n, hnK, rfl⟩ : ∃ n, n ≤ K ∧ a = zJ n := by
      have q1 : ¬ a < 0 := fun z => qa (Or.inl z)
      have q2 : a ≤ zJ K := by rw [← ek]; exact Int32.not_lt.1 (fun z => qa (Or.inr z))
      obtain ⟨i, hi, e⟩ := zof_le (x := a) (k := K) (Int32.not_lt.1 q1) (by omega) q2
      exact ⟨i, hi, e⟩
    obtain ⟨oc, om, e8, e9, fr, e3⟩ := zBor (sc := sc) (ar := ar) (n := n) (by omega) ek ek' hnK hK7 (fun i hi => zby_of (hby i (by omega)))
    rcases e3 with ⟨z1, z2, z3, z4⟩ | ⟨z1, z2, p1, hp1, D1, D2, D3, D4⟩
    · rw [if_neg z1] at e8
      have e8' : fL_borough O (sc 0) (sc 1) (sc 2) (ar 0) (sc 34) (sc 35) (sc 36) (sc 37) (sc 38) (sc 39) (sc 40) (sc 41) (sc 42) (sc 43) (sc 44) (sc 45) (sc 46) (ar 35) (sc 47) (sc 48) (ar 39) (sc 51) (sc 52) (sc 53) (sc 54) (sc 55) (sc 56) (ar 46) (ar 47) (ar 48) (ar 49) (ar 50) (ar 51) (ar 52) (ar 53) (ar 54) (ar 55) (sc 57) (sc 58) (sc 59) (sc 60) (sc 61) (sc 62) (ar 56) (ar 57) (ar 58) (ar 59) (ar 60) (ar 61) (ar 62) (ar 63) (ar 64) (ar 65) (sc 63) (sc 64) (sc 65) (sc 66) (sc 67) (sc 68) (sc 69) (ar 66) (ar 67) (zJ n) = some (0, (vp_updL O 0 oc.2.2.2.2.2.1.toInt64), 0, oc.2.2.1, (sc 2), zJ n, oc.1, oc.2.1, oc.2.2.1, oc.2.2.2.1, oc.2.2.2.2.1, oc.2.2.2.2.2.1, oc.2.2.2.2.2.2.1, oc.2.2.2.2.2.2.2.1, oc.2.2.2.2.2.2.2.2.1, oc.2.2.2.2.2.2.2.2.2.1, oc.2.2.2.2.2.2.2.2.2.2.1, oc.2.2.2.2.2.2.2.2.2.2.2.1, oc.2.2.2.2.2.2.2.2.2.2.2.2.1, (sc 47), (sc 48), (upd (ar 39) 0 ((ar 39) 0 + 1)), (sc 51), (sc 52), (sc 53), (sc 54), (sc 55), (sc 56), (ar 46), (ar 47), (ar 48), (ar 49), (ar 50), (ar 51), (ar 52), (ar 53), (ar 54), (ar 55), oc.2.2.2.2.2.2.2.2.2.2.2.2.2.1, oc.2.2.2.2.2.2.2.2.2.2.2.2.2.2.1, oc.2.2.2.2.2.2.2.2.2.2.2.2.2.2.2.1, oc.2.2.2.2.2.2.2.2.2.2.2.2.2.2.2.2.1, oc.2.2.2.2.2.2.2.2.2.2.2.2.2.2.2.2.2.1, oc.2.2.2.2.2.2.2.2.2.2.2.2.2.2.2.2.2.2.1, oc.2.2.2.2.2.2.2.2.2.2.2.2.2.2.2.2.2.2.2.1, oc.2.2.2.2.2.2.2.2.2.2.2.2.2.2.2.2.2.2.2.2.1, oc.2.2.2.2.2.2.2.2.2.2.2.2.2.2.2.2.2.2.2.2.2.1, oc.2.2.2.2.2.2.2.2.2.2.2.2.2.2.2.2.2.2.2.2.2.2.1, oc.2.2.2.2.2.2.2.2.2.2.2.2.2.2.2.2.2.2.2.2.2.2.2.1, oc.2.2.2.2.2.2.2.2.2.2.2.2.2.2.2.2.2.2.2.2.2.2.2.2.1, oc.2.2.2.2.2.2.2.2.2.2.2.2.2.2.2.2.2.2.2.2.2.2.2.2.2.1, oc.2.2.2.2.2.2.2.2.2.2.2.2.2.2.2.2.2.2.2.2.2.2.2.2.2.2.1, oc.2.2.2.2.2.2.2.2.2.2.2.2.2.2.2.2.2.2.2.2.2.2.2.2.2.2.2.1, oc.2.2.2.2.2.2.2.2.2.2.2.2.2.2.2.2.2.2.2.2.2.2.2.2.2.2.2.2, (sc 63), (sc 64), (sc 65), (sc 66), (sc 67), (sc 68), (sc 69), (ar 66), (ar 67)) := by
        unfold fL_borough
        exact zBind e8 rfl
      have e9' : fX9_borough (sc 3) (sc 4) (sc 5) (sc 6) (sc 7) (sc 8) (sc 9) (sc 10) (sc 11) (sc 12) (sc 13) (sc 14) (sc 15) (sc 16) (sc 17) (sc 18) (sc 19) (sc 20) (sc 21) (sc 22) (sc 23) (sc 24) (sc 30) (ar 1) (ar 2) (ar 3) (ar 4) (ar 5) (ar 6) (ar 7) (ar 8) (ar 9) (ar 10) (ar 11) (ar 12) (ar 13) (ar 14) (zJ n) = some (om.2.2.2.2.2.2.2.1, om.2.1, 0, 0, om.2.2.1, zJ n, om.2.2.2.1, om.2.2.2.2.1, om.2.2.2.2.2.1, om.2.2.2.2.2.2.1, om.2.2.2.2.2.2.2.1, om.2.2.2.2.2.2.2.2.1, om.2.2.2.2.2.2.2.2.1, om.2.2.2.2.2.2.2.2.2.1, (sc 16), (sc 17), (sc 18), (sc 19), (sc 20), (sc 21), (sc 22), (sc 23), (sc 24), (sc 30), om.2.2.2.2.2.2.2.2.2.2.1, om.2.2.2.2.2.2.2.2.2.2.2.1, om.2.2.2.2.2.2.2.2.2.2.2.2.1, om.2.2.2.2.2.2.2.2.2.2.2.2.2.1, om.2.2.2.2.2.2.2.2.2.2.2.2.2.2.1, om.2.2.2.2.2.2.2.2.2.2.2.2.2.2.2.1, om.2.2.2.2.2.2.2.2.2.2.2.2.2.2.2.2.1, om.2.2.2.2.2.2.2.2.2.2.2.2.2.2.2.2.2.1, om.2.2.2.2.2.2.2.2.2.2.2.2.2.2.2.2.2.2.1, om.2.2.2.2.2.2.2.2.2.2.2.2.2.2.2.2.2.2.2, (upd (ar 11) 0 ((ar 11) 0 + 1)), (ar 13), (ar 14)) := by
        refine e9.trans ?_
        dsimp only
        unfold jX9_borough_130
        rw [if_neg (by rw [z2]; exact z1), ck_t (by decide), ck_t (by decide)]
        rfl
      refine zOk.eq e8' (zOk.ck hx.1 (zOk.eq e9' (zOk.eq rfl (zOk.pos rfl (zOk.pos rfl (zOk.pos ?_ (zOk.pure ?_)))))))
      · show lg_cmp (vp_updL O 0 oc.2.2.2.2.2.1.toInt64 0) om.2.2.2.2.2.2.2.1.toInt64 = 0
        rw [z2]; exact zlgO
      · have hr' : zRef E om.2.2.2.2.2.2.2.2.2.2.1 om.2.2.2.2.2.2.2.2.2.2.2.2.1 om.2.2.2.2.2.2.2.2.2.2.2.2.2.1 om.2.2.2.2.2.2.2.2.2.2.2.2.2.2.2.1 om.2.2.2.2.2.2.2.2.2.2.2.2.2.2.2.2.1 om.2.2.2.2.2.2.2.2.2.2.2.2.2.2.2.2.2.1 om.2.2.2.2.2.2.2.2.2.2.2.2.2.2.2.2.2.2.1 om.2.2.2.2.2.2.2.2.2.2.2.2.2.2.2.2.2.2.2 := ⟨((fr.1 3 (by omega)).1).trans hr.1, ((fr.1 4 (by omega)).1).trans hr.2.1, ((fr.1 5 (by omega)).1).trans hr.2.2.1, ((fr.1 6 (by omega)).1).trans hr.2.2.2.1, fun a ha => ((fr.1 a (by omega)).2.2).trans (hr.2.2.2.2.1 a ha), fun a ha => ((fr.2.1 a (by omega)).1).trans (hr.2.2.2.2.2.1 a ha), fun a ha => ((fr.2.1 a (by omega)).2.2.1).trans (hr.2.2.2.2.2.2.1 a ha), fun a ha => ((fr.2.1 a (by omega)).2.2.2.1).trans (hr.2.2.2.2.2.2.2.1 a ha), fun a ha => ((fr.2.1 a (by omega)).2.2.2.2).trans (hr.2.2.2.2.2.2.2.2.1 a ha), ⟨hs7, zAt_cong (fun j hj => (fr.2.2 j hj).1) _ 0 (by rw [List.length_map]; omega) hr.says.2⟩, ⟨hv7, zAt_cong (fun j hj => (fr.2.2 j hj).2) _ 0 (by rw [List.length_map]; omega) hr.votes.2⟩⟩
        exact zInv_mk (E := E) (t := t) hE hc hr' ht hT hM hnv hh hse (zStat_upd hst (by omega)) ⟨0, by omega, rfl, rfl, fun i hi => by omega⟩ z3 him hik
    · rw [if_pos z1] at e8
      have e8' : fL_borough O (sc 0) (sc 1) (sc 2) (ar 0) (sc 34) (sc 35) (sc 36) (sc 37) (sc 38) (sc 39) (sc 40) (sc 41) (sc 42) (sc 43) (sc 44) (sc 45) (sc 46) (ar 35) (sc 47) (sc 48) (ar 39) (sc 51) (sc 52) (sc 53) (sc 54) (sc 55) (sc 56) (ar 46) (ar 47) (ar 48) (ar 49) (ar 50) (ar 51) (ar 52) (ar 53) (ar 54) (ar 55) (sc 57) (sc 58) (sc 59) (sc 60) (sc 61) (sc 62) (ar 56) (ar 57) (ar 58) (ar 59) (ar 60) (ar 61) (ar 62) (ar 63) (ar 64) (ar 65) (sc 63) (sc 64) (sc 65) (sc 66) (sc 67) (sc 68) (sc 69) (ar 66) (ar 67) (zJ n) = some (0, (vp_updL O 0 (0 : Int32).toInt64), 0, (-1), 0, zJ n, oc.1, oc.2.1, oc.2.2.1, oc.2.2.2.1, oc.2.2.2.2.1, oc.2.2.2.2.2.1, oc.2.2.2.2.2.2.1, oc.2.2.2.2.2.2.2.1, oc.2.2.2.2.2.2.2.2.1, oc.2.2.2.2.2.2.2.2.2.1, oc.2.2.2.2.2.2.2.2.2.2.1, oc.2.2.2.2.2.2.2.2.2.2.2.1, oc.2.2.2.2.2.2.2.2.2.2.2.2.1, 0, 0, (ar 39), oc.2.2.2.2.2.2.2.2.2.2.2.2.2.1, oc.2.2.2.2.2.2.2.2.2.2.2.2.2.2.1, oc.2.2.2.2.2.2.2.2.2.2.2.2.2.2.2.1, oc.2.2.2.2.2.2.2.2.2.2.2.2.2.2.2.2.1, oc.2.2.2.2.2.2.2.2.2.2.2.2.2.2.2.2.2.1, oc.2.2.2.2.2.2.2.2.2.2.2.2.2.2.2.2.2.2.1, (va_cpy oc.2.2.2.2.2.2.2.2.2.2.2.2.2.2.2.2.2.2.2.1 (ar 46) (0 : Int32).toNatClampNeg (0 : Int32).toNatClampNeg (7 : Int32).toNatClampNeg), (va_cpy oc.2.2.2.2.2.2.2.2.2.2.2.2.2.2.2.2.2.2.2.2.1 (ar 47) (0 : Int32).toNatClampNeg (0 : Int32).toNatClampNeg (7 : Int32).toNatClampNeg), (va_cpy oc.2.2.2.2.2.2.2.2.2.2.2.2.2.2.2.2.2.2.2.2.2.1 (ar 48) (0 : Int32).toNatClampNeg (0 : Int32).toNatClampNeg (10 : Int32).toNatClampNeg), (va_cpy oc.2.2.2.2.2.2.2.2.2.2.2.2.2.2.2.2.2.2.2.2.2.2.1 (ar 49) (0 : Int32).toNatClampNeg (0 : Int32).toNatClampNeg (10 : Int32).toNatClampNeg), (va_cpy oc.2.2.2.2.2.2.2.2.2.2.2.2.2.2.2.2.2.2.2.2.2.2.2.1 (ar 50) (0 : Int32).toNatClampNeg (0 : Int32).toNatClampNeg (10 : Int32).toNatClampNeg), (va_cpy oc.2.2.2.2.2.2.2.2.2.2.2.2.2.2.2.2.2.2.2.2.2.2.2.2.1 (ar 51) (0 : Int32).toNatClampNeg (0 : Int32).toNatClampNeg (10 : Int32).toNatClampNeg), (va_cpy oc.2.2.2.2.2.2.2.2.2.2.2.2.2.2.2.2.2.2.2.2.2.2.2.2.2.1 (ar 52) (0 : Int32).toNatClampNeg (0 : Int32).toNatClampNeg (10 : Int32).toNatClampNeg), (va_cpy oc.2.2.2.2.2.2.2.2.2.2.2.2.2.2.2.2.2.2.2.2.2.2.2.2.2.2.1 (ar 53) (0 : Int32).toNatClampNeg (0 : Int32).toNatClampNeg (700 : Int32).toNatClampNeg), (va_cpy oc.2.2.2.2.2.2.2.2.2.2.2.2.2.2.2.2.2.2.2.2.2.2.2.2.2.2.2.1 (ar 54) (0 : Int32).toNatClampNeg (0 : Int32).toNatClampNeg (2 : Int32).toNatClampNeg), (va_cpy oc.2.2.2.2.2.2.2.2.2.2.2.2.2.2.2.2.2.2.2.2.2.2.2.2.2.2.2.2 (ar 55) (0 : Int32).toNatClampNeg (0 : Int32).toNatClampNeg (2 : Int32).toNatClampNeg), oc.2.2.2.2.2.2.2.2.2.2.2.2.2.1, oc.2.2.2.2.2.2.2.2.2.2.2.2.2.2.1, oc.2.2.2.2.2.2.2.2.2.2.2.2.2.2.2.1, oc.2.2.2.2.2.2.2.2.2.2.2.2.2.2.2.2.1, oc.2.2.2.2.2.2.2.2.2.2.2.2.2.2.2.2.2.1, oc.2.2.2.2.2.2.2.2.2.2.2.2.2.2.2.2.2.2.1, oc.2.2.2.2.2.2.2.2.2.2.2.2.2.2.2.2.2.2.2.1, oc.2.2.2.2.2.2.2.2.2.2.2.2.2.2.2.2.2.2.2.2.1, oc.2.2.2.2.2.2.2.2.2.2.2.2.2.2.2.2.2.2.2.2.2.1, oc.2.2.2.2.2.2.2.2.2.2.2.2.2.2.2.2.2.2.2.2.2.2.1, oc.2.2.2.2.2.2.2.2.2.2.2.2.2.2.2.2.2.2.2.2.2.2.2.1, oc.2.2.2.2.2.2.2.2.2.2.2.2.2.2.2.2.2.2.2.2.2.2.2.2.1, oc.2.2.2.2.2.2.2.2.2.2.2.2.2.2.2.2.2.2.2.2.2.2.2.2.2.1, oc.2.2.2.2.2.2.2.2.2.2.2.2.2.2.2.2.2.2.2.2.2.2.2.2.2.2.1, oc.2.2.2.2.2.2.2.2.2.2.2.2.2.2.2.2.2.2.2.2.2.2.2.2.2.2.2.1, oc.2.2.2.2.2.2.2.2.2.2.2.2.2.2.2.2.2.2.2.2.2.2.2.2.2.2.2.2, 0, oc.2.2.2.2.2.2.2.2.2.2.2.2.2.1, oc.2.2.2.2.2.2.2.2.2.2.2.2.2.2.1, 0, oc.2.2.2.2.2.2.2.2.2.2.2.2.2.2.2.1, 0, 0, (va_cpy (va_cpy oc.2.2.2.2.2.2.2.2.2.2.2.2.2.2.2.2.2.2.2.1 (ar 46) (0 : Int32).toNatClampNeg (0 : Int32).toNatClampNeg (7 : Int32).toNatClampNeg) (ar 66) (0 : Int32).toNatClampNeg (0 : Int32).toNatClampNeg (7 : Int32).toNatClampNeg), (va_cpy (va_cpy oc.2.2.2.2.2.2.2.2.2.2.2.2.2.2.2.2.2.2.2.2.2.2.1 (ar 49) (0 : Int32).toNatClampNeg (0 : Int32).toNatClampNeg (10 : Int32).toNatClampNeg) (ar 67) (0 : Int32).toNatClampNeg (0 : Int32).toNatClampNeg (10 : Int32).toNatClampNeg)) := by
        unfold fL_borough
        exact zBind e8 rfl
      obtain ⟨_, ⟨xo, o1, o2, o3⟩, ⟨xw, w1, w2, w3⟩, ⟨xt, t1', t2', t3'⟩⟩ := D1
      obtain ⟨nA, A1, A2, A3, A4⟩ := D2
      obtain ⟨nM, M1, M2, M3, M4⟩ := D3
      obtain ⟨base, LS, LV, U1, U2, ⟨⟨f0, i1, i2, i3, i4⟩, i5, i6, i7, i8⟩, ⟨⟨f1, j1, j2, j3, j4⟩, j5, j6, j7, j8⟩, U5⟩ := D4
      obtain ⟨t1, lt1, df1, kd1, cq1, cs1, ps1, bh1, sS1, sV1, le1, ca1, eT, g1, g2, g3, g4, g5, g6, g7, g8, g9, g10, g11, g12⟩ := zTake (h := sc 16) (o := sc 17) (w := sc 18) (s := sc 19) (tr := sc 20) (jo := sc 21) (pa := sc 22) (ac := sc 23) (se := sc 24) (im := sc 30) (le0 := ar 13) (ca0 := ar 14) (lt := om.2.2.2.2.2.2.2.2.2.2.2.1) (df := om.2.2.2.2.2.2.2.2.2.2.2.2.1) (kd := om.2.2.2.2.2.2.2.2.2.2.2.2.2.1) (cq := om.2.2.2.2.2.2.2.2.2.2.2.2.2.2.1) (cs := om.2.2.2.2.2.2.2.2.2.2.2.2.2.2.2.1) (ps := om.2.2.2.2.2.2.2.2.2.2.2.2.2.2.2.2.1) (bh := om.2.2.2.2.2.2.2.2.2.2.2.2.2.2.2.2.2.1) (sS := om.2.2.2.2.2.2.2.2.2.2.2.2.2.2.2.2.2.2.1) (sV := om.2.2.2.2.2.2.2.2.2.2.2.2.2.2.2.2.2.2.2) A1 M1 A3 M3
      have e9' : fX9_borough (sc 3) (sc 4) (sc 5) (sc 6) (sc 7) (sc 8) (sc 9) (sc 10) (sc 11) (sc 12) (sc 13) (sc 14) (sc 15) (sc 16) (sc 17) (sc 18) (sc 19) (sc 20) (sc 21) (sc 22) (sc 23) (sc 24) (sc 30) (ar 1) (ar 2) (ar 3) (ar 4) (ar 5) (ar 6) (ar 7) (ar 8) (ar 9) (ar 10) (ar 11) (ar 12) (ar 13) (ar 14) (zJ n) = some (0, om.2.1, 0, 0, om.2.2.1, zJ n, om.2.2.2.1, om.2.2.2.2.1, om.2.2.2.2.2.1, om.2.2.2.2.2.2.1, om.2.2.2.2.2.2.2.1, om.2.2.2.2.2.2.2.2.1, (-1), om.2.2.2.2.2.2.2.2.2.1, 0, t1 0, t1 1, 0, t1 2, 0, 0, 0, 0, 0, t1, lt1, df1, kd1, cq1, cs1, ps1, bh1, sS1, sV1, (ar 11), le1, ca1) := by
        refine e9.trans ?_
        dsimp only
        unfold jX9_borough_130
        rw [if_pos z2]
        exact zBind eT rfl
      refine zOk.eq e8' (zOk.ck hx.1 (zOk.eq e9' (zOk.eq rfl (zOk.pos rfl (zOk.pos rfl (zOk.pos ?_ (zOk.pure ?_)))))))
      · show lg_cmp (vp_updL O 0 (0 : Int32).toInt64 0) (0 : Int32).toInt64 = 0
        exact zlgO
      · have hE' : zEok (zE.mk nA nM oc.2.2.2.2.2.2.2.2.2.2.2.2.2.2.2.2.2.2.2.2.1 oc.2.2.2.2.2.2.2.2.2.2.2.2.2.2.2.2.2.2.2.2.2.1 oc.2.2.2.2.2.2.2.2.2.2.2.2.2.2.2.2.2.2.2.2.2.2.2.1 oc.2.2.2.2.2.2.2.2.2.2.2.2.2.2.2.2.2.2.2.2.2.2.2.2.1 oc.2.2.2.2.2.2.2.2.2.2.2.2.2.2.2.2.2.2.2.2.2.2.2.2.2.1 LS LV) := ⟨A1, M1, fun a ha => (A4 a ha).2.2, fun m hm => (M4 m hm).1.2, fun m hm => (M4 m hm).2.2.1.2, fun m hm => (M4 m hm).2.2.2.1.2, fun m hm => (M4 m hm).2.2.2.2.2, i5, i6 rfl, j5⟩
        have hc' : zCls (zE.mk nA nM oc.2.2.2.2.2.2.2.2.2.2.2.2.2.2.2.2.2.2.2.2.1 oc.2.2.2.2.2.2.2.2.2.2.2.2.2.2.2.2.2.2.2.2.2.1 oc.2.2.2.2.2.2.2.2.2.2.2.2.2.2.2.2.2.2.2.2.2.2.2.1 oc.2.2.2.2.2.2.2.2.2.2.2.2.2.2.2.2.2.2.2.2.2.2.2.2.1 oc.2.2.2.2.2.2.2.2.2.2.2.2.2.2.2.2.2.2.2.2.2.2.2.2.2.1 LS LV) oc.2.2.2.2.2.2.2.2.2.2.2.2.2.2.2.2.1 oc.2.2.2.2.2.2.2.2.2.2.2.2.2.2.2.2.2.1 (va_cpy oc.2.2.2.2.2.2.2.2.2.2.2.2.2.2.2.2.2.2.2.2.1 (ar 47) (0 : Int32).toNatClampNeg (0 : Int32).toNatClampNeg (7 : Int32).toNatClampNeg) (va_cpy oc.2.2.2.2.2.2.2.2.2.2.2.2.2.2.2.2.2.2.2.2.2.1 (ar 48) (0 : Int32).toNatClampNeg (0 : Int32).toNatClampNeg (10 : Int32).toNatClampNeg) (va_cpy oc.2.2.2.2.2.2.2.2.2.2.2.2.2.2.2.2.2.2.2.2.2.2.2.1 (ar 50) (0 : Int32).toNatClampNeg (0 : Int32).toNatClampNeg (10 : Int32).toNatClampNeg) (va_cpy oc.2.2.2.2.2.2.2.2.2.2.2.2.2.2.2.2.2.2.2.2.2.2.2.2.1 (ar 51) (0 : Int32).toNatClampNeg (0 : Int32).toNatClampNeg (10 : Int32).toNatClampNeg) (va_cpy oc.2.2.2.2.2.2.2.2.2.2.2.2.2.2.2.2.2.2.2.2.2.2.2.2.2.1 (ar 52) (0 : Int32).toNatClampNeg (0 : Int32).toNatClampNeg (10 : Int32).toNatClampNeg) (va_cpy oc.2.2.2.2.2.2.2.2.2.2.2.2.2.2.2.2.2.2.2.2.2.2.2.2.2.2.1 (ar 53) (0 : Int32).toNatClampNeg (0 : Int32).toNatClampNeg (700 : Int32).toNatClampNeg) (va_cpy oc.2.2.2.2.2.2.2.2.2.2.2.2.2.2.2.2.2.2.2.2.2.2.2.2.2.2.2.1 (ar 54) (0 : Int32).toNatClampNeg (0 : Int32).toNatClampNeg (2 : Int32).toNatClampNeg) (va_cpy oc.2.2.2.2.2.2.2.2.2.2.2.2.2.2.2.2.2.2.2.2.2.2.2.2.2.2.2.2 (ar 55) (0 : Int32).toNatClampNeg (0 : Int32).toNatClampNeg (2 : Int32).toNatClampNeg) := ⟨A2, M2, fun a ha => zcpyl (show a < 7 by have : a < nA := ha; omega), fun m hm => zcpyc (show m < 10 by have : m < nM := hm; omega), fun m hm => zcpyc (show m < 10 by have : m < nM := hm; omega), fun m hm => zcpyc (show m < 10 by have : m < nM := hm; omega), fun m hm => zcpyc (show m < 10 by have : m < nM := hm; omega), ⟨f0, (zcpy2 (by omega)).trans i1, (zcpy2 (by omega)).trans i2, (show f0 + LS.length ≤ 700 by omega), zAt_cong (fun j hj => zcpyN hj) LS f0 (by omega) i4⟩, ⟨f1, (zcpy2 (by omega)).trans j1, (zcpy2 (by omega)).trans j2, (show f1 + LV.length ≤ 700 by omega), zAt_cong (fun j hj => zcpyN hj) LV f1 (by omega) j4⟩⟩
        have hr' : zRef (zE.mk nA nM oc.2.2.2.2.2.2.2.2.2.2.2.2.2.2.2.2.2.2.2.2.1 oc.2.2.2.2.2.2.2.2.2.2.2.2.2.2.2.2.2.2.2.2.2.1 oc.2.2.2.2.2.2.2.2.2.2.2.2.2.2.2.2.2.2.2.2.2.2.2.1 oc.2.2.2.2.2.2.2.2.2.2.2.2.2.2.2.2.2.2.2.2.2.2.2.2.1 oc.2.2.2.2.2.2.2.2.2.2.2.2.2.2.2.2.2.2.2.2.2.2.2.2.2.1 LS LV) t1 df1 kd1 cs1 ps1 bh1 sS1 sV1 := ⟨(g1 3 (by omega)).trans A3, (g1 4 (by omega)).trans M3, (g1 5 (by omega)).trans i7, (g1 6 (by omega)).trans j7, fun a ha => (g3 a (by have : a < nA := ha; omega)).trans (A4 a ha).2.1, fun m hm => (g4 m (by have : m < nM := hm; omega)).trans (M4 m hm).1.1, fun m hm => (g6 m (by have : m < nM := hm; omega)).trans (M4 m hm).2.2.1.1, fun m hm => (g7 m (by have : m < nM := hm; omega)).trans (M4 m hm).2.2.2.1.1, fun m hm => (g8 m (by have : m < nM := hm; omega)).trans (M4 m hm).2.2.2.2.1, ⟨(show LS.length ≤ 700 by omega), zAt_sh g9 (LS.map zcv) 0 (by rw [List.length_map]; omega) i8⟩, ⟨(show LV.length ≤ 700 by omega), zAt_sh g10 (LV.map zcv) 0 (by rw [List.length_map]; omega) j8⟩⟩
        have ht' : zTb (zE.mk nA nM oc.2.2.2.2.2.2.2.2.2.2.2.2.2.2.2.2.2.2.2.2.1 oc.2.2.2.2.2.2.2.2.2.2.2.2.2.2.2.2.2.2.2.2.2.1 oc.2.2.2.2.2.2.2.2.2.2.2.2.2.2.2.2.2.2.2.2.2.2.2.1 oc.2.2.2.2.2.2.2.2.2.2.2.2.2.2.2.2.2.2.2.2.2.2.2.2.1 oc.2.2.2.2.2.2.2.2.2.2.2.2.2.2.2.2.2.2.2.2.2.2.2.2.2.1 LS LV) 9999 (zT.mk 0 oc.2.2.2.2.2.2.2.2.2.2.2.2.2.1 oc.2.2.2.2.2.2.2.2.2.2.2.2.2.2.1 0 oc.2.2.2.2.2.2.2.2.2.2.2.2.2.2.2.1 0 0 oc.2.2.2.2.2.2.2.2.2.2.2.2.2.2.2.2.2.2.2.1 oc.2.2.2.2.2.2.2.2.2.2.2.2.2.2.2.2.2.2.2.2.2.2.1) := by
          refine ⟨⟨⟨?_, ?_⟩, ⟨?_, ?_⟩, ⟨(show (0 : Int32) ≤ 0 by decide), (show (0 : Int32) ≤ 24 by decide)⟩, ⟨?_, ?_⟩, ⟨0, Nat.two_pow_pos _, rfl⟩, fun a ha => ⟨(A4 a ha).1.2.1, (A4 a ha).1.2.2⟩, fun m hm => (M4 m hm).2.1.2⟩, (show (0 : Int32) ≤ 0 by decide), (show (0 : Int32) ≤ zJ 9999 by decide), by omega⟩
          · show 0 ≤ oc.2.2.2.2.2.2.2.2.2.2.2.2.2.1
            rw [o3]; exact zJ_yle (a := 0) (by omega) (by omega)
          · show oc.2.2.2.2.2.2.2.2.2.2.2.2.2.1 ≤ 99
            rw [o3]; exact zJ_yle (b := 99) o1 (by omega)
          · show 0 ≤ oc.2.2.2.2.2.2.2.2.2.2.2.2.2.2.1
            rw [w3]; exact zJ_yle (a := 0) (by omega) (by omega)
          · show oc.2.2.2.2.2.2.2.2.2.2.2.2.2.2.1 ≤ 99
            rw [w3]; exact zJ_yle (b := 99) w1 (by omega)
          · show 0 ≤ oc.2.2.2.2.2.2.2.2.2.2.2.2.2.2.2.1
            rw [t3']; exact zJ_yle (a := 0) (by omega) (by omega)
          · show oc.2.2.2.2.2.2.2.2.2.2.2.2.2.2.2.1 ≤ 9999
            rw [t3']; exact zJ_yle (b := 9999) (by omega) (by omega)
        refine zInv_mk (E := zE.mk nA nM oc.2.2.2.2.2.2.2.2.2.2.2.2.2.2.2.2.2.2.2.2.1 oc.2.2.2.2.2.2.2.2.2.2.2.2.2.2.2.2.2.2.2.2.2.1 oc.2.2.2.2.2.2.2.2.2.2.2.2.2.2.2.2.2.2.2.2.2.2.2.1 oc.2.2.2.2.2.2.2.2.2.2.2.2.2.2.2.2.2.2.2.2.2.2.2.2.1 oc.2.2.2.2.2.2.2.2.2.2.2.2.2.2.2.2.2.2.2.2.2.2.2.2.2.1 LS LV) (t := zT.mk 0 oc.2.2.2.2.2.2.2.2.2.2.2.2.2.1 oc.2.2.2.2.2.2.2.2.2.2.2.2.2.2.1 0 oc.2.2.2.2.2.2.2.2.2.2.2.2.2.2.2.1 0 0 oc.2.2.2.2.2.2.2.2.2.2.2.2.2.2.2.2.2.2.2.1 oc.2.2.2.2.2.2.2.2.2.2.2.2.2.2.2.2.2.2.2.2.2.2.1) hE' hc' hr' ht' ⟨rfl, rfl, rfl, rfl, rfl, rfl, rfl, fun a ha => ?_, fun m hm => ?_⟩ ⟨rfl, ?_, ?_, rfl, ?_, rfl, rfl, fun a ha => ?_, fun m hm => ?_⟩ hnv ⟨0, by omega, rfl, rfl, fun i hi => by omega⟩ ⟨0, by omega, rfl, rfl, fun i hi => by omega⟩ hst ⟨0, by omega, rfl, rfl, fun i hi => by omega⟩ rfl rfl (Or.inl rfl)
        · have ha : a < nA := ha
          exact (zcpyl (by omega)).trans (zcpyl (by omega))
        · have hm : m < nM := hm
          exact (zcpyc (by omega)).trans (zcpyc (by omega))
        · show t1 0 = oc.2.2.2.2.2.2.2.2.2.2.2.2.2.1
          rw [g1 0 (by omega), o3]; exact o2
        · show t1 1 = oc.2.2.2.2.2.2.2.2.2.2.2.2.2.2.1
          rw [g1 1 (by omega), w3]; exact w2
        · show t1 2 = oc.2.2.2.2.2.2.2.2.2.2.2.2.2.2.2.1
          rw [g1 2 (by omega), t3']; exact t2'
        · have ha : a < nA := ha
          show le1 a = oc.2.2.2.2.2.2.2.2.2.2.2.2.2.2.2.2.2.2.2.1 a
          rw [g11 a ha, g2 a (by omega)]; exact (A4 a ha).1.1
        · have hm : m < nM := hm
          show ca1 m = oc.2.2.2.2.2.2.2.2.2.2.2.2.2.2.2.2.2.2.2.2.2.2.1 m
          rw [g12 m hm, g5 m (by omega)]; exact (M4 m hm).2.1.1
