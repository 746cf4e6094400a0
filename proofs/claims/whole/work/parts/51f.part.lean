/-! ===== pure: a part, in both ===== -/
theorem zdp_1 {bd : Nat} {w : Int32} (hb : bd ≤ 39) (h : ¬ w < -6) : zdp bd [w] := by
  intro e rest he hr
  show zwf (w :: rest) e
  unfold zwf
  rw [if_neg h]
  exact ⟨by omega, hr⟩
theorem zvw : ∀ i : Fin 6, ¬ ((-1 : Int32) - zJ i.1 < -6) ∧ (i.1 < 4 → -4 ≤ (-1 : Int32) - zJ i.1) := by decide
theorem znw {v : Nat} (h : v < 10000) : ¬ zJ v < -6 ∧ -4 ≤ zJ v := by
  have h1 := zJ_toInt (n := v) (by omega)
  constructor
  · intro z
    rw [Int32.lt_iff_toInt_lt, h1] at z
    have z : (v : Int) < -6 := z
    omega
  · rw [Int32.le_iff_toInt_le, h1]
    show (-4 : Int) ≤ v
    omega
section
variable {ke : Int32 → Int32 → Int32 → Int32 → Int32 → Int32 → Int32 → Int32 → Int32 → Int32 → Int32 → (Nat → Int32) → Int32 → (Nat → Int32) → Option (Int32 × Int32 × Int32 × Int32 × Int32 × Int32 × Int32 × Int32 × Int32 × Int32 × Int32 × (Nat → Int32) × Int32 × (Nat → Int32) × (Nat → Int32) × (Nat → Int32))} {Q : Int32 × Int32 × Int32 × Int32 × Int32 × Int32 × Int32 × Int32 × Int32 × Int32 × Int32 × (Nat → Int32) × Int32 × (Nat → Int32) × (Nat → Int32) × (Nat → Int32) → Prop} {b r code0 : Nat → Int32} {n q base : Nat} {t0 s0 v0 : Nat → Int32} {rec : Int32 → Int32 → Int32 → Int32 → Int32 → Int32 → Int32 → Int32 → Int32 → Int32 → (Nat → Int32) → (Nat → Int32) → (Nat → Int32) → (Nat → Int32) → Int32 → Option zRS} {a : Nat}
theorem zm_rnum (hn : n ≤ 700) (hB : ∀ i, i < n → zBy (b i) (r i)) {p : Nat} (hp : p ≤ n) {A k m g s pl : Int32} (hs : zSyn b n p A k m g s) (hk : (zlx b n p).1 = 2) (h4 : (zlx b n p).2.2.1 - (zlx b n p).2.1 ≤ 4) {top : Nat} (ht : (zlx b n p).2.2.2 ≤ top) (htop : top < 100000) : zOk (fX9_readNumber A (zJ n) k m g s 0 pl r 0 (zJ top)) (fun o => o.1 = zJ (zlx b n p).2.2.2 ∧ zSyn b n (zlx b n p).2.2.1 o.2.1 o.2.2.1 o.2.2.2.1 o.2.2.2.2.1 o.2.2.2.2.2.1 ∧ o.2.2.2.2.2.2.1 = 0) := by
  obtain ⟨r1, r2, r3, r4, r5, r6⟩ := zlx_r (b := b) hp
  have hm := hs.2.2.1 hk h4
  have e : fX9_numberNow k m g s 0 pl 0 (zJ top) = some (zJ (zlx b n p).2.2.2, 0, pl) := by
    unfold fX9_numberNow
    rw [if_pos rfl, hs.2.1, if_pos (zrt2.2 hk), hs.2.2.2.1, hs.2.2.2.2, zJ_sub r2, if_neg (show ¬ (4 : Int32) < zJ ((zlx b n p).2.2.1 - (zlx b n p).2.1) from zJ_nlt (a := 4) h4 (by omega)), hm, if_neg (zJ_nn (by omega)), if_pos (zJ_yle ht (by omega)), if_pos rfl]
  unfold fX9_readNumber
  refine zOk.eq e (zOk.pos rfl (zOk.bind (zm_go hn hp hB hs) (fun o ho => ⟨_, rfl, rfl, ho, rfl⟩)))
theorem zm_rnum2 {p : Nat} (hp : p ≤ n) (hn : n ≤ 700) {A k m g s pl : Int32} (hs : zSyn b n p A k m g s) (hk : (zlx b n p).1 = 2) {top : Nat} (htop : top < 100000) (h : 4 < (zlx b n p).2.2.1 - (zlx b n p).2.1 ∨ ((zlx b n p).2.2.1 - (zlx b n p).2.1 ≤ 4 ∧ top < (zlx b n p).2.2.2)) : fX9_readNumber A (zJ n) k m g s 0 pl r 0 (zJ top) = some (0, A, k, m, g, s, 2, zJ (zlx b n p).2.1) := by
  obtain ⟨r1, r2, r3, r4, r5, r6⟩ := zlx_r (b := b) hp
  have f : jX9_numberNow_54 m g 0 pl = some (0, 2, zJ (zlx b n p).2.1) := by
    unfold jX9_numberNow_54 fX9_wrong
    rw [if_pos rfl, Option.bind_some, if_neg (by show ¬ (2 : Int32) = 0; decide), hs.2.2.2.1]
  have e : fX9_numberNow k m g s 0 pl 0 (zJ top) = some (0, 2, zJ (zlx b n p).2.1) := by
    unfold fX9_numberNow
    rw [if_pos rfl, hs.2.1, if_pos (zrt2.2 hk)]
    have es : s - g = zJ ((zlx b n p).2.2.1 - (zlx b n p).2.1) := by rw [hs.2.2.2.1, hs.2.2.2.2, zJ_sub r2]
    rw [es]
    rcases h with h | ⟨h4, h⟩
    · rw [if_pos (show (4 : Int32) < zJ ((zlx b n p).2.2.1 - (zlx b n p).2.1) from zJ_ylt (a := 4) h (by omega)), f]
    · have hv := zlx_v hk h4
      rw [if_neg (show ¬ (4 : Int32) < zJ ((zlx b n p).2.2.1 - (zlx b n p).2.1) from zJ_nlt (a := 4) h4 (by omega))]
      have hm := hs.2.2.1 hk h4
      rw [if_neg (by rw [hm]; exact zJ_nn (by omega)), if_neg (by rw [hm]; exact zJ_nle h (by omega)), f]
  unfold fX9_readNumber
  rw [e, Option.bind_some, if_neg (by show ¬ (2 : Int32) = 0; decide)]
theorem zm_rnum1 {p : Nat} {A k m g s pl : Int32} (hs : zSyn b n p A k m g s) (hk : (zlx b n p).1 ≠ 2) {lo top : Int32} : fX9_readNumber A (zJ n) k m g s 0 pl r lo top = some (0, A, k, m, g, s, 1, zJ (zlx b n p).2.1) := by
  have e : fX9_numberNow k m g s 0 pl lo top = some (0, 1, zJ (zlx b n p).2.1) := by
    unfold fX9_numberNow
    rw [if_pos rfl, hs.2.1, if_neg (fun z => hk (zrt2.1 z))]
    unfold fX9_wrong
    rw [if_pos rfl, Option.bind_some, if_neg (by show ¬ (1 : Int32) = 0; decide), hs.2.2.2.1]
  unfold fX9_readNumber
  rw [e, Option.bind_some, if_neg (by show ¬ (1 : Int32) = 0; decide)]
theorem zm_rnumB {A k m g s pl bad nn lo top : Int32} (h : ¬ bad = 0) : fX9_readNumber A nn k m g s bad pl r lo top = some (0, A, k, m, g, s, bad, pl) := by
  unfold fX9_readNumber fX9_numberNow
  rw [if_neg h, Option.bind_some, if_neg h]
theorem zsPart (hb : zByts b n) (hB : ∀ i, i < n → zBy (b i) (r i)) (hq : q < 2) (ha : a ≤ 5) (hrec : zSim ke Q b code0 n q base t0 s0 v0 1 (a + 1) (zFrec rec q n (a + 1) r)) (hrp : zPass (zFrec rec q n (a + 1) r)) : zSim ke Q b code0 n q base t0 s0 v0 7 a (zFPart rec q n a r) := by
  intro p s W C may m hp hs hbad hg hbase hW hWt he
  have hn := hb.1
  obtain ⟨r1, r2, r3, r4, r5, r6⟩ := zlx_r (b := b) hp
  have hW : W.length ≤ 12 * a + 11 := hW
  have he : may = 0 ∨ (zlx b n p).1 ≠ 23 := he
  have hlc : ∀ w : Int32, (C ++ [w] ++ []).length = C.length + 1 := fun w => by rw [List.append_nil, List.length_append]; rfl
  have hbad' : s.2.2.2.2.2.1 = 0 := hbad
  have one : ∀ (w : Int32) (o : zRS), zbad o = 0 → zTs b n (zlx b n p).2.2.1 o → zGs q t0 s0 v0 (C ++ [w]) o → (zlx b n p).1 ≠ 0 → ¬ w < -6 → (q = 0 → -4 ≤ w) → ((∀ may m, zCR ke Q b code0 n q base (zlx b n p).2.2.1 0 may W (C ++ [w]) a m) → zCR ke Q b code0 n q base p 1 may W C a m) → zRes ke Q b code0 n q base t0 s0 v0 7 (5 * a + zbd 7) a p W C o (zCR ke Q b code0 n q base p 1 may W C a m) := by
    intro w o c1 c2 c3 c4 c5 c6 c7
    have r5 := r5 c4
    refine Or.inr ⟨c1, ha, (zlx b n p).2.2.1, [w], [], r3, ?_, c2, ?_, fun y hy => absurd hy (by exact List.not_mem_nil), by decide, Or.inr (Nat.lt_succ_of_le (zst_le _)), ?_, ?_, c7⟩
    · show p + 1 + 0 ≤ _
      omega
    · rw [List.append_nil]; exact c3
    · rw [List.append_nil]; exact zdp_1 (by show 5 * a + 5 ≤ 39; omega) c5
    · intro z x hx
      rw [List.append_nil] at hx
      rw [List.mem_singleton.1 hx]
      exact Or.inr (c6 z)
  unfold zFPart fX9_readPart
  refine zOk.pos hbad ?_
  by_cases k2 : (zlx b n p).1 = 2
  · refine zOk.pos (by rw [hs.2.1]; exact zrt2.2 k2) ?_
    rw [hbad']
    by_cases k4 : (zlx b n p).2.2.1 - (zlx b n p).2.1 ≤ 4
    · have hv := zlx_v k2 k4
      refine zOk.bind (zm_rnum hn hB hp hs k2 k4 (top := 9999) (by omega) (by omega)) (fun o ⟨o1, o2, o3⟩ => ?_)
      rw [o3, o1]
      refine zOk.bind (zm_lay hq hg (by omega) (zcv_hi (znw hv).1).symm) (fun g hgg => ⟨_, rfl, ?_⟩)
      refine one (zJ (zlx b n p).2.2.2) _ rfl o2 hgg (by omega) (znw hv).1 (fun _ => (znw hv).2) (fun h => ?_)
      exact zc_num hb hp k2 k4 (by omega) (by omega) (h may m)
    · refine zOk.eq (zm_rnum2 hp hn hs k2 (top := 9999) (by omega) (Or.inl (by omega))) ?_
      refine zOk.eq (zm_layB (by show ¬ (2 : Int32) = 0; decide)) ⟨_, rfl, Or.inl ⟨by show ¬ (2 : Int32) = 0; decide, (zlx b n p).2.1, C, rfl, by omega, hg, fun h => ?_⟩⟩
      exact zc_f2 hb hp (by omega) (by omega) (Or.inl k2) (Or.inr ⟨k2, by omega⟩) h
  refine zOk.neg (by rw [hs.2.1]; exact fun z => k2 (zrt2.1 z)) ?_
  by_cases k12 : 12 ≤ (zlx b n p).1
  · refine zOk.pos (by rw [hs.2.1]; exact zrt1.2 k12) ?_
    have main : ∀ (f N : Nat), zvf q = f → zvb q = f + N → N ≤ 6 → (q = 0 → N ≤ 4) → zOk ((some (if f ≤ (zlx b n p).1 ∧ (zlx b n p).1 < f + N then zJ ((zlx b n p).1 - f) else -1)).bind fun v12 => if v12 = (-1) then (fX9_wrong s.2.2.2.1 s.2.2.2.2.2.1 s.2.2.2.2.2.2.1 3).bind fun v20 => jX9_readPart_56 rec s.1 (zJ n) s.2.1 s.2.2.1 s.2.2.2.1 s.2.2.2.2.1 v20.1 v20.2 (zJ q) s.2.2.2.2.2.2.2.1 s.2.2.2.2.2.2.2.2.1 s.2.2.2.2.2.2.2.2.2 r v12 else jX9_readPart_56 rec s.1 (zJ n) s.2.1 s.2.2.1 s.2.2.2.1 s.2.2.2.2.1 s.2.2.2.2.2.1 s.2.2.2.2.2.2.1 (zJ q) s.2.2.2.2.2.2.2.1 s.2.2.2.2.2.2.2.2.1 s.2.2.2.2.2.2.2.2.2 r v12) (fun o => zRes ke Q b code0 n q base t0 s0 v0 7 (5 * a + zbd 7) a p W C o (zCR ke Q b code0 n q base p 1 may W C a m)) := by
      intro f N h1 h2 h6 h04
      by_cases z : f ≤ (zlx b n p).1 ∧ (zlx b n p).1 < f + N
      · rw [if_pos z, Option.bind_some]
        refine zOk.neg (zJ_nm1 (by omega)) ?_
        unfold jX9_readPart_56
        rw [hbad']
        have hw : ¬ ((-1 : Int32) - zJ ((zlx b n p).1 - f) < -6) ∧ ((zlx b n p).1 - f < 4 → -4 ≤ (-1 : Int32) - zJ ((zlx b n p).1 - f)) := zvw ⟨(zlx b n p).1 - f, by omega⟩
        refine zOk.bind (zm_lay hq hg (by omega) (zcv_hi hw.1).symm) (fun g hgg => zOk.pos rfl (zOk.bind (zm_go hn hp hB hs) (fun v hv => ⟨_, rfl, ?_⟩)))
        refine one _ _ rfl hv hgg (by omega) hw.1 (fun q0 => hw.2 (by have := h04 q0; omega)) (fun h => ?_)
        have h := h may m
        rw [← h1] at h
        exact zc_val hb hp hq (by omega) (by omega) (by omega) (by omega) h
      · rw [if_neg z, Option.bind_some]
        refine zOk.pos rfl ?_
        unfold fX9_wrong
        rw [if_pos hbad']
        refine zOk.eq rfl ?_
        unfold jX9_readPart_56
        refine zOk.eq (zm_layB (by show ¬ (3 : Int32) = 0; decide)) (zOk.neg (by show ¬ (3 : Int32) = 0; decide) ⟨_, rfl, Or.inl ⟨by show ¬ (3 : Int32) = 0; decide, (zlx b n p).2.1, C, hs.2.2.2.1, by omega, hg, fun h => ?_⟩⟩)
        exact zc_f3 hb hp hq (by omega) k12 (by omega) he.symm (by omega) h
    rcases (show q = 0 ∨ q = 1 by omega) with z | z
    · refine zOk.pos (by rw [z]; rfl) ?_
      have e := zm_which4 (b := b) (r := r) hn hp hB
      rw [← hs.2.1, ← hs.2.2.2.1, ← hs.2.2.2.2, ← hbad'] at e
      rw [e]
      exact main 24 4 (by rw [z]; rfl) (by rw [z]; rfl) (by omega) (fun _ => by omega)
    · refine zOk.neg (by rw [z]; decide) ?_
      have e := zm_which6 (b := b) (r := r) hn hp hB
      rw [← hs.2.1, ← hs.2.2.2.1, ← hs.2.2.2.2, ← hbad'] at e
      rw [e]
      exact main 28 6 (by rw [z]; rfl) (by rw [z]; rfl) (by omega) (fun _ => by omega)
  refine zOk.neg (by rw [hs.2.1]; exact fun z => k12 (zrt1.1 z)) ?_
  rw [zJ_a1]
  have hs40 : zsgk (zJ 40) = 4 := by decide
  have hs41 : zsgk (zJ 41) = 5 := by decide
  by_cases k4 : (zlx b n p).1 = 4
  · rw [hbad']
    have r5 := r5 (by omega)
    refine zOk.bind (zm_markK hn hp hB hs (c := 40) (by omega) (by rw [hs40]; omega) (by rw [hs40]; exact k4)) (fun v ⟨hv, hv0⟩ => ?_)
    have goal1 : zCR ke Q b code0 n q base (zlx b n p).2.2.1 1 1 (0 :: W) C (a + 1) 0 → zCR ke Q b code0 n q base p 1 may W C a m := fun h => zc_opn hb hp k4 (by omega) (by omega) h
    have hl0 : ((0 : Int32) :: W).length = W.length + 1 := rfl
    refine zOk.bind (hrec (zlx b n p).2.2.1 (v.1, v.2.1, v.2.2.1, v.2.2.2.1, v.2.2.2.2.1, v.2.2.2.2.2.1, v.2.2.2.2.2.2, s.2.2.2.2.2.2.2) (0 :: W) C 1 0 r3 hv hv0 hg (by omega) (by omega) (fun x hx => by rw [← Option.some.inj hx]; decide) ⟨rfl, rfl⟩) (fun o ho => ?_)
    rcases ho with ⟨b1, S, L, b2, b3, b4, b5⟩ | ⟨b1, b0, p', C2, P2, b2, b3, b4, b5, b6, b7, b8, b9, b10, b11⟩
    · refine zOk.eq (zm_markB b1) ⟨_, rfl, Or.inl ⟨b1, S, L, b2, b3, b4, fun h => goal1 (b5 h)⟩⟩
    · have b1' : o.2.2.2.2.2.1 = 0 := b1
      rw [b1']
      have b7 : P2.length ≤ 11 := b7
      obtain ⟨u1, u2, u3, u4, u5, u6⟩ := zlx_r (b := b) b2
      have hlen : (C ++ C2).length = C.length + C2.length := List.length_append
      by_cases k5 : (zlx b n p').1 = 5
      · have u5 := u5 (by omega)
        refine zOk.bind (zm_markK hn b2 hB b4 (c := 41) (by omega) (by rw [hs41]; omega) (by rw [hs41]; exact k5)) (fun w ⟨hw, hw0⟩ => ⟨_, rfl, Or.inr ⟨hw0, ha, (zlx b n p').2.2.1, C2 ++ P2, [], u3, ?_, hw, ?_, fun y hy => absurd hy (by exact List.not_mem_nil), by decide, Or.inr (Nat.lt_succ_of_le (zst_le _)), ?_, ?_, fun h => ?_⟩⟩)
        · rw [List.length_append]
          show p + (C2.length + P2.length) + 0 ≤ _
          omega
        · rw [List.append_nil, ← List.append_assoc]; exact b5
        · rw [List.append_nil]; exact zdp_le b9 (by show 5 * a + 5 ≤ 5 * (a + 1) + 0; omega)
        · rw [List.append_nil]; exact b10
        · refine goal1 (b11 (fun may m => zc_close hb b2 k5 b6 (by omega) (by omega) (by omega) ?_))
          have := h may m
          rw [← List.append_assoc] at this
          exact this
      · refine zOk.eq (zm_markN hn b2 hB b4 (c := 41) (by omega) (by rw [hs41]; omega) (by rw [hs41]; exact k5)) ⟨_, rfl, Or.inl ⟨by show ¬ (1 : Int32) = 0; decide, (zlx b n p').2.1, C ++ C2 ++ P2, rfl, by omega, b5, fun h => goal1 (b11 (fun may m => ?_))⟩⟩
        obtain ⟨f6, f5, f4, f3, f2, f1, f0, fo⟩ := zst_f ⟨(zlx b n p').1, by omega⟩
        rcases b8 with ⟨h1, h2⟩ | h1
        · obtain ⟨P1, t, P3, e1, e2, e3⟩ := h2 (by omega)
          have hl3 : P2.length = P1.length + (P3.length + 1) := by rw [e1, List.length_append]; rfl
          have hl4 : (P3 ++ 0 :: W).length = P3.length + (W.length + 1) := by rw [List.length_append]; rfl
          rw [e1, List.append_assoc]
          exact zc_testf (P := P1) (W := P3 ++ 0 :: W) (t := t) hb b2 (f4.1 h1) e2 e3 (by omega) (by omega) (by omega) h
        · have hl3 : (P2 ++ 0 :: W).length = P2.length + (W.length + 1) := by rw [List.length_append]; rfl
          exact zc_f1b hb b2 (by omega) (by omega) (f0 (by show zst (zlx b n p').1 = 0; omega)) (Or.inl k5) (Or.inr (by omega)) h
  · rw [hbad']
    refine zOk.eq (zm_markN hn hp hB hs (c := 40) (by omega) (by rw [hs40]; omega) (by rw [hs40]; exact k4)) ?_
    have nz : ¬ (1 : Int32) = 0 := by decide
    refine zOk.eq (hrp (s.1, s.2.1, s.2.2.1, s.2.2.2.1, s.2.2.2.2.1, 1, zJ (zlx b n p).2.1, s.2.2.2.2.2.2.2) nz) ?_
    refine zOk.eq (zm_markB nz) ⟨_, rfl, Or.inl ⟨nz, (zlx b n p).2.1, C, rfl, by omega, hg, fun h => ?_⟩⟩
    exact zc_f1 hb hp (by omega) k2 k4 (by omega) h
end
