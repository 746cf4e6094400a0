/-! ===== pure: one line, in both: clock and rules ===== -/
theorem zAt_cong {c c' : Nat → Int32} {base : Nat} (h : ∀ j, j < base → c' j = c j) : ∀ (L : List Int32) (f : Nat), f + L.length ≤ base → zAt c f L → zAt c' f L
  | [], _, _, _ => trivial
  | w :: L, f, hf, ⟨h1, h2⟩ => by
    have hl : (w :: L).length = L.length + 1 := rfl
    exact ⟨by rw [h f (by omega)]; exact h1, zAt_cong h L (f + 1) (by omega) h2⟩
section
variable {b r : Nat → Int32} {n p : Nat} {pl tk st dg nm A k m g sp bp : Int32} {ct x1 x2 x3 x4 x5 vals ofv done oil wt tr al mo cl : Int32} {wa le de ki ca co jo fo cd rf rt t lt df kd cq cs ps bh sS sV : Nat → Int32}
theorem zFinB {p1 : Nat} {y3 : Int32} {t0 lt0 df0 kd0 cq0 cs0 ps0 bh0 sS0 sV0 : Nat → Int32} (hb : zByts b n) (hB : ∀ i, i < n → zBy (b i) (r i)) (hp1 : p1 ≤ n) (hs : zSyn b n p1 A k m g sp) (hk : (zlx b n p1).1 ≠ 3) (hst : st = zJ (zlx b n p1).2.1) (hp : p ≤ p1) (hf : zFr t0 lt0 df0 kd0 cq0 cs0 ps0 bh0 sS0 sV0 t lt df kd cq cs ps bh sS sV) : ∃ oc om, jX5_readLine_107 (zJ n) pl tk st dg nm 1 ct x1 x2 x3 x4 x5 b wa oil wt tr al mo cl le de ki ca co jo fo cd rf rt = some oc ∧ jX9_readLine_182 vals A (zJ n) k m g sp 0 bp ofv t lt df kd cq cs ps bh sS sV r done y3 = some om ∧ zLr b n p t0 lt0 df0 kd0 cq0 cs0 ps0 bh0 sS0 sV0 oc om := by
  have n1 : ¬ (1 : Int32) = 0 := by decide
  have s59 : zsgk (zJ 59) = 3 := by decide
  obtain ⟨r1, r2, r3, r4, r5, r6⟩ := zlx_r (b := b) hp1
  refine ⟨(pl, tk, st, dg, nm, 1, ct, x1, x2, x3, x4, x5, wa, oil, wt, tr, al, mo, cl, le, de, ki, ca, co, jo, fo, cd, rf, rt), (done ||| y3, vals, A, k, m, g, sp, 1, zJ (zlx b n p1).2.1, ofv, t, lt, df, kd, cq, cs, ps, bh, sS, sV), ?_, ?_, p1 + 1, by omega, Or.inl ⟨n1, rfl, hst.symm, _, by omega, hst⟩, hf, fun z => absurd z n1⟩
  · unfold jX5_readLine_107
    rw [if_neg n1]
    unfold jX5_readLine_127
    rw [if_neg n1]
  · unfold jX9_readLine_182
    exact zBind (zm_markN hb.1 hp1 hB hs (c := 59) (by omega) (by rw [s59]; omega) (by rw [s59]; exact hk)) rfl
theorem zLn13 (hb : zByts b n) (hB : ∀ i, i < n → zBy (b i) (r i)) (hp : p ≤ n) (h3 : zCy b n p pl tk st dg nm) (h4 : zSyn b n p A k m g sp) (hD : (zDc ct oil wt tr t ∧ zDa al le de t lt df ∧ zDm mo ki ca co jo fo t kd cq cs ps bh ∧ zDu p ct cl cd rf rt done t sS sV)) (hk : (zlx b n p).1 = 13) : ∃ oc om, fX5_readLine (zJ n) pl tk st dg nm 0 ct x1 x2 x3 x4 x5 b wa oil wt tr al mo cl le de ki ca co jo fo cd rf rt = some oc ∧ fX9_readLine vals A (zJ n) k m g sp 0 bp ofv t lt df kd cq cs ps bh sS sV r done = some om ∧ zLr b n p t lt df kd cq cs ps bh sS sV oc om := by
  obtain ⟨r1, r2, r3, r4, r5, r6⟩ := zlx_r (b := b) hp
  have hn := hb.1
  have n1 : ¬ (1 : Int32) = 0 := by decide
  have n5 : ¬ (5 : Int32) = 0 := by decide
  obtain ⟨D1, D2, D3, D4⟩ := hD
  obtain ⟨base, LS, LV, u1, u2, u3, u4, u5⟩ := D4
  obtain ⟨z1, z2, z3, z4, z5, z6, z7, z8⟩ := zdn_f (ct := ct) (LS := LS) (LV := LV)
  have ne : ∀ c : Nat, c < 100 → (zlx b n p).1 ≠ c → ¬ tk = zJ c := fun c hc h => by rw [h3.2.1]; exact zKn h (by omega) (by omega)
  have e20 : fX9_is 20 k g sp 0 r = some (if (zlx b n p).1 = 14 then 1 else 0) := by
    rw [h4.2.1, h4.2.2.2.1, h4.2.2.2.2]
    exact zm_isK hn hp hB (i := 20) (by omega)
  have tk13 : tk = 13 := by rw [h3.2.1, hk]; rfl
  by_cases c0 : ct = 0
  · obtain ⟨oa, v, w1, w2, w3, c1, c2, c3, c4, c5, c6, c7, c8⟩ := zBclock (bp := bp) (oil := oil) (wt := wt) (tr := tr) hb hB hp h3 h4
    obtain ⟨oc, om, e1, e2, e3⟩ := zFin (p := p) (p1 := p) (y3 := 1) (vals := vals) (ofv := ofv) (ct := oa.2.2.2.2.2.2.1) (x1 := x1) (x2 := x2) (x3 := x3) (x4 := x4) (x5 := x5) (wa := wa) (done := done) (oil := oa.2.2.2.2.2.2.2.1) (wt := oa.2.2.2.2.2.2.2.2.1) (tr := oa.2.2.2.2.2.2.2.2.2) (al := al) (mo := mo) (cl := cl) (le := le) (de := de) (ki := ki) (ca := ca) (co := co) (jo := jo) (fo := fo) (cd := cd) (rf := rf) (rt := rt) hb hB c6 (Nat.le_refl _) (show zFr t lt df kd cq cs ps bh sS sV (upd (upd (upd t 7 w1.1) 8 w2.1) 9 w3.1) lt df kd cq cs ps bh sS sV from ⟨fun j hj => ⟨by rw [zupd_ne (by omega), zupd_ne (by omega), zupd_ne (by omega)], rfl, rfl⟩, fun _ _ => ⟨rfl, rfl, rfl, rfl, rfl⟩, fun _ _ => ⟨rfl, rfl⟩⟩) (fun z => by
      obtain ⟨⟨y1, f1, f2, f3⟩, ⟨y2, g1, g2, g3⟩, ⟨y3, k1, k2, k3⟩⟩ := c8 z
      refine ⟨⟨Or.inr c7, ⟨y1, f1, ?_, f3⟩, ⟨y2, g1, ?_, g3⟩, ⟨y3, k1, ?_, k3⟩⟩, zDa_t D2 ?_, zDm_t D3 ?_, ?_⟩
      · rw [zupd_ne (by omega), zupd_ne (by omega), zupd_eq]; exact f2
      · rw [zupd_ne (by omega), zupd_eq]; exact g2
      · rw [zupd_eq]; exact k2
      · rw [zupd_ne (by omega), zupd_ne (by omega), zupd_ne (by omega)]
      · rw [zupd_ne (by omega), zupd_ne (by omega), zupd_ne (by omega)]
      · rw [c7]
        refine zDu_t (t := t) ⟨base, LS, LV, u1, u2, u3, u4, by rw [u5]; exact z5⟩ ?_ ?_
        · rw [zupd_ne (by omega), zupd_ne (by omega), zupd_ne (by omega)]
        · rw [zupd_ne (by omega), zupd_ne (by omega), zupd_ne (by omega)])
    refine ⟨oc, om, ?_, ?_, e3⟩
    · unfold fX5_readLine
      rw [if_pos tk13]
      rw [← c0] at c1
      exact zBind (by rw [c0] at c1 ⊢; exact c1) e1
    · rw [zm_disp hn hB hp h4, if_neg (show ¬ (15 ≤ (zlx b n p).1 ∧ (zlx b n p).1 < 18) by omega), if_pos hk]
      unfold jX9_readLine_52
      rw [if_pos (by rw [u5]; exact z1.2 c0)]
      unfold jX9_readLine_64
      rw [if_neg (by decide), if_pos rfl]
      refine zBind c2 ?_
      unfold jX9_readLine_79
      rw [if_pos rfl]
      refine zBind c3 ?_
      rw [ck_t (by decide)]
      refine zBind c4 ?_
      rw [ck_t (by decide)]
      refine zBind c5 ?_
      rw [ck_t (by decide)]
      exact e2
  · obtain ⟨oc, om, e1, e2, e3⟩ := zFin (p := p) (p1 := p) (y3 := 1) (fa := 5) (bad := 5) (bp := g) (A := A) (k := k) (m := m) (g := g) (sp := sp) (pl := pl) (tk := tk) (st := st) (dg := dg) (nm := nm) (vals := vals) (ofv := ofv) (ct := ct) (x1 := x1) (x2 := x2) (x3 := x3) (x4 := x4) (x5 := x5) (wa := wa) (done := done) (oil := oil) (wt := wt) (tr := tr) (al := al) (mo := mo) (cl := cl) (le := le) (de := de) (ki := ki) (ca := ca) (co := co) (jo := jo) (fo := fo) (cd := cd) (rf := rf) (rt := rt) hb hB (Or.inl ⟨n5, rfl, by rw [h4.2.2.2.1, h3.2.2.1], _, (by omega : (zlx b n p).2.1 ≤ n), h3.2.2.1⟩) (Nat.le_refl _) (show zFr t lt df kd cq cs ps bh sS sV (upd (upd (upd t 7 0) 8 0) 9 0) lt df kd cq cs ps bh sS sV from ⟨fun j hj => ⟨by rw [zupd_ne (by omega), zupd_ne (by omega), zupd_ne (by omega)], rfl, rfl⟩, fun _ _ => ⟨rfl, rfl, rfl, rfl, rfl⟩, fun _ _ => ⟨rfl, rfl⟩⟩) (fun z => absurd z n5)
    refine ⟨oc, om, ?_, ?_, e3⟩
    · unfold fX5_readLine
      rw [if_pos tk13]
      unfold fX5_readClock
      rw [if_neg c0, Option.bind_some]
      exact e1
    · rw [zm_disp hn hB hp h4, if_neg (show ¬ (15 ≤ (zlx b n p).1 ∧ (zlx b n p).1 < 18) by omega), if_pos hk]
      unfold jX9_readLine_52
      rw [if_neg (by rw [u5]; exact fun z => c0 (z1.1 z))]
      refine zBind (if_pos rfl) ?_
      unfold jX9_readLine_64
      rw [if_neg (by decide), if_neg n5]
      unfold jX9_readLine_79
      rw [if_pos rfl]
      refine zBind (zm_rnumB n5) ?_
      rw [ck_t (by decide)]
      refine zBind (zm_rnumB n5) ?_
      rw [ck_t (by decide)]
      refine zBind (zm_rnumB n5) ?_
      rw [ck_t (by decide)]
      exact e2
theorem zLn18 (hb : zByts b n) (hB : ∀ i, i < n → zBy (b i) (r i)) (hp : p ≤ n) (h3 : zCy b n p pl tk st dg nm) (h4 : zSyn b n p A k m g sp) (hD : (zDc ct oil wt tr t ∧ zDa al le de t lt df ∧ zDm mo ki ca co jo fo t kd cq cs ps bh ∧ zDu p ct cl cd rf rt done t sS sV)) (hk : (zlx b n p).1 = 18) : ∃ oc om, fX5_readLine (zJ n) pl tk st dg nm 0 ct x1 x2 x3 x4 x5 b wa oil wt tr al mo cl le de ki ca co jo fo cd rf rt = some oc ∧ fX9_readLine vals A (zJ n) k m g sp 0 bp ofv t lt df kd cq cs ps bh sS sV r done = some om ∧ zLr b n p t lt df kd cq cs ps bh sS sV oc om := by
  obtain ⟨r1, r2, r3, r4, r5, r6⟩ := zlx_r (b := b) hp
  have hn := hb.1
  have n1 : ¬ (1 : Int32) = 0 := by decide
  have n5 : ¬ (5 : Int32) = 0 := by decide
  obtain ⟨D1, D2, D3, D4⟩ := hD
  obtain ⟨base, LS, LV, u1, u2, u3, u4, u5⟩ := D4
  obtain ⟨z1, z2, z3, z4, z5, z6, z7, z8⟩ := zdn_f (ct := ct) (LS := LS) (LV := LV)
  have ne : ∀ c : Nat, c < 100 → (zlx b n p).1 ≠ c → ¬ tk = zJ c := fun c hc h => by rw [h3.2.1]; exact zKn h (by omega) (by omega)
  have e20 : fX9_is 20 k g sp 0 r = some (if (zlx b n p).1 = 14 then 1 else 0) := by
    rw [h4.2.1, h4.2.2.2.1, h4.2.2.2.2]
    exact zm_isK hn hp hB (i := 20) (by omega)
  have tkk : tk = 18 := by rw [h3.2.1, hk]; rfl
  obtain ⟨⟨f0, i1, i2, i3, i4⟩, i5, i6, i7, i8⟩ := u3
  by_cases cL : LS = []
  · have hl0 : LS.length = 0 := by rw [cL]; rfl
    obtain ⟨oa, v, om, c1, c2, c3, c4⟩ := zBrule (q := 0) (base := base) (t := t) (sS := sS) (sV := sV) (cd := cd) (rf := rf) (rt := rt) (wa := wa) (x1 := x1) (x2 := x2) (x3 := x3) (x4 := x4) (x5 := x5) (vals := vals) (ofv := ofv) (bp := bp) hb hB (by omega) hp (by omega) h3 h4 u1 (by rw [i1, i2, hl0]; exact Int32.le_refl _) (by rw [i7, hl0]; rfl)
    have clsF : ∀ R, jX5_readLine_107 (zJ n) oa.1 oa.2.1 oa.2.2.1 oa.2.2.2.1 oa.2.2.2.2.1 oa.2.2.2.2.2.1 ct oa.2.2.2.2.2.2.1 oa.2.2.2.2.2.2.2.1 oa.2.2.2.2.2.2.2.2.1 oa.2.2.2.2.2.2.2.2.2.1 oa.2.2.2.2.2.2.2.2.2.2.1 b oa.2.2.2.2.2.2.2.2.2.2.2.1 oil wt tr al mo oa.2.2.2.2.2.2.2.2.2.2.2.2.1 le de ki ca co jo fo oa.2.2.2.2.2.2.2.2.2.2.2.2.2.1 oa.2.2.2.2.2.2.2.2.2.2.2.2.2.2.1 oa.2.2.2.2.2.2.2.2.2.2.2.2.2.2.2 = R → fX5_readLine (zJ n) pl tk st dg nm 0 ct x1 x2 x3 x4 x5 b wa oil wt tr al mo cl le de ki ca co jo fo cd rf rt = R := by
      intro R hR
      unfold fX5_readLine
      rw [if_neg (show ¬ tk = 13 from ne 13 (by omega) (by omega)), if_neg (show ¬ tk = 14 from ne 14 (by omega) (by omega)), if_neg (show ¬ tk = 15 from ne 15 (by omega) (by omega)), if_neg (show ¬ tk = 16 from ne 16 (by omega) (by omega)), if_neg (show ¬ tk = 17 from ne 17 (by omega) (by omega)), if_pos tkk, u2]
      exact zBind c1 hR
    have refF : ∀ R, jX9_readLine_182 (zJ 0) om.1 (zJ n) om.2.1 om.2.2.1 om.2.2.2.1 om.2.2.2.2.1 om.2.2.2.2.2.1 om.2.2.2.2.2.2.1 (zJ 0) om.2.2.2.2.2.2.2.1 lt df kd cq cs ps bh om.2.2.2.2.2.2.2.2.1 om.2.2.2.2.2.2.2.2.2 r done 2 = R → fX9_readLine vals A (zJ n) k m g sp 0 bp ofv t lt df kd cq cs ps bh sS sV r done = R := by
      intro R hR
      rw [zm_disp hn hB hp h4, if_neg (show ¬ (15 ≤ (zlx b n p).1 ∧ (zlx b n p).1 < 18) by omega), if_neg (show ¬ (zlx b n p).1 = 13 by omega), if_pos hk]
      unfold jX9_readLine_52
      rw [if_pos (by rw [u5]; exact z2.2 cL)]
      unfold jX9_readLine_64
      rw [if_neg (by decide), if_pos rfl]
      refine zBind c2 ?_
      unfold jX9_readLine_79
      rw [if_neg (by decide), if_neg (by decide)]
      unfold jX9_readLine_141
      exact zBind c3 hR
    rcases c4 with ⟨b1, b2, b3, ⟨S, b4, b5⟩, L', ⟨G1, G2, G3, G4⟩⟩ | ⟨b1, p', L', b2, b3, b4, ⟨G1, G2, G3, G4⟩, b6⟩
    · have G3 := G3 rfl
      obtain ⟨oc, og, e1, e2, e3⟩ := zFin (p := p) (p1 := p) (y3 := 2) (vals := zJ 0) (ofv := zJ 0) (ct := ct) (x1 := oa.2.2.2.2.2.2.1) (x2 := oa.2.2.2.2.2.2.2.1) (x3 := oa.2.2.2.2.2.2.2.2.1) (x4 := oa.2.2.2.2.2.2.2.2.2.1) (x5 := oa.2.2.2.2.2.2.2.2.2.2.1) (wa := oa.2.2.2.2.2.2.2.2.2.2.2.1) (done := done) (oil := oil) (wt := wt) (tr := tr) (al := al) (mo := mo) (cl := oa.2.2.2.2.2.2.2.2.2.2.2.2.1) (le := le) (de := de) (ki := ki) (ca := ca) (co := co) (jo := jo) (fo := fo) (cd := oa.2.2.2.2.2.2.2.2.2.2.2.2.2.1) (rf := oa.2.2.2.2.2.2.2.2.2.2.2.2.2.2.1) (rt := oa.2.2.2.2.2.2.2.2.2.2.2.2.2.2.2) hb hB (Or.inl ⟨by rw [b2]; exact b1, b2.symm, b3.symm, S, b4, b3.trans b5⟩) (Nat.le_refl _) (show zFr t lt df kd cq cs ps bh sS sV om.2.2.2.2.2.2.2.1 lt df kd cq cs ps bh om.2.2.2.2.2.2.2.2.1 om.2.2.2.2.2.2.2.2.2 from ⟨fun j hj => ⟨G2 j (by omega), rfl, rfl⟩, fun _ _ => ⟨rfl, rfl, rfl, rfl, rfl⟩, fun j hj => ⟨(G3.2.1 j hj), (by rw [G3.1])⟩⟩) (fun z => absurd (b2.symm.trans z) b1)
      exact ⟨oc, og, clsF _ e1, refF _ e2, e3⟩
    · have G3 := G3 rfl
      have b1' : om.2.2.2.2.2.1 = 0 := b1
      rcases b6 with ⟨k3, d1, d2⟩ | ⟨k3, d1, d2, d3, d4, d5, d6, d7, d8, d9, d10, d11⟩
      · obtain ⟨oc, og, e1, e2, e3⟩ := zFinB (p := p) (p1 := p') (y3 := 2) (bp := om.2.2.2.2.2.2.1) (pl := oa.1) (tk := oa.2.1) (dg := oa.2.2.2.1) (nm := oa.2.2.2.2.1) (vals := zJ 0) (ofv := zJ 0) (ct := ct) (x1 := oa.2.2.2.2.2.2.1) (x2 := oa.2.2.2.2.2.2.2.1) (x3 := oa.2.2.2.2.2.2.2.2.1) (x4 := oa.2.2.2.2.2.2.2.2.2.1) (x5 := oa.2.2.2.2.2.2.2.2.2.2.1) (wa := oa.2.2.2.2.2.2.2.2.2.2.2.1) (done := done) (oil := oil) (wt := wt) (tr := tr) (al := al) (mo := mo) (cl := oa.2.2.2.2.2.2.2.2.2.2.2.2.1) (le := le) (de := de) (ki := ki) (ca := ca) (co := co) (jo := jo) (fo := fo) (cd := oa.2.2.2.2.2.2.2.2.2.2.2.2.2.1) (rf := oa.2.2.2.2.2.2.2.2.2.2.2.2.2.2.1) (rt := oa.2.2.2.2.2.2.2.2.2.2.2.2.2.2.2) hb hB b2 b4 k3 d2 (by omega) (show zFr t lt df kd cq cs ps bh sS sV om.2.2.2.2.2.2.2.1 lt df kd cq cs ps bh om.2.2.2.2.2.2.2.2.1 om.2.2.2.2.2.2.2.2.2 from ⟨fun j hj => ⟨G2 j (by omega), rfl, rfl⟩, fun _ _ => ⟨rfl, rfl, rfl, rfl, rfl⟩, fun j hj => ⟨(G3.2.1 j hj), (by rw [G3.1])⟩⟩)
        rw [← d1] at e1
        rw [← b1'] at e2
        exact ⟨oc, og, clsF _ e1, refF _ e2, e3⟩
      · have hne : L' ≠ [] := fun z => zwf_nil (by rw [z] at d1; exact d1)
        obtain ⟨oc, og, e1, e2, e3⟩ := zFin (p := p) (p1 := p') (y3 := 2) (pl := oa.1) (tk := oa.2.1) (st := oa.2.2.1) (dg := oa.2.2.2.1) (nm := oa.2.2.2.2.1) (fa := oa.2.2.2.2.2.1) (vals := zJ 0) (ofv := zJ 0) (ct := ct) (x1 := oa.2.2.2.2.2.2.1) (x2 := oa.2.2.2.2.2.2.2.1) (x3 := oa.2.2.2.2.2.2.2.2.1) (x4 := oa.2.2.2.2.2.2.2.2.2.1) (x5 := oa.2.2.2.2.2.2.2.2.2.2.1) (wa := oa.2.2.2.2.2.2.2.2.2.2.2.1) (done := done) (oil := oil) (wt := wt) (tr := tr) (al := al) (mo := mo) (cl := oa.2.2.2.2.2.2.2.2.2.2.2.2.1) (le := le) (de := de) (ki := ki) (ca := ca) (co := co) (jo := jo) (fo := fo) (cd := oa.2.2.2.2.2.2.2.2.2.2.2.2.2.1) (rf := oa.2.2.2.2.2.2.2.2.2.2.2.2.2.2.1) (rt := oa.2.2.2.2.2.2.2.2.2.2.2.2.2.2.2) hb hB (Or.inr ⟨d6, b1, p', Nat.le_refl _, b2, ⟨d3, d4.trans (by rw [k3]; rfl), d5, fun z => by omega⟩, b4⟩) (by omega) (show zFr t lt df kd cq cs ps bh sS sV om.2.2.2.2.2.2.2.1 lt df kd cq cs ps bh om.2.2.2.2.2.2.2.2.1 om.2.2.2.2.2.2.2.2.2 from ⟨fun j hj => ⟨G2 j (by omega), rfl, rfl⟩, fun _ _ => ⟨rfl, rfl, rfl, rfl, rfl⟩, fun j hj => ⟨(G3.2.1 j hj), (by rw [G3.1])⟩⟩) (fun _ => by
          refine ⟨zDc_t D1 (G2 7 (by omega)) (G2 8 (by omega)) (G2 9 (by omega)), zDa_t D2 (G2 10 (by omega)), zDm_t D3 (G2 11 (by omega)), ?_⟩
          have new : zDr 0 (base + L'.length) oa.2.2.2.2.2.2.2.2.2.2.2.2.2.1 oa.2.2.2.2.2.2.2.2.2.2.2.2.2.2.1 oa.2.2.2.2.2.2.2.2.2.2.2.2.2.2.2 om.2.2.2.2.2.2.2.1 om.2.2.2.2.2.2.2.2.1 L' := ⟨⟨base, by rw [d10, zupd_eq], by rw [d11, zupd_eq], Nat.le_refl _, d8⟩, Or.inr d1, d2, G1, G3.2.2⟩
          have old : zDr 1 (base + L'.length) oa.2.2.2.2.2.2.2.2.2.2.2.2.2.1 oa.2.2.2.2.2.2.2.2.2.2.2.2.2.2.1 oa.2.2.2.2.2.2.2.2.2.2.2.2.2.2.2 om.2.2.2.2.2.2.2.1 om.2.2.2.2.2.2.2.2.2 LV := by
            obtain ⟨⟨f, j1, j2, j3, j4⟩, j5, j6, j7, j8⟩ := u4
            refine ⟨⟨f, by rw [d10, zupd_ne (by omega)]; exact j1, by rw [d11, zupd_ne (by omega)]; exact j2, by omega, zAt_cong d9 LV f j3 j4⟩, j5, j6, (G2 (12 + 1) (by omega)).trans j7, by rw [G3.1]; exact j8⟩
          exact ⟨base + L'.length, L', LV, by omega, d7, new, old, by rw [u5]; exact z6 L' hne⟩)
        exact ⟨oc, og, clsF _ e1, refF _ e2, e3⟩
  · have hl1 : 1 ≤ LS.length := by
      cases hh : LS with
      | nil => exact absurd hh cL
      | cons x xs => show 1 ≤ xs.length + 1; omega
    obtain ⟨oc, og, e1, e2, e3⟩ := zFin (p := p) (p1 := p) (y3 := 2) (fa := 5) (bad := 5) (bp := g) (A := A) (k := k) (m := m) (g := g) (sp := sp) (pl := pl) (tk := tk) (st := st) (dg := dg) (nm := nm) (vals := zJ 0) (ofv := zJ 0) (ct := ct) (x1 := x1) (x2 := x2) (x3 := x3) (x4 := x4) (x5 := x5) (wa := wa) (done := done) (oil := oil) (wt := wt) (tr := tr) (al := al) (mo := mo) (cl := cl) (le := le) (de := de) (ki := ki) (ca := ca) (co := co) (jo := jo) (fo := fo) (cd := cd) (rf := rf) (rt := rt) hb hB (Or.inl ⟨n5, rfl, by rw [h4.2.2.2.1, h3.2.2.1], _, (by omega : (zlx b n p).2.1 ≤ n), h3.2.2.1⟩) (Nat.le_refl _) (zFr_id (t := t) (lt := lt) (df := df) (kd := kd) (cq := cq) (cs := cs) (ps := ps) (bh := bh) (sS := sS) (sV := sV)) (fun z => absurd z n5)
    refine ⟨oc, og, ?_, ?_, e3⟩
    · unfold fX5_readLine
      rw [if_neg (show ¬ tk = 13 from ne 13 (by omega) (by omega)), if_neg (show ¬ tk = 14 from ne 14 (by omega) (by omega)), if_neg (show ¬ tk = 15 from ne 15 (by omega) (by omega)), if_neg (show ¬ tk = 16 from ne 16 (by omega) (by omega)), if_neg (show ¬ tk = 17 from ne 17 (by omega) (by omega)), if_pos tkk]
      have hh : fX1_hasRule rf rt (zJ 0) = some 1 := by
        unfold fX1_hasRule
        rw [ck_t (by decide), ck_t (by decide), zJ_ix (by omega), if_neg (by rw [i1, i2]; exact zJ_nle (by omega) (by omega))]
      unfold fX5_readRule
      refine zBind (zBind hh (if_neg n1)) ?_
      exact e1
    · rw [zm_disp hn hB hp h4, if_neg (show ¬ (15 ≤ (zlx b n p).1 ∧ (zlx b n p).1 < 18) by omega), if_neg (show ¬ (zlx b n p).1 = 13 by omega), if_pos hk]
      unfold jX9_readLine_52
      rw [if_neg (by rw [u5]; exact fun z => cL (z2.1 z))]
      refine zBind (if_pos rfl) ?_
      unfold jX9_readLine_64
      rw [if_neg (by decide), if_neg n5]
      unfold jX9_readLine_79
      rw [if_neg (by decide), if_neg (by decide)]
      unfold jX9_readLine_141 fX9_sayRule
      rw [ck_t (by decide), if_pos rfl]
      have hpass := zpExpr (q := 0) (n := n) (a := 0) (r := r) (f := DP) (by unfold DP; omega) (A, k, m, g, sp, 5, g, t, sS, sV) n5
      exact zBind (zBind hpass rfl) e2
theorem zLn19 (hb : zByts b n) (hB : ∀ i, i < n → zBy (b i) (r i)) (hp : p ≤ n) (h3 : zCy b n p pl tk st dg nm) (h4 : zSyn b n p A k m g sp) (hD : (zDc ct oil wt tr t ∧ zDa al le de t lt df ∧ zDm mo ki ca co jo fo t kd cq cs ps bh ∧ zDu p ct cl cd rf rt done t sS sV)) (hk : (zlx b n p).1 = 19) : ∃ oc om, fX5_readLine (zJ n) pl tk st dg nm 0 ct x1 x2 x3 x4 x5 b wa oil wt tr al mo cl le de ki ca co jo fo cd rf rt = some oc ∧ fX9_readLine vals A (zJ n) k m g sp 0 bp ofv t lt df kd cq cs ps bh sS sV r done = some om ∧ zLr b n p t lt df kd cq cs ps bh sS sV oc om := by
  obtain ⟨r1, r2, r3, r4, r5, r6⟩ := zlx_r (b := b) hp
  have hn := hb.1
  have n1 : ¬ (1 : Int32) = 0 := by decide
  have n5 : ¬ (5 : Int32) = 0 := by decide
  obtain ⟨D1, D2, D3, D4⟩ := hD
  obtain ⟨base, LS, LV, u1, u2, u3, u4, u5⟩ := D4
  obtain ⟨z1, z2, z3, z4, z5, z6, z7, z8⟩ := zdn_f (ct := ct) (LS := LS) (LV := LV)
  have ne : ∀ c : Nat, c < 100 → (zlx b n p).1 ≠ c → ¬ tk = zJ c := fun c hc h => by rw [h3.2.1]; exact zKn h (by omega) (by omega)
  have e20 : fX9_is 20 k g sp 0 r = some (if (zlx b n p).1 = 14 then 1 else 0) := by
    rw [h4.2.1, h4.2.2.2.1, h4.2.2.2.2]
    exact zm_isK hn hp hB (i := 20) (by omega)
  have tkk : tk = 19 := by rw [h3.2.1, hk]; rfl
  obtain ⟨⟨f0, i1, i2, i3, i4⟩, i5, i6, i7, i8⟩ := u4
  by_cases cL : LV = []
  · have hl0 : LV.length = 0 := by rw [cL]; rfl
    obtain ⟨oa, v, om, c1, c2, c3, c4⟩ := zBrule (q := 1) (base := base) (t := t) (sS := sS) (sV := sV) (cd := cd) (rf := rf) (rt := rt) (wa := wa) (x1 := x1) (x2 := x2) (x3 := x3) (x4 := x4) (x5 := x5) (vals := vals) (ofv := ofv) (bp := bp) hb hB (by omega) hp (by omega) h3 h4 u1 (by rw [i1, i2, hl0]; exact Int32.le_refl _) (by rw [i7, hl0]; rfl)
    have clsF : ∀ R, jX5_readLine_107 (zJ n) oa.1 oa.2.1 oa.2.2.1 oa.2.2.2.1 oa.2.2.2.2.1 oa.2.2.2.2.2.1 ct oa.2.2.2.2.2.2.1 oa.2.2.2.2.2.2.2.1 oa.2.2.2.2.2.2.2.2.1 oa.2.2.2.2.2.2.2.2.2.1 oa.2.2.2.2.2.2.2.2.2.2.1 b oa.2.2.2.2.2.2.2.2.2.2.2.1 oil wt tr al mo oa.2.2.2.2.2.2.2.2.2.2.2.2.1 le de ki ca co jo fo oa.2.2.2.2.2.2.2.2.2.2.2.2.2.1 oa.2.2.2.2.2.2.2.2.2.2.2.2.2.2.1 oa.2.2.2.2.2.2.2.2.2.2.2.2.2.2.2 = R → fX5_readLine (zJ n) pl tk st dg nm 0 ct x1 x2 x3 x4 x5 b wa oil wt tr al mo cl le de ki ca co jo fo cd rf rt = R := by
      intro R hR
      unfold fX5_readLine
      rw [if_neg (show ¬ tk = 13 from ne 13 (by omega) (by omega)), if_neg (show ¬ tk = 14 from ne 14 (by omega) (by omega)), if_neg (show ¬ tk = 15 from ne 15 (by omega) (by omega)), if_neg (show ¬ tk = 16 from ne 16 (by omega) (by omega)), if_neg (show ¬ tk = 17 from ne 17 (by omega) (by omega)), if_neg (show ¬ tk = 18 from ne 18 (by omega) (by omega)), if_pos tkk, u2]
      exact zBind c1 hR
    have refF : ∀ R, jX9_readLine_182 (zJ 1) om.1 (zJ n) om.2.1 om.2.2.1 om.2.2.2.1 om.2.2.2.2.1 om.2.2.2.2.2.1 om.2.2.2.2.2.2.1 (zJ 1) om.2.2.2.2.2.2.2.1 lt df kd cq cs ps bh om.2.2.2.2.2.2.2.2.1 om.2.2.2.2.2.2.2.2.2 r done 4 = R → fX9_readLine vals A (zJ n) k m g sp 0 bp ofv t lt df kd cq cs ps bh sS sV r done = R := by
      intro R hR
      rw [zm_disp hn hB hp h4, if_neg (show ¬ (15 ≤ (zlx b n p).1 ∧ (zlx b n p).1 < 18) by omega), if_neg (show ¬ (zlx b n p).1 = 13 by omega), if_neg (show ¬ (zlx b n p).1 = 18 by omega), if_pos hk]
      unfold jX9_readLine_52
      rw [if_pos (by rw [u5]; exact z3.2 cL)]
      unfold jX9_readLine_64
      rw [if_neg (by decide), if_pos rfl]
      refine zBind c2 ?_
      unfold jX9_readLine_79
      rw [if_neg (by decide), if_pos rfl]
      unfold jX9_readLine_141
      exact zBind c3 hR
    rcases c4 with ⟨b1, b2, b3, ⟨S, b4, b5⟩, L', ⟨G1, G2, G3, G4⟩⟩ | ⟨b1, p', L', b2, b3, b4, ⟨G1, G2, G3, G4⟩, b6⟩
    · have G3 := G4 rfl
      obtain ⟨oc, og, e1, e2, e3⟩ := zFin (p := p) (p1 := p) (y3 := 4) (vals := zJ 1) (ofv := zJ 1) (ct := ct) (x1 := oa.2.2.2.2.2.2.1) (x2 := oa.2.2.2.2.2.2.2.1) (x3 := oa.2.2.2.2.2.2.2.2.1) (x4 := oa.2.2.2.2.2.2.2.2.2.1) (x5 := oa.2.2.2.2.2.2.2.2.2.2.1) (wa := oa.2.2.2.2.2.2.2.2.2.2.2.1) (done := done) (oil := oil) (wt := wt) (tr := tr) (al := al) (mo := mo) (cl := oa.2.2.2.2.2.2.2.2.2.2.2.2.1) (le := le) (de := de) (ki := ki) (ca := ca) (co := co) (jo := jo) (fo := fo) (cd := oa.2.2.2.2.2.2.2.2.2.2.2.2.2.1) (rf := oa.2.2.2.2.2.2.2.2.2.2.2.2.2.2.1) (rt := oa.2.2.2.2.2.2.2.2.2.2.2.2.2.2.2) hb hB (Or.inl ⟨by rw [b2]; exact b1, b2.symm, b3.symm, S, b4, b3.trans b5⟩) (Nat.le_refl _) (show zFr t lt df kd cq cs ps bh sS sV om.2.2.2.2.2.2.2.1 lt df kd cq cs ps bh om.2.2.2.2.2.2.2.2.1 om.2.2.2.2.2.2.2.2.2 from ⟨fun j hj => ⟨G2 j (by omega), rfl, rfl⟩, fun _ _ => ⟨rfl, rfl, rfl, rfl, rfl⟩, fun j hj => ⟨(by rw [G3.1]), (G3.2.1 j hj)⟩⟩) (fun z => absurd (b2.symm.trans z) b1)
      exact ⟨oc, og, clsF _ e1, refF _ e2, e3⟩
    · have G3 := G4 rfl
      have b1' : om.2.2.2.2.2.1 = 0 := b1
      rcases b6 with ⟨k3, d1, d2⟩ | ⟨k3, d1, d2, d3, d4, d5, d6, d7, d8, d9, d10, d11⟩
      · obtain ⟨oc, og, e1, e2, e3⟩ := zFinB (p := p) (p1 := p') (y3 := 4) (bp := om.2.2.2.2.2.2.1) (pl := oa.1) (tk := oa.2.1) (dg := oa.2.2.2.1) (nm := oa.2.2.2.2.1) (vals := zJ 1) (ofv := zJ 1) (ct := ct) (x1 := oa.2.2.2.2.2.2.1) (x2 := oa.2.2.2.2.2.2.2.1) (x3 := oa.2.2.2.2.2.2.2.2.1) (x4 := oa.2.2.2.2.2.2.2.2.2.1) (x5 := oa.2.2.2.2.2.2.2.2.2.2.1) (wa := oa.2.2.2.2.2.2.2.2.2.2.2.1) (done := done) (oil := oil) (wt := wt) (tr := tr) (al := al) (mo := mo) (cl := oa.2.2.2.2.2.2.2.2.2.2.2.2.1) (le := le) (de := de) (ki := ki) (ca := ca) (co := co) (jo := jo) (fo := fo) (cd := oa.2.2.2.2.2.2.2.2.2.2.2.2.2.1) (rf := oa.2.2.2.2.2.2.2.2.2.2.2.2.2.2.1) (rt := oa.2.2.2.2.2.2.2.2.2.2.2.2.2.2.2) hb hB b2 b4 k3 d2 (by omega) (show zFr t lt df kd cq cs ps bh sS sV om.2.2.2.2.2.2.2.1 lt df kd cq cs ps bh om.2.2.2.2.2.2.2.2.1 om.2.2.2.2.2.2.2.2.2 from ⟨fun j hj => ⟨G2 j (by omega), rfl, rfl⟩, fun _ _ => ⟨rfl, rfl, rfl, rfl, rfl⟩, fun j hj => ⟨(by rw [G3.1]), (G3.2.1 j hj)⟩⟩)
        rw [← d1] at e1
        rw [← b1'] at e2
        exact ⟨oc, og, clsF _ e1, refF _ e2, e3⟩
      · have hne : L' ≠ [] := fun z => zwf_nil (by rw [z] at d1; exact d1)
        obtain ⟨oc, og, e1, e2, e3⟩ := zFin (p := p) (p1 := p') (y3 := 4) (pl := oa.1) (tk := oa.2.1) (st := oa.2.2.1) (dg := oa.2.2.2.1) (nm := oa.2.2.2.2.1) (fa := oa.2.2.2.2.2.1) (vals := zJ 1) (ofv := zJ 1) (ct := ct) (x1 := oa.2.2.2.2.2.2.1) (x2 := oa.2.2.2.2.2.2.2.1) (x3 := oa.2.2.2.2.2.2.2.2.1) (x4 := oa.2.2.2.2.2.2.2.2.2.1) (x5 := oa.2.2.2.2.2.2.2.2.2.2.1) (wa := oa.2.2.2.2.2.2.2.2.2.2.2.1) (done := done) (oil := oil) (wt := wt) (tr := tr) (al := al) (mo := mo) (cl := oa.2.2.2.2.2.2.2.2.2.2.2.2.1) (le := le) (de := de) (ki := ki) (ca := ca) (co := co) (jo := jo) (fo := fo) (cd := oa.2.2.2.2.2.2.2.2.2.2.2.2.2.1) (rf := oa.2.2.2.2.2.2.2.2.2.2.2.2.2.2.1) (rt := oa.2.2.2.2.2.2.2.2.2.2.2.2.2.2.2) hb hB (Or.inr ⟨d6, b1, p', Nat.le_refl _, b2, ⟨d3, d4.trans (by rw [k3]; rfl), d5, fun z => by omega⟩, b4⟩) (by omega) (show zFr t lt df kd cq cs ps bh sS sV om.2.2.2.2.2.2.2.1 lt df kd cq cs ps bh om.2.2.2.2.2.2.2.2.1 om.2.2.2.2.2.2.2.2.2 from ⟨fun j hj => ⟨G2 j (by omega), rfl, rfl⟩, fun _ _ => ⟨rfl, rfl, rfl, rfl, rfl⟩, fun j hj => ⟨(by rw [G3.1]), (G3.2.1 j hj)⟩⟩) (fun _ => by
          refine ⟨zDc_t D1 (G2 7 (by omega)) (G2 8 (by omega)) (G2 9 (by omega)), zDa_t D2 (G2 10 (by omega)), zDm_t D3 (G2 11 (by omega)), ?_⟩
          have new : zDr 1 (base + L'.length) oa.2.2.2.2.2.2.2.2.2.2.2.2.2.1 oa.2.2.2.2.2.2.2.2.2.2.2.2.2.2.1 oa.2.2.2.2.2.2.2.2.2.2.2.2.2.2.2 om.2.2.2.2.2.2.2.1 om.2.2.2.2.2.2.2.2.2 L' := ⟨⟨base, by rw [d10, zupd_eq], by rw [d11, zupd_eq], Nat.le_refl _, d8⟩, Or.inr d1, d2, G1, G3.2.2⟩
          have old : zDr 0 (base + L'.length) oa.2.2.2.2.2.2.2.2.2.2.2.2.2.1 oa.2.2.2.2.2.2.2.2.2.2.2.2.2.2.1 oa.2.2.2.2.2.2.2.2.2.2.2.2.2.2.2 om.2.2.2.2.2.2.2.1 om.2.2.2.2.2.2.2.2.1 LS := by
            obtain ⟨⟨f, j1, j2, j3, j4⟩, j5, j6, j7, j8⟩ := u3
            refine ⟨⟨f, by rw [d10, zupd_ne (by omega)]; exact j1, by rw [d11, zupd_ne (by omega)]; exact j2, by omega, zAt_cong d9 LS f j3 j4⟩, j5, j6, (G2 (12 + 0) (by omega)).trans j7, by rw [G3.1]; exact j8⟩
          exact ⟨base + L'.length, LS, L', by omega, d7, old, new, by rw [u5]; exact z7 L' hne⟩)
        exact ⟨oc, og, clsF _ e1, refF _ e2, e3⟩
  · have hl1 : 1 ≤ LV.length := by
      cases hh : LV with
      | nil => exact absurd hh cL
      | cons x xs => show 1 ≤ xs.length + 1; omega
    obtain ⟨oc, og, e1, e2, e3⟩ := zFin (p := p) (p1 := p) (y3 := 4) (fa := 5) (bad := 5) (bp := g) (A := A) (k := k) (m := m) (g := g) (sp := sp) (pl := pl) (tk := tk) (st := st) (dg := dg) (nm := nm) (vals := zJ 1) (ofv := zJ 1) (ct := ct) (x1 := x1) (x2 := x2) (x3 := x3) (x4 := x4) (x5 := x5) (wa := wa) (done := done) (oil := oil) (wt := wt) (tr := tr) (al := al) (mo := mo) (cl := cl) (le := le) (de := de) (ki := ki) (ca := ca) (co := co) (jo := jo) (fo := fo) (cd := cd) (rf := rf) (rt := rt) hb hB (Or.inl ⟨n5, rfl, by rw [h4.2.2.2.1, h3.2.2.1], _, (by omega : (zlx b n p).2.1 ≤ n), h3.2.2.1⟩) (Nat.le_refl _) (zFr_id (t := t) (lt := lt) (df := df) (kd := kd) (cq := cq) (cs := cs) (ps := ps) (bh := bh) (sS := sS) (sV := sV)) (fun z => absurd z n5)
    refine ⟨oc, og, ?_, ?_, e3⟩
    · unfold fX5_readLine
      rw [if_neg (show ¬ tk = 13 from ne 13 (by omega) (by omega)), if_neg (show ¬ tk = 14 from ne 14 (by omega) (by omega)), if_neg (show ¬ tk = 15 from ne 15 (by omega) (by omega)), if_neg (show ¬ tk = 16 from ne 16 (by omega) (by omega)), if_neg (show ¬ tk = 17 from ne 17 (by omega) (by omega)), if_neg (show ¬ tk = 18 from ne 18 (by omega) (by omega)), if_pos tkk]
      have hh : fX1_hasRule rf rt (zJ 1) = some 1 := by
        unfold fX1_hasRule
        rw [ck_t (by decide), ck_t (by decide), zJ_ix (by omega), if_neg (by rw [i1, i2]; exact zJ_nle (by omega) (by omega))]
      unfold fX5_readRule
      refine zBind (zBind hh (if_neg n1)) ?_
      exact e1
    · rw [zm_disp hn hB hp h4, if_neg (show ¬ (15 ≤ (zlx b n p).1 ∧ (zlx b n p).1 < 18) by omega), if_neg (show ¬ (zlx b n p).1 = 13 by omega), if_neg (show ¬ (zlx b n p).1 = 18 by omega), if_pos hk]
      unfold jX9_readLine_52
      rw [if_neg (by rw [u5]; exact fun z => cL (z3.1 z))]
      refine zBind (if_pos rfl) ?_
      unfold jX9_readLine_64
      rw [if_neg (by decide), if_neg n5]
      unfold jX9_readLine_79
      rw [if_neg (by decide), if_pos rfl]
      unfold jX9_readLine_141 fX9_sayRule
      rw [ck_t (by decide), if_neg (by decide)]
      have hpass := zpExpr (q := 1) (n := n) (a := 0) (r := r) (f := DP) (by unfold DP; omega) (A, k, m, g, sp, 5, g, t, sS, sV) n5
      exact zBind (zBind hpass rfl) e2
theorem zLine (hb : zByts b n) (hB : ∀ i, i < n → zBy (b i) (r i)) (hp : p ≤ n) (h3 : zCy b n p pl tk st dg nm) (h4 : zSyn b n p A k m g sp) (hD : (zDc ct oil wt tr t ∧ zDa al le de t lt df ∧ zDm mo ki ca co jo fo t kd cq cs ps bh ∧ zDu p ct cl cd rf rt done t sS sV)) : ∃ oc om, fX5_readLine (zJ n) pl tk st dg nm 0 ct x1 x2 x3 x4 x5 b wa oil wt tr al mo cl le de ki ca co jo fo cd rf rt = some oc ∧ fX9_readLine vals A (zJ n) k m g sp 0 bp ofv t lt df kd cq cs ps bh sS sV r done = some om ∧ zLr b n p t lt df kd cq cs ps bh sS sV oc om := by
  rcases Nat.lt_or_ge (zlx b n p).1 13 with q | q
  · exact zLn0 hb hB hp h3 h4 hD (Or.inl q)
  rcases Nat.lt_or_ge 19 (zlx b n p).1 with q' | q'
  · exact zLn0 hb hB hp h3 h4 hD (Or.inr q')
  rcases (show (zlx b n p).1 = 13 ∨ (zlx b n p).1 = 14 ∨ (zlx b n p).1 = 15 ∨ (zlx b n p).1 = 16 ∨ (zlx b n p).1 = 17 ∨ (zlx b n p).1 = 18 ∨ (zlx b n p).1 = 19 by omega) with h | h | h | h | h | h | h
  · exact zLn13 hb hB hp h3 h4 hD h
  · exact zLn14 hb hB hp h3 h4 hD h
  · exact zLn15 hb hB hp h3 h4 hD h
  · exact zLn16 hb hB hp h3 h4 hD h
  · exact zLn17 hb hB hp h3 h4 hD h
  · exact zLn18 hb hB hp h3 h4 hD h
  · exact zLn19 hb hB hp h3 h4 hD h
end
