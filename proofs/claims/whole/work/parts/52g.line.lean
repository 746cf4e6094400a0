/-! ===== pure: one line, in both: the cases ===== -/
theorem zdn_f {ct : Int32} {LS LV : List Int32} : ((1 : Int32) &&& zdn ct LS LV = 0 ↔ ct = 0) ∧ ((2 : Int32) &&& zdn ct LS LV = 0 ↔ LS = []) ∧ ((4 : Int32) &&& zdn ct LS LV = 0 ↔ LV = []) ∧ ((0 : Int32) &&& zdn ct LS LV = 0) ∧ (zdn ct LS LV ||| 1 = zdn 1 LS LV) ∧ (∀ L : List Int32, L ≠ [] → zdn ct LS LV ||| 2 = zdn ct L LV) ∧ (∀ L : List Int32, L ≠ [] → zdn ct LS LV ||| 4 = zdn ct LS L) ∧ (zdn ct LS LV ||| 0 = zdn ct LS LV) := by
  have n1 : ¬ (1 : Int32) = 0 := by decide
  have b := zdbits ⟨if ct = 0 then 0 else 1, by split <;> omega⟩ ⟨if LS = [] then 0 else 1, by split <;> omega⟩ ⟨if LV = [] then 0 else 1, by split <;> omega⟩
  obtain ⟨b1, b2, b3, b4, b5, b6, b7, b8⟩ := b
  have w : ∀ (c : Prop) [Decidable c], (if c then 0 else 1 : Nat) = 0 ↔ c := fun c _ => by
    by_cases h : c
    · rw [if_pos h]; exact ⟨fun _ => h, fun _ => rfl⟩
    · rw [if_neg h]; exact ⟨fun z => absurd z (by omega), fun z => absurd z h⟩
  unfold zdn
  refine ⟨b1.trans (w _), b2.trans (w _), b3.trans (w _), b4, ?_, fun L hL => ?_, fun L hL => ?_, b8⟩
  · rw [if_neg n1]; exact b5
  · rw [if_neg hL]; exact b6
  · rw [if_neg hL]; exact b7
section
variable {b r : Nat → Int32} {n p : Nat} {pl tk st dg nm A k m g sp bp : Int32} {ct x1 x2 x3 x4 x5 vals ofv done oil wt tr al mo cl : Int32} {wa le de ki ca co jo fo cd rf rt t lt df kd cq cs ps bh sS sV : Nat → Int32}
theorem zLn0 (hb : zByts b n) (hB : ∀ i, i < n → zBy (b i) (r i)) (hp : p ≤ n) (h3 : zCy b n p pl tk st dg nm) (h4 : zSyn b n p A k m g sp) (hD : (zDc ct oil wt tr t ∧ zDa al le de t lt df ∧ zDm mo ki ca co jo fo t kd cq cs ps bh ∧ zDu p ct cl cd rf rt done t sS sV)) (hk : (zlx b n p).1 < 13 ∨ 19 < (zlx b n p).1) : ∃ oc om, fX5_readLine (zJ n) pl tk st dg nm 0 ct x1 x2 x3 x4 x5 b wa oil wt tr al mo cl le de ki ca co jo fo cd rf rt = some oc ∧ fX9_readLine vals A (zJ n) k m g sp 0 bp ofv t lt df kd cq cs ps bh sS sV r done = some om ∧ zLr b n p t lt df kd cq cs ps bh sS sV oc om := by
  obtain ⟨r1, r2, r3, r4, r5, r6⟩ := zlx_r (b := b) hp
  have hn := hb.1
  have n1 : ¬ (1 : Int32) = 0 := by decide
  have n5 : ¬ (5 : Int32) = 0 := by decide
  obtain ⟨D1, D2, D3, D4⟩ := hD
  obtain ⟨base, LS, LV, u1, u2, u3, u4, u5⟩ := D4
  obtain ⟨z1, z2, z3, z4, z5, z6, z7, z8⟩ := zdn_f (ct := ct) (LS := LS) (LV := LV)
  have ne : ∀ c : Nat, c < 100 → (zlx b n p).1 ≠ c → ¬ tk = zJ c := fun c hc h => by rw [h3.2.1]; exact zKn h (by omega) (by omega)
  have e20 : fX9_is 20 k g sp 0 r = some (if (zlx b n p).1 = 14 then 1 else 0) := by
    rw [h4.2.1, h4.2.2.2.1, h4.2.2.2.2]
    exact zm_isK hn hp hB (i := 20) (by omega)
  obtain ⟨oc, om, e1, e2, e3⟩ := zFin (p := p) (p1 := p) (y3 := 0) (fa := 1) (bad := 1) (bp := g) (vals := vals) (ofv := ofv) (ct := ct) (x1 := x1) (x2 := x2) (x3 := x3) (x4 := x4) (x5 := x5) (wa := wa) (done := done) (oil := oil) (wt := wt) (tr := tr) (al := al) (mo := mo) (cl := cl) (le := le) (de := de) (ki := ki) (ca := ca) (co := co) (jo := jo) (fo := fo) (cd := cd) (rf := rf) (rt := rt) (A := A) (k := k) (m := m) (g := g) (sp := sp) (pl := pl) (tk := tk) (st := st) (dg := dg) (nm := nm) hb hB (Or.inl ⟨n1, rfl, by rw [h4.2.2.2.1, h3.2.2.1], _, (by omega : (zlx b n p).2.1 ≤ n), h3.2.2.1⟩) (Nat.le_refl _) (zFr_id (t := t) (lt := lt) (df := df) (kd := kd) (cq := cq) (cs := cs) (ps := ps) (bh := bh) (sS := sS) (sV := sV)) (fun z => absurd z n1)
  refine ⟨oc, om, ?_, ?_, e3⟩
  · unfold fX5_readLine
    rw [if_neg (show ¬ tk = 13 from ne 13 (by omega) (by omega)), if_neg (show ¬ tk = 14 from ne 14 (by omega) (by omega)), if_neg (show ¬ tk = 15 from ne 15 (by omega) (by omega)), if_neg (show ¬ tk = 16 from ne 16 (by omega) (by omega)), if_neg (show ¬ tk = 17 from ne 17 (by omega) (by omega)), if_neg (show ¬ tk = 18 from ne 18 (by omega) (by omega)), if_neg (show ¬ tk = 19 from ne 19 (by omega) (by omega))]
    exact e1
  · rw [zm_disp hn hB hp h4, if_neg (by omega), if_neg (by omega), if_neg (by omega), if_neg (by omega)]
    unfold jX9_readLine_52
    rw [if_pos (by rw [u5]; exact z4)]
    unfold jX9_readLine_64
    rw [if_pos (by decide), if_pos rfl, e20, Option.bind_some, if_neg (show ¬ (zlx b n p).1 = 14 by omega), if_pos rfl]
    exact zBind (if_pos rfl) e2
theorem zLn14 (hb : zByts b n) (hB : ∀ i, i < n → zBy (b i) (r i)) (hp : p ≤ n) (h3 : zCy b n p pl tk st dg nm) (h4 : zSyn b n p A k m g sp) (hD : (zDc ct oil wt tr t ∧ zDa al le de t lt df ∧ zDm mo ki ca co jo fo t kd cq cs ps bh ∧ zDu p ct cl cd rf rt done t sS sV)) (hk : (zlx b n p).1 = 14) : ∃ oc om, fX5_readLine (zJ n) pl tk st dg nm 0 ct x1 x2 x3 x4 x5 b wa oil wt tr al mo cl le de ki ca co jo fo cd rf rt = some oc ∧ fX9_readLine vals A (zJ n) k m g sp 0 bp ofv t lt df kd cq cs ps bh sS sV r done = some om ∧ zLr b n p t lt df kd cq cs ps bh sS sV oc om := by
  obtain ⟨r1, r2, r3, r4, r5, r6⟩ := zlx_r (b := b) hp
  have hn := hb.1
  have n1 : ¬ (1 : Int32) = 0 := by decide
  have n5 : ¬ (5 : Int32) = 0 := by decide
  obtain ⟨D1, D2, D3, D4⟩ := hD
  obtain ⟨base, LS, LV, u1, u2, u3, u4, u5⟩ := D4
  obtain ⟨z1, z2, z3, z4, z5, z6, z7, z8⟩ := zdn_f (ct := ct) (LS := LS) (LV := LV)
  have ne : ∀ c : Nat, c < 100 → (zlx b n p).1 ≠ c → ¬ tk = zJ c := fun c hc h => by rw [h3.2.1]; exact zKn h (by omega) (by omega)
  have e20 : fX9_is 20 k g sp 0 r = some (if (zlx b n p).1 = 14 then 1 else 0) := by
    rw [h4.2.1, h4.2.2.2.1, h4.2.2.2.2]
    exact zm_isK hn hp hB (i := 20) (by omega)
  obtain ⟨N, a1, a2, a3, a4⟩ := D2
  obtain ⟨oa, ma, c1, c2, c3, c4, c5, c6⟩ := zBald (bp := bp) (lt := lt) (df := df) (le := le) (de := de) hb hB hp h3 h4 a1 a3
  obtain ⟨oc, om, e1, e2, e3⟩ := zFin (p := p) (p1 := p) (y3 := 0) (vals := vals) (ofv := ofv) (ct := ct) (x1 := x1) (x2 := x2) (x3 := x3) (x4 := x4) (x5 := x5) (wa := wa) (done := done) (oil := oil) (wt := wt) (tr := tr) (al := oa.2.2.2.2.2.2.1) (mo := mo) (cl := cl) (le := oa.2.2.2.2.2.2.2.1) (de := oa.2.2.2.2.2.2.2.2) (ki := ki) (ca := ca) (co := co) (jo := jo) (fo := fo) (cd := cd) (rf := rf) (rt := rt) hb hB c3 (Nat.le_refl _) (show zFr t lt df kd cq cs ps bh sS sV ma.2.2.2.2.2.2.2.1 ma.2.2.2.2.2.2.2.2.1 ma.2.2.2.2.2.2.2.2.2 kd cq cs ps bh sS sV from ⟨fun j hj => ⟨c4 j (by omega), c5 j hj⟩, fun _ _ => ⟨rfl, rfl, rfl, rfl, rfl⟩, fun _ _ => ⟨rfl, rfl⟩⟩) (fun z => by
    obtain ⟨f1, f2, f3, x, y, g1, g2, g3, g4, g5, g6, g7, g8⟩ := c6 z
    refine ⟨zDc_t D1 (c4 7 (by omega)) (c4 8 (by omega)) (c4 9 (by omega)), ⟨N + 1, by omega, f2, f3, fun a ha => ?_⟩, zDm_t D3 (c4 11 (by omega)), zDu_t ⟨base, LS, LV, u1, u2, u3, u4, by rw [u5]; exact z8⟩ (c4 12 (by omega)) (c4 13 (by omega))⟩
    rw [g5, g6, g7, g8]
    rcases Nat.lt_or_ge a N with q | q
    · rw [zupd_ne (show a ≠ N by omega), zupd_ne (show a ≠ N by omega), zupd_ne (show 7 + a ≠ 7 + N by omega), zupd_ne (show 7 + a ≠ 7 + N by omega)]
      exact a4 a q
    · have : a = N := by omega
      subst this
      rw [zupd_eq, zupd_eq, zupd_eq, zupd_eq]
      exact ⟨⟨rfl, g1, g2⟩, rfl, g3, g4⟩)
  refine ⟨oc, om, ?_, ?_, e3⟩
  · unfold fX5_readLine
    rw [if_neg (show ¬ tk = 13 from ne 13 (by omega) (by omega)), if_pos (show tk = 14 by rw [h3.2.1, hk]; rfl), a2]
    exact zBind c1 e1
  · rw [zm_disp hn hB hp h4, if_neg (by omega), if_neg (by omega), if_neg (by omega), if_neg (by omega)]
    unfold jX9_readLine_52
    rw [if_pos (by rw [u5]; exact z4)]
    unfold jX9_readLine_64
    rw [if_pos (by decide), if_pos rfl, e20, Option.bind_some, if_pos hk, if_neg n1]
    exact zBind c2 e2
theorem zLn15 (hb : zByts b n) (hB : ∀ i, i < n → zBy (b i) (r i)) (hp : p ≤ n) (h3 : zCy b n p pl tk st dg nm) (h4 : zSyn b n p A k m g sp) (hD : (zDc ct oil wt tr t ∧ zDa al le de t lt df ∧ zDm mo ki ca co jo fo t kd cq cs ps bh ∧ zDu p ct cl cd rf rt done t sS sV)) (hk : (zlx b n p).1 = 15) : ∃ oc om, fX5_readLine (zJ n) pl tk st dg nm 0 ct x1 x2 x3 x4 x5 b wa oil wt tr al mo cl le de ki ca co jo fo cd rf rt = some oc ∧ fX9_readLine vals A (zJ n) k m g sp 0 bp ofv t lt df kd cq cs ps bh sS sV r done = some om ∧ zLr b n p t lt df kd cq cs ps bh sS sV oc om := by
  obtain ⟨r1, r2, r3, r4, r5, r6⟩ := zlx_r (b := b) hp
  have hn := hb.1
  have n1 : ¬ (1 : Int32) = 0 := by decide
  have n5 : ¬ (5 : Int32) = 0 := by decide
  obtain ⟨D1, D2, D3, D4⟩ := hD
  obtain ⟨base, LS, LV, u1, u2, u3, u4, u5⟩ := D4
  obtain ⟨z1, z2, z3, z4, z5, z6, z7, z8⟩ := zdn_f (ct := ct) (LS := LS) (LV := LV)
  have ne : ∀ c : Nat, c < 100 → (zlx b n p).1 ≠ c → ¬ tk = zJ c := fun c hc h => by rw [h3.2.1]; exact zKn h (by omega) (by omega)
  have e20 : fX9_is 20 k g sp 0 r = some (if (zlx b n p).1 = 14 then 1 else 0) := by
    rw [h4.2.1, h4.2.2.2.1, h4.2.2.2.2]
    exact zm_isK hn hp hB (i := 20) (by omega)
  obtain ⟨N, a1, a2, a3, a4⟩ := D3
  obtain ⟨oa, ma, c1, c2, c3, c4, c5, c6⟩ := zBmot (bp := bp) (kd := kd) (cl := cq) (cs := cs) (ps := ps) (bh := bh) (ki := ki) (ca := ca) (co := co) (jo := jo) (fo := fo) (kv := 0) hb hB hp h3 h4 a1 a3
  obtain ⟨oc, om, e1, e2, e3⟩ := zFin (p := p) (p1 := p) (y3 := 0) (vals := vals) (ofv := ofv) (ct := ct) (x1 := x1) (x2 := x2) (x3 := x3) (x4 := x4) (x5 := x5) (wa := wa) (done := done) (oil := oil) (wt := wt) (tr := tr) (al := al) (mo := oa.2.2.2.2.2.2.1) (cl := cl) (le := le) (de := de) (ki := oa.2.2.2.2.2.2.2.1) (ca := oa.2.2.2.2.2.2.2.2.1) (co := oa.2.2.2.2.2.2.2.2.2.1) (jo := oa.2.2.2.2.2.2.2.2.2.2.1) (fo := oa.2.2.2.2.2.2.2.2.2.2.2) (cd := cd) (rf := rf) (rt := rt) hb hB c3 (Nat.le_refl _) (show zFr t lt df kd cq cs ps bh sS sV ma.2.2.2.2.2.2.2.1 lt df ma.2.2.2.2.2.2.2.2.1 ma.2.2.2.2.2.2.2.2.2.1 ma.2.2.2.2.2.2.2.2.2.2.1 ma.2.2.2.2.2.2.2.2.2.2.2.1 ma.2.2.2.2.2.2.2.2.2.2.2.2 sS sV from ⟨fun j hj => ⟨c4 j (by omega), rfl, rfl⟩, c5, fun _ _ => ⟨rfl, rfl⟩⟩) (fun z => by
    obtain ⟨f1, f2, f3, x, y, w, v, g1, g2, g3, g4, g5, g6, g7, g8, g9, g10, g11, g12, g13, g14, g15, g16, g17, g18, g19⟩ := c6 z
    refine ⟨zDc_t D1 (c4 7 (by omega)) (c4 8 (by omega)) (c4 9 (by omega)), zDa_t D2 (c4 10 (by omega)), ⟨N + 1, by omega, f2, f3, fun a ha => ?_⟩, zDu_t ⟨base, LS, LV, u1, u2, u3, u4, by rw [u5]; exact z8⟩ (c4 12 (by omega)) (c4 13 (by omega))⟩
    rw [g8, g9, g10, g11, g14, g15, g16, g17]
    rcases Nat.lt_or_ge a N with q | q
    · rw [zupd_ne (show a ≠ N by omega), zupd_ne (show a ≠ N by omega), zupd_ne (show a ≠ N by omega), zupd_ne (show a ≠ N by omega), zupd_ne (show 10 + a ≠ 10 + N by omega), zupd_ne (show 10 + a ≠ 10 + N by omega), zupd_ne (show 10 + a ≠ 10 + N by omega), zupd_ne (show 10 + a ≠ 10 + N by omega), g13 a (by omega), g19 (10 + a) (by omega)]
      exact a4 a q
    · have : a = N := by omega
      subst this
      rw [zupd_eq, zupd_eq, zupd_eq, zupd_eq, zupd_eq, zupd_eq, zupd_eq, zupd_eq, g12, g18]
      exact ⟨⟨rfl, by decide, by decide⟩, ⟨rfl, g1, g2⟩, ⟨rfl, g3, g4⟩, ⟨rfl, g5, g6⟩, rfl, g7⟩)
  refine ⟨oc, om, ?_, ?_, e3⟩
  · unfold fX5_readLine
    rw [if_neg (show ¬ tk = 13 from ne 13 (by omega) (by omega)), if_neg (show ¬ tk = 14 from ne 14 (by omega) (by omega)), if_pos (show tk = 15 by rw [h3.2.1, hk]; rfl), a2]
    exact zBind c1 e1
  · rw [zm_disp hn hB hp h4, if_pos (by omega), if_neg (by omega), if_neg (by omega), if_neg (by omega)]
    unfold jX9_readLine_52
    rw [if_pos (by rw [u5]; exact z4)]
    unfold jX9_readLine_64
    rw [if_pos (by decide), show zJ ((zlx b n p).1 - 15) = 0 by rw [hk]; rfl, if_neg (by decide)]
    exact zBind c2 e2
theorem zLn16 (hb : zByts b n) (hB : ∀ i, i < n → zBy (b i) (r i)) (hp : p ≤ n) (h3 : zCy b n p pl tk st dg nm) (h4 : zSyn b n p A k m g sp) (hD : (zDc ct oil wt tr t ∧ zDa al le de t lt df ∧ zDm mo ki ca co jo fo t kd cq cs ps bh ∧ zDu p ct cl cd rf rt done t sS sV)) (hk : (zlx b n p).1 = 16) : ∃ oc om, fX5_readLine (zJ n) pl tk st dg nm 0 ct x1 x2 x3 x4 x5 b wa oil wt tr al mo cl le de ki ca co jo fo cd rf rt = some oc ∧ fX9_readLine vals A (zJ n) k m g sp 0 bp ofv t lt df kd cq cs ps bh sS sV r done = some om ∧ zLr b n p t lt df kd cq cs ps bh sS sV oc om := by
  obtain ⟨r1, r2, r3, r4, r5, r6⟩ := zlx_r (b := b) hp
  have hn := hb.1
  have n1 : ¬ (1 : Int32) = 0 := by decide
  have n5 : ¬ (5 : Int32) = 0 := by decide
  obtain ⟨D1, D2, D3, D4⟩ := hD
  obtain ⟨base, LS, LV, u1, u2, u3, u4, u5⟩ := D4
  obtain ⟨z1, z2, z3, z4, z5, z6, z7, z8⟩ := zdn_f (ct := ct) (LS := LS) (LV := LV)
  have ne : ∀ c : Nat, c < 100 → (zlx b n p).1 ≠ c → ¬ tk = zJ c := fun c hc h => by rw [h3.2.1]; exact zKn h (by omega) (by omega)
  have e20 : fX9_is 20 k g sp 0 r = some (if (zlx b n p).1 = 14 then 1 else 0) := by
    rw [h4.2.1, h4.2.2.2.1, h4.2.2.2.2]
    exact zm_isK hn hp hB (i := 20) (by omega)
  obtain ⟨N, a1, a2, a3, a4⟩ := D3
  obtain ⟨oa, ma, c1, c2, c3, c4, c5, c6⟩ := zBmot (bp := bp) (kd := kd) (cl := cq) (cs := cs) (ps := ps) (bh := bh) (ki := ki) (ca := ca) (co := co) (jo := jo) (fo := fo) (kv := 1) hb hB hp h3 h4 a1 a3
  obtain ⟨oc, om, e1, e2, e3⟩ := zFin (p := p) (p1 := p) (y3 := 0) (vals := vals) (ofv := ofv) (ct := ct) (x1 := x1) (x2 := x2) (x3 := x3) (x4 := x4) (x5 := x5) (wa := wa) (done := done) (oil := oil) (wt := wt) (tr := tr) (al := al) (mo := oa.2.2.2.2.2.2.1) (cl := cl) (le := le) (de := de) (ki := oa.2.2.2.2.2.2.2.1) (ca := oa.2.2.2.2.2.2.2.2.1) (co := oa.2.2.2.2.2.2.2.2.2.1) (jo := oa.2.2.2.2.2.2.2.2.2.2.1) (fo := oa.2.2.2.2.2.2.2.2.2.2.2) (cd := cd) (rf := rf) (rt := rt) hb hB c3 (Nat.le_refl _) (show zFr t lt df kd cq cs ps bh sS sV ma.2.2.2.2.2.2.2.1 lt df ma.2.2.2.2.2.2.2.2.1 ma.2.2.2.2.2.2.2.2.2.1 ma.2.2.2.2.2.2.2.2.2.2.1 ma.2.2.2.2.2.2.2.2.2.2.2.1 ma.2.2.2.2.2.2.2.2.2.2.2.2 sS sV from ⟨fun j hj => ⟨c4 j (by omega), rfl, rfl⟩, c5, fun _ _ => ⟨rfl, rfl⟩⟩) (fun z => by
    obtain ⟨f1, f2, f3, x, y, w, v, g1, g2, g3, g4, g5, g6, g7, g8, g9, g10, g11, g12, g13, g14, g15, g16, g17, g18, g19⟩ := c6 z
    refine ⟨zDc_t D1 (c4 7 (by omega)) (c4 8 (by omega)) (c4 9 (by omega)), zDa_t D2 (c4 10 (by omega)), ⟨N + 1, by omega, f2, f3, fun a ha => ?_⟩, zDu_t ⟨base, LS, LV, u1, u2, u3, u4, by rw [u5]; exact z8⟩ (c4 12 (by omega)) (c4 13 (by omega))⟩
    rw [g8, g9, g10, g11, g14, g15, g16, g17]
    rcases Nat.lt_or_ge a N with q | q
    · rw [zupd_ne (show a ≠ N by omega), zupd_ne (show a ≠ N by omega), zupd_ne (show a ≠ N by omega), zupd_ne (show a ≠ N by omega), zupd_ne (show 10 + a ≠ 10 + N by omega), zupd_ne (show 10 + a ≠ 10 + N by omega), zupd_ne (show 10 + a ≠ 10 + N by omega), zupd_ne (show 10 + a ≠ 10 + N by omega), g13 a (by omega), g19 (10 + a) (by omega)]
      exact a4 a q
    · have : a = N := by omega
      subst this
      rw [zupd_eq, zupd_eq, zupd_eq, zupd_eq, zupd_eq, zupd_eq, zupd_eq, zupd_eq, g12, g18]
      exact ⟨⟨rfl, by decide, by decide⟩, ⟨rfl, g1, g2⟩, ⟨rfl, g3, g4⟩, ⟨rfl, g5, g6⟩, rfl, g7⟩)
  refine ⟨oc, om, ?_, ?_, e3⟩
  · unfold fX5_readLine
    rw [if_neg (show ¬ tk = 13 from ne 13 (by omega) (by omega)), if_neg (show ¬ tk = 14 from ne 14 (by omega) (by omega)), if_neg (show ¬ tk = 15 from ne 15 (by omega) (by omega)), if_pos (show tk = 16 by rw [h3.2.1, hk]; rfl), a2]
    exact zBind c1 e1
  · rw [zm_disp hn hB hp h4, if_pos (by omega), if_neg (by omega), if_neg (by omega), if_neg (by omega)]
    unfold jX9_readLine_52
    rw [if_pos (by rw [u5]; exact z4)]
    unfold jX9_readLine_64
    rw [if_pos (by decide), show zJ ((zlx b n p).1 - 15) = 1 by rw [hk]; rfl, if_neg (by decide)]
    exact zBind c2 e2
theorem zLn17 (hb : zByts b n) (hB : ∀ i, i < n → zBy (b i) (r i)) (hp : p ≤ n) (h3 : zCy b n p pl tk st dg nm) (h4 : zSyn b n p A k m g sp) (hD : (zDc ct oil wt tr t ∧ zDa al le de t lt df ∧ zDm mo ki ca co jo fo t kd cq cs ps bh ∧ zDu p ct cl cd rf rt done t sS sV)) (hk : (zlx b n p).1 = 17) : ∃ oc om, fX5_readLine (zJ n) pl tk st dg nm 0 ct x1 x2 x3 x4 x5 b wa oil wt tr al mo cl le de ki ca co jo fo cd rf rt = some oc ∧ fX9_readLine vals A (zJ n) k m g sp 0 bp ofv t lt df kd cq cs ps bh sS sV r done = some om ∧ zLr b n p t lt df kd cq cs ps bh sS sV oc om := by
  obtain ⟨r1, r2, r3, r4, r5, r6⟩ := zlx_r (b := b) hp
  have hn := hb.1
  have n1 : ¬ (1 : Int32) = 0 := by decide
  have n5 : ¬ (5 : Int32) = 0 := by decide
  obtain ⟨D1, D2, D3, D4⟩ := hD
  obtain ⟨base, LS, LV, u1, u2, u3, u4, u5⟩ := D4
  obtain ⟨z1, z2, z3, z4, z5, z6, z7, z8⟩ := zdn_f (ct := ct) (LS := LS) (LV := LV)
  have ne : ∀ c : Nat, c < 100 → (zlx b n p).1 ≠ c → ¬ tk = zJ c := fun c hc h => by rw [h3.2.1]; exact zKn h (by omega) (by omega)
  have e20 : fX9_is 20 k g sp 0 r = some (if (zlx b n p).1 = 14 then 1 else 0) := by
    rw [h4.2.1, h4.2.2.2.1, h4.2.2.2.2]
    exact zm_isK hn hp hB (i := 20) (by omega)
  obtain ⟨N, a1, a2, a3, a4⟩ := D3
  obtain ⟨oa, ma, c1, c2, c3, c4, c5, c6⟩ := zBmot (bp := bp) (kd := kd) (cl := cq) (cs := cs) (ps := ps) (bh := bh) (ki := ki) (ca := ca) (co := co) (jo := jo) (fo := fo) (kv := 2) hb hB hp h3 h4 a1 a3
  obtain ⟨oc, om, e1, e2, e3⟩ := zFin (p := p) (p1 := p) (y3 := 0) (vals := vals) (ofv := ofv) (ct := ct) (x1 := x1) (x2 := x2) (x3 := x3) (x4 := x4) (x5 := x5) (wa := wa) (done := done) (oil := oil) (wt := wt) (tr := tr) (al := al) (mo := oa.2.2.2.2.2.2.1) (cl := cl) (le := le) (de := de) (ki := oa.2.2.2.2.2.2.2.1) (ca := oa.2.2.2.2.2.2.2.2.1) (co := oa.2.2.2.2.2.2.2.2.2.1) (jo := oa.2.2.2.2.2.2.2.2.2.2.1) (fo := oa.2.2.2.2.2.2.2.2.2.2.2) (cd := cd) (rf := rf) (rt := rt) hb hB c3 (Nat.le_refl _) (show zFr t lt df kd cq cs ps bh sS sV ma.2.2.2.2.2.2.2.1 lt df ma.2.2.2.2.2.2.2.2.1 ma.2.2.2.2.2.2.2.2.2.1 ma.2.2.2.2.2.2.2.2.2.2.1 ma.2.2.2.2.2.2.2.2.2.2.2.1 ma.2.2.2.2.2.2.2.2.2.2.2.2 sS sV from ⟨fun j hj => ⟨c4 j (by omega), rfl, rfl⟩, c5, fun _ _ => ⟨rfl, rfl⟩⟩) (fun z => by
    obtain ⟨f1, f2, f3, x, y, w, v, g1, g2, g3, g4, g5, g6, g7, g8, g9, g10, g11, g12, g13, g14, g15, g16, g17, g18, g19⟩ := c6 z
    refine ⟨zDc_t D1 (c4 7 (by omega)) (c4 8 (by omega)) (c4 9 (by omega)), zDa_t D2 (c4 10 (by omega)), ⟨N + 1, by omega, f2, f3, fun a ha => ?_⟩, zDu_t ⟨base, LS, LV, u1, u2, u3, u4, by rw [u5]; exact z8⟩ (c4 12 (by omega)) (c4 13 (by omega))⟩
    rw [g8, g9, g10, g11, g14, g15, g16, g17]
    rcases Nat.lt_or_ge a N with q | q
    · rw [zupd_ne (show a ≠ N by omega), zupd_ne (show a ≠ N by omega), zupd_ne (show a ≠ N by omega), zupd_ne (show a ≠ N by omega), zupd_ne (show 10 + a ≠ 10 + N by omega), zupd_ne (show 10 + a ≠ 10 + N by omega), zupd_ne (show 10 + a ≠ 10 + N by omega), zupd_ne (show 10 + a ≠ 10 + N by omega), g13 a (by omega), g19 (10 + a) (by omega)]
      exact a4 a q
    · have : a = N := by omega
      subst this
      rw [zupd_eq, zupd_eq, zupd_eq, zupd_eq, zupd_eq, zupd_eq, zupd_eq, zupd_eq, g12, g18]
      exact ⟨⟨rfl, by decide, by decide⟩, ⟨rfl, g1, g2⟩, ⟨rfl, g3, g4⟩, ⟨rfl, g5, g6⟩, rfl, g7⟩)
  refine ⟨oc, om, ?_, ?_, e3⟩
  · unfold fX5_readLine
    rw [if_neg (show ¬ tk = 13 from ne 13 (by omega) (by omega)), if_neg (show ¬ tk = 14 from ne 14 (by omega) (by omega)), if_neg (show ¬ tk = 15 from ne 15 (by omega) (by omega)), if_neg (show ¬ tk = 16 from ne 16 (by omega) (by omega)), if_pos (show tk = 17 by rw [h3.2.1, hk]; rfl), a2]
    exact zBind c1 e1
  · rw [zm_disp hn hB hp h4, if_pos (by omega), if_neg (by omega), if_neg (by omega), if_neg (by omega)]
    unfold jX9_readLine_52
    rw [if_pos (by rw [u5]; exact z4)]
    unfold jX9_readLine_64
    rw [if_pos (by decide), show zJ ((zlx b n p).1 - 15) = 2 by rw [hk]; rfl, if_neg (by decide)]
    exact zBind c2 e2
end
