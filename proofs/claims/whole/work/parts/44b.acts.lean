/-! ===== pure: acts that are kept ===== -/
theorem zcpb {sp dp n n0 n1 : Nat} (h0 : sp + n ≤ n0) (h1 : dp + n ≤ n1) (b0 : n0 < 2147483648) (b1 : n1 < 2147483648) : cpb (zJ sp) (zJ dp) (zJ n) n0 n1 = true := by
  unfold cpb
  rw [decide_eq_true_eq, zJ_ix (by omega), zJ_ix (by omega), zJ_ix (by omega)]
  exact ⟨zJ_nn (by omega), zJ_nn (by omega), zJ_nn (by omega), h0, h1⟩
theorem zcpy_out {f g : Nat → Int32} {sp dp n k : Nat} (h : k < dp ∨ dp + n ≤ k) : va_cpy f g sp dp n k = g k := by unfold va_cpy; rw [if_neg (by omega)]
theorem zcpy_in {f g : Nat → Int32} {sp dp n k : Nat} (h : k < n) : va_cpy f g sp dp n (dp + k) = f (sp + k) := by
  unfold va_cpy; rw [if_pos (by omega)]; congr 1; omega
theorem zcpy_at {f g : Nat → Int32} {sp dp n k : Nat} (h : dp ≤ k) (h2 : k < dp + n) : va_cpy f g sp dp n k = f (sp + (k - dp)) := by
  unfold va_cpy; rw [if_pos ⟨h, h2⟩]
theorem zc_write {p : Nat} {h o w s tr jo pa : Int32} {le ca P : Nat → Int32} (hp : p + 24 ≤ 960) : zOk (fX7_writeTo 960 h o w s tr jo pa le ca P (zJ p)) (fun P' => zPk P' p h o w s tr jo pa le ca ∧ ∀ j, (j < p ∨ p + 24 ≤ j) → P' j = P j) := by
  unfold fX7_writeTo
  refine zOk.neg (zJ_nn (by omega)) ?_
  refine zOk.pos (show zJ p ≤ zJ 960 - zJ 24 by rw [zJ_sub (by omega)]; exact zJ_yle (by omega) (by omega)) ?_
  simp only [zJ_a1, zJ_a2, zJ_a3, zJ_a4, zJ_a5, zJ_a6, zJ_a7]
  have c1 : cpb 0 (zJ (p + 7)) 7 7 960 = true := zcpb (sp := 0) (n := 7) (by omega) (by omega) (by omega) (by omega)
  have c2 : cpb 0 (zJ (p + 7 + 7)) 10 10 960 = true := zcpb (sp := 0) (n := 10) (by omega) (by omega) (by omega) (by omega)
  rw [ck_t (zinb (by omega) (by omega)), ck_t (zinb (by omega) (by omega)), ck_t (zinb (by omega) (by omega)), ck_t (zinb (by omega) (by omega)), ck_t (zinb (by omega) (by omega)), ck_t (zinb (by omega) (by omega)), ck_t (zinb (by omega) (by omega)), ck_t c1, ck_t c2, zJ_ix (show p < 2147483648 by omega), zJ_ix (show p + 1 < 2147483648 by omega), zJ_ix (show p + 2 < 2147483648 by omega), zJ_ix (show p + 3 < 2147483648 by omega), zJ_ix (show p + 4 < 2147483648 by omega), zJ_ix (show p + 5 < 2147483648 by omega), zJ_ix (show p + 6 < 2147483648 by omega), zJ_ix (show p + 7 < 2147483648 by omega), zJ_ix (show p + 7 + 7 < 2147483648 by omega), show (0 : Int32).toNatClampNeg = 0 from rfl, show (7 : Int32).toNatClampNeg = 7 from rfl, show (10 : Int32).toNatClampNeg = 10 from rfl]
  refine zOk.pure ⟨⟨?_, ?_, ?_, ?_, ?_, ?_, ?_, fun a ha => ?_, fun m hm => ?_⟩, fun j hj => ?_⟩
  all_goals first
    | (simp (disch := omega) only [zcpy_out, zupd_eq, zupd_ne, ne_eq]; done)
    | (rw [zcpy_out (by omega), zcpy_in ha, Nat.zero_add])
    | (rw [show p + 14 + m = p + 7 + 7 + m by omega, zcpy_in hm, Nat.zero_add])
theorem zc_read {p : Nat} {h o w s tr jo pa : Int32} {le ca P : Nat → Int32} (hp : p + 24 ≤ 960) : fX7_readFrom 960 h o w s tr jo pa le ca P (zJ p) = some (P p, P (p + 1), P (p + 2), P (p + 3), P (p + 4), P (p + 5), P (p + 6), va_cpy P le (p + 7) 0 7, va_cpy P ca (p + 14) 0 10) := by
  unfold fX7_readFrom
  rw [if_neg (zJ_nn (by omega)), if_pos (show zJ p ≤ Int32.ofNat 960 - 24 by show zJ p ≤ zJ 960 - zJ 24; rw [zJ_sub (by omega)]; exact zJ_yle (by omega) (by omega))]
  simp only [zJ_a1, zJ_a2, zJ_a3, zJ_a4, zJ_a5, zJ_a6, zJ_a7]
  have c1 : cpb (zJ (p + 7)) 0 7 960 7 = true := zcpb (dp := 0) (n := 7) (by omega) (by omega) (by omega) (by omega)
  have c2 : cpb (zJ (p + 7 + 7)) 0 10 960 10 = true := zcpb (dp := 0) (n := 10) (by omega) (by omega) (by omega) (by omega)
  rw [ck_t (zinb (by omega) (by omega)), ck_t (zinb (by omega) (by omega)), ck_t (zinb (by omega) (by omega)), ck_t (zinb (by omega) (by omega)), ck_t (zinb (by omega) (by omega)), ck_t (zinb (by omega) (by omega)), ck_t (zinb (by omega) (by omega)), ck_t c1, ck_t c2, zJ_ix (show p < 2147483648 by omega), zJ_ix (show p + 1 < 2147483648 by omega), zJ_ix (show p + 2 < 2147483648 by omega), zJ_ix (show p + 3 < 2147483648 by omega), zJ_ix (show p + 4 < 2147483648 by omega), zJ_ix (show p + 5 < 2147483648 by omega), zJ_ix (show p + 6 < 2147483648 by omega), zJ_ix (show p + 7 < 2147483648 by omega), zJ_ix (show p + 7 + 7 < 2147483648 by omega), show (0 : Int32).toNatClampNeg = 0 from rfl, show (7 : Int32).toNatClampNeg = 7 from rfl, show (10 : Int32).toNatClampNeg = 10 from rfl]
theorem zl_keep {ke : (Nat → Int32) → Option (Int32 × (Nat → Int32))} {Q : Int32 × (Nat → Int32) → Prop} : ∀ (k i fuel : Nat) (P : Nat → Int32), k + i = 960 → 24 ≤ i → k < fuel → (∀ P', (∀ j, i ≤ j + 24 → j < 936 → P' j = P (j + 24)) → (∀ j, (j + 24 < i ∨ 936 ≤ j) → P' j = P j) → zOk (ke P') Q) → zOk (lX9_keep_12 ke fuel P (zJ i)) Q := by
  intro k
  induction k with
  | zero =>
    intro i fuel P hk hi hf kk
    obtain ⟨fuel, rfl, hf⟩ := zfu hf
    unfold lX9_keep_12
    exact zOk.pos (zJ_yle (a := 960) (by omega) (by omega)) (kk P (fun j h1 h2 => by omega) (fun j _ => rfl))
  | succ k ih =>
    intro i fuel P hk hi hf kk
    obtain ⟨fuel, rfl, hf⟩ := zfu hf
    unfold lX9_keep_12
    refine zOk.neg (zJ_nle (a := 960) (by omega) (by omega)) ?_
    have e : zJ i - (24 : Int32) = zJ (i - 24) := zJ_sub (b := 24) (by omega)
    rw [e, ck_t (zinb (by omega) (by omega)), ck_t (zinb (by omega) (by omega)), zJ_ix (by omega), zJ_ix (by omega), zJ_succ]
    refine ih (i + 1) fuel _ (by omega) (by omega) (by omega) (fun P' h1 h2 => kk P' (fun j ha hb => ?_) (fun j hj => ?_))
    · by_cases q : j + 24 = i
      · rw [h2 _ (by omega), show j = i - 24 by omega, zupd_eq, show i - 24 + 24 = i by omega]
      · rw [h1 j (by omega) hb, zupd_ne (by omega)]
    · rw [h2 _ (by omega), zupd_ne (by omega)]
theorem zPk_row {E : zE} (hE : zEok E) {t : zT} {P le ca : Nat → Int32} {p : Nat} (hl : ∀ a, a < E.nA → le a = t.lean a) (hc : ∀ m, m < E.nM → ca m = t.call m) (h : zPk P p t.hour t.oil t.weight t.spider t.treas t.joy t.passed le ca) : zRow E t P p := by
  obtain ⟨e0, e1, e2, e3, e4, e5, e6, e7, e8⟩ := h
  have h7 := hE.a7
  have h10 := hE.m10
  exact ⟨e0, e1, e2, e3, e4, e5, e6, fun a ha => (e7 a (by omega)).trans (hl a ha), fun m hm => (e8 m (by omega)).trans (hc m hm)⟩
theorem zRow_cong {E : zE} (hE : zEok E) {u : zT} {P P' : Nat → Int32} {p p' : Nat} (h : zRow E u P p) (e : ∀ j, j < 24 → P' (p' + j) = P (p + j)) : zRow E u P' p' := by
  have h7 := hE.a7
  have h10 := hE.m10
  obtain ⟨e0, e1, e2, e3, e4, e5, e6, e7, e8⟩ := h
  refine ⟨(e 0 (by omega)).trans e0, (e 1 (by omega)).trans e1, (e 2 (by omega)).trans e2, (e 3 (by omega)).trans e3, (e 4 (by omega)).trans e4, (e 5 (by omega)).trans e5, (e 6 (by omega)).trans e6, fun a ha => ?_, fun m hm => ?_⟩
  · show P' (p' + 7 + a) = _
    rw [Nat.add_assoc, e (7 + a) (by omega), ← Nat.add_assoc]; exact e7 a ha
  · show P' (p' + 14 + m) = _
    rw [Nat.add_assoc, e (14 + m) (by omega), ← Nat.add_assoc]; exact e8 m hm
theorem zkeep {E : zE} (hE : zEok E) {t : zT} (ht : zTb E 9999 t) {n n' : Int32} {P P' le ca le' ca' : Nat → Int32} (h : zHist E n n' P P') (hl : ∀ a, a < E.nA → le a = t.lean a) (hc : ∀ m, m < E.nM → ca m = t.call m) (hl' : ∀ a, a < E.nA → le' a = t.lean a) (hc' : ∀ m, m < E.nM → ca' m = t.call m) : ∃ v w, fX0_keepAct n P t.hour t.oil t.weight t.spider t.treas t.joy t.passed le ca = some v ∧ fX9_keep t.hour t.oil t.weight t.spider t.treas t.joy t.passed n' le' ca' P' = some w ∧ zHist E v.1 w.1 v.2 w.2 := by
  obtain ⟨k, hk, rfl, rfl, hr⟩ := h
  have go : ∀ (k : Nat) (P P' : Nat → Int32), k < 40 → (∀ i, i < k → ∃ u, zTb E 9999 u ∧ zRow E u P (24 * i) ∧ zRow E u P' (24 * i)) → ∃ v w, jX0_keepAct_37 (zJ k) P t.hour t.oil t.weight t.spider t.treas t.joy t.passed le ca = some v ∧ jX9_keep_52 t.hour t.oil t.weight t.spider t.treas t.joy t.passed (zJ k) le' ca' P' = some w ∧ zHist E v.1 w.1 v.2 w.2 := by
    intro k P P' hk hr
    unfold jX0_keepAct_37 jX9_keep_52
    have m1 : zJ k * (24 : Int32) = zJ (24 * k) := by rw [show (24 : Int32) = zJ 24 from rfl, zJ_mul, Nat.mul_comm]
    have m2 : (24 : Int32) * zJ k = zJ (24 * k) := by rw [show (24 : Int32) = zJ 24 from rfl, zJ_mul]
    rw [m1, m2]
    obtain ⟨Q, e1, h1, h2⟩ := zc_write (p := 24 * k) (h := t.hour) (o := t.oil) (w := t.weight) (s := t.spider) (tr := t.treas) (jo := t.joy) (pa := t.passed) (le := le) (ca := ca) (P := P) (by omega)
    obtain ⟨Q', e1', h1', h2'⟩ := zm_pack (n0 := 960) (p := 24 * k) (h := t.hour) (o := t.oil) (w := t.weight) (s := t.spider) (tr := t.treas) (jo := t.joy) (pa := t.passed) (lean := le') (call := ca') (P := P') (by omega) (by omega)
    rw [e1, e1']
    refine ⟨_, _, rfl, rfl, k + 1, by omega, zJ_succ, zJ_succ, fun i hi => ?_⟩
    by_cases q : i = k
    · subst q
      exact ⟨t, ht, zPk_row hE hl hc h1, zPk_row hE hl' hc' h1'⟩
    · obtain ⟨u, a1, a2, a3⟩ := hr i (by omega)
      exact ⟨u, a1, zRow_cong hE a2 (fun j hj => h2 _ (by omega)), zRow_cong hE a3 (fun j hj => h2' _ (by omega))⟩
  unfold fX0_keepAct fX9_keep
  by_cases q : k = 40
  · subst q
    rw [if_neg (by decide), if_pos (by decide), ck_t (by decide), show ((960 : Int32) - (24 : Int32)).toNatClampNeg = 936 from rfl, show (24 : Int32).toNatClampNeg = 24 from rfl, show (0 : Int32).toNatClampNeg = 0 from rfl, show zJ 40 - (1 : Int32) = zJ 39 from rfl, show (39 : Int32) = zJ 39 from rfl]
    have hs := zl_keep (ke := fun Q => jX9_keep_52 t.hour t.oil t.weight t.spider t.treas t.joy t.passed (zJ 39) le' ca' Q) (Q := fun w => ∃ v, jX0_keepAct_37 (zJ 39) (va_cpy P P 24 0 936) t.hour t.oil t.weight t.spider t.treas t.joy t.passed le ca = some v ∧ zHist E v.1 w.1 v.2 w.2) 936 24 FU P' (by omega) (by omega) (by unfold FU; omega) (fun Q h1 h2 => ?_)
    · obtain ⟨w, ew, v, ev, hh⟩ := hs
      exact ⟨v, w, ev, ew, hh⟩
    · obtain ⟨v, w, ev, ew, hh⟩ := go 39 (va_cpy P P 24 0 936) Q (by omega) (fun i hi => by
        obtain ⟨u, a1, a2, a3⟩ := hr (i + 1) (by omega)
        refine ⟨u, a1, zRow_cong hE a2 (fun j hj => ?_), zRow_cong hE a3 (fun j hj => ?_)⟩
        · rw [zcpy_at (by omega) (by omega)]; congr 1; omega
        · rw [h1 _ (by omega) (by omega)]; congr 1; omega)
      exact ⟨w, ew, v, ev, hh⟩
  · rw [if_pos (show zJ k < 40 from zJ_ylt (b := 40) (by omega) (by omega)), if_neg (show ¬ zJ k = 40 from fun z => q ((zJ_inj (b := 40) (by omega) (by omega)).1 z))]
    exact go k P P' (by omega) hr
