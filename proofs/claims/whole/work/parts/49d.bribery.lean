/-! ===== pure: whom to bribe ===== -/
def zpf (E : zE) (p : Int32) (a m : Nat) (said lean : Int32) : Nat → Nat → Int32
  | 0, _ => -1
  | k + 1, e => if zfor E p a (lean + zJ e) m said then zJ e else zpf E p a m said lean k (e + 1)
theorem zpf_r {E : zE} {p : Int32} {a m : Nat} {said lean : Int32} : ∀ (k e : Nat), zpf E p a m said lean k e = -1 ∨ ∃ h, h < e + k ∧ zpf E p a m said lean k e = zJ h
  | 0, _ => Or.inl rfl
  | k + 1, e => by
    unfold zpf
    split
    · exact Or.inr ⟨e, by omega, rfl⟩
    · rcases zpf_r (E := E) (p := p) (a := a) (m := m) (said := said) (lean := lean) k (e + 1) with h | ⟨h, h1, h2⟩
      · exact Or.inl h
      · exact Or.inr ⟨h, by omega, h2⟩
theorem zlean {l : Int32} (h : -9 ≤ l ∧ l ≤ 9) : ∃ K, K ≤ 18 ∧ (9 : Int32) - l = zJ K ∧ ∀ e, e ≤ 30 → ((9 : Int32) < l + zJ e ↔ K < e) := by
  have h1 : (-9 : Int) ≤ l.toInt := Int32.le_iff_toInt_le.1 h.1
  have h2 : l.toInt ≤ 9 := Int32.le_iff_toInt_le.1 h.2
  refine ⟨(9 - l.toInt).toNat, by omega, ?_, fun e he => ?_⟩
  · rw [← Int32.toInt_inj, Int32.toInt_sub, zJ_toInt (by omega), show (9 : Int32).toInt = 9 from rfl, Int.bmod_eq_of_le (by omega) (by omega)]; omega
  · rw [Int32.lt_iff_toInt_lt, Int32.toInt_add, zJ_toInt (by omega), show (9 : Int32).toInt = 9 from rfl, Int.bmod_eq_of_le (by omega) (by omega)]; omega
def zMinP (X : Nat → Int32) (N : Nat) (b : Int32) : Prop := (b = -1 ∧ ∀ a, a < N → X a = -1) ∨ ∃ j, j < N ∧ b = zJ j ∧ X j ≠ -1 ∧ (∀ a, a < N → X a ≠ -1 → (X j).toInt ≤ (X a).toInt) ∧ ∀ a, a < j → X a ≠ -1 → (X j).toInt < (X a).toInt
theorem zMin_uniq {X : Nat → Int32} {N : Nat} {b b' : Int32} (h : zMinP X N b) (h' : zMinP X N b') : b = b' := by
  rcases h with ⟨e, h⟩ | ⟨i, hi, e, h0, h1, h2⟩
  · rcases h' with ⟨e', h'⟩ | ⟨j, hj, e', g0, g1, g2⟩
    · rw [e, e']
    · exact absurd (h j hj) g0
  · rcases h' with ⟨e', h'⟩ | ⟨j, hj, e', g0, g1, g2⟩
    · exact absurd (h' i hi) h0
    · rw [e, e']
      have a1 := h1 j hj g0
      have a2 := g1 i hi h0
      rcases Nat.lt_trichotomy i j with z | z | z
      · have := g2 i z h0; omega
      · rw [z]
      · have := h2 j z g0; omega
theorem zMin_skip {X : Nat → Int32} {i : Nat} {b : Int32} (h : zMinP X i b) (q : X i = -1) : zMinP X (i + 1) b := by
  rcases h with ⟨e, h⟩ | ⟨j, hj, e, h0, h1, h2⟩
  · refine Or.inl ⟨e, fun a ha => ?_⟩
    by_cases z : a = i
    · rw [z]; exact q
    · exact h a (by omega)
  · refine Or.inr ⟨j, by omega, e, h0, fun a ha hx => ?_, h2⟩
    by_cases z : a = i
    · rw [z] at hx; exact absurd q hx
    · exact h1 a (by omega) hx
theorem zMin_first {X : Nat → Int32} {i : Nat} {b : Int32} (h : zMinP X i b) (q : X i ≠ -1) (hb : b = -1) (hi : i < 1000) : zMinP X (i + 1) (zJ i) := by
  rcases h with ⟨e, h⟩ | ⟨j, hj, e, _⟩
  · refine Or.inr ⟨i, by omega, rfl, q, fun a ha hx => ?_, fun a ha hx => absurd (h a ha) hx⟩
    by_cases z : a = i
    · rw [z]; exact Int.le_refl _
    · exact absurd (h a (by omega)) hx
  · rw [hb] at e; exact absurd e.symm (zJ_nm1 (by omega))
theorem zMin_keep {X : Nat → Int32} {i j : Nat} (h : zMinP X i (zJ j)) (hj : j < i) (hi : i < 1000) (q : X i ≠ -1) (c : (X j).toInt ≤ (X i).toInt) : zMinP X (i + 1) (zJ j) := by
  rcases h with ⟨e, h⟩ | ⟨j', hj', e, h0, h1, h2⟩
  · exact absurd e (zJ_nm1 (by omega))
  · have : j = j' := (zJ_inj (by omega) (by omega)).1 e
    subst this
    refine Or.inr ⟨j, by omega, rfl, h0, fun a ha hx => ?_, h2⟩
    by_cases z : a = i
    · rw [z]; exact c
    · exact h1 a (by omega) hx
theorem zMin_take {X : Nat → Int32} {i j : Nat} (h : zMinP X i (zJ j)) (hj : j < i) (hi : i < 1000) (q : X i ≠ -1) (c : ¬ (X j).toInt ≤ (X i).toInt) : zMinP X (i + 1) (zJ i) := by
  rcases h with ⟨e, h⟩ | ⟨j', hj', e, h0, h1, h2⟩
  · exact absurd e (zJ_nm1 (by omega))
  · have : j = j' := (zJ_inj (by omega) (by omega)).1 e
    subst this
    refine Or.inr ⟨i, by omega, rfl, q, fun a ha hx => ?_, fun a ha hx => ?_⟩
    · by_cases z : a = i
      · rw [z]; exact Int.le_refl _
      · have := h1 a (by omega) hx; omega
    · have := h1 a ha hx; omega
theorem zMin_idx {X : Nat → Int32} {i : Nat} {b : Int32} (h : zMinP X i b) (hb : ¬ b = -1) : ∃ j, j < i ∧ b = zJ j := by
  rcases h with ⟨e, _⟩ | ⟨j, hj, e, _⟩
  · exact absurd e hb
  · exact ⟨j, hj, e⟩
theorem zl_cheap {E : zE} (h7 : E.nA ≤ 7) {B_aldermen : Int32} (hb : B_aldermen = zJ E.nA) {X : Nat → Int32} {ke : Int32 → Option (Int32 × (Nat → Int32))} : ∀ (k i fuel : Nat) (b : Int32), k + i = E.nA → k < fuel → zMinP X i b → ∃ b', zMinP X E.nA b' ∧ lX3_takeCheapest_4 ke X B_aldermen fuel b (zJ i) = ke b' := by
  intro k
  induction k with
  | zero =>
    intro i fuel b hk hf h
    obtain ⟨fuel, rfl, hf⟩ := zfu hf
    unfold lX3_takeCheapest_4
    rw [if_pos (by rw [hb]; exact zJ_yle (by omega) (by omega))]
    rw [show i = E.nA by omega] at h
    exact ⟨b, h, rfl⟩
  | succ k ih =>
    intro i fuel b hk hf h
    obtain ⟨fuel, rfl, hf⟩ := zfu hf
    unfold lX3_takeCheapest_4
    have i7 : inb (zJ i) 7 = true := zinb (by omega) (by omega)
    rw [if_neg (by rw [hb]; exact zJ_nle (by omega) (by omega)), ck_t i7, ck_t i7, zJ_ix (by omega), zJ_succ]
    by_cases q : X i = -1
    · rw [if_pos q]; exact ih (i + 1) fuel b (by omega) (by omega) (zMin_skip h q)
    · rw [if_neg q]
      by_cases q2 : b = -1
      · rw [if_pos q2]; exact ih (i + 1) fuel _ (by omega) (by omega) (zMin_first h q q2 (by omega))
      · rw [if_neg q2]
        obtain ⟨j, hj, rfl⟩ := zMin_idx h q2
        rw [ck_t (zinb (by omega) (by omega)), zJ_ix (by omega)]
        by_cases q3 : X j ≤ X i
        · rw [if_pos q3]; exact ih (i + 1) fuel _ (by omega) (by omega) (zMin_keep h hj (by omega) q (Int32.le_iff_toInt_le.1 q3))
        · rw [if_neg q3]; exact ih (i + 1) fuel _ (by omega) (by omega) (zMin_take h hj (by omega) q (fun z => q3 (Int32.le_iff_toInt_le.2 z)))
theorem zr_cheap {E : zE} (h7 : E.nA ≤ 7) {M_told : Nat → Int32} (h3 : M_told 3 = zJ E.nA) {X : Nat → Int32} {ke : Int32 → Option (Int32 × Int32 × (Nat → Int32) × (Nat → Int32) × (Nat → Int32))} : ∀ (k i fuel : Nat) (b : Int32), k + i = E.nA → k < fuel → zMinP X i b → ∃ b', zMinP X E.nA b' ∧ lX9_bribery_101 ke M_told X fuel b (zJ i) = ke b' := by
  intro k
  induction k with
  | zero =>
    intro i fuel b hk hf h
    obtain ⟨fuel, rfl, hf⟩ := zfu hf
    unfold lX9_bribery_101
    rw [ck_t (by decide), show (3 : Int32).toNatClampNeg = 3 from rfl, if_pos (by rw [h3]; exact zJ_yle (by omega) (by omega))]
    rw [show i = E.nA by omega] at h
    exact ⟨b, h, rfl⟩
  | succ k ih =>
    intro i fuel b hk hf h
    obtain ⟨fuel, rfl, hf⟩ := zfu hf
    unfold lX9_bribery_101
    have i7 : inb (zJ i) 7 = true := zinb (by omega) (by omega)
    rw [ck_t (by decide), show (3 : Int32).toNatClampNeg = 3 from rfl, if_neg (by rw [h3]; exact zJ_nle (by omega) (by omega)), ck_t i7, ck_t i7, zJ_ix (by omega), zJ_succ]
    by_cases q : X i = -1
    · rw [if_pos q]; exact ih (i + 1) fuel b (by omega) (by omega) (zMin_skip h q)
    · rw [if_neg q]
      by_cases q2 : b = -1
      · rw [if_pos q2]; exact ih (i + 1) fuel _ (by omega) (by omega) (zMin_first h q q2 (by omega))
      · rw [if_neg q2]
        obtain ⟨j, hj, rfl⟩ := zMin_idx h q2
        rw [ck_t (zinb (by omega) (by omega)), zJ_ix (by omega)]
        by_cases q3 : X j ≤ X i
        · rw [if_pos q3]; exact ih (i + 1) fuel _ (by omega) (by omega) (zMin_keep h hj (by omega) q (Int32.le_iff_toInt_le.1 q3))
        · rw [if_neg q3]; exact ih (i + 1) fuel _ (by omega) (by omega) (zMin_take h hj (by omega) q (fun z => q3 (Int32.le_iff_toInt_le.2 z)))
/-- how many aren't taken -/
def zcn (X : Nat → Int32) : Nat → Nat
  | 0 => 0
  | n + 1 => zcn X n + if X n = -1 then 0 else 1
theorem zcn_pos {X : Nat → Int32} : ∀ n, 0 < zcn X n → ∃ a, a < n ∧ X a ≠ -1
  | 0, h => absurd h (by simp [zcn])
  | n + 1, h => by
    unfold zcn at h
    by_cases q : X n = -1
    · rw [if_pos q] at h
      obtain ⟨a, h1, h2⟩ := zcn_pos n (by omega)
      exact ⟨a, by omega, h2⟩
    · exact ⟨n, by omega, q⟩
theorem zcn_same {X Y : Nat → Int32} : ∀ n, (∀ a, a < n → X a = Y a) → zcn X n = zcn Y n
  | 0, _ => rfl
  | n + 1, h => by unfold zcn; rw [zcn_same n (fun a ha => h a (by omega)), h n (by omega)]
theorem zcn_upd {X : Nat → Int32} {j : Nat} (hx : X j ≠ -1) : ∀ n, j < n → zcn (upd X j (-1)) n + 1 = zcn X n
  | 0, h => absurd h (by omega)
  | n + 1, h => by
    unfold zcn
    by_cases q : j = n
    · subst q
      rw [zupd_eq, if_pos rfl, if_neg hx, zcn_same (X := upd X j (-1)) (Y := X) j (fun a ha => zupd_ne (by omega))]
    · have := zcn_upd hx n (by omega)
      rw [zupd_ne (by omega)]
      omega
def zPX (N : Nat) (P X : Nat → Int32) : Prop := ∀ a, a < N → (X a = -1 ∧ P a = -1) ∨ (X a = 1000 ∧ P a = -1) ∨ ∃ e, e ≤ 18 ∧ X a = zJ e ∧ P a = zJ e
theorem zX_toInt {N : Nat} {P X : Nat → Int32} (h : zPX N P X) {a : Nat} (ha : a < N) (hx : X a ≠ -1) : ∃ v : Nat, v ≤ 1000 ∧ X a = zJ v := by
  rcases h a ha with ⟨z, _⟩ | ⟨z, _⟩ | ⟨e, he, z, _⟩
  · exact absurd z hx
  · exact ⟨1000, by omega, z⟩
  · exact ⟨e, by omega, z⟩
theorem zMin_PX {N : Nat} {P X : Nat → Int32} (h : zPX N P X) (hN : N < 1000) {j : Nat} (hm : zMinP P N (zJ j)) (hj : j < N) : zMinP X N (zJ j) ∧ ∃ e, e ≤ 18 ∧ X j = zJ e ∧ P j = zJ e := by
  rcases hm with ⟨e, _⟩ | ⟨j', hj', e, h0, h1, h2⟩
  · exact absurd e (zJ_nm1 (by omega))
  · have : j = j' := (zJ_inj (by omega) (by omega)).1 e
    subst this
    have hpj : ∃ e, e ≤ 18 ∧ X j = zJ e ∧ P j = zJ e := by
      rcases h j hj with ⟨_, z⟩ | ⟨_, z⟩ | z
      · exact absurd z h0
      · exact absurd z h0
      · exact z
    refine ⟨?_, hpj⟩
    obtain ⟨ej, hej, xj, pj⟩ := hpj
    have tj : (X j).toInt = ej := by rw [xj, zJ_toInt (by omega)]
    have tpj : (P j).toInt = ej := by rw [pj, zJ_toInt (by omega)]
    refine Or.inr ⟨j, hj, rfl, by rw [xj]; exact zJ_nm1 (by omega), fun a ha hx => ?_, fun a ha hx => ?_⟩
    · rcases h a ha with ⟨z, _⟩ | ⟨z, _⟩ | ⟨e', he', z, zp⟩
      · exact absurd z hx
      · rw [z, tj]; show (ej : Int) ≤ 1000; omega
      · have := h1 a ha (by rw [zp]; exact zJ_nm1 (by omega))
        rw [zp, zJ_toInt (by omega)] at this
        rw [z, zJ_toInt (by omega)]; omega
    · rcases h a (by omega) with ⟨z, _⟩ | ⟨z, _⟩ | ⟨e', he', z, zp⟩
      · exact absurd z hx
      · rw [z, tj]; show (ej : Int) < 1000; omega
      · have := h2 a ha (by rw [zp]; exact zJ_nm1 (by omega))
        rw [zp, zJ_toInt (by omega)] at this
        rw [z, zJ_toInt (by omega)]; omega
theorem zisMore {E : zE} (h7 : E.nA ≤ 7) {M_told : Nat → Int32} (h3 : M_told 3 = zJ E.nA) {c : Nat} (hc : c ≤ 8) : fX9_isMore M_told (zJ c) = some (if 2 * c ≤ E.nA then 0 else 1) := by
  unfold fX9_isMore
  rw [ck_t (by decide), show (3 : Int32).toNatClampNeg = 3 from rfl, h3]
  have e : (zJ c ≤ zJ E.nA - zJ c) ↔ 2 * c ≤ E.nA := by
    rw [Int32.le_iff_toInt_le, Int32.toInt_sub, zJ_toInt (by omega), zJ_toInt (by omega), Int.bmod_eq_of_le (by omega) (by omega)]; omega
  by_cases q : 2 * c ≤ E.nA
  · rw [if_pos q, if_pos (e.2 q)]
  · rw [if_neg q, if_neg (fun z => q (e.1 z))]
theorem zr_br2 {E : zE} (h7 : E.nA ≤ 7) {M_told : Nat → Int32} (h3 : M_told 3 = zJ E.nA) {kx : (Nat → Int32) → Option (Int32 × Int32 × (Nat → Int32) × (Nat → Int32) × (Nat → Int32))} {V S : Nat → Int32} : ∀ (w many fuel s : Nat) (P X : Nat → Int32), many + w = E.nA / 2 + 1 → 1 ≤ E.nA → w < fuel → zPX E.nA P X → zcn X E.nA + many = E.nA → 1000 ≤ s → s ≤ 1000 * many + 1000 → ∃ X', lX9_bribery_73 kx (fun X x => if x < 1000 then some (x, 0, V, S, X) else some (-1, 0, V, S, X)) M_told fuel X (zJ s) (zJ many) = some (-1, 0, V, S, X') := by
  intro w
  induction w with
  | zero =>
    intro many fuel s P X hw h1 hf hP hcn hs hs2
    obtain ⟨fuel, rfl, hf⟩ := zfu hf
    refine ⟨X, ?_⟩
    unfold lX9_bribery_73
    rw [zisMore h7 h3 (by omega), if_neg (show ¬ 2 * many ≤ E.nA by omega), Option.bind_some, if_neg (show ¬ (1 : Int32) = 0 by decide), if_neg (show ¬ zJ s < 1000 from zJ_nlt (b := 1000) hs (by omega))]
  | succ w ih =>
    intro many fuel s P X hw h1 hf hP hcn hs hs2
    obtain ⟨fuel, rfl, hf⟩ := zfu hf
    unfold lX9_bribery_73
    rw [zisMore h7 h3 (by omega), if_pos (by omega), Option.bind_some, if_pos rfl, ck_t (by decide), show (3 : Int32).toNatClampNeg = 3 from rfl, h3, if_neg (fun z => by have := (zJ_inj (by omega) (by omega)).1 z; omega)]
    obtain ⟨b, hb, eb⟩ := zr_cheap h7 h3 (X := X) (ke := fun x5 => ck (inb x5 7) <| ck (inb x5 7) <| lX9_bribery_73 kx (fun X x => if x < 1000 then some (x, 0, V, S, X) else some (-1, 0, V, S, X)) M_told fuel (upd X x5.toNatClampNeg (-1)) (zJ s + X x5.toNatClampNeg) (zJ many + 1)) E.nA 0 FU (-1) (by omega) (by unfold FU; omega) (Or.inl ⟨rfl, fun a ha => by omega⟩)
    obtain ⟨a, ha, hxa⟩ := zcn_pos E.nA (show 0 < zcn X E.nA by omega)
    obtain ⟨j, hj, rfl⟩ : ∃ j, j < E.nA ∧ b = zJ j := by
      rcases hb with ⟨_, h⟩ | ⟨j, hj, e, _⟩
      · exact absurd (h a ha) hxa
      · exact ⟨j, hj, e⟩
    have hxj : X j ≠ -1 := by
      rcases hb with ⟨e, _⟩ | ⟨j', hj', e, h0, _⟩
      · exact absurd e (zJ_nm1 (by omega))
      · have : j = j' := (zJ_inj (by omega) (by omega)).1 e
        subst this; exact h0
    obtain ⟨v, hv, ev⟩ := zX_toInt hP hj hxj
    have i7 : inb (zJ j) 7 = true := zinb (by omega) (by omega)
    show ∃ X', lX9_bribery_101 _ M_told X FU (-1) (zJ 0) = _
    rw [eb, ck_t i7, ck_t i7, zJ_ix (by omega), ev, zJ_add, zJ_a1]
    have hc' := zcn_upd hxj E.nA hj
    refine ih (many + 1) fuel (s + v) (upd P j (-1)) (upd X j (-1)) (by omega) h1 (by omega) (fun a ha => ?_) (by omega) (by omega) (by omega)
    by_cases z : a = j
    · subst z; exact Or.inl ⟨zupd_eq, zupd_eq⟩
    · rw [zupd_ne z, zupd_ne z]; exact hP a ha
theorem zbr1 {E : zE} (h7 : E.nA ≤ 7) {M_told : Nat → Int32} (h3 : M_told 3 = zJ E.nA) {B_aldermen : Int32} (hb : B_aldermen = zJ E.nA) {kx : (Nat → Int32) → Option (Int32 × Int32 × (Nat → Int32) × (Nat → Int32) × (Nat → Int32))} {V S V' S' : Nat → Int32} : ∀ (w many fuel fuel2 s : Nat) (P X : Nat → Int32), many + w = E.nA / 2 + 1 → 1 ≤ E.nA → w < fuel → w < fuel2 → zPX E.nA P X → zcn X E.nA + many = E.nA → s ≤ 18 * many → ∃ r U X', lX3_leastBribery_59 (fun U => some (-1, U, V', S')) (fun U x => some (x, U, V', S')) B_aldermen fuel2 P (zJ s) (zJ w) = some (r, U, V', S') ∧ lX9_bribery_73 kx (fun X x => if x < 1000 then some (x, 0, V, S, X) else some (-1, 0, V, S, X)) M_told fuel X (zJ s) (zJ many) = some (r, 0, V, S, X') := by
  intro w
  induction w with
  | zero =>
    intro many fuel fuel2 s P X hw h1 hf hf2 hP hcn hs
    obtain ⟨fuel, rfl, hf⟩ := zfu hf
    obtain ⟨fuel2, rfl, hf2⟩ := zfu hf2
    refine ⟨zJ s, P, X, ?_, ?_⟩
    · unfold lX3_leastBribery_59
      rw [if_pos (show zJ 0 ≤ 0 by decide)]
    · unfold lX9_bribery_73
      rw [zisMore h7 h3 (by omega), if_neg (show ¬ 2 * many ≤ E.nA by omega), Option.bind_some, if_neg (show ¬ (1 : Int32) = 0 by decide), if_pos (show zJ s < 1000 from zJ_ylt (b := 1000) (by omega) (by omega))]
  | succ w ih =>
    intro many fuel fuel2 s P X hw h1 hf hf2 hP hcn hs
    obtain ⟨fuel, rfl, hf⟩ := zfu hf
    obtain ⟨fuel2, rfl, hf2⟩ := zfu hf2
    unfold lX9_bribery_73 lX3_leastBribery_59
    rw [if_neg (show ¬ zJ (w + 1) ≤ 0 from zJ_nle (b := 0) (by omega) (by omega)), zisMore h7 h3 (by omega), if_pos (by omega), Option.bind_some, if_pos rfl, ck_t (by decide), show (3 : Int32).toNatClampNeg = 3 from rfl, h3, if_neg (fun z => by have := (zJ_inj (by omega) (by omega)).1 z; omega)]
    obtain ⟨b, hbX, eb⟩ := zr_cheap h7 h3 (X := X) (ke := fun x5 => ck (inb x5 7) <| ck (inb x5 7) <| lX9_bribery_73 kx (fun X x => if x < 1000 then some (x, 0, V, S, X) else some (-1, 0, V, S, X)) M_told fuel (upd X x5.toNatClampNeg (-1)) (zJ s + X x5.toNatClampNeg) (zJ many + 1)) E.nA 0 FU (-1) (by omega) (by unfold FU; omega) (Or.inl ⟨rfl, fun a ha => by omega⟩)
    obtain ⟨b2, hbP, eb2⟩ := zl_cheap h7 hb (X := P) (ke := fun x1 => if x1 = (-1) then some ((-1), P) else ck (inb x1 7) <| ck (inb x1 7) <| some ((P x1.toNatClampNeg), (upd P x1.toNatClampNeg (-1)))) E.nA 0 FU (-1) (by omega) (by unfold FU; omega) (Or.inl ⟨rfl, fun a ha => by omega⟩)
    have et : fX3_takeCheapest P B_aldermen = _ := eb2
    obtain ⟨a, ha, hxa⟩ := zcn_pos E.nA (show 0 < zcn X E.nA by omega)
    obtain ⟨j, hj, rfl⟩ : ∃ j, j < E.nA ∧ b = zJ j := by
      rcases hbX with ⟨_, h⟩ | ⟨j, hj, e, _⟩
      · exact absurd (h a ha) hxa
      · exact ⟨j, hj, e⟩
    have hxj : X j ≠ -1 := by
      rcases hbX with ⟨e, _⟩ | ⟨j', hj', e, h0, _⟩
      · exact absurd e (zJ_nm1 (by omega))
      · have : j = j' := (zJ_inj (by omega) (by omega)).1 e
        subst this; exact h0
    have i7 : inb (zJ j) 7 = true := zinb (by omega) (by omega)
    have hc' := zcn_upd hxj E.nA hj
    have hP' : zPX E.nA (upd P j (-1)) (upd X j (-1)) := fun a ha => by
      by_cases z : a = j
      · subst z; exact Or.inl ⟨zupd_eq, zupd_eq⟩
      · rw [zupd_ne z, zupd_ne z]; exact hP a ha
    show ∃ r U X', _ ∧ lX9_bribery_101 _ M_told X FU (-1) (zJ 0) = _
    rw [eb, et, ck_t i7, ck_t i7, zJ_ix (by omega)]
    by_cases q : b2 = -1
    · rw [q] at hbP ⊢
      have hall : ∀ a, a < E.nA → P a = -1 := by
        rcases hbP with ⟨_, h⟩ | ⟨j', hj', e, _⟩
        · exact h
        · exact absurd e.symm (zJ_nm1 (by omega))
      have xj : X j = 1000 := by
        rcases hP j hj with ⟨z, _⟩ | ⟨z, _⟩ | ⟨e, he, z, zp⟩
        · exact absurd z hxj
        · exact z
        · rw [hall j hj] at zp; exact absurd zp.symm (zJ_nm1 (by omega))
      rw [xj, show (1000 : Int32) = zJ 1000 from rfl, zJ_add, zJ_a1]
      obtain ⟨X', e'⟩ := zr_br2 h7 h3 (kx := kx) (V := V) (S := S) w (many + 1) fuel (s + 1000) (upd P j (-1)) (upd X j (-1)) (by omega) h1 (by omega) hP' (by omega) (by omega) (by omega)
      refine ⟨-1, P, X', ?_, e'⟩
      show (some ((-1 : Int32), P)).bind _ = _
      rfl
    · obtain ⟨j2, hj2, rfl⟩ := zMin_idx hbP q
      obtain ⟨hm2, e, he, xe, pe⟩ := zMin_PX hP (by omega) hbP hj2
      have := zMin_uniq hbX hm2
      have : j = j2 := (zJ_inj (by omega) (by omega)).1 this
      subst this
      rw [if_neg q, ck_t i7, ck_t i7, zJ_ix (by omega), xe, pe, zJ_add, zJ_a1]
      obtain ⟨r, U, X', e1, e2⟩ := ih (many + 1) fuel fuel2 (s + e) (upd P j (-1)) (upd X j (-1)) (by omega) h1 (by omega) (by omega) hP' (by omega) (by omega)
      refine ⟨r, U, X', ?_, e2⟩
      show (if zJ e = -1 then _ else _) = _
      rw [if_neg (zJ_nm1 (by omega))]
      show lX3_leastBribery_59 _ _ B_aldermen fuel2 (upd P j (-1)) (zJ s + zJ e) (zJ (w + 1) + (-1)) = _
      rw [zJ_add, zJ_m1]
      exact e1
section
variable {A2_acts A2_seen A_acts A_seen B2_aldermen B2_codeLength B2_motions B2_oil B2_treasury B2_weight B_aldermen B_codeLength B_motions B_oil B_treasury B_weight D_aldermen D_codeLength D_motions D_oil D_treasury D_weight F_seed K_acts K_seen M_acts M_actsThen M_at M_bad M_badPlace M_begins M_code M_faultPlace M_fitMany M_hasImage M_hoarse M_hour M_joy M_never M_number M_ofVoting M_oil M_passed M_said M_seedNow M_seen M_seenThen M_size M_spider M_stops M_taped M_token M_treasury M_values M_weight R_clockIsTold R_depth R_digits R_end R_fault R_notMayStand R_nots R_number R_partIsDue R_place R_start R_token R_waits T2_hour T2_joy T2_oil T2_passed T2_spider T2_treasury T2_weight T_hour T_joy T_oil T_passed T_spider T_treasury T_weight V_hour V_joy V_oil V_passed V_spider V_treasury V_weight X_hour X_joy X_oil X_passed X_spider X_treasury X_weight Y_hour Y_joy Y_oil Y_passed Y_spider Y_treasury Y_weight Z_faultPlace Z_hasImage Z_tapeLength : Int32} {A2_before A2_refused A2_seenHour A2_seenNumber A_before A_refused A_seenHour A_seenNumber B2_call B2_code B2_cost B2_deaf B2_follows B2_joy B2_kind B2_lean B2_ruleFrom B2_ruleTo B_call B_code B_cost B_deaf B_follows B_joy B_kind B_lean B_ruleFrom B_ruleTo C_stack C_values D_call D_code D_cost D_deaf D_follows D_joy D_kind D_lean D_ruleFrom D_ruleTo F_times K_before K_refused K_seenHour K_seenNumber M_asked M_behind M_call M_callTold M_cost M_deaf M_extras M_fits M_imageRow M_kind M_lean M_leanTold M_past M_pastThen M_pleases M_rowSeen M_rowThen M_saidOften M_saids M_seenIn M_seenInThen M_seenSaid M_seenSaidThen M_signsSays M_signsVotes M_stack M_status M_statusThen M_tape M_told R_tape R_waiting S_heard S_unlike T2_call T2_lean T_call T_lean U_prices V_call V_lean X_call X_lean Y_call Y_lean Z_tape : Nat → Int32}
variable {E : zE} {t : zT} {n : Nat} {wo : Int32}
theorem zc_price (hE : zEok E) (hc : zCls E B_aldermen B_motions B_deaf B_kind B_cost B_joy B_follows B_code B_ruleFrom B_ruleTo) (ht : zTok E t) (hl : ∀ a, a < E.nA → T_lean a = t.lean a) {a m K : Nat} (ha : a < E.nA) (hm : m < E.nM) {said : Int32} (hK : K ≤ 18) (eK : (9 : Int32) - t.lean a = zJ K) : zOk (fX3_priceOf C_values C_stack B_deaf B_kind B_cost B_joy B_code B_ruleFrom B_ruleTo t.passed T_lean (zJ a) (zJ m) said) (fun o => o.1 = zpf E t.passed a m said (t.lean a) (K + 1) 0) := by
  have h7 := hE.a7
  unfold fX3_priceOf
  rw [ck_t (zinb (by omega) (by omega)), zJ_ix (by omega), hl a ha]
  have loop : ∀ (k e fuel : Nat) (V S : Nat → Int32), k + e = K + 1 → k < fuel → zpf E t.passed a m said (t.lean a) k e = zpf E t.passed a m said (t.lean a) (K + 1) 0 → zOk (lX3_priceOf_14 (fun V S x => some (x, V, S)) (fun V S => some (-1, V, S)) B_deaf B_kind B_cost B_joy B_code B_ruleFrom B_ruleTo t.passed (zJ a) (zJ m) said (t.lean a) fuel V S (zJ e)) (fun o => o.1 = zpf E t.passed a m said (t.lean a) (K + 1) 0) := by
    intro k
    induction k with
    | zero =>
      intro e fuel V S hk hf he
      obtain ⟨fuel, rfl, hf⟩ := zfu hf
      unfold lX3_priceOf_14
      exact zOk.pos (by rw [eK]; exact zJ_ylt (by omega) (by omega)) ⟨_, rfl, he⟩
    | succ k ih =>
      intro e fuel V S hk hf he
      obtain ⟨fuel, rfl, hf⟩ := zfu hf
      unfold lX3_priceOf_14
      refine zOk.neg (by rw [eK]; exact zJ_nlt (by omega) (by omega)) ?_
      refine zOk.bind (zc_isFor hE hc ha hm) (fun o ho => ?_)
      have st : zpf E t.passed a m said (t.lean a) (k + 1) e = if zfor E t.passed a (t.lean a + zJ e) m said then zJ e else zpf E t.passed a m said (t.lean a) k (e + 1) := rfl
      rw [st] at he
      rw [ho, zJ_succ]
      cases hz : zfor E t.passed a (t.lean a + zJ e) m said
      · rw [hz] at he
        exact zOk.pos rfl (ih (e + 1) fuel _ _ (by omega) (by omega) he)
      · rw [hz] at he
        exact zOk.neg (by decide) ⟨_, rfl, he⟩
  exact loop (K + 1) 0 FU _ _ (by omega) (by unfold FU; omega) rfl
theorem zm_extra (hE : zEok E) (hr : zRef E M_told M_deaf M_kind M_cost M_pleases M_behind M_signsSays M_signsVotes) (ht : zTok E t) (hl : ∀ a, a < E.nA → M_lean a = t.lean a) {a m K : Nat} (ha : a < E.nA) (hm : m < E.nM) {said : Int32} (hK : K ≤ 18) (eK : ∀ e, e ≤ 30 → ((9 : Int32) < t.lean a + zJ e ↔ K < e)) : zOk (fX9_extraOf t.passed M_told M_deaf M_kind M_cost M_pleases M_signsVotes M_lean M_asked M_stack (zJ a) (zJ m) said) (fun o => o.1 = if zpf E t.passed a m said (t.lean a) (K + 1) 0 = -1 then 1000 else zpf E t.passed a m said (t.lean a) (K + 1) 0) := by
  have h7 := hE.a7
  obtain ⟨pn, hpn, ep⟩ := ht.passed
  have hpn := zpow hpn hE.m10
  unfold fX9_extraOf
  have loop : ∀ (k e fuel : Nat) (V S : Nat → Int32), k + e = K + 1 → k < fuel → zpf E t.passed a m said (t.lean a) k e = zpf E t.passed a m said (t.lean a) (K + 1) 0 → zOk (lX9_extraOf_3 (fun V S x => some (x, V, S)) (fun V S => some (1000, V, S)) t.passed M_told M_deaf M_kind M_cost M_pleases M_signsVotes M_lean (zJ a) (zJ m) said fuel V S (zJ e)) (fun o => o.1 = if zpf E t.passed a m said (t.lean a) (K + 1) 0 = -1 then 1000 else zpf E t.passed a m said (t.lean a) (K + 1) 0) := by
    intro k
    induction k with
    | zero =>
      intro e fuel V S hk hf he
      obtain ⟨fuel, rfl, hf⟩ := zfu hf
      unfold lX9_extraOf_3
      rw [ck_t (zinb (by omega) (by omega)), zJ_ix (by omega), hl a ha]
      refine zOk.pos ((eK e (by omega)).2 (by omega)) ⟨_, rfl, ?_⟩
      have he : (-1 : Int32) = _ := he
      rw [← he, if_pos rfl]
    | succ k ih =>
      intro e fuel V S hk hf he
      obtain ⟨fuel, rfl, hf⟩ := zfu hf
      unfold lX9_extraOf_3
      rw [ck_t (zinb (by omega) (by omega)), ck_t (zinb (by omega) (by omega)), zJ_ix (by omega), hl a ha]
      refine zOk.neg (fun z => by have := (eK e (by omega)).1 z; omega) ?_
      have isF := zm_isFor (V := V) (S := S) hE hr ha hm hpn (lean := t.lean a + zJ e) (said := said)
      rw [← ep] at isF
      refine zOk.bind isF (fun o ho => ?_)
      have st : zpf E t.passed a m said (t.lean a) (k + 1) e = if zfor E t.passed a (t.lean a + zJ e) m said then zJ e else zpf E t.passed a m said (t.lean a) k (e + 1) := rfl
      rw [st] at he
      rw [ho, zJ_succ]
      cases hz : zfor E t.passed a (t.lean a + zJ e) m said
      · rw [hz] at he
        exact zOk.pos rfl (ih (e + 1) fuel _ _ (by omega) (by omega) he)
      · rw [hz] at he
        have he : zJ e = _ := he
        refine zOk.neg (by decide) ⟨_, rfl, ?_⟩
        rw [← he, if_neg (zJ_nm1 (by omega))]
  exact loop (K + 1) 0 FU _ _ (by omega) (by unfold FU; omega) rfl
theorem zl_prices {ke : _} {Q : _} (hE : zEok E) (hc : zCls E B_aldermen B_motions B_deaf B_kind B_cost B_joy B_follows B_code B_ruleFrom B_ruleTo) (ht : zTok E t) (hl : ∀ a, a < E.nA → T_lean a = t.lean a) {m : Nat} (hm : m < E.nM) {said : Int32} {pr : Nat → Int32} (hpr : ∀ a, a < E.nA → ∀ K, (9 : Int32) - t.lean a = zJ K → K ≤ 18 → pr a = zpf E t.passed a m said (t.lean a) (K + 1) 0) : ∀ (k i fuel : Nat) (P V S : Nat → Int32), k + i = E.nA → k < fuel → (∀ a, a < i → P a = pr a) → (∀ P V S, (∀ a, a < E.nA → P a = pr a) → zOk (ke P V S) Q) → zOk (lX3_leastBribery_14 ke B_aldermen B_deaf B_kind B_cost B_joy B_code B_ruleFrom B_ruleTo t.passed T_lean (zJ m) said fuel P V S (zJ i)) Q := by
  have h7 := hE.a7
  intro k
  induction k with
  | zero =>
    intro i fuel P V S hk hf hP kk
    obtain ⟨fuel, rfl, hf⟩ := zfu hf
    unfold lX3_leastBribery_14
    exact zOk.pos (by rw [hc.a]; exact zJ_yle (by omega) (by omega)) (kk _ _ _ (fun a ha => hP a (by omega)))
  | succ k ih =>
    intro i fuel P V S hk hf hP kk
    obtain ⟨fuel, rfl, hf⟩ := zfu hf
    unfold lX3_leastBribery_14
    refine zOk.neg (by rw [hc.a]; exact zJ_nle (by omega) (by omega)) ?_
    obtain ⟨K, hK, eK, _⟩ := zlean (ht.lean i (by omega))
    refine zOk.bind (zc_price hE hc ht hl (a := i) (by omega) hm hK eK) (fun o ho => ?_)
    rw [ck_t (zinb (by omega) (by omega)), zJ_ix (by omega), zJ_succ]
    refine ih (i + 1) fuel _ _ _ (by omega) (by omega) (fun a ha => ?_) kk
    by_cases z : a = i
    · subst z; rw [zupd_eq, ho, hpr a (by omega) K eK hK]
    · rw [zupd_ne z]; exact hP a (by omega)
theorem zr_extras {ke : _} {Q : _} (hE : zEok E) (hr : zRef E M_told M_deaf M_kind M_cost M_pleases M_behind M_signsSays M_signsVotes) (ht : zTok E t) (hl : ∀ a, a < E.nA → M_lean a = t.lean a) {m : Nat} (hm : m < E.nM) {said : Int32} {pr : Nat → Int32} (hpr : ∀ a, a < E.nA → ∀ K, (9 : Int32) - t.lean a = zJ K → K ≤ 18 → pr a = zpf E t.passed a m said (t.lean a) (K + 1) 0) : ∀ (k i fuel : Nat) (V S X : Nat → Int32), k + i = E.nA → k < fuel → (∀ a, a < i → X a = if pr a = -1 then 1000 else pr a) → (∀ V S X, (∀ a, a < E.nA → X a = if pr a = -1 then 1000 else pr a) → zOk (ke V S X) Q) → zOk (lX9_bribery_39 ke t.passed M_told M_deaf M_kind M_cost M_pleases M_signsVotes M_lean (zJ m) said fuel V S X (zJ i)) Q := by
  have h7 := hE.a7
  intro k
  induction k with
  | zero =>
    intro i fuel V S X hk hf hP kk
    obtain ⟨fuel, rfl, hf⟩ := zfu hf
    unfold lX9_bribery_39
    rw [ck_t (by decide), show (3 : Int32).toNatClampNeg = 3 from rfl, hr.a]
    exact zOk.pos (zJ_yle (by omega) (by omega)) (kk _ _ _ (fun a ha => hP a (by omega)))
  | succ k ih =>
    intro i fuel V S X hk hf hP kk
    obtain ⟨fuel, rfl, hf⟩ := zfu hf
    unfold lX9_bribery_39
    rw [ck_t (by decide), show (3 : Int32).toNatClampNeg = 3 from rfl, hr.a]
    refine zOk.neg (zJ_nle (by omega) (by omega)) ?_
    obtain ⟨K, hK, eK, eK2⟩ := zlean (ht.lean i (by omega))
    refine zOk.bind (zm_extra hE hr ht hl (a := i) (by omega) hm hK eK2) (fun o ho => ?_)
    rw [ck_t (zinb (by omega) (by omega)), zJ_ix (by omega), zJ_succ]
    refine ih (i + 1) fuel _ _ _ (by omega) (by omega) (fun a ha => ?_) kk
    by_cases z : a = i
    · subst z; rw [zupd_eq, ho, hpr a (by omega) K eK hK]
    · rw [zupd_ne z]; exact hP a (by omega)
end
section
variable {L : Nat} {xs : Nat → Int32} {sc : Nat → Int32} {ar : Nat → Nat → Int32} {O : Nat → Int64} {x4 : Int32}
theorem zst23 (h : zInv sc ar) (hx : inb (x4 + 1) L = true ∧ inb (x4 + 2) L = true ∧ inb (x4 + 3) L = true ∧ inb (x4 + 4) L = true ∧ inb (x4 + 5) L = true) : zOk (st23 L xs sc ar O x4) (fun o => zInv o.1 o.2.1) := by
  obtain ⟨E, t, hI⟩ := h
  have hJ := hI
  obtain ⟨hE, hc, hr, ht, ⟨c1, c2, c3, c4, c5, c6, c7, c8, c9⟩, ⟨m1, m2, m3, m4, m5, m6, m7, m8, m9⟩, hnv, hh, hse, hst, htp, hfp, him, hik⟩ := hI
  have h7 := hE.a7
  have h10 := hE.m10
  unfold st23
  try simp only [ck_t hx.1, ck_t hx.2.1, ck_t hx.2.2.1, ck_t hx.2.2.2.1, ck_t hx.2.2.2.2, c1, c2, c3, c4, c5, c6, c7, m1, m2, m3, m4, m5, m6, m7, hnv]
  generalize xs (x4 + 1).toNatClampNeg = p
  generalize xs (x4 + 2).toNatClampNeg = p'
  suffices key : ∃ (R : Sum Nat Int32) (a c : Int32), zOk (fX8_bribery (ar 31) (ar 44) (ar 45) (sc 54) (sc 55) (ar 47) (ar 48) (ar 50) (ar 51) (ar 53) (ar 54) (ar 55) t.passed (ar 66) p p') (fun v => v.1 = R) ∧ zOk (fX9_bribery (sc 4) t.passed (ar 1) (ar 3) (ar 4) (ar 6) (ar 7) (ar 10) (ar 13) (ar 16) (ar 17) (ar 19) p p') (fun o => ∃ V S X : Nat → Int32, o = (a, c, V, S, X)) ∧ ((R = Sum.inr a ∧ c = 0) ∨ (R = Sum.inl 1 ∧ c = 1) ∨ (R = Sum.inl 2 ∧ c = 2)) by
    obtain ⟨R, a, c, ⟨v, ev, hv⟩, ⟨w, ew, V, S, X, rfl⟩, hR⟩ := key
    rcases hR with ⟨rfl, rfl⟩ | ⟨rfl, rfl⟩ | ⟨rfl, rfl⟩
    · obtain ⟨o, eo, h1, h2⟩ : ∃ o, (fL_bribery O (ar 31) (ar 44) (ar 45) (sc 54) (sc 55) (ar 47) (ar 48) (ar 50) (ar 51) (ar 53) (ar 54) (ar 55) t.passed (ar 66) p p') = some o ∧ o.1 = 0 ∧ o.2.1 = vp_updL O 0 a.toInt64 := by
        unfold fL_bribery; rw [ev]; show ∃ o, Sum.elim _ _ v.1 = some o ∧ _; rw [hv]; exact ⟨_, rfl, rfl, rfl⟩
      refine zOk.eq eo (zOk.eq ew (zOk.eq rfl (zOk.pos h1.symm (zOk.pos h1 (zOk.pos (by rw [h2]; exact zlgO) (zOk.pure ?_))))))
      exact zInv_q hJ (by repeat' (first | exact zSr0 | refine zSn rfl ?_ | refine zSs (by assumption) ?_)) (by repeat' (first | exact zAr0 | refine zAn rfl rfl rfl ?_ | refine zAn13 hL ?_ | refine zAn14 hC ?_ | refine zAs rfl ?_))
    · obtain ⟨o, eo, h1, h2⟩ : ∃ o, (fL_bribery O (ar 31) (ar 44) (ar 45) (sc 54) (sc 55) (ar 47) (ar 48) (ar 50) (ar 51) (ar 53) (ar 54) (ar 55) t.passed (ar 66) p p') = some o ∧ o.1 = 1 ∧ o.2.1 = O := by
        unfold fL_bribery; rw [ev]; show ∃ o, Sum.elim _ _ v.1 = some o ∧ _; rw [hv]; exact ⟨_, rfl, rfl, rfl⟩
      refine zOk.eq eo (zOk.eq ew (zOk.eq rfl (zOk.pos h1.symm (zOk.neg (by rw [h1]; decide) (zOk.pure ?_)))))
      exact zInv_q hJ (by repeat' (first | exact zSr0 | refine zSn rfl ?_ | refine zSs (by assumption) ?_)) (by repeat' (first | exact zAr0 | refine zAn rfl rfl rfl ?_ | refine zAn13 hL ?_ | refine zAn14 hC ?_ | refine zAs rfl ?_))
    · obtain ⟨o, eo, h1, h2⟩ : ∃ o, (fL_bribery O (ar 31) (ar 44) (ar 45) (sc 54) (sc 55) (ar 47) (ar 48) (ar 50) (ar 51) (ar 53) (ar 54) (ar 55) t.passed (ar 66) p p') = some o ∧ o.1 = 2 ∧ o.2.1 = O := by
        unfold fL_bribery; rw [ev]; show ∃ o, Sum.elim _ _ v.1 = some o ∧ _; rw [hv]; exact ⟨_, rfl, rfl, rfl⟩
      refine zOk.eq eo (zOk.eq ew (zOk.eq rfl (zOk.pos h1.symm (zOk.neg (by rw [h1]; decide) (zOk.pure ?_)))))
      exact zInv_q hJ (by repeat' (first | exact zSr0 | refine zSn rfl ?_ | refine zSs (by assumption) ?_)) (by repeat' (first | exact zAr0 | refine zAn rfl rfl rfl ?_ | refine zAn13 hL ?_ | refine zAn14 hC ?_ | refine zAs rfl ?_))
  by_cases q : ∃ m, m < E.nM ∧ p = zJ m
  rotate_left
  · have e := zmo_no hE hc.m hr q
    refine ⟨Sum.inl 1, 0, 1, ?_, ?_, Or.inr (Or.inl ⟨rfl, rfl⟩)⟩
    · unfold fX8_bribery; exact zOk.eq e.1 ⟨_, rfl, rfl⟩
    · unfold fX9_bribery; exact zOk.eq e.2 (zOk.pos rfl ⟨_, rfl, _, _, _, rfl⟩)
  · obtain ⟨m, hm, rfl⟩ := q
    have e := zmo_yes hE hc.m hr hm
    by_cases q : p' < 0 ∨ 24 < p'
    · refine ⟨Sum.inl 2, 0, 2, ?_, ?_, Or.inr (Or.inr ⟨rfl, rfl⟩)⟩
      · unfold fX8_bribery; exact zOk.eq e.1 (zOk.inr (zOk.eq (zr_no q) ⟨_, rfl, rfl⟩))
      · unfold fX9_bribery; exact zOk.eq e.2 (zOk.neg (by decide) (zOk.eq (zi_no q rfl rfl) (zOk.pos rfl ⟨_, rfl, _, _, _, rfl⟩)))
    · obtain ⟨pr, hpr⟩ : ∃ pr : Nat → Int32, ∀ a, pr a = zpf E t.passed a m p' (t.lean a) (((9 : Int32) - t.lean a).toNatClampNeg + 1) 0 := ⟨fun a => zpf E t.passed a m p' (t.lean a) (((9 : Int32) - t.lean a).toNatClampNeg + 1) 0, fun a => rfl⟩
      have hpr1 : ∀ a, a < E.nA → ∀ K, (9 : Int32) - t.lean a = zJ K → K ≤ 18 → pr a = zpf E t.passed a m p' (t.lean a) (K + 1) 0 := fun a ha K eK hK => by rw [hpr a, eK, zJ_ix (by omega)]
      have hpr2 : ∀ a, a < E.nA → pr a = -1 ∨ ∃ h, h ≤ 18 ∧ pr a = zJ h := fun a ha => by
        obtain ⟨K, hK, eK, _⟩ := zlean (ht.ok.lean a ha)
        rw [hpr1 a ha K eK hK]
        rcases zpf_r (E := E) (p := t.passed) (a := a) (m := m) (said := p') (lean := t.lean a) (K + 1) 0 with z | ⟨h, h1, h2⟩
        · exact Or.inl z
        · exact Or.inr ⟨h, by omega, h2⟩
      have hPX : ∀ P X : Nat → Int32, (∀ a, a < E.nA → P a = pr a) → (∀ a, a < E.nA → X a = if pr a = -1 then 1000 else pr a) → zPX E.nA P X ∧ zcn X E.nA + 0 = E.nA := by
        intro P X hp hx
        refine ⟨fun a ha => ?_, ?_⟩
        · rw [hp a ha, hx a ha]
          rcases hpr2 a ha with z | ⟨h, h1, z⟩
          · rw [z]; exact Or.inr (Or.inl ⟨rfl, rfl⟩)
          · rw [z, if_neg (zJ_nm1 (by omega))]; exact Or.inr (Or.inr ⟨h, h1, rfl, rfl⟩)
        · have : ∀ n, n ≤ E.nA → zcn X n = n := by
            intro n
            induction n with
            | zero => intro _; rfl
            | succ n ih =>
              intro hn
              unfold zcn
              rw [ih (by omega), if_neg]
              rw [hx n (by omega)]
              rcases hpr2 n (by omega) with z | ⟨h, h1, z⟩
              · rw [z, if_pos rfl]; decide
              · rw [z, if_neg (zJ_nm1 (by omega))]; exact zJ_nm1 (by omega)
          rw [this E.nA (by omega)]; rfl
      by_cases q0 : E.nA = 0
      · refine ⟨Sum.inr _, -1, 0, ?_, ?_, Or.inl ⟨rfl, rfl⟩⟩
        · unfold fX8_bribery; refine zOk.eq e.1 (zOk.inr (zOk.eq (zr_yes q) (zOk.inr ?_)))
          have : fX3_leastBribery (ar 31) (ar 44) (ar 45) (sc 54) (ar 47) (ar 48) (ar 50) (ar 51) (ar 53) (ar 54) (ar 55) t.passed (ar 66) (zJ m) p' = some (-1, ar 31, ar 44, ar 45) := by
            unfold fX3_leastBribery
            rw [hc.a, q0, if_pos (by decide)]
          exact zOk.eq this ⟨_, rfl, rfl⟩
        · unfold fX9_bribery; refine zOk.eq e.2 (zOk.neg (by decide) (zOk.eq (zi_yes q rfl rfl) (zOk.neg (by decide) ?_)))
          refine zr_extras hE hr ht.ok m8 hm hpr1 E.nA 0 FU _ _ _ (by omega) (by unfold FU; omega) (fun a ha => by omega) (fun V S X hX => ?_)
          rw [show FU = 4999 + 1 from rfl]
          unfold lX9_bribery_73
          refine zOk.eq (zisMore h7 hr.a (c := 0) (by omega)) ?_
          rw [if_pos (show 2 * 0 ≤ E.nA by omega)]
          refine zOk.pos rfl (zOk.ck (by decide) (zOk.pos ?_ ⟨_, rfl, _, _, _, rfl⟩))
          show (0 : Int32) = ar 1 3
          rw [hr.a, q0]; rfl
      · have rr : ∃ r : Int32, zOk (fX8_bribery (ar 31) (ar 44) (ar 45) (sc 54) (sc 55) (ar 47) (ar 48) (ar 50) (ar 51) (ar 53) (ar 54) (ar 55) t.passed (ar 66) (zJ m) p') (fun v => v.1 = Sum.inr r) ∧ zOk (fX9_bribery (sc 4) t.passed (ar 1) (ar 3) (ar 4) (ar 6) (ar 7) (ar 10) (ar 13) (ar 16) (ar 17) (ar 19) (zJ m) p') (fun o => ∃ V S X : Nat → Int32, o = (r, 0, V, S, X)) := by
          have c1' : zOk (fX9_bribery (sc 4) t.passed (ar 1) (ar 3) (ar 4) (ar 6) (ar 7) (ar 10) (ar 13) (ar 16) (ar 17) (ar 19) (zJ m) p') (fun o => ∃ r : Int32, (∃ V S X : Nat → Int32, o = (r, 0, V, S, X)) ∧ zOk (fX8_bribery (ar 31) (ar 44) (ar 45) (sc 54) (sc 55) (ar 47) (ar 48) (ar 50) (ar 51) (ar 53) (ar 54) (ar 55) t.passed (ar 66) (zJ m) p') (fun v => v.1 = Sum.inr r)) := by
            unfold fX9_bribery; refine zOk.eq e.2 (zOk.neg (by decide) (zOk.eq (zi_yes q rfl rfl) (zOk.neg (by decide) ?_)))
            refine zr_extras hE hr ht.ok m8 hm hpr1 E.nA 0 FU _ _ _ (by omega) (by unfold FU; omega) (fun a ha => by omega) (fun V S X hX => ?_)
            have c2' : zOk (fX8_bribery (ar 31) (ar 44) (ar 45) (sc 54) (sc 55) (ar 47) (ar 48) (ar 50) (ar 51) (ar 53) (ar 54) (ar 55) t.passed (ar 66) (zJ m) p') (fun v => ∃ r X', v.1 = Sum.inr r ∧ lX9_bribery_73 (fun (M_extras_31 : Nat → Int32) => some ((-1), 0, V, S, M_extras_31)) (fun X x => if x < 1000 then some (x, 0, V, S, X) else some (-1, 0, V, S, X)) (ar 1) FU X 0 0 = some (r, 0, V, S, X')) := by
              unfold fX8_bribery; refine zOk.eq e.1 (zOk.inr (zOk.eq (zr_yes q) (zOk.inr ?_)))
              have lb : zOk (fX3_leastBribery (ar 31) (ar 44) (ar 45) (sc 54) (ar 47) (ar 48) (ar 50) (ar 51) (ar 53) (ar 54) (ar 55) t.passed (ar 66) (zJ m) p') (fun v => ∃ r X', v.1 = r ∧ lX9_bribery_73 (fun (M_extras_31 : Nat → Int32) => some ((-1), 0, V, S, M_extras_31)) (fun X x => if x < 1000 then some (x, 0, V, S, X) else some (-1, 0, V, S, X)) (ar 1) FU X 0 0 = some (r, 0, V, S, X')) := by
                unfold fX3_leastBribery
                refine zOk.neg (by rw [hc.a]; exact fun z => q0 ((zJ_inj (b := 0) (by omega) (by omega)).1 z)) ?_
                refine zl_prices hE hc ht.ok c8 hm hpr1 E.nA 0 FU _ _ _ (by omega) (by unfold FU; omega) (fun a ha => by omega) (fun P V2 S2 hP => ?_)
                obtain ⟨k1, k2⟩ := hPX P X hP hX
                have ew : sc 54 / (2 : Int32) + (1 : Int32) = zJ (E.nA / 2 + 1) := by rw [hc.a, show (2 : Int32) = zJ 2 from rfl, zJ_div (by omega) (by omega), zJ_a1]
                rw [ew]
                obtain ⟨r, U, X', e1, e2⟩ := zbr1 h7 hr.a hc.a (kx := fun (M_extras_31 : Nat → Int32) => some ((-1), 0, V, S, M_extras_31)) (V := V) (S := S) (V' := V2) (S' := S2) (E.nA / 2 + 1) 0 FU FU 0 P X (by omega) (by omega) (by unfold FU; omega) (by unfold FU; omega) k1 k2 (by omega)
                exact ⟨_, e1, r, X', rfl, e2⟩
              refine zOk.bind lb (fun v hv => ?_)
              obtain ⟨r, X', h1, h2⟩ := hv
              exact ⟨_, rfl, r, X', by rw [h1], h2⟩
            obtain ⟨v, ev, r, X', h1, h2⟩ := c2'
            exact ⟨_, h2, r, ⟨V, S, X', rfl⟩, ⟨v, ev, h1⟩⟩
          obtain ⟨w, ew, r, h1, h2⟩ := c1'
          exact ⟨r, h2, ⟨w, ew, h1⟩⟩
        obtain ⟨r, h1, h2⟩ := rr
        exact ⟨Sum.inr r, r, 0, h1, h2, Or.inl ⟨rfl, rfl⟩⟩
end
