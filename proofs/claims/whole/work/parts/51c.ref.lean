/-! ===== pure: the reference's small steps over a rule ===== -/
theorem zdg_d {b : Nat → Int32} : ∀ k p i, p ≤ i → i < zdg b k p → ¬ b i < 48 ∧ ¬ 57 < b i
  | 0, p, i, h1, h2 => by
    have h2 : i < p := h2
    omega
  | k + 1, p, i, h1, h2 => by
    unfold zdg at h2
    by_cases q : b p < 48
    · rw [if_pos q] at h2; omega
    · rw [if_neg q] at h2
      by_cases q2 : 57 < b p
      · rw [if_pos q2] at h2; omega
      · rw [if_neg q2] at h2
        rcases Nat.lt_or_ge p i with z | z
        · exact zdg_d k (p + 1) i z h2
        · have : i = p := by omega
          rw [this]; exact ⟨q, q2⟩
theorem znum_lt {b : Nat → Int32} {s : Nat} : ∀ k, (∀ i, s ≤ i → i < s + k → ¬ b i < 48 ∧ ¬ 57 < b i) → znum b s k < 10 ^ k
  | 0, _ => (show (0 : Nat) < 1 by decide)
  | k + 1, h => by
    have ih := znum_lt k (fun i h1 h2 => h i h1 (by omega))
    obtain ⟨c, hc, e⟩ := zby_dig (h (s + k) (by omega) (by omega)).1 (h (s + k) (by omega) (by omega)).2
    show 10 * znum b s k + ((b (s + k)).toNatClampNeg - 48) < 10 ^ (k + 1)
    rw [e, zJ_ix (by omega), Nat.pow_succ]
    omega
section
variable {b r : Nat → Int32} {n p : Nat}
theorem zlx_v (hk : (zlx b n p).1 = 2) (h4 : (zlx b n p).2.2.1 - (zlx b n p).2.1 ≤ 4) : (zlx b n p).2.2.2 < 10000 := by
  revert hk h4
  unfold zlx
  generalize zsk b (n - p) p = s
  by_cases q : s < n
  · rw [if_pos q]
    by_cases q1 : b s < 97 ∨ 122 < b s
    · rw [if_pos q1]
      by_cases q2 : b s < 48 ∨ 57 < b s
      · rw [if_pos q2]
        intro h _
        have h : zsgk (b s) = 2 := h
        have := zsgk_r (b s)
        omega
      · rw [if_neg q2]
        intro _ h
        have h : zdg b (n - s) s - s ≤ 4 := h
        have h1 := znum_lt (b := b) (s := s) (zdg b (n - s) s - s) (fun i a1 a2 => zdg_d (n - s) s i a1 (by omega))
        show znum b s (zdg b (n - s) s - s) < 10000
        have h2 : 10 ^ (zdg b (n - s) s - s) ≤ 10 ^ 4 := Nat.pow_le_pow_right (by omega) h
        omega
    · rw [if_neg q1]
      intro h _
      have h : zwk b s (zlt b (n - s) s) = 2 := h
      have := zwk_r (b := b) (s := s) (e := zlt b (n - s) s)
      omega
  · rw [if_neg q]
    intro h _
    have h : (0 : Nat) = 2 := h
    omega
theorem zlx_w (hk : 12 ≤ (zlx b n p).1) : (zlx b n p).1 = zwk b (zlx b n p).2.1 (zlx b n p).2.2.1 := by
  revert hk
  unfold zlx
  generalize zsk b (n - p) p = s
  by_cases q : s < n
  · rw [if_pos q]
    by_cases q1 : b s < 97 ∨ 122 < b s
    · rw [if_pos q1]
      by_cases q2 : b s < 48 ∨ 57 < b s
      · rw [if_pos q2]
        intro h
        have h : 12 ≤ zsgk (b s) := h
        have := zsgk_r (b s)
        omega
      · rw [if_neg q2]
        intro h
        have h : 12 ≤ 2 := h
        omega
    · rw [if_neg q1]
      intro _
      rfl
  · rw [if_neg q]
    intro h
    have h : 12 ≤ 0 := h
    omega
theorem zlx_s (h3 : 3 ≤ (zlx b n p).1) (h11 : (zlx b n p).1 < 12) : (zlx b n p).1 = zsgk (b (zlx b n p).2.1) ∧ (zlx b n p).2.1 < n := by
  revert h3 h11
  unfold zlx
  generalize zsk b (n - p) p = s
  by_cases q : s < n
  · rw [if_pos q]
    by_cases q1 : b s < 97 ∨ 122 < b s
    · rw [if_pos q1]
      by_cases q2 : b s < 48 ∨ 57 < b s
      · rw [if_pos q2]
        intro _ _
        exact ⟨rfl, q⟩
      · rw [if_neg q2]
        intro h
        have h : 3 ≤ 2 := h
        omega
    · rw [if_neg q1]
      intro _ h
      have h : zwk b s (zlt b (n - s) s) < 12 := h
      have := zwk_r (b := b) (s := s) (e := zlt b (n - s) s)
      omega
  · rw [if_neg q]
    intro h
    have h : 3 ≤ 0 := h
    omega
theorem zrt1 {k : Nat} : zrt k = 1 ↔ 12 ≤ k := by
  unfold zrt
  by_cases a : k = 0
  · subst a; exact ⟨fun z => absurd z (by decide), fun z => by omega⟩
  rw [if_neg a]
  by_cases a : k = 2
  · subst a; exact ⟨fun z => absurd z (by decide), fun z => by omega⟩
  rw [if_neg a]
  by_cases a : k = 1
  · subst a; exact ⟨fun z => absurd z (by decide), fun z => by omega⟩
  rw [if_neg a]
  by_cases a : k < 12
  · rw [if_pos a]; exact ⟨fun z => absurd z (by decide), fun z => by omega⟩
  · rw [if_neg a]; exact ⟨fun _ => by omega, fun _ => rfl⟩
theorem zrt2 {k : Nat} : zrt k = 2 ↔ k = 2 := by
  unfold zrt
  by_cases a : k = 0
  · subst a; exact ⟨fun z => absurd z (by decide), fun z => by omega⟩
  rw [if_neg a]
  by_cases a : k = 2
  · rw [if_pos a]; exact ⟨fun _ => a, fun _ => rfl⟩
  rw [if_neg a]
  by_cases a' : k = 1
  · subst a'; exact ⟨fun z => absurd z (by decide), fun z => by omega⟩
  rw [if_neg a']
  by_cases a' : k < 12
  · rw [if_pos a']; exact ⟨fun z => absurd z (by decide), fun z => absurd z a⟩
  · rw [if_neg a']; exact ⟨fun z => absurd z (by decide), fun z => absurd z a⟩
theorem zrt3 {k : Nat} : zrt k = 3 ↔ 3 ≤ k ∧ k < 12 := by
  unfold zrt
  by_cases a : k = 0
  · subst a; exact ⟨fun z => absurd z (by decide), fun z => by omega⟩
  rw [if_neg a]
  by_cases a : k = 2
  · subst a; exact ⟨fun z => absurd z (by decide), fun z => by omega⟩
  rw [if_neg a]
  by_cases a : k = 1
  · subst a; exact ⟨fun z => absurd z (by decide), fun z => by omega⟩
  rw [if_neg a]
  by_cases a : k < 12
  · rw [if_pos a]; exact ⟨fun _ => by omega, fun _ => rfl⟩
  · rw [if_neg a]; exact ⟨fun z => absurd z (by decide), fun z => by omega⟩
theorem zrt0 {k : Nat} : zrt k = 0 ↔ k = 0 := by
  unfold zrt
  by_cases a : k = 0
  · rw [if_pos a]; exact ⟨fun _ => a, fun _ => rfl⟩
  rw [if_neg a]
  by_cases a' : k = 2
  · rw [if_pos a']; exact ⟨fun z => absurd z (by decide), fun z => absurd z a⟩
  rw [if_neg a']
  by_cases a' : k = 1
  · rw [if_pos a']; exact ⟨fun z => absurd z (by decide), fun z => absurd z a⟩
  rw [if_neg a']
  by_cases a' : k < 12
  · rw [if_pos a']; exact ⟨fun z => absurd z (by decide), fun z => absurd z a⟩
  · rw [if_neg a']; exact ⟨fun z => absurd z (by decide), fun z => absurd z a⟩
theorem zm_isK (hn : n ≤ 700) (hp : p ≤ n) (hB : ∀ i, i < n → zBy (b i) (r i)) {i : Nat} (hi : i < 21) : fX9_is i (zrt (zlx b n p).1) (zJ (zlx b n p).2.1) (zJ (zlx b n p).2.2.1) 0 r = some (if (zlx b n p).1 = zkn i then 1 else 0) := by
  obtain ⟨r1, r2, r3, r4, r5, r6⟩ := zlx_r (b := b) hp
  have hk : 13 ≤ zkn i ∧ zkn i ≤ 33 := zkn_r ⟨i, hi⟩
  by_cases q : 12 ≤ (zlx b n p).1
  · rw [zrt1.2 q, zm_is hi hn r2 r3 hB]
    have e := zlx_w q
    have h := zwk_iff (b := b) (s := (zlx b n p).2.1) (e := (zlx b n p).2.2.1) hi
    rw [← e] at h
    by_cases z : (zlx b n p).1 = zkn i
    · rw [if_pos z, if_pos (h.2 z)]
    · rw [if_neg z, if_neg (fun y => z (h.1 y))]
  · rw [zm_isN hi (fun z => q (zrt1.1 z.2)), if_neg (by omega)]
theorem zsgi {c d : Int32} (h : zsgk c = zsgk d) (hd : zsgk d ≠ 1) : c = d := by
  have key : ∀ x : Int32, zsgk x ≠ 1 → x = (if zsgk x = 3 then 59 else if zsgk x = 4 then 40 else if zsgk x = 5 then 41 else if zsgk x = 6 then 43 else if zsgk x = 7 then 45 else if zsgk x = 8 then 42 else if zsgk x = 9 then 47 else if zsgk x = 10 then 60 else 61 : Int32) := by
    intro x hx
    by_cases a1 : x = 59
    · subst a1; rfl
    by_cases a2 : x = 40
    · subst a2; rfl
    by_cases a3 : x = 41
    · subst a3; rfl
    by_cases a4 : x = 43
    · subst a4; rfl
    by_cases a5 : x = 45
    · subst a5; rfl
    by_cases a6 : x = 42
    · subst a6; rfl
    by_cases a7 : x = 47
    · subst a7; rfl
    by_cases a8 : x = 60
    · subst a8; rfl
    by_cases a9 : x = 61
    · subst a9; rfl
    exact absurd (by unfold zsgk; rw [if_neg a1, if_neg a2, if_neg a3, if_neg a4, if_neg a5, if_neg a6, if_neg a7, if_neg a8, if_neg a9]) hx
  rw [key c (by rw [h]; exact hd), h, ← key d hd]
theorem zm_mk (hn : n ≤ 700) (hp : p ≤ n) (hB : ∀ i, i < n → zBy (b i) (r i)) {c : Nat} (hc : c < 128) (hs : zsgk (zJ c) ≠ 1) : fX9_isMarked (zrt (zlx b n p).1) (zJ (zlx b n p).2.1) 0 r (zJ c) = some (if (zlx b n p).1 = zsgk (zJ c) then 1 else 0) := by
  unfold fX9_isMarked
  rw [if_pos rfl]
  have hr := (zsgk_r (zJ c)).resolve_left hs
  by_cases q : 3 ≤ (zlx b n p).1 ∧ (zlx b n p).1 < 12
  · obtain ⟨e, hlt⟩ := zlx_s q.1 q.2
    rw [if_pos (zrt3.2 q), ck_t (zinb (by omega) (by omega)), zJ_ix (by omega)]
    have hy := zby_eq (hB _ hlt) hc
    by_cases z : r (zlx b n p).2.1 = zJ c
    · rw [if_pos z, if_pos (by rw [e, hy.2 z])]
    · rw [if_neg z, if_neg (fun y => z (hy.1 (zsgi (by rw [← e]; exact y) hs)))]
  · rw [if_neg (fun z => q (zrt3.1 z)), if_neg (by omega)]
theorem zm_mkB {tk bg bad c : Int32} (h : ¬ bad = 0) : fX9_isMarked tk bg bad r c = some 0 := by
  unfold fX9_isMarked
  rw [if_neg h]
theorem zl_which (hn : n ≤ 700) (hp : p ≤ n) (hB : ∀ i, i < n → zBy (b i) (r i)) {N w f : Nat} (hw : w + N ≤ 21) (hf : ∀ i, i < N → zkn (w + i) = f + i) : ∀ (k j fuel : Nat), k + j = N → k < fuel → (∀ i, i < j → (zlx b n p).1 ≠ f + i) → lX9_which_2 (fun x => some x) (some (-1)) N w (zrt (zlx b n p).1) (zJ (zlx b n p).2.1) (zJ (zlx b n p).2.2.1) 0 r fuel (zJ j) = some (if f ≤ (zlx b n p).1 ∧ (zlx b n p).1 < f + N then zJ ((zlx b n p).1 - f) else -1) := by
  intro k
  induction k with
  | zero =>
    intro j fuel hj hfu hno
    obtain ⟨fuel, rfl, hfu⟩ := zfu hfu
    unfold lX9_which_2
    rw [if_pos (show Int32.ofNat N ≤ zJ j from zJ_yle (by omega) (by omega)), if_neg (fun ⟨z1, z2⟩ => hno ((zlx b n p).1 - f) (by omega) (by omega))]
  | succ k ih =>
    intro j fuel hj hfu hno
    obtain ⟨fuel, rfl, hfu⟩ := zfu hfu
    unfold lX9_which_2
    rw [if_neg (show ¬ Int32.ofNat N ≤ zJ j from zJ_nle (by omega) (by omega)), ck_t (zinb (by omega) (by omega)), zJ_ix (by omega), zm_isK hn hp hB (by omega), Option.bind_some, hf j (by omega)]
    by_cases z : (zlx b n p).1 = f + j
    · rw [if_pos z, if_neg (by decide), if_pos (by omega), show (zlx b n p).1 - f = j by omega]
    · rw [if_neg z, if_pos rfl, zJ_succ]
      exact ih (j + 1) fuel (by omega) (by omega) (fun i hi => by
        rcases Nat.lt_or_ge i j with y | y
        · exact hno i y
        · rw [show i = j by omega]; exact z)
theorem zm_which4 (hn : n ≤ 700) (hp : p ≤ n) (hB : ∀ i, i < n → zBy (b i) (r i)) : fX9_which 4 3 (zrt (zlx b n p).1) (zJ (zlx b n p).2.1) (zJ (zlx b n p).2.2.1) 0 r = some (if 24 ≤ (zlx b n p).1 ∧ (zlx b n p).1 < 28 then zJ ((zlx b n p).1 - 24) else -1) :=
  zl_which hn hp hB (N := 4) (w := 3) (f := 24) (by omega) (fun i hi => (show ∀ i : Fin 4, zkn (3 + i.1) = 24 + i.1 by decide) ⟨i, hi⟩) 4 0 FU (by omega) (by unfold FU; omega) (fun i hi => by omega)
theorem zm_which6 (hn : n ≤ 700) (hp : p ≤ n) (hB : ∀ i, i < n → zBy (b i) (r i)) : fX9_which 6 7 (zrt (zlx b n p).1) (zJ (zlx b n p).2.1) (zJ (zlx b n p).2.2.1) 0 r = some (if 28 ≤ (zlx b n p).1 ∧ (zlx b n p).1 < 34 then zJ ((zlx b n p).1 - 28) else -1) :=
  zl_which hn hp hB (N := 6) (w := 7) (f := 28) (by omega) (fun i hi => (show ∀ i : Fin 6, zkn (7 + i.1) = 28 + i.1 by decide) ⟨i, hi⟩) 6 0 FU (by omega) (by unfold FU; omega) (fun i hi => by omega)
theorem zm_which3 (hn : n ≤ 700) (hp : p ≤ n) (hB : ∀ i, i < n → zBy (b i) (r i)) : fX9_which 3 0 (zrt (zlx b n p).1) (zJ (zlx b n p).2.1) (zJ (zlx b n p).2.2.1) 0 r = some (if 15 ≤ (zlx b n p).1 ∧ (zlx b n p).1 < 18 then zJ ((zlx b n p).1 - 15) else -1) :=
  zl_which hn hp hB (N := 3) (w := 0) (f := 15) (by omega) (fun i hi => (show ∀ i : Fin 3, zkn (0 + i.1) = 15 + i.1 by decide) ⟨i, hi⟩) 3 0 FU (by omega) (by unfold FU; omega) (fun i hi => by omega)
end
theorem zm_layB {bad v x : Int32} {t s s' : Nat → Int32} (h : ¬ bad = 0) : fX9_lay bad v t s s' x = some (t, s, s') := by
  unfold fX9_lay
  rw [if_neg h]
/-- what the reference has laid of the rule q -/
def zG (q : Nat) (t0 s0 v0 : Nat → Int32) (L : List Int32) (t s v : Nat → Int32) : Prop :=
  t (12 + q) = zJ L.length ∧ (∀ j, j ≠ 12 + q → t j = t0 j) ∧ (q = 0 → v = v0 ∧ (∀ j, j < 700 → s j = s0 j) ∧ zAt s 700 (L.map zcv)) ∧ (q = 1 → s = s0 ∧ (∀ j, j < 700 → v j = v0 j) ∧ zAt v 700 (L.map zcv))
theorem zm_lay {q : Nat} {t0 s0 v0 t s v : Nat → Int32} {L : List Int32} {w x : Int32} (hq : q < 2) (h : zG q t0 s0 v0 L t s v) (hL : L.length < 700) (hx : x = zcv w) : zOk (fX9_lay 0 (zJ q) t s v x) (fun o => zG q t0 s0 v0 (L ++ [w]) o.1 o.2.1 o.2.2) := by
  obtain ⟨g1, g2, g3, g4⟩ := h
  have hm : (L ++ [w]).map zcv = L.map zcv ++ [zcv w] := by rw [List.map_append]; rfl
  have hl : (L ++ [w]).length = L.length + 1 := by rw [List.length_append]; rfl
  have hl2 : (L.map zcv).length = L.length := List.length_map ..
  have e7 : (700 : Int32) + zJ L.length = zJ (700 + L.length) := zJ_add (a := 700)
  unfold fX9_lay
  rcases (show q = 0 ∨ q = 1 by omega) with z | z
  · subst z
    refine zOk.pos rfl (zOk.pos rfl ?_)
    unfold jX9_lay_23
    refine zOk.pos rfl ?_
    unfold jX9_lay_43
    have e12 : ((7 : Int32) + 5).toNatClampNeg = 12 := by decide
    have g1 : t 12 = zJ L.length := g1
    rw [e12, g1, e7, zJ_ix (by omega)]
    refine zOk.ck (by decide) (zOk.ck (zinb (by omega) (by omega)) (zOk.ck (by decide) (zOk.ck (by decide) ⟨_, rfl, ?_⟩)))
    obtain ⟨b1, b2, b3⟩ := g3 rfl
    refine ⟨?_, fun j hj => ?_, fun _ => ⟨b1, fun j hj => ?_, ?_⟩, fun z => by omega⟩
    · show upd t 12 (zJ L.length + 1) 12 = _
      rw [zupd_eq, zJ_succ, hl]
    · show upd t 12 (zJ L.length + 1) j = _
      rw [zupd_ne hj]; exact g2 j hj
    · show upd s (700 + L.length) x j = _
      rw [zupd_ne (by omega)]; exact b2 j hj
    · show zAt (upd s (700 + L.length) x) 700 _
      rw [hm, hx, ← hl2]
      exact zAt_push b3
  · subst z
    refine zOk.pos rfl (zOk.neg (by decide) ?_)
    unfold jX9_lay_23
    refine zOk.neg (by decide) ?_
    unfold jX9_lay_43_2
    have e12 : ((7 : Int32) + 6).toNatClampNeg = 13 := by decide
    have g1 : t 13 = zJ L.length := g1
    rw [e12, g1, e7, zJ_ix (by omega)]
    refine zOk.ck (by decide) (zOk.ck (zinb (by omega) (by omega)) (zOk.ck (by decide) (zOk.ck (by decide) ⟨_, rfl, ?_⟩)))
    obtain ⟨b1, b2, b3⟩ := g4 rfl
    refine ⟨?_, fun j hj => ?_, fun z => by omega, fun _ => ⟨b1, fun j hj => ?_, ?_⟩⟩
    · show upd t 13 (zJ L.length + 1) 13 = _
      rw [zupd_eq, zJ_succ, hl]
    · show upd t 13 (zJ L.length + 1) j = _
      rw [zupd_ne hj]; exact g2 j hj
    · show upd v (700 + L.length) x j = _
      rw [zupd_ne (by omega)]; exact b2 j hj
    · show zAt (upd v (700 + L.length) x) 700 _
      rw [hm, hx, ← hl2]
      exact zAt_push b3
section
variable {b r : Nat → Int32} {n p : Nat}
theorem zm_markB {a n k m g s bad pl c : Int32} (h : ¬ bad = 0) : fX9_mark a n k m g s bad pl r c = some (a, k, m, g, s, bad, pl) := by
  unfold fX9_mark
  rw [if_neg h]
  unfold jX9_mark_20
  rw [if_neg h]
/-- the reference's five words at a token -/
def zSyn (b : Nat → Int32) (n p : Nat) (a k m g s : Int32) : Prop := a = zJ (zlx b n p).2.2.1 ∧ k = zrt (zlx b n p).1 ∧ ((zlx b n p).1 = 2 → (zlx b n p).2.2.1 - (zlx b n p).2.1 ≤ 4 → m = zJ (zlx b n p).2.2.2) ∧ g = zJ (zlx b n p).2.1 ∧ s = zJ (zlx b n p).2.2.1
theorem zm_go (hn : n ≤ 700) (hp : p ≤ n) (hB : ∀ i, i < n → zBy (b i) (r i)) {a k m g s : Int32} (hs : zSyn b n p a k m g s) : zOk (fX9_stepOn a (zJ n) k m g s r) (fun o => zSyn b n (zlx b n p).2.2.1 o.1 o.2.1 o.2.2.1 o.2.2.2.1 o.2.2.2.2) := by
  obtain ⟨e1, e2, e3, e4, e5⟩ := hs
  rw [e1]
  refine zOk.mono (zm_next hn (zlx_r hp).2.2.1 hB) (fun o ⟨nm, e, h⟩ => ?_)
  rw [e]
  exact ⟨rfl, rfl, h, rfl, rfl⟩
theorem zm_markK (hn : n ≤ 700) (hp : p ≤ n) (hB : ∀ i, i < n → zBy (b i) (r i)) {a k m g s pl : Int32} (hs : zSyn b n p a k m g s) {c : Nat} (hc : c < 128) (hsg : zsgk (zJ c) ≠ 1) (hk : (zlx b n p).1 = zsgk (zJ c)) : zOk (fX9_mark a (zJ n) k m g s 0 pl r (zJ c)) (fun o => zSyn b n (zlx b n p).2.2.1 o.1 o.2.1 o.2.2.1 o.2.2.2.1 o.2.2.2.2.1 ∧ o.2.2.2.2.2.1 = 0) := by
  unfold fX9_mark
  refine zOk.pos rfl ?_
  have e := zm_mk hn hp hB hc hsg
  rw [if_pos hk, ← hs.2.1, ← hs.2.2.2.1] at e
  refine zOk.eq e (zOk.neg (by decide) ?_)
  unfold jX9_mark_20
  refine zOk.pos rfl (zOk.bind (zm_go hn hp hB hs) (fun o ho => ⟨_, rfl, ho, rfl⟩))
theorem zm_markN (hn : n ≤ 700) (hp : p ≤ n) (hB : ∀ i, i < n → zBy (b i) (r i)) {a k m g s pl : Int32} (hs : zSyn b n p a k m g s) {c : Nat} (hc : c < 128) (hsg : zsgk (zJ c) ≠ 1) (hk : (zlx b n p).1 ≠ zsgk (zJ c)) : fX9_mark a (zJ n) k m g s 0 pl r (zJ c) = some (a, k, m, g, s, 1, zJ (zlx b n p).2.1) := by
  unfold fX9_mark
  rw [if_pos rfl]
  have e := zm_mk hn hp hB hc hsg
  rw [if_neg hk, ← hs.2.1, ← hs.2.2.2.1] at e
  rw [e, Option.bind_some, if_pos rfl]
  unfold fX9_wrong
  rw [if_pos rfl, Option.bind_some]
  unfold jX9_mark_20
  rw [if_neg (by show ¬ (1 : Int32) = 0; decide), hs.2.2.2.1]
end
