/-! ===== pure: a token, of both ===== -/
def zsgk (c : Int32) : Nat := if c = 59 then 3 else if c = 40 then 4 else if c = 41 then 5 else if c = 43 then 6 else if c = 45 then 7 else if c = 42 then 8 else if c = 47 then 9 else if c = 60 then 10 else if c = 61 then 11 else 1
def zwk (b : Nat → Int32) (s e : Nat) : Nat := match (List.range 21).find? (fun i => decide (zmt b s e i)) with | some i => zkn i | none => 12
def zlx (b : Nat → Int32) (n p : Nat) : Nat × Nat × Nat × Nat :=
  if zsk b (n - p) p < n then
    if b (zsk b (n - p) p) < 97 ∨ 122 < b (zsk b (n - p) p) then
      if b (zsk b (n - p) p) < 48 ∨ 57 < b (zsk b (n - p) p) then (zsgk (b (zsk b (n - p) p)), zsk b (n - p) p, zsk b (n - p) p + 1, 0)
      else (2, zsk b (n - p) p, zdg b (n - zsk b (n - p) p) (zsk b (n - p) p), znum b (zsk b (n - p) p) (zdg b (n - zsk b (n - p) p) (zsk b (n - p) p) - zsk b (n - p) p))
    else (zwk b (zsk b (n - p) p) (zlt b (n - zsk b (n - p) p) (zsk b (n - p) p)), zsk b (n - p) p, zlt b (n - zsk b (n - p) p) (zsk b (n - p) p), 0)
  else (0, zsk b (n - p) p, zsk b (n - p) p, 0)
def zrt (k : Nat) : Int32 := if k = 0 then 0 else if k = 2 then 2 else if k = 1 then 4 else if k < 12 then 3 else 1
theorem zsgk_r (c : Int32) : zsgk c = 1 ∨ (3 ≤ zsgk c ∧ zsgk c ≤ 11) := by unfold zsgk; repeat' (first | (split; · exact Or.inr ⟨by omega, by omega⟩) | exact Or.inl rfl)
theorem zwk_c {b : Nat → Int32} {s e : Nat} : (∃ i, i < 21 ∧ zmt b s e i ∧ zwk b s e = zkn i) ∨ ((∀ i, i < 21 → ¬ zmt b s e i) ∧ zwk b s e = 12) := by
  unfold zwk
  cases hf : (List.range 21).find? (fun i => decide (zmt b s e i)) with
  | some i =>
    have h1 := List.find?_some hf
    have h2 := List.mem_of_find?_eq_some hf
    exact Or.inl ⟨i, List.mem_range.1 h2, of_decide_eq_true h1, rfl⟩
  | none =>
    refine Or.inr ⟨fun i hi h => ?_, rfl⟩
    have := List.find?_eq_none.1 hf i (List.mem_range.2 hi)
    exact this (decide_eq_true h)
theorem zkn_r : ∀ i : Fin 21, 13 ≤ zkn i.1 ∧ zkn i.1 ≤ 33 := by decide
theorem zwk_r {b : Nat → Int32} {s e : Nat} : 12 ≤ zwk b s e ∧ zwk b s e ≤ 33 := by
  rcases zwk_c (b := b) (s := s) (e := e) with ⟨i, hi, _, h⟩ | ⟨_, h⟩
  · have : 13 ≤ zkn i ∧ zkn i ≤ 33 := zkn_r ⟨i, hi⟩
    omega
  · omega
theorem zkn_inj : ∀ i : Fin 21, ∀ j : Fin 21, zkn i.1 = zkn j.1 → i.1 = j.1 := by decide
theorem zwk_iff {b : Nat → Int32} {s e i : Nat} (hi : i < 21) : zmt b s e i ↔ zwk b s e = zkn i := by
  rcases zwk_c (b := b) (s := s) (e := e) with ⟨j, hj, hm, h⟩ | ⟨hm, h⟩
  · constructor
    · intro z; rw [h, zmt_uniq hj hi hm z]
    · intro z
      rw [h] at z
      have : j = i := zkn_inj ⟨j, hj⟩ ⟨i, hi⟩ z
      rw [← this]; exact hm
  · constructor
    · intro z; exact absurd z (hm i hi)
    · intro z
      have := (zkn_r ⟨i, hi⟩).1
      have this : 13 ≤ zkn i := this
      omega
theorem zidx : ∀ c : Fin 128, fJ0_indexOf_0f7a4 21 (((zJ c.1).toUInt32 % 65536).toInt32) = some (if zsgk (zJ c.1) = 1 then -1 else zJ (zsgk (zJ c.1) - 3)) := by decide +kernel
theorem zismk : ∀ c : Int32, fX9_isMark c = some (if zsgk c = 1 then 0 else 1) := by
  intro c
  unfold fX9_isMark zsgk
  by_cases q1 : c = 59
  · simp [q1]
  · by_cases q2 : c = 40
    · simp [q2]
    · by_cases q3 : c = 41
      · simp [q3]
      · by_cases q4 : c = 43
        · simp [q4]
        · by_cases q5 : c = 45
          · simp [q5]
          · by_cases q6 : c = 42
            · simp [q6]
            · by_cases q7 : c = 47
              · simp [q7]
              · by_cases q8 : c = 60
                · simp [q8]
                · by_cases q9 : c = 61
                  · simp [q9]
                  · simp [q1, q2, q3, q4, q5, q6, q7, q8, q9]
section
variable {b r : Nat → Int32} {n p : Nat}
theorem zlx_r (hp : p ≤ n) : p ≤ (zlx b n p).2.1 ∧ (zlx b n p).2.1 ≤ (zlx b n p).2.2.1 ∧ (zlx b n p).2.2.1 ≤ n ∧ ((zlx b n p).1 = 0 ↔ (zlx b n p).2.1 = n) ∧ ((zlx b n p).1 ≠ 0 → (zlx b n p).2.1 < (zlx b n p).2.2.1) ∧ (zlx b n p).1 ≤ 33 := by
  obtain ⟨a1, a2⟩ := zsk_r (b := b) (n - p) p
  unfold zlx
  generalize zsk b (n - p) p = s at *
  by_cases q : s < n
  · rw [if_pos q]
    by_cases q1 : b s < 97 ∨ 122 < b s
    · rw [if_pos q1]
      by_cases q2 : b s < 48 ∨ 57 < b s
      · rw [if_pos q2]
        have h1 := zsgk_r (b s)
        refine ⟨a1, ?_, ?_, ?_, ?_, ?_⟩
        · show s ≤ s + 1; omega
        · show s + 1 ≤ n; omega
        · show zsgk (b s) = 0 ↔ s = n; constructor <;> intro z <;> omega
        · intro _; show s < s + 1; omega
        · show zsgk (b s) ≤ 33; omega
      · rw [if_neg q2]
        obtain ⟨d1, d2⟩ := zdg_r (b := b) (n - s) s
        have hd : s < zdg b (n - s) s := by
          obtain ⟨k, hk⟩ : ∃ k, n - s = k + 1 := ⟨n - s - 1, by omega⟩
          have := zdg_r (b := b) k (s + 1)
          rw [hk]
          unfold zdg
          rw [if_neg (fun z => q2 (Or.inl z)), if_neg (fun z => q2 (Or.inr z))]
          omega
        refine ⟨a1, d1, ?_, ?_, fun _ => hd, ?_⟩
        · show zdg b (n - s) s ≤ n; omega
        · show 2 = 0 ↔ s = n; constructor <;> intro z <;> omega
        · show 2 ≤ 33; omega
    · rw [if_neg q1]
      obtain ⟨d1, d2⟩ := zlt_r (b := b) (n - s) s
      have h1 := zwk_r (b := b) (s := s) (e := zlt b (n - s) s)
      have hd : s < zlt b (n - s) s := by
        obtain ⟨k, hk⟩ : ∃ k, n - s = k + 1 := ⟨n - s - 1, by omega⟩
        have := zlt_r (b := b) k (s + 1)
        rw [hk]
        unfold zlt
        rw [if_neg (fun z => q1 (Or.inl z)), if_neg (fun z => q1 (Or.inr z))]
        omega
      refine ⟨a1, d1, ?_, ?_, fun _ => hd, h1.2⟩
      · show zlt b (n - s) s ≤ n; omega
      · show zwk b s (zlt b (n - s) s) = 0 ↔ s = n; constructor <;> intro z <;> omega
  · rw [if_neg q]
    refine ⟨a1, Nat.le_refl _, ?_, ?_, ?_, ?_⟩
    · show s ≤ n; omega
    · show 0 = 0 ↔ s = n; constructor <;> intro z <;> omega
    · intro z; exact absurd rfl z
    · show 0 ≤ 33; omega
theorem zc_next (hn : n ≤ 700) (hp : p ≤ n) (hb : ∀ i, i < n → (∃ c, c < 128 ∧ b i = zJ c) ∨ b i < 0) {tok st dg nm : Int32} : zOk (fX5_nextToken (zJ n) (zJ p) tok st dg nm b) (fun o => ∃ dg' nm', o = (zJ (zlx b n p).2.2.1, zJ (zlx b n p).1, zJ (zlx b n p).2.1, dg', nm') ∧ ((zlx b n p).1 = 2 → dg' = zJ ((zlx b n p).2.2.1 - (zlx b n p).2.1) ∧ ((zlx b n p).2.2.1 - (zlx b n p).2.1 ≤ 4 → nm' = zJ (zlx b n p).2.2.2))) := by
  have main : zOk (jX5_nextToken_52 (zJ n) (zJ (zsk b (n - p) p)) tok st dg nm b) (fun o => ∃ dg' nm', o = (zJ (zlx b n p).2.2.1, zJ (zlx b n p).1, zJ (zlx b n p).2.1, dg', nm') ∧ ((zlx b n p).1 = 2 → dg' = zJ ((zlx b n p).2.2.1 - (zlx b n p).2.1) ∧ ((zlx b n p).2.2.1 - (zlx b n p).2.1 ≤ 4 → nm' = zJ (zlx b n p).2.2.2))) := by
    obtain ⟨a1, a2⟩ := zsk_r (b := b) (n - p) p
    unfold zlx
    generalize zsk b (n - p) p = s at *
    unfold jX5_nextToken_52
    by_cases q : s < n
    · rw [if_pos q]
      refine zOk.pos (zJ_ylt q (by omega)) ?_
      rw [ck_t (zinb (by omega) (by omega)), zJ_ix (by omega)]
      by_cases q1 : b s < 97 ∨ 122 < b s
      · rw [if_pos q1]
        have m2 : zOk (jX5_nextToken_106 (zJ n) (zJ s) tok (zJ s) dg nm b (b s)) (fun o => ∃ dg' nm', o = (zJ (if b s < 48 ∨ 57 < b s then (zsgk (b s), s, s + 1, 0) else (2, s, zdg b (n - s) s, znum b s (zdg b (n - s) s - s))).2.2.1, zJ (if b s < 48 ∨ 57 < b s then (zsgk (b s), s, s + 1, 0) else (2, s, zdg b (n - s) s, znum b s (zdg b (n - s) s - s))).1, zJ (if b s < 48 ∨ 57 < b s then (zsgk (b s), s, s + 1, 0) else (2, s, zdg b (n - s) s, znum b s (zdg b (n - s) s - s))).2.1, dg', nm') ∧ ((if b s < 48 ∨ 57 < b s then (zsgk (b s), s, s + 1, 0) else (2, s, zdg b (n - s) s, znum b s (zdg b (n - s) s - s))).1 = 2 → dg' = zJ ((if b s < 48 ∨ 57 < b s then (zsgk (b s), s, s + 1, 0) else (2, s, zdg b (n - s) s, znum b s (zdg b (n - s) s - s))).2.2.1 - (if b s < 48 ∨ 57 < b s then (zsgk (b s), s, s + 1, 0) else (2, s, zdg b (n - s) s, znum b s (zdg b (n - s) s - s))).2.1) ∧ ((if b s < 48 ∨ 57 < b s then (zsgk (b s), s, s + 1, 0) else (2, s, zdg b (n - s) s, znum b s (zdg b (n - s) s - s))).2.2.1 - (if b s < 48 ∨ 57 < b s then (zsgk (b s), s, s + 1, 0) else (2, s, zdg b (n - s) s, znum b s (zdg b (n - s) s - s))).2.1 ≤ 4 → nm' = zJ (if b s < 48 ∨ 57 < b s then (zsgk (b s), s, s + 1, 0) else (2, s, zdg b (n - s) s, znum b s (zdg b (n - s) s - s))).2.2.2))) := by
          unfold jX5_nextToken_106
          by_cases q2 : b s < 48 ∨ 57 < b s
          · simp only [if_pos q2]
            have m3 : zOk (jX5_nextToken_125 (zJ s) tok (zJ s) dg nm (b s)) (fun o => ∃ dg' nm', o = (zJ (s + 1), zJ (zsgk (b s)), zJ s, dg', nm') ∧ (zsgk (b s) = 2 → dg' = zJ (s + 1 - s) ∧ (s + 1 - s ≤ 4 → nm' = zJ 0))) := by
              have h2 : zsgk (b s) ≠ 2 := by rcases zsgk_r (b s) with z | z <;> omega
              unfold jX5_nextToken_125
              rcases hb s q with ⟨c, hc, ec⟩ | z
              · rw [ec] at h2 ⊢
                refine zOk.pos (zJ_yle (a := 0) (by omega) (by omega)) (zOk.eq (zidx ⟨c, hc⟩) ?_)
                unfold jX5_nextToken_140
                by_cases y : zsgk (zJ c) = 1
                · rw [if_pos y, y]
                  exact zOk.neg (by decide) ⟨_, rfl, _, _, by rw [zJ_a1]; rfl, fun z => absurd z (by omega)⟩
                · rw [if_neg y]
                  have hr := (zsgk_r (zJ c)).resolve_left y
                  refine zOk.pos (show (0 : Int32) ≤ zJ (zsgk (zJ c) - 3) from zJ_yle (a := 0) (by omega) (by omega)) ⟨_, rfl, dg, nm, ?_, fun z => absurd z h2⟩
                  show (zJ s + 1, 3 + zJ (zsgk (zJ c) - 3), zJ s, dg, nm) = _
                  rw [zJ_a1, show (3 : Int32) = zJ 3 from rfl, zJ_add, show 3 + (zsgk (zJ c) - 3) = zsgk (zJ c) by omega]
              · have y : zsgk (b s) = 1 := by
                  have h : ∀ k : Int32, 0 ≤ k → ¬ b s = k := fun k hk z' => by rw [z'] at z; grind
                  unfold zsgk
                  rw [if_neg (h 59 (by decide)), if_neg (h 40 (by decide)), if_neg (h 41 (by decide)), if_neg (h 43 (by decide)), if_neg (h 45 (by decide)), if_neg (h 42 (by decide)), if_neg (h 47 (by decide)), if_neg (h 60 (by decide)), if_neg (h 61 (by decide))]
                refine zOk.neg (Int32.not_le.2 z) ?_
                unfold jX5_nextToken_140
                rw [y]
                exact zOk.neg (by decide) ⟨_, rfl, _, _, by rw [zJ_a1]; rfl, fun z => absurd z (by omega)⟩
            rcases q2 with z | z
            · exact zOk.pos z m3
            · exact zOk.ite (fun _ => m3) (fun _ => zOk.pos z m3)
          · simp only [if_neg q2]
            refine zOk.neg (fun z => q2 (Or.inl z)) (zOk.neg (fun z => q2 (Or.inr z)) ?_)
            unfold fX5_readDigits
            have l := zl_digC (b := b) (s := s) (n := n) (ke := fun pl nu => jX5_readDigits_94 pl tok (zJ s) dg nu) (Q := fun o => ∃ nm', o = (zJ (zdg b (n - s) s), 2, zJ (zdg b (n - s) s - s), nm') ∧ (zdg b (n - s) s - s ≤ 4 → nm' = zJ (znum b s (zdg b (n - s) s - s)))) hn (n - s) s FU 0 (by omega) (by unfold FU; omega) (Nat.le_refl _) ⟨0, rfl, fun _ => by rw [Nat.sub_self]; exact ⟨rfl, by decide⟩, fun h => by omega⟩ (fun N v eN hv => ?_)
            · refine zOk.bind l (fun o ho => ?_)
              obtain ⟨nm', rfl, h⟩ := ho
              exact ⟨_, rfl, _, _, rfl, fun _ => ⟨rfl, h⟩⟩
            · unfold jX5_readDigits_94
              rw [zJ_sub (zdg_r (n - s) s).1]
              exact ⟨_, rfl, N, rfl, fun h => by rw [eN, (hv h).1]⟩
        rcases q1 with z | z
        · exact zOk.pos z m2
        · exact zOk.ite (fun _ => m2) (fun _ => zOk.pos z m2)
      · rw [if_neg q1]
        refine zOk.neg (fun z => q1 (Or.inl z)) (zOk.neg (fun z => q1 (Or.inr z)) ?_)
        have hw := zwk_r (b := b) (s := s) (e := zlt b (n - s) s)
        have e1 : zlt b (n - s) s = zlt b (n - (s + 1)) (s + 1) := by
          obtain ⟨k, hk⟩ : ∃ k, n - s = k + 1 := ⟨n - s - 1, by omega⟩
          rw [hk, show n - (s + 1) = k by omega]
          conv => lhs; unfold zlt
          rw [if_neg (fun z => q1 (Or.inl z)), if_neg (fun z => q1 (Or.inr z))]
        have l : zOk (fX5_readLetters (zJ n) (zJ s) tok (zJ s) b) (fun o => o = (zJ (zlt b (n - s) s), zJ (zwk b s (zlt b (n - s) s)))) := by
          unfold fX5_readLetters
          refine zOk.neg (zJ_nle q (by omega)) ?_
          rw [ck_t (zinb (by omega) (by omega)), ck_t (zinb (by omega) (by omega)), zJ_ix (by omega), zJ_a1]
          refine zOk.neg (fun z => q1 (Or.inl z)) (zOk.neg (fun z => q1 (Or.inr z)) ?_)
          refine zl_letC (b := b) hn (n - (s + 1)) (s + 1) FU (by omega) (by unfold FU; omega) ?_
          rw [← e1]
          have hz := zlt_r (b := b) (n - s) s
          unfold jX5_readLetters_52
          refine zl_words (b := b) (s := s) (e := zlt b (n - s) s) hz.1 (by omega) zwl 0 13 FU 12 zsegs_ok (by unfold FU; omega) (fun T' hT => ⟨_, rfl, ?_⟩)
          rcases hT with ⟨e2, h⟩ | ⟨i, _, hi, hm, e2⟩
          · have : zwk b s (zlt b (n - s) s) = 12 := by
              rcases zwk_c (b := b) (s := s) (e := zlt b (n - s) s) with ⟨i, hi, hm, _⟩ | ⟨_, h'⟩
              · exact absurd hm (h i (zwl_all ⟨i, hi⟩))
              · exact h'
            rw [e2, this]; rfl
          · rw [e2, (zwk_iff hi).1 hm]; rfl
        refine zOk.bind l (fun o ho => ?_)
        rw [ho]
        exact ⟨_, rfl, _, _, rfl, fun z => absurd z (by show ¬ zwk b s (zlt b (n - s) s) = 2; omega)⟩
    · rw [if_neg q]
      refine zOk.neg (zJ_nlt (by omega) (by omega)) ⟨_, rfl, _, _, rfl, fun z => absurd (show (0 : Nat) = 2 from z) (by decide)⟩
  unfold fX5_nextToken
  by_cases q : p < n
  · refine zOk.neg (zJ_nle q (by omega)) ?_
    rw [ck_t (zinb (by omega) (by omega)), ck_t (zinb (by omega) (by omega)), zJ_ix (by omega)]
    obtain ⟨k, hk⟩ : ∃ k, n - p = k + 1 := ⟨n - p - 1, by omega⟩
    have hst : zsk b (n - p) p = if b p = 32 then zsk b k (p + 1) else if b p = 10 then zsk b k (p + 1) else p := by rw [hk]; rfl
    have lp : zsk b (n - p) p = zsk b k (p + 1) → zOk (jX5_nextToken_39 (zJ n) (zJ p) tok st dg nm b) (fun o => ∃ dg' nm', o = (zJ (zlx b n p).2.2.1, zJ (zlx b n p).1, zJ (zlx b n p).2.1, dg', nm') ∧ ((zlx b n p).1 = 2 → dg' = zJ ((zlx b n p).2.2.1 - (zlx b n p).2.1) ∧ ((zlx b n p).2.2.1 - (zlx b n p).2.1 ≤ 4 → nm' = zJ (zlx b n p).2.2.2))) := by
      intro e
      unfold jX5_nextToken_39
      rw [zJ_a1]
      refine zl_skipC (b := b) hn k (p + 1) FU (by omega) (by unfold FU; omega) ?_
      rw [← e]
      exact main
    refine zOk.ite (fun z => lp (by rw [hst, if_pos z])) (fun z => zOk.ite (fun z2 => lp (by rw [hst, if_neg z, if_pos z2])) (fun z2 => ?_))
    rw [hst, if_neg z, if_neg z2] at main
    exact main
  · refine zOk.pos (zJ_yle (by omega) (by omega)) ?_
    have : zsk b (n - p) p = p := by rw [show n - p = 0 by omega]; rfl
    rw [this] at main
    exact main
theorem zby_sgk {x y : Int32} (h : zBy x y) : zsgk x = zsgk y := by
  rcases h with ⟨c, hc, rfl, rfl⟩ | ⟨h1, h2⟩
  · rfl
  · have a : ∀ k : Int32, 0 ≤ k → k ≤ 127 → ¬ x = k ∧ ¬ y = k := fun k hk hk2 => ⟨fun z => by rw [z] at h1; grind, fun z => by rw [z] at h2; grind⟩
    unfold zsgk
    rw [if_neg (a 59 (by decide) (by decide)).1, if_neg (a 40 (by decide) (by decide)).1, if_neg (a 41 (by decide) (by decide)).1, if_neg (a 43 (by decide) (by decide)).1, if_neg (a 45 (by decide) (by decide)).1, if_neg (a 42 (by decide) (by decide)).1, if_neg (a 47 (by decide) (by decide)).1, if_neg (a 60 (by decide) (by decide)).1, if_neg (a 61 (by decide) (by decide)).1, if_neg (a 59 (by decide) (by decide)).2, if_neg (a 40 (by decide) (by decide)).2, if_neg (a 41 (by decide) (by decide)).2, if_neg (a 43 (by decide) (by decide)).2, if_neg (a 45 (by decide) (by decide)).2, if_neg (a 42 (by decide) (by decide)).2, if_neg (a 47 (by decide) (by decide)).2, if_neg (a 60 (by decide) (by decide)).2, if_neg (a 61 (by decide) (by decide)).2]
theorem zm_next (hn : n ≤ 700) (hp : p ≤ n) (hB : ∀ i, i < n → zBy (b i) (r i)) {tok num bg sp : Int32} : zOk (fX9_stepOn (zJ p) (zJ n) tok num bg sp r) (fun o => ∃ nm', o = (zJ (zlx b n p).2.2.1, zrt (zlx b n p).1, nm', zJ (zlx b n p).2.1, zJ (zlx b n p).2.2.1) ∧ ((zlx b n p).1 = 2 → (zlx b n p).2.2.1 - (zlx b n p).2.1 ≤ 4 → nm' = zJ (zlx b n p).2.2.2)) := by
  have main : zOk ((fX9_byteAt (zJ n) r (zJ (zsk b (n - p) p))).bind fun v12 => if v12 = (-1) then some (zJ (zsk b (n - p) p), 0, num, zJ (zsk b (n - p) p), zJ (zsk b (n - p) p)) else (fX9_isLetter v12).bind fun v15 => if v15 = 0 then (fX9_isDigit v12).bind fun v18 => if v18 = 0 then (fX9_isMark v12).bind fun v21 => if v21 = 0 then some ((zJ (zsk b (n - p) p) + (1 : Int32)), 4, num, zJ (zsk b (n - p) p), (zJ (zsk b (n - p) p) + (1 : Int32))) else some ((zJ (zsk b (n - p) p) + (1 : Int32)), 3, num, zJ (zsk b (n - p) p), (zJ (zsk b (n - p) p) + (1 : Int32))) else lX9_stepOn_123 (fun (M_at_30) (M_number_31) => some (M_at_30, 2, M_number_31, zJ (zsk b (n - p) p), M_at_30)) (zJ n) r FU (zJ (zsk b (n - p) p)) 0 else lX9_stepOn_76 (fun (M_at_37) => some (M_at_37, 1, num, zJ (zsk b (n - p) p), M_at_37)) (zJ n) r FU (zJ (zsk b (n - p) p))) (fun o => ∃ nm', o = (zJ (zlx b n p).2.2.1, zrt (zlx b n p).1, nm', zJ (zlx b n p).2.1, zJ (zlx b n p).2.2.1) ∧ ((zlx b n p).1 = 2 → (zlx b n p).2.2.1 - (zlx b n p).2.1 ≤ 4 → nm' = zJ (zlx b n p).2.2.2)) := by
    obtain ⟨a1, a2⟩ := zsk_r (b := b) (n - p) p
    unfold zlx
    generalize zsk b (n - p) p = s at *
    by_cases q : s < n
    · rw [if_pos q]
      refine zOk.eq (zm_byte hn q) ?_
      have hy := hB s q
      have hl : (b s < 97 ∨ 122 < b s) ↔ (r s < 97 ∨ 122 < r s) := zby_lt hy (c := 97) (d := 122) (by omega) (by omega) (by omega)
      have hd : (b s < 48 ∨ 57 < b s) ↔ (r s < 48 ∨ 57 < r s) := zby_lt hy (c := 48) (d := 57) (by omega) (by omega) (by omega)
      refine zOk.neg (fun z => ?_) (zOk.eq zm_isLet ?_)
      · rcases hy with ⟨c, hc, _, e⟩ | ⟨_, e⟩
        · rw [z] at e; exact absurd e.symm (zJ_nm1 (by omega))
        · rw [z] at e; exact absurd e (by decide)
      · by_cases q1 : b s < 97 ∨ 122 < b s
        · rw [if_pos q1, if_pos (hl.1 q1)]
          refine zOk.pos rfl (zOk.eq zm_isDig ?_)
          by_cases q2 : b s < 48 ∨ 57 < b s
          · rw [if_pos q2, if_pos (hd.1 q2)]
            refine zOk.pos rfl (zOk.eq (zismk _) ?_)
            have hk := zsgk_r (b s)
            rw [← zby_sgk hy]
            rw [zJ_a1]
            by_cases y : zsgk (b s) = 1
            · rw [if_pos y]
              refine zOk.pos rfl ⟨_, rfl, num, ?_, fun z => ?_⟩
              · show _ = (zJ (s + 1), zrt (zsgk (b s)), num, zJ s, zJ (s + 1))
                rw [y]; rfl
              · have z : zsgk (b s) = 2 := z
                omega
            · rw [if_neg y]
              have hk := hk.resolve_left y
              refine zOk.neg (by decide) ⟨_, rfl, num, ?_, fun z => ?_⟩
              · show _ = (zJ (s + 1), zrt (zsgk (b s)), num, zJ s, zJ (s + 1))
                unfold zrt
                rw [if_neg (by omega), if_neg (by omega), if_neg (by omega), if_pos (by omega)]
              · have z : zsgk (b s) = 2 := z
                omega
          · rw [if_neg q2, if_neg (fun z => q2 (hd.2 z))]
            refine zOk.neg (by decide) ?_
            refine zl_digM (b := b) (s := s) hn hB (n - s) s FU 0 (by omega) (by unfold FU; omega) (Nat.le_refl _) (fun _ => ⟨0, rfl, by rw [Nat.sub_self]; rfl, by rw [Nat.sub_self]; decide⟩) (fun N hN => ?_)
            refine ⟨_, rfl, N, rfl, fun _ h => ?_⟩
            obtain ⟨v, e1, e2, _⟩ := hN h
            rw [e1, e2]
        · rw [if_neg q1, if_neg (fun z => q1 (hl.2 z))]
          refine zOk.neg (by decide) ?_
          refine zl_letM (b := b) hn hB (n - s) s FU (by omega) (by unfold FU; omega) ?_
          have hw := zwk_r (b := b) (s := s) (e := zlt b (n - s) s)
          refine ⟨_, rfl, num, ?_, fun z => ?_⟩
          · show _ = (zJ (zlt b (n - s) s), zrt (zwk b s (zlt b (n - s) s)), num, zJ s, zJ (zlt b (n - s) s))
            unfold zrt
            rw [if_neg (by omega), if_neg (by omega), if_neg (by omega), if_neg (by omega)]
          · have z : zwk b s (zlt b (n - s) s) = 2 := z
            omega
    · rw [if_neg q]
      refine zOk.eq (zm_byteE hn (by omega) (by omega)) (zOk.pos rfl ⟨_, rfl, num, rfl, fun z => ?_⟩)
      have z : (0 : Nat) = 2 := z
      omega
  unfold fX9_stepOn
  by_cases q : p < n
  · obtain ⟨k, hk⟩ : ∃ k, n - p = k + 1 := ⟨n - p - 1, by omega⟩
    have hst : zsk b (n - p) p = if b p = 32 then zsk b k (p + 1) else if b p = 10 then zsk b k (p + 1) else p := by rw [hk]; rfl
    have h1 : b p = 32 ↔ r p = 32 := zby_eq (hB p q) (c := 32) (by omega)
    have h2 : b p = 10 ↔ r p = 10 := zby_eq (hB p q) (c := 10) (by omega)
    have lp : zsk b (n - p) p = zsk b k (p + 1) → zOk (jX9_stepOn_26 (zJ p) (zJ n) tok num bg sp r) (fun o => ∃ nm', o = (zJ (zlx b n p).2.2.1, zrt (zlx b n p).1, nm', zJ (zlx b n p).2.1, zJ (zlx b n p).2.2.1) ∧ ((zlx b n p).1 = 2 → (zlx b n p).2.2.1 - (zlx b n p).2.1 ≤ 4 → nm' = zJ (zlx b n p).2.2.2)) := by
      intro e
      unfold jX9_stepOn_26
      rw [zJ_a1]
      refine zl_skipM (b := b) hn hB k (p + 1) FU (by omega) (by unfold FU; omega) ?_
      rw [← e]
      exact main
    refine zOk.eq (zm_byte hn q) (zOk.ite (fun z => lp (by rw [hst, if_pos (h1.2 z)])) (fun z => ?_))
    refine zOk.eq (zm_byte hn q) (zOk.ite (fun z2 => lp (by rw [hst, if_neg (fun y => z (h1.1 y)), if_pos (h2.2 z2)])) (fun z2 => ?_))
    rw [hst, if_neg (fun y => z (h1.1 y)), if_neg (fun y => z2 (h2.1 y))] at main
    exact main
  · have : zsk b (n - p) p = p := by rw [show n - p = 0 by omega]; rfl
    rw [this] at main
    refine zOk.eq (zm_byteE hn (by omega) (by omega)) (zOk.neg (by decide) (zOk.eq (zm_byteE hn (by omega) (by omega)) (zOk.neg (by decide) main)))
end
