/-! ===== pure: the class's clockwork and the reference's, both by the spec ===== -/
abbrev zCls (E : zE) (nA nM : Int32) (deaf kind cost joy fol code rf rt : Nat → Int32) : Prop := (nA = zJ E.nA) ∧ (nM = zJ E.nM) ∧ (∀ a, a < E.nA → deaf a = E.deaf a) ∧ (∀ m, m < E.nM → kind m = E.kind m) ∧ (∀ m, m < E.nM → cost m = E.cost m) ∧ (∀ m, m < E.nM → joy m = E.joy m) ∧ (∀ m, m < E.nM → fol m = E.fol m) ∧ (∃ f, rf 0 = zJ f ∧ rt 0 = zJ (f + E.says.length) ∧ f + E.says.length ≤ 700 ∧ zAt code f E.says) ∧ (∃ f, rf 1 = zJ f ∧ rt 1 = zJ (f + E.votes.length) ∧ f + E.votes.length ≤ 700 ∧ zAt code f E.votes)
theorem zCls.a {E : zE} {nA nM : Int32} {deaf kind cost joy fol code rf rt : Nat → Int32} (h : zCls E nA nM deaf kind cost joy fol code rf rt) : nA = zJ E.nA := h.1
theorem zCls.m {E : zE} {nA nM : Int32} {deaf kind cost joy fol code rf rt : Nat → Int32} (h : zCls E nA nM deaf kind cost joy fol code rf rt) : nM = zJ E.nM := h.2.1
theorem zCls.deaf {E : zE} {nA nM : Int32} {deaf kind cost joy fol code rf rt : Nat → Int32} (h : zCls E nA nM deaf kind cost joy fol code rf rt) : ∀ a, a < E.nA → deaf a = E.deaf a := h.2.2.1
theorem zCls.kind {E : zE} {nA nM : Int32} {deaf kind cost joy fol code rf rt : Nat → Int32} (h : zCls E nA nM deaf kind cost joy fol code rf rt) : ∀ m, m < E.nM → kind m = E.kind m := h.2.2.2.1
theorem zCls.cost {E : zE} {nA nM : Int32} {deaf kind cost joy fol code rf rt : Nat → Int32} (h : zCls E nA nM deaf kind cost joy fol code rf rt) : ∀ m, m < E.nM → cost m = E.cost m := h.2.2.2.2.1
theorem zCls.joy {E : zE} {nA nM : Int32} {deaf kind cost joy fol code rf rt : Nat → Int32} (h : zCls E nA nM deaf kind cost joy fol code rf rt) : ∀ m, m < E.nM → joy m = E.joy m := h.2.2.2.2.2.1
theorem zCls.fol {E : zE} {nA nM : Int32} {deaf kind cost joy fol code rf rt : Nat → Int32} (h : zCls E nA nM deaf kind cost joy fol code rf rt) : ∀ m, m < E.nM → fol m = E.fol m := h.2.2.2.2.2.2.1
theorem zCls.says {E : zE} {nA nM : Int32} {deaf kind cost joy fol code rf rt : Nat → Int32} (h : zCls E nA nM deaf kind cost joy fol code rf rt) : ∃ f, rf 0 = zJ f ∧ rt 0 = zJ (f + E.says.length) ∧ f + E.says.length ≤ 700 ∧ zAt code f E.says := h.2.2.2.2.2.2.2.1
theorem zCls.votes {E : zE} {nA nM : Int32} {deaf kind cost joy fol code rf rt : Nat → Int32} (h : zCls E nA nM deaf kind cost joy fol code rf rt) : ∃ f, rf 1 = zJ f ∧ rt 1 = zJ (f + E.votes.length) ∧ f + E.votes.length ≤ 700 ∧ zAt code f E.votes := h.2.2.2.2.2.2.2.2
abbrev zRef (E : zE) (told deaf kind cost ple beh sS sV : Nat → Int32) : Prop := (told 3 = zJ E.nA) ∧ (told 4 = zJ E.nM) ∧ (told 5 = zJ E.says.length) ∧ (told 6 = zJ E.votes.length) ∧ (∀ a, a < E.nA → deaf a = E.deaf a) ∧ (∀ m, m < E.nM → kind m = E.kind m) ∧ (∀ m, m < E.nM → cost m = E.cost m) ∧ (∀ m, m < E.nM → ple m = E.joy m) ∧ (∀ m, m < E.nM → beh m = E.fol m) ∧ (E.says.length ≤ 700 ∧ zAt sS 0 (E.says.map zcv)) ∧ (E.votes.length ≤ 700 ∧ zAt sV 0 (E.votes.map zcv))
theorem zRef.a {E : zE} {told deaf kind cost ple beh sS sV : Nat → Int32} (h : zRef E told deaf kind cost ple beh sS sV) : told 3 = zJ E.nA := h.1
theorem zRef.m {E : zE} {told deaf kind cost ple beh sS sV : Nat → Int32} (h : zRef E told deaf kind cost ple beh sS sV) : told 4 = zJ E.nM := h.2.1
theorem zRef.s {E : zE} {told deaf kind cost ple beh sS sV : Nat → Int32} (h : zRef E told deaf kind cost ple beh sS sV) : told 5 = zJ E.says.length := h.2.2.1
theorem zRef.v {E : zE} {told deaf kind cost ple beh sS sV : Nat → Int32} (h : zRef E told deaf kind cost ple beh sS sV) : told 6 = zJ E.votes.length := h.2.2.2.1
theorem zRef.deaf {E : zE} {told deaf kind cost ple beh sS sV : Nat → Int32} (h : zRef E told deaf kind cost ple beh sS sV) : ∀ a, a < E.nA → deaf a = E.deaf a := h.2.2.2.2.1
theorem zRef.kind {E : zE} {told deaf kind cost ple beh sS sV : Nat → Int32} (h : zRef E told deaf kind cost ple beh sS sV) : ∀ m, m < E.nM → kind m = E.kind m := h.2.2.2.2.2.1
theorem zRef.cost {E : zE} {told deaf kind cost ple beh sS sV : Nat → Int32} (h : zRef E told deaf kind cost ple beh sS sV) : ∀ m, m < E.nM → cost m = E.cost m := h.2.2.2.2.2.2.1
theorem zRef.joy {E : zE} {told deaf kind cost ple beh sS sV : Nat → Int32} (h : zRef E told deaf kind cost ple beh sS sV) : ∀ m, m < E.nM → ple m = E.joy m := h.2.2.2.2.2.2.2.1
theorem zRef.fol {E : zE} {told deaf kind cost ple beh sS sV : Nat → Int32} (h : zRef E told deaf kind cost ple beh sS sV) : ∀ m, m < E.nM → beh m = E.fol m := h.2.2.2.2.2.2.2.2.1
theorem zRef.says {E : zE} {told deaf kind cost ple beh sS sV : Nat → Int32} (h : zRef E told deaf kind cost ple beh sS sV) : E.says.length ≤ 700 ∧ zAt sS 0 (E.says.map zcv) := h.2.2.2.2.2.2.2.2.2.1
theorem zRef.votes {E : zE} {told deaf kind cost ple beh sS sV : Nat → Int32} (h : zRef E told deaf kind cost ple beh sS sV) : E.votes.length ≤ 700 ∧ zAt sV 0 (E.votes.map zcv) := h.2.2.2.2.2.2.2.2.2.2
theorem zrun_cong {V W : Nat → Int32} : ∀ (ws : List Int32) (st : List Int32), (∀ w ∈ ws, ¬ w < -6 → w < 0 → V ((-1 : Int32) - w).toNatClampNeg = W ((-1 : Int32) - w).toNatClampNeg) → zrun V ws st = zrun W ws st
  | [], _, _ => rfl
  | w :: ws, st, h => by
    have e : zstep V w st = zstep W w st := by
      unfold zstep
      by_cases c : w < -6
      · rw [if_pos c, if_pos c]
      · rw [if_neg c, if_neg c]
        by_cases d : w < 0
        · rw [if_pos d, if_pos d, h w List.mem_cons_self c d]
        · rw [if_neg d, if_neg d]
    show zrun V ws (zstep V w st) = zrun W ws (zstep W w st)
    rw [e]
    exact zrun_cong ws _ (fun q hq => h q (List.mem_cons_of_mem _ hq))
theorem zev_cong {V W : Nat → Int32} {ws : List Int32} (h : ∀ w ∈ ws, ¬ w < -6 → w < 0 → V ((-1 : Int32) - w).toNatClampNeg = W ((-1 : Int32) - w).toNatClampNeg) : zev V ws = zev W ws := by unfold zev; rw [zrun_cong ws [] h]
theorem zv_ix {w : Int32} (h : ¬ w < -6) (h0 : w < 0) : ∃ i, i < 6 ∧ ((-1 : Int32) - w).toNatClampNeg = i := by
  have h1 : ¬ ((-1 : Int32) - w < 0) := by grind
  have h2 : ((-1 : Int32) - w) < zJ 6 := by show ((-1 : Int32) - w) < 6; grind
  obtain ⟨i, hi, e⟩ := zJ_of h1 (by omega) h2
  exact ⟨i, hi, by rw [e, zJ_ix (by omega)]⟩
theorem zv_ix4 {w : Int32} (h : ¬ w < -6) (h4 : w < -6 ∨ -4 ≤ w) (h0 : w < 0) : ∃ i, i < 4 ∧ ((-1 : Int32) - w).toNatClampNeg = i := by
  have h1 : ¬ ((-1 : Int32) - w < 0) := by grind
  have h2 : ((-1 : Int32) - w) < zJ 4 := by show ((-1 : Int32) - w) < 4; grind
  obtain ⟨i, hi, e⟩ := zJ_of h1 (by omega) h2
  exact ⟨i, hi, by rw [e, zJ_ix (by omega)]⟩
/-- the class's six values -/
theorem zupd6 {V : Nat → Int32} {a b c d e f : Int32} {i : Nat} (hi : i < 6) : (upd (upd (upd (upd (upd (upd V (0 : Int32).toNatClampNeg a) (1 : Int32).toNatClampNeg b) (2 : Int32).toNatClampNeg c) (3 : Int32).toNatClampNeg d) (4 : Int32).toNatClampNeg e) (5 : Int32).toNatClampNeg f) i = zV a b c d e f i := by
  rcases (show i = 0 ∨ i = 1 ∨ i = 2 ∨ i = 3 ∨ i = 4 ∨ i = 5 by omega) with rfl | rfl | rfl | rfl | rfl | rfl <;> rfl
theorem zupd4 {V : Nat → Int32} {a b c d e f : Int32} {i : Nat} (hi : i < 4) : (upd (upd (upd (upd V (0 : Int32).toNatClampNeg a) (1 : Int32).toNatClampNeg b) (2 : Int32).toNatClampNeg c) (3 : Int32).toNatClampNeg d) i = zV a b c d e f i := by
  rcases (show i = 0 ∨ i = 1 ∨ i = 2 ∨ i = 3 by omega) with rfl | rfl | rfl | rfl <;> rfl
theorem zrep1 {S : Nat → Int32} {l : List Int32} (h : zRep S l) (hl : l.length = 1) : S 0 = l.headD 0 := by
  match l, hl with
  | [x], _ => exact h.1
theorem zrun_len {V : Nat → Int32} : ∀ (ws st : List Int32), zwf ws st.length → (zrun V ws st).length = 1
  | [], st, h => h
  | w :: ws, st, h => by
    show (zrun V ws (zstep V w st)).length = 1
    apply zrun_len ws
    unfold zwf at h
    unfold zstep
    split at h
    · rename_i c
      rw [if_pos c]
      split at h
      · rename_i d
        rw [if_pos d]
        cases st with
        | nil => exact absurd h.1 (by simp)
        | cons x r => exact h.2
      · rename_i d
        rw [if_neg d]
        match st, h with
        | [], h => exact absurd h.2.1 (by simp)
        | [x], h => exact absurd h.2.1 (by simp)
        | x :: y :: r, h => exact h.2.2.2
    · rename_i c
      rw [if_neg c]
      exact h.2
theorem zmin700 {n : Nat} (h : n ≤ 700) : (if (700 : Int32) < zJ n then (700 : Int32) else zJ n) = zJ n := if_neg (fun q => by have := (zJ_lt (a := 700) (b := n) (by omega) (by omega)).1 q; omega)
theorem zmax0 {n : Nat} (h : n ≤ 700) : (if (0 : Int32) < zJ n then zJ n else (0 : Int32)) = zJ n := by
  by_cases q : n = 0
  · subst q; rfl
  · exact if_pos ((zJ_lt (a := 0) (b := n) (by omega) (by omega)).2 (by omega))
theorem zc_result {V S code rf rt : Nat → Int32} {r f : Nat} {ws : List Int32} (hr : r < 2) (h1 : rf r = zJ f) (h2 : rt r = zJ (f + ws.length)) (h3 : f + ws.length ≤ 700) (h4 : zAt code f ws) (h5 : zwf ws 0) : zOk (fX2_resultOf V S code rf rt (zJ r)) (fun o => o.1 = zev V ws) := by
  unfold fX2_resultOf
  rw [ck_t (zinb hr (by omega)), ck_t (zinb hr (by omega)), zJ_ix (by omega), h1, h2, zmin700 h3, zmax0 (by omega)]
  refine zl_resultOf ws FU f _ S [] h4 rfl h3 h5 trivial (by unfold FU; omega) (fun S' hS => ?_)
  rw [ck_t (by decide)]
  exact zOk.pure (zrep1 hS (zrun_len ws [] h5))
theorem zm_value {V S code : Nat → Int32} {ws : List Int32} (h3 : ws.length ≤ 700) (h4 : zAt code 0 (ws.map zcv)) (h5 : zwf ws 0) : zOk (fX9_valueNow 1400 V S code (zJ ws.length)) (fun o => o.1 = zev V ws) := by
  unfold fX9_valueNow
  refine zl_valueNow (by omega) ws FU 0 _ S [] h4 (by omega) h3 (by omega) h5 trivial (by unfold FU; omega) (fun S' hS => ?_)
  rw [ck_t (by decide)]
  exact zOk.pure (zrep1 hS (zrun_len ws [] h5))
theorem zhasRule {rf rt : Nat → Int32} {r f n : Nat} (hr : r < 2) (h1 : rf r = zJ f) (h2 : rt r = zJ (f + n)) (h3 : f + n ≤ 700) : fX1_hasRule rf rt (zJ r) = some (if n = 0 then 0 else 1) := by
  unfold fX1_hasRule
  rw [ck_t (zinb hr (by omega)), ck_t (zinb hr (by omega)), zJ_ix (by omega), h1, h2]
  by_cases q : n = 0
  · rw [if_pos q, if_pos ((zJ_le (by omega) (by omega)).2 (by omega))]
  · rw [if_neg q, if_neg (fun z => by have := (zJ_le (by omega) (by omega)).1 z; omega)]
