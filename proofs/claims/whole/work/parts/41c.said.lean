/-! ===== pure: what is said ===== -/
theorem zJ_div {a b : Nat} (ha : a < 2147483648) (hb : b < 2147483648) : zJ a / zJ b = zJ (a / b) := by
  have h1 : a / b < 2147483648 := Nat.lt_of_le_of_lt (Nat.div_le_self a b) ha
  rw [← Int32.toInt_inj, Int32.toInt_div, zJ_toInt ha, zJ_toInt hb, zJ_toInt h1]
  rw [show ((a : Int).tdiv (b : Int)) = ((a / b : Nat) : Int) from rfl]
  generalize a / b = q at *
  rw [Int.bmod_eq_of_le (by omega) (by omega)]
theorem zJ_mul {a b : Nat} : zJ a * zJ b = zJ (a * b) := (Int32.ofNat_mul a b).symm
theorem zJ_mod {a : Nat} {b : Nat} (ha : a < 2147483648) (hb : b < 2147483648) : zJ a - zJ a / zJ b * zJ b = zJ (a % b) := by
  rw [zJ_div ha hb, zJ_mul, zJ_sub (Nat.div_mul_le_self a b)]
  congr 1
  have := Nat.div_add_mod a b
  rw [Nat.mul_comm] at this
  omega
theorem zof {x : Int32} (h : 0 ≤ x) : ∃ n, n < 2147483648 ∧ x = zJ n := by
  have h0 : ¬ x < 0 := by grind
  rw [Int32.le_iff_toInt_le] at h
  have h : 0 ≤ x.toInt := h
  have h2 := Int32.toInt_lt x
  refine ⟨x.toInt.toNat, by omega, ?_⟩
  rw [← Int32.toInt_inj, zJ_toInt (by omega)]; omega
theorem zof_le {x : Int32} {k : Nat} (h : 0 ≤ x) (hk : k < 2147483648) (h2 : x ≤ zJ k) : ∃ n, n ≤ k ∧ x = zJ n := by
  obtain ⟨n, hn, rfl⟩ := zof h
  exact ⟨n, (zJ_le hn hk).1 h2, rfl⟩
theorem zh12_r {h : Int32} (h0 : 0 ≤ h) : 1 ≤ zh12 h ∧ zh12 h ≤ 12 := by
  obtain ⟨n, hn, rfl⟩ := zof h0
  unfold zh12
  rw [show (12 : Int32) = zJ 12 from rfl, zJ_mod hn (by omega)]
  have := Nat.mod_lt n (show 12 > 0 by omega)
  by_cases q : n % 12 = 0
  · rw [q]; decide
  · have hq : ¬ zJ (n % 12) = (0 : Int32) := fun z => q ((zJ_inj (b := 0) (by omega) (by omega)).1 z)
    rw [if_neg hq]
    exact ⟨(zJ_le (a := 1) (by omega) (by omega)).2 (by omega), (zJ_le (by omega) (by omega)).2 (by omega)⟩
theorem zclamp_r {v : Int32} : 0 ≤ zclamp v ∧ zclamp v ≤ 24 := by unfold zclamp; grind
theorem zclamp_id {v : Int32} (h : 0 ≤ v) (h2 : v ≤ 24) : zclamp v = v := by unfold zclamp; grind
theorem zword_r {E : zE} {t : zT} (h : 0 ≤ t.hour) : 0 ≤ zword E t ∧ zword E t ≤ 24 := by
  unfold zword
  split
  · have := zh12_r h; grind
  · exact zclamp_r
theorem zhalf {v : Int32} (h : 0 ≤ v) (h2 : v ≤ 24) : 0 ≤ v / 2 ∧ v / 2 ≤ 24 := by
  obtain ⟨n, hn, rfl⟩ := zof_le (k := 24) h (by omega) h2
  rw [show (2 : Int32) = zJ 2 from rfl, zJ_div (by omega) (by omega)]
  exact ⟨(zJ_le (a := 0) (by omega) (by omega)).2 (by omega), (zJ_le (b := 24) (by omega) (by omega)).2 (by omega)⟩
def zmute (t : zT) : Prop := t.weight = 0 ∨ ¬ t.spider ≤ 0
theorem zsaid_mute {E : zE} {t : zT} (h : zmute t) : zsaid E t = -1 := by
  unfold zsaid
  rcases h with h | h
  · rw [if_pos h]
  · split
    · rfl
    · rfl
theorem zsaid_r {E : zE} {t : zT} (h0 : 0 ≤ t.hour) (h : ¬ zmute t) : 0 ≤ zsaid E t ∧ zsaid E t ≤ 24 := by
  have hw : ¬ t.weight = 0 := fun q => h (Or.inl q)
  have hs : t.spider ≤ 0 := Classical.byContradiction fun q => h (Or.inr q)
  unfold zsaid
  rw [if_neg hw, if_pos hs]
  have := zword_r (E := E) h0
  split
  · exact zhalf this.1 this.2
  · exact this
theorem zsaid_mut {E : zE} {t : zT} (h0 : 0 ≤ t.hour) : zsaid E t = -1 ↔ zmute t := by
  constructor
  · intro q
    apply Classical.byContradiction
    intro z
    have := zsaid_r (E := E) h0 z
    rw [q] at this
    exact absurd this.1 (by decide)
  · exact zsaid_mute
theorem zsaid_bd {E : zE} {t : zT} (h0 : 0 ≤ t.hour) : -1 ≤ zsaid E t ∧ zsaid E t ≤ 24 := by
  by_cases h : zmute t
  · rw [zsaid_mute h]; decide
  · have := zsaid_r (E := E) h0 h; grind
theorem znil {l : List Int32} : l.length = 0 ↔ l = [] := List.length_eq_zero_iff
theorem zwf_nil : ¬ zwf [] 0 := fun h => by have h : (0 : Nat) = 1 := h; omega
/-- the values of the class, of the reference, for what is said -/
theorem zev4 {E : zE} (hE : zEok E) {V : Nat → Int32} {a b c d : Int32} : zev (upd (upd (upd (upd V (0 : Int32).toNatClampNeg a) (1 : Int32).toNatClampNeg b) (2 : Int32).toNatClampNeg c) (3 : Int32).toNatClampNeg d) E.says = zev (zV a b c d 0 0) E.says := by
  refine zev_cong (fun w hw h1 h2 => ?_)
  obtain ⟨i, hi, e⟩ := zv_ix4 h1 (hE.says4 w hw) h2
  rw [e]; exact zupd4 hi
theorem zev6 {ws : List Int32} {V : Nat → Int32} {a b c d e f : Int32} : zev (upd (upd (upd (upd (upd (upd V (0 : Int32).toNatClampNeg a) (1 : Int32).toNatClampNeg b) (2 : Int32).toNatClampNeg c) (3 : Int32).toNatClampNeg d) (4 : Int32).toNatClampNeg e) (5 : Int32).toNatClampNeg f) ws = zev (zV a b c d e f) ws := by
  refine zev_cong (fun w hw h1 h2 => ?_)
  obtain ⟨i, hi, e⟩ := zv_ix h1 h2
  rw [e]; exact zupd6 hi
section
variable {E : zE} {nA nM : Int32} {deaf kind cost joy fol code rf rt V S : Nat → Int32} {t : zT}
theorem zc_nsaid (hE : zEok E) (hc : zCls E nA nM deaf kind cost joy fol code rf rt) (h0 : 0 ≤ t.hour) : zOk (fX2_nextSaid V S code rf rt t.hour t.oil t.weight t.spider) (fun o => o.1 = zsaid E t) := by
  obtain ⟨f, h1, h2, h3, h4⟩ := hc.says
  unfold fX2_nextSaid
  by_cases hm : zmute t
  · rw [zsaid_mute hm]
    rcases hm with q | q
    · exact zOk.pos q (zOk.pure rfl)
    · by_cases z : t.weight = 0
      · exact zOk.pos z (zOk.pure rfl)
      · exact zOk.neg z (zOk.neg q (zOk.pure rfl))
  · have hw : ¬ t.weight = 0 := fun q => hm (Or.inl q)
    have hs : t.spider ≤ 0 := Classical.byContradiction fun q => hm (Or.inr q)
    rw [if_neg hw, if_pos hs]
    have key : zOk (jX2_nextSaid_38 V S code rf rt t.hour t.oil t.weight (zh12 t.hour)) (fun o => o.1 = zsaid E t) := by
      have fin : ∀ (w : Int32) (V S : Nat → Int32), w = zword E t → zOk (if t.oil = 0 then some (w / 2, V, S) else some (w, V, S)) (fun o => o.1 = zsaid E t) := by
        intro w V S hv
        unfold zsaid
        rw [if_neg hw, if_pos hs, ← hv]
        refine zOk.ite (fun q => ?_) (fun q => ?_)
        · rw [if_pos q]; exact zOk.pure rfl
        · rw [if_neg q]; exact zOk.pure rfl
      unfold jX2_nextSaid_38
      refine zOk.eq (zhasRule (r := 0) (by omega) h1 h2 h3) ?_
      by_cases q : E.says = []
      · rw [if_pos (znil.2 q)]
        have hv : zh12 t.hour = zword E t := by unfold zword; rw [if_pos q]
        exact zOk.pos rfl (fin _ _ _ hv)
      · rw [if_neg (fun z => q (znil.1 z))]
        refine zOk.neg (by decide) ?_
        rw [ck_t (by decide), ck_t (by decide), ck_t (by decide), ck_t (by decide)]
        refine zOk.bind (zc_result (r := 0) (by omega) h1 h2 h3 h4 (hE.says.resolve_left q)) (fun o ho => ?_)
        have hv : zword E t = zclamp o.1 := by unfold zword; rw [if_neg q, ho, zev4 hE]
        exact fin (zclamp o.1) _ _ hv.symm
    unfold zh12 at key
    split at key
    · exact zOk.pos (by assumption) key
    · exact zOk.neg (by assumption) key
theorem zoil_dec : ∀ n : Fin 100, (if 0 < zJ n.1 - (1 : Int32) then zJ n.1 - (1 : Int32) else 0) = if zJ n.1 = 0 then zJ n.1 else zJ n.1 - 1 := by decide +kernel
theorem zc_say (hE : zEok E) (hc : zCls E nA nM deaf kind cost joy fol code rf rt) (h0 : 0 ≤ t.hour) (ho : 0 ≤ t.oil ∧ t.oil ≤ 99) : zOk (fX2_say V S code rf rt t.hour t.oil t.weight t.spider) (fun o => o.1 = zsaid E t ∧ o.2.2.2 = (zdrop E t).oil) := by
  have hd : (zdrop E t).oil = if zsaid E t = -1 then t.oil else if t.oil = 0 then t.oil else t.oil - 1 := by unfold zdrop; split <;> rfl
  rw [hd]
  unfold fX2_say
  refine zOk.bind (zc_nsaid hE hc h0) (fun o hs => ?_)
  rw [hs]
  refine zOk.ite (fun q => ?_) (fun q => ?_)
  · rw [if_pos q]; exact zOk.pure ⟨rfl, rfl⟩
  · rw [if_neg q]
    refine zOk.pure ⟨rfl, ?_⟩
    obtain ⟨n, hn, e⟩ := zof_le (k := 99) ho.1 (by omega) ho.2
    show (if 0 < t.oil - (1 : Int32) then t.oil - (1 : Int32) else 0) = if t.oil = 0 then t.oil else t.oil - 1
    rw [e]
    exact zoil_dec ⟨n, by omega⟩
end
section
variable {E : zE} {told deaf kind cost ple beh sS sV V S : Nat → Int32} {t : zT}
theorem zm_said (hE : zEok E) (hr : zRef E told deaf kind cost ple beh sS sV) (h0 : 0 ≤ t.hour) : zOk (fX9_saidNow t.hour t.oil t.weight t.spider told sS V S) (fun o => o.1 = zsaid E t) := by
  unfold fX9_saidNow
  by_cases hm : zmute t
  · rw [zsaid_mute hm]
    rcases hm with q | q
    · exact zOk.pos q (zOk.pure rfl)
    · by_cases z : t.weight = 0
      · exact zOk.pos z (zOk.pure rfl)
      · exact zOk.neg z (zOk.neg q (zOk.pure rfl))
  · have hw : ¬ t.weight = 0 := fun q => hm (Or.inl q)
    have hs : t.spider ≤ 0 := Classical.byContradiction fun q => hm (Or.inr q)
    rw [if_neg hw, if_pos hs]
    have key : zOk (jX9_saidNow_38 t.hour t.oil t.weight told sS V S (zh12 t.hour)) (fun o => o.1 = zsaid E t) := by
      have fin : ∀ V S v, zclamp v = zword E t → zOk (jX9_saidNow_105 t.oil V S v) (fun o => o.1 = zsaid E t) := by
        intro V S v hv
        unfold jX9_saidNow_105 zsaid
        rw [if_neg hw, if_pos hs, ← hv]
        refine zOk.ite (fun q => ?_) (fun q => ?_)
        · rw [if_pos q]; exact zOk.pure rfl
        · rw [if_neg q]; exact zOk.pure rfl
      unfold jX9_saidNow_38
      rw [ck_t (by decide), show (5 : Int32).toNatClampNeg = 5 from rfl, hr.s]
      by_cases q : E.says = []
      · rw [q]
        refine zOk.pos (by decide) (fin _ _ _ ?_)
        have := zh12_r h0
        unfold zword
        rw [if_pos q, zclamp_id (by grind) (by grind)]
      · have hl : E.says.length ≠ 0 := fun z => q (znil.1 z)
        have hl7 := hr.says.1
        refine zOk.neg (fun z => by have := (zJ_le (b := 0) (by omega) (by omega)).1 z; omega) ?_
        rw [ck_t (by decide), ck_t (by decide), ck_t (by decide), ck_t (by decide), ck_t (by decide)]
        refine zOk.bind (zm_value hr.says.1 hr.says.2 (hE.says.resolve_left q)) (fun o ho => ?_)
        refine fin _ _ _ ?_
        unfold zword; rw [if_neg q, ho, zev4 hE]
    unfold zh12 at key
    split at key
    · exact zOk.pos (by assumption) key
    · exact zOk.neg (by assumption) key
end
