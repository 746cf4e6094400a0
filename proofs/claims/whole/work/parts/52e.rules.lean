/-! ===== pure: the line of a rule, in both ===== -/
section
variable {b r : Nat → Int32} {n p0 : Nat} {pl tk st dg nm fa A k m g sp bad bp : Int32}
theorem zBrule {p q base : Nat} {t sS sV cd rf rt wa : Nat → Int32} {x1 x2 x3 x4 x5 vals ofv : Int32} (hb : zByts b n) (hB : ∀ i, i < n → zBy (b i) (r i)) (hq : q < 2) (hp : p ≤ n) (hk : (zlx b n p).1 ≠ 0) (h3 : zCy b n p pl tk st dg nm) (h4 : zSyn b n p A k m g sp) (hbase : base ≤ p) (h0 : rt q ≤ rf q) (ht : t (12 + q) = 0) : ∃ oc v om, fX5_readRule (zJ n) pl tk st dg nm 0 x1 x2 x3 x4 x5 b wa (zJ base) cd rf rt (zJ q) = some oc ∧ fX9_stepOn A (zJ n) k m g sp r = some v ∧ fX9_sayRule vals v.1 (zJ n) v.2.1 v.2.2.1 v.2.2.2.1 v.2.2.2.2 0 bp ofv t sS sV r (zJ q) = some (zJ q, om.1, om.2.1, om.2.2.1, om.2.2.2.1, om.2.2.2.2.1, om.2.2.2.2.2.1, om.2.2.2.2.2.2.1, zJ q, om.2.2.2.2.2.2.2.1, om.2.2.2.2.2.2.2.2.1, om.2.2.2.2.2.2.2.2.2) ∧ zRuR b cd n q base (zlx b n p).2.2.1 t sS sV rf rt om oc := by
  obtain ⟨r1, r2, r3, r4, r5, r6⟩ := zlx_r (b := b) hp
  obtain ⟨c, ec, hc⟩ := zc_go hb hp h3
  obtain ⟨v, ev, hv⟩ := zm_go hb.1 hp hB h4
  have hg : zG q t sS sV [] t sS sV := ⟨ht, fun _ _ => rfl, fun _ => ⟨rfl, fun _ _ => rfl, trivial⟩, fun _ => ⟨rfl, fun _ _ => rfl, trivial⟩⟩
  obtain ⟨om, em, oc, eo, ho⟩ := zRule (code0 := cd) (base := base) (rf := rf) (rt := rt) (wa := wa) (dg := c.2.2.2.1) (nm := c.2.2.2.2) hb hB hq r3 (s := (v.1, v.2.1, v.2.2.1, v.2.2.2.1, v.2.2.2.2, 0, bp, t, sS, sV)) hv rfl hg (by omega) hc.2.2.2
  refine ⟨oc, v, om, ?_, ev, ?_, ho⟩
  · unfold fX5_readRule fX1_hasRule
    rw [ck_t (zinb hq (by omega)), ck_t (zinb hq (by omega)), zJ_ix (by omega), if_pos h0, Option.bind_some, if_pos rfl]
    refine zBind ec ?_
    rw [ck_t (zinb hq (by omega)), hc.1, hc.2.1, hc.2.2.1]
    exact eo
  · unfold fX9_sayRule
    rcases (show q = 0 ∨ q = 1 by omega) with z | z
    · subst z
      rw [ck_t (by decide), if_pos (show zJ 0 = 0 from rfl)]
      exact zBind em rfl
    · subst z
      rw [ck_t (by decide), if_neg (show ¬ zJ 1 = 0 by decide)]
      exact zBind em rfl
theorem zm_disp {p : Nat} {vals ofv done : Int32} {t lt df kd cl cs ps bh sS sV : Nat → Int32} (hn : n ≤ 700) (hB : ∀ i, i < n → zBy (b i) (r i)) (hp : p ≤ n) (h4 : zSyn b n p A k m g sp) : fX9_readLine vals A (zJ n) k m g sp 0 bp ofv t lt df kd cl cs ps bh sS sV r done = jX9_readLine_52 vals A (zJ n) k m g sp 0 bp ofv t lt df kd cl cs ps bh sS sV r done (if 15 ≤ (zlx b n p).1 ∧ (zlx b n p).1 < 18 then zJ ((zlx b n p).1 - 15) else -1) (if (zlx b n p).1 = 13 then 1 else if (zlx b n p).1 = 18 then 2 else if (zlx b n p).1 = 19 then 4 else 0) := by
  have n1 : ¬ (1 : Int32) = 0 := by decide
  have ew := zm_which3 (b := b) (r := r) hn hp hB
  rw [← h4.2.1, ← h4.2.2.2.1, ← h4.2.2.2.2] at ew
  have ei : ∀ i kc : Nat, i < 21 → zkn i = kc → fX9_is i k g sp 0 r = some (if (zlx b n p).1 = kc then 1 else 0) := by
    intro i kc hi hk
    subst hk
    rw [h4.2.1, h4.2.2.2.1, h4.2.2.2.2]
    exact zm_isK hn hp hB hi
  unfold fX9_readLine
  rw [ew, Option.bind_some, ei 17 13 (by omega) (by decide), Option.bind_some]
  by_cases a1 : (zlx b n p).1 = 13
  · rw [if_pos a1, if_neg n1, if_pos a1]
  · rw [if_neg a1, if_pos rfl, ei 18 18 (by omega) (by decide), Option.bind_some, if_neg a1]
    by_cases a2 : (zlx b n p).1 = 18
    · rw [if_pos a2, if_neg n1, if_pos a2]
    · rw [if_neg a2, if_pos rfl, ei 19 19 (by omega) (by decide), Option.bind_some, if_neg a2]
      by_cases a3 : (zlx b n p).1 = 19
      · rw [if_pos a3, if_neg n1, if_pos a3]
      · rw [if_neg a3, if_pos rfl, if_neg a3]
end
/-- what the draft holds, beside the reference's upper halves -/
def zDc (ct oil wt tr : Int32) (t : Nat → Int32) : Prop := (ct = 0 ∨ ct = 1) ∧ (∃ x, x ≤ 99 ∧ t 7 = zJ x ∧ oil = zJ x) ∧ (∃ x, x ≤ 99 ∧ t 8 = zJ x ∧ wt = zJ x) ∧ (∃ x, x ≤ 999 ∧ t 9 = zJ x ∧ tr = zJ x)
def zDa (al : Int32) (le de t lt df : Nat → Int32) : Prop := ∃ N, N ≤ 7 ∧ al = zJ N ∧ t 10 = zJ N ∧ ∀ a, a < N → (lt (7 + a) = le a ∧ -9 ≤ le a ∧ le a ≤ 9) ∧ df (7 + a) = de a ∧ 0 ≤ de a ∧ de a ≤ 9
def zDm (mo : Int32) (ki ca co jo fo t kd cl cs ps bh : Nat → Int32) : Prop := ∃ N, N ≤ 10 ∧ mo = zJ N ∧ t 11 = zJ N ∧ ∀ i, i < N → (kd (10 + i) = ki i ∧ 0 ≤ ki i ∧ ki i ≤ 2) ∧ (cl (10 + i) = ca i ∧ 0 ≤ ca i ∧ ca i ≤ 24) ∧ (cs (10 + i) = co i ∧ 0 ≤ co i ∧ co i ≤ 99) ∧ (ps (10 + i) = jo i ∧ -9 ≤ jo i ∧ jo i ≤ 9) ∧ bh (10 + i) = fo i ∧ (fo i = -1 ∨ ∃ j, j < i ∧ fo i = zJ j)
def zDr (q base : Nat) (cd rf rt t S : Nat → Int32) (L : List Int32) : Prop := (∃ f, rf q = zJ f ∧ rt q = zJ (f + L.length) ∧ f + L.length ≤ base ∧ zAt cd f L) ∧ (L = [] ∨ zwf L 0) ∧ zgd q L ∧ t (12 + q) = zJ L.length ∧ zAt S 700 (L.map zcv)
def zdn (ct : Int32) (LS LV : List Int32) : Int32 := zJ ((if ct = 0 then 0 else 1) + 2 * (if LS = [] then 0 else 1) + 4 * (if LV = [] then 0 else 1))
def zDu (p : Nat) (ct cl : Int32) (cd rf rt : Nat → Int32) (done : Int32) (t sS sV : Nat → Int32) : Prop := ∃ base LS LV, base ≤ p ∧ cl = zJ base ∧ zDr 0 base cd rf rt t sS LS ∧ zDr 1 base cd rf rt t sV LV ∧ done = zdn ct LS LV
