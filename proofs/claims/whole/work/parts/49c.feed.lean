/-! ===== pure: the tape, idle motions, motions moved ===== -/
theorem zbyte_of (x : Int32) : zByte (vp_nar .byte (x.toInt8.toInt32)) (x &&& (255 : Int32)) := by
  have e0 : vp_nar .byte (x.toInt8.toInt32) = x.toInt8.toInt32 := by
    show (x.toInt8.toInt32).toInt8.toInt32 = _
    rw [Int8.toInt8_toInt32]
  have hn : (x &&& (255 : Int32)).toBitVec.toNat = x.toBitVec.toNat % 256 := by
    rw [Int32.toBitVec_and, BitVec.toNat_and]
    exact Nat.and_two_pow_sub_one_eq_mod (n := 8) x.toBitVec.toNat
  have hlt : x.toBitVec.toNat % 256 < 256 := Nat.mod_lt _ (by omega)
  have er : x &&& (255 : Int32) = zJ (x.toBitVec.toNat % 256) := by
    rw [← Int32.toBitVec_inj]
    apply BitVec.eq_of_toNat_eq
    rw [hn]
    show _ = (BitVec.ofNat 32 (x.toBitVec.toNat % 256)).toNat
    rw [BitVec.toNat_ofNat, Nat.mod_eq_of_lt (show _ < 2 ^ 32 by omega)]
  refine ⟨x.toBitVec.toNat % 256, hlt, er, ?_⟩
  rw [e0, ← Int32.toInt_inj, Int8.toInt_toInt32, Int32.toInt_toInt8]
  have hx : x.toInt = if 2 * x.toBitVec.toNat < 2 ^ 32 then (x.toBitVec.toNat : Int) else (x.toBitVec.toNat : Int) - ((2 ^ 32 : Nat) : Int) := BitVec.toInt_eq_toNat_cond x.toBitVec
  have hm : x.toInt % 256 = ((x.toBitVec.toNat % 256 : Nat) : Int) := by
    rw [hx]; split <;> omega
  have hb : x.toInt.bmod (2 ^ 8) = if x.toBitVec.toNat % 256 < 128 then ((x.toBitVec.toNat % 256 : Nat) : Int) else ((x.toBitVec.toNat % 256 : Nat) : Int) - 256 := by
    rw [Int.bmod_def]
    show (if x.toInt % 256 < (256 + 1) / 2 then x.toInt % 256 else x.toInt % 256 - 256) = _
    rw [hm]
    by_cases q : x.toBitVec.toNat % 256 < 128
    · rw [if_pos q, if_pos (by omega)]
    · rw [if_neg q, if_neg (by omega)]
  rw [hb]
  by_cases q : x.toBitVec.toNat % 256 < 128
  · rw [if_pos q, if_pos q, zJ_toInt (by omega)]
  · rw [if_neg q, if_neg q, show (256 : Int32) = zJ 256 from rfl, Int32.toInt_sub, zJ_toInt (by omega), zJ_toInt (by omega), Int.bmod_eq_of_le (by omega) (by omega)]
    rfl
def zcb (p : Int32) (j : Nat) : Int32 := vp_nar .byte ((p >>> (zJ (24 - 8 * j) &&& 31)).toInt8.toInt32)
def zrb (p : Int32) (j : Nat) : Int32 := (p >>> (zJ (24 - 8 * j) &&& 31)) &&& (255 : Int32)
theorem zput_s {ke : Int32 → (Nat → Int32) → Option (Int32 × (Nat → Int32))} {p x2 : Int32} {n k : Nat} {T : Nat → Int32} (h0 : ¬ x2 < 0) (hk : k < 700) : lX8_putOnTape_3 ke p (n + 1) (zJ k) T x2 = lX8_putOnTape_3 ke p n (zJ (k + 1)) (upd T k (vp_nar .byte ((p >>> (x2 &&& 31)).toInt8.toInt32))) (x2 + (-8)) := by
  rw [lX8_putOnTape_3, if_neg h0, if_neg (zJ_nn (by omega)), if_neg (show ¬ (700 : Int32) ≤ zJ k from zJ_nle (a := 700) (by omega) (by omega)), ck_t (zinb (by omega) (by omega)), zJ_ix (by omega), zJ_a1]
theorem zput {p : Int32} {k : Nat} {T : Nat → Int32} (hk : k + 4 ≤ 700) : ∃ T', fX8_putOnTape (zJ k) T p = some (zJ (k + 4), T') ∧ (∀ j, j < 4 → T' (k + j) = zcb p j) ∧ ∀ i, i < k → T' i = T i := by
  unfold fX8_putOnTape
  rw [show FU = 4995 + 1 + 1 + 1 + 1 + 1 from rfl, zput_s (by decide) (by omega), show (24 : Int32) + (-8) = 16 from rfl, zput_s (x2 := 16) (by decide) (by omega), show (16 : Int32) + (-8) = 8 from rfl, zput_s (x2 := 8) (by decide) (by omega), show (8 : Int32) + (-8) = 0 from rfl, zput_s (x2 := 0) (by decide) (by omega), show (0 : Int32) + (-8) = -8 from rfl, lX8_putOnTape_3, if_pos (by decide)]
  refine ⟨_, rfl, fun j hj => ?_, fun i hi => ?_⟩
  · rcases (show j = 0 ∨ j = 1 ∨ j = 2 ∨ j = 3 by omega) with rfl | rfl | rfl | rfl
    · rw [zupd_ne (by omega), zupd_ne (by omega), zupd_ne (by omega)]; exact zupd_eq
    · rw [zupd_ne (by omega), zupd_ne (by omega)]; exact zupd_eq
    · rw [zupd_ne (by omega)]; exact zupd_eq
    · exact zupd_eq
  · rw [zupd_ne (by omega), zupd_ne (by omega), zupd_ne (by omega), zupd_ne (by omega)]
theorem zr_feed {ke : Int32 → (Nat → Int32) → Option (Int32 × Int32 × Int32 × (Nat → Int32))} {Q : _} {a b c d e : Int32} {k : Nat} (hk : k + 20 ≤ 700) : ∀ (q i fuel : Nat) (T : Nat → Int32), q + i = 20 → q < fuel → (∀ T', (∀ j, i ≤ j → j < 20 → T' (k + j) = zrb (zV a b c d e 0 (j / 4)) (j % 4)) → (∀ j, j < k + i → T' j = T j) → zOk (ke (zJ (k + 20)) T') Q) → zOk (lX9_feed_23 ke a b c d e fuel (zJ (k + i)) T (zJ i)) Q := by
  intro q
  induction q with
  | zero =>
    intro i fuel T hq hf kk
    obtain ⟨fuel, rfl, hf⟩ := zfu hf
    unfold lX9_feed_23
    have : i = 20 := by omega
    subst this
    exact zOk.pos (by decide) (kk T (fun j h1 h2 => by omega) (fun j _ => rfl))
  | succ q ih =>
    intro i fuel T hq hf kk
    obtain ⟨fuel, rfl, hf⟩ := zfu hf
    unfold lX9_feed_23
    refine zOk.neg (zJ_nle (a := 20) (by omega) (by omega)) ?_
    have fin : ∀ w : Int32, w = zV a b c d e 0 (i / 4) → zOk (jX9_feed_76 (lX9_feed_23 ke a b c d e fuel) (zJ (k + i)) T (zJ i) w) Q := by
      intro w hw
      unfold jX9_feed_76
      have e1 : zJ i - zJ i / (4 : Int32) * (4 : Int32) = zJ (i % 4) := zJ_mod (b := 4) (by omega) (by omega)
      have hm := Nat.mod_lt i (show 4 > 0 by omega)
      rw [e1, show (8 : Int32) = zJ 8 from rfl, zJ_mul, show (24 : Int32) = zJ 24 from rfl, zJ_sub (by omega), ck_t (zinb (by omega) (by omega)), zJ_ix (by omega), zJ_a1, zJ_succ]
      refine ih (i + 1) fuel _ (by omega) (by omega) (fun T' h1 h2 => kk T' (fun j ha hb => ?_) (fun j hj => ?_))
      · by_cases z : j = i
        · subst z
          rw [h2 _ (by omega), zupd_eq, hw]; rfl
        · exact h1 j (by omega) hb
      · rw [h2 _ (by omega), zupd_ne (by omega)]
    by_cases q4 : i < 4
    · refine zOk.neg (zJ_nle (a := 4) (by omega) (by omega)) (fin _ ?_)
      rw [show i / 4 = 0 by omega]; rfl
    · refine zOk.pos (zJ_yle (a := 4) (by omega) (by omega)) ?_
      by_cases q8 : i < 8
      · refine zOk.neg (zJ_nle (a := 8) (by omega) (by omega)) (fin _ ?_)
        rw [show i / 4 = 1 by omega]; rfl
      · refine zOk.pos (zJ_yle (a := 8) (by omega) (by omega)) ?_
        by_cases q12 : i < 12
        · refine zOk.neg (zJ_nle (a := 12) (by omega) (by omega)) (fin _ ?_)
          rw [show i / 4 = 2 by omega]; rfl
        · refine zOk.pos (zJ_yle (a := 12) (by omega) (by omega)) ?_
          by_cases q16 : i < 16
          · refine zOk.neg (zJ_nle (a := 16) (by omega) (by omega)) (fin _ ?_)
            rw [show i / 4 = 3 by omega]; rfl
          · refine zOk.pos (zJ_yle (a := 16) (by omega) (by omega)) (fin _ ?_)
            rw [show i / 4 = 4 by omega]; rfl
def zsin (E : zE) : Nat → zT → Int32 → Bool
  | 0, _, _ => false
  | k + 1, u, v => decide (zsaid E u = v) || zsin E k (zhour E (-1) u) v
theorem ztimes_sin {E : zE} (hE : zEok E) {v : Nat} (hv : v < 25) : ∀ (k i b : Nat) (u : zT) (F : Nat → Int32) (c : Nat), zTb E b u → b + k < 1000000 → F v = zJ c → c + k < 1000 → ∃ c', c ≤ c' ∧ c' ≤ c + k ∧ zscan E (-1) (ztimesG E) k i u F v = zJ c' ∧ (c' = c ↔ zsin E k u (zJ v) = false)
  | 0, _, _, _, F, c, _, _, h, _ => ⟨c, Nat.le_refl _, Nat.le_refl _, h, by simp [zsin]⟩
  | k + 1, i, b, u, F, c, hu, hb, h, hk => by
    have hs := zsaid_bd (E := E) hu.h0
    have step : zscan E (-1) (ztimesG E) (k + 1) i u F = zscan E (-1) (ztimesG E) k (i + 1) (zhour E (-1) u) (ztimesG E F i u) := rfl
    rw [step]
    have e1 : zsin E (k + 1) u (zJ v) = (decide (zsaid E u = zJ v) || zsin E k (zhour E (-1) u) (zJ v)) := rfl
    rw [e1]
    by_cases q : zsaid E u = zJ v
    · have hF : ztimesG E F i u v = zJ (c + 1) := by
        unfold ztimesG
        rw [q, if_neg (zJ_nn (by omega)), zJ_ix (by omega), zupd_eq, h, zJ_succ]
      obtain ⟨c', h1, h2, h3, h4⟩ := ztimes_sin hE hv k (i + 1) (b + 1) (zhour E (-1) u) _ (c + 1) (hu.step hE (by omega)) (by omega) hF (by omega)
      refine ⟨c', by omega, by omega, h3, ?_⟩
      rw [decide_eq_true q, Bool.true_or]
      constructor
      · intro z; omega
      · intro z; exact absurd z (by decide)
    · have hF : ztimesG E F i u v = zJ c := by
        unfold ztimesG
        by_cases z : zsaid E u < 0
        · rw [if_pos z, h]
        · rw [if_neg z, zupd_ne, h]
          intro y
          obtain ⟨j, hj, ej⟩ := zJ_of (n := 25) z (by omega) (by show zsaid E u < 25; grind)
          rw [ej, zJ_ix (by omega)] at y
          rw [ej, y] at q
          exact q rfl
      obtain ⟨c', h1, h2, h3, h4⟩ := ztimes_sin hE hv k (i + 1) (b + 1) (zhour E (-1) u) _ c (hu.step hE (by omega)) (by omega) hF (by omega)
      refine ⟨c', h1, by omega, h3, ?_⟩
      rw [decide_eq_false q, Bool.false_or]; exact h4
theorem zidle1_bits {call : Nat → Int32} {said : Int32} : ∀ (k m n : Nat), k + m ≤ 10 → n < 1024 → ∃ n', n' < 1024 ∧ zidle1 call said k m (zJ n) = zJ n' ∧ ∀ i, i < 10 → n'.testBit i = (n.testBit i && !(decide (m ≤ i ∧ i < m + k) && decide (call i = said)))
  | 0, m, n, _, hn => ⟨n, hn, rfl, fun i hi => by rw [decide_eq_false (show ¬ (m ≤ i ∧ i < m + 0) by omega)]; simp⟩
  | k + 1, m, n, hk, hn => by
    have step : zidle1 call said (k + 1) m (zJ n) = zidle1 call said k (m + 1) (if call m = said then zJ n &&& ((1 : Int32) <<< (zJ m &&& 31) ^^^ -1) else zJ n) := rfl
    rw [step]
    have split : ∀ i, decide (m ≤ i ∧ i < m + (k + 1)) = (decide (i = m) || decide (m + 1 ≤ i ∧ i < m + 1 + k)) := by
      intro i
      rw [← Bool.decide_or, decide_eq_decide]; omega
    by_cases q : call m = said
    · rw [if_pos q, show (1 : Int32) <<< (zJ m &&& 31) = zbit m from rfl, zbit_nat (by omega), zandnot hn]
      obtain ⟨n', h1, h2, h3⟩ := zidle1_bits k (m + 1) (zdiff n (2 ^ m)) (by omega) (zdiff_lt hn)
      refine ⟨n', h1, h2, fun i hi => ?_⟩
      rw [h3 i hi, zdiff_bit hi, Nat.testBit_two_pow, split i]
      by_cases z : i = m
      · subst z; simp [q]
      · rw [decide_eq_false z, decide_eq_false (fun y => z y.symm)]; simp
    · rw [if_neg q]
      obtain ⟨n', h1, h2, h3⟩ := zidle1_bits k (m + 1) n (by omega) hn
      refine ⟨n', h1, h2, fun i hi => ?_⟩
      rw [h3 i hi, split i]
      by_cases z : i = m
      · subst z; simp [q]
      · rw [decide_eq_false z]; simp
theorem zidle_bits {E : zE} (h10 : E.nM ≤ 10) {call : Nat → Int32} : ∀ (k j : Nat) (u : zT) (n : Nat), n < 1024 → ∃ n', n' < 1024 ∧ zscan E (-1) (fun s _ v => zidle1 call (zsaid E v) E.nM 0 s) k j u (zJ n) = zJ n' ∧ ∀ i, i < 10 → n'.testBit i = (n.testBit i && !(decide (i < E.nM) && zsin E k u (call i)))
  | 0, _, _, n, hn => ⟨n, hn, rfl, fun i hi => by simp [zsin]⟩
  | k + 1, j, u, n, hn => by
    obtain ⟨n1, a1, a2, a3⟩ := zidle1_bits (call := call) (said := zsaid E u) E.nM 0 n (by omega) hn
    obtain ⟨n2, b1, b2, b3⟩ := zidle_bits h10 (call := call) k (j + 1) (zhour E (-1) u) n1 a1
    refine ⟨n2, b1, ?_, fun i hi => ?_⟩
    · show zscan E (-1) (fun s _ v => zidle1 call (zsaid E v) E.nM 0 s) k (j + 1) (zhour E (-1) u) (zidle1 call (zsaid E u) E.nM 0 (zJ n)) = _
      rw [a2]; exact b2
    · rw [b3 i hi, a3 i hi]
      show _ = (n.testBit i && !(decide (i < E.nM) && (decide (zsaid E u = call i) || zsin E k (zhour E (-1) u) (call i))))
      have e : decide (0 ≤ i ∧ i < 0 + E.nM) = decide (i < E.nM) := by rw [decide_eq_decide]; omega
      have e2 : decide (call i = zsaid E u) = decide (zsaid E u = call i) := by rw [decide_eq_decide]; exact ⟨Eq.symm, Eq.symm⟩
      rw [e, e2]
      cases n.testBit i <;> cases decide (i < E.nM) <;> cases decide (zsaid E u = call i) <;> simp
theorem zfirst_lim {E : zE} {wo : Int32} {p : zT → Bool} : ∀ (K k i : Nat) (u : zT), k ≤ K → (zfirst E wo p K i u = -1 ∧ zfirst E wo p k i u = -1) ∨ ∃ h, i ≤ h ∧ h < i + K ∧ zfirst E wo p K i u = zJ h ∧ zfirst E wo p k i u = if h < i + k then zJ h else -1
  | 0, k, i, u, hk => by
    have : k = 0 := by omega
    subst this
    exact Or.inl ⟨rfl, rfl⟩
  | K + 1, k, i, u, hk => by
    have e1 : zfirst E wo p (K + 1) i u = if p u then zJ i else zfirst E wo p K (i + 1) (zhour E wo u) := rfl
    rw [e1]
    cases k with
    | zero =>
      show (_ ∧ (-1 : Int32) = -1) ∨ _
      cases hp : p u
      · rcases zfirst_lim K 0 (i + 1) (zhour E wo u) (by omega) with ⟨a, b⟩ | ⟨h, h1, h2, h3, h4⟩
        · exact Or.inl ⟨by rw [if_neg (by decide)]; exact a, rfl⟩
        · exact Or.inr ⟨h, by omega, by omega, by rw [if_neg (by decide)]; exact h3, by rw [if_neg (by omega)]; rfl⟩
      · exact Or.inr ⟨i, by omega, by omega, by rw [if_pos rfl], by rw [if_neg (by omega)]; rfl⟩
    | succ k =>
      have e2 : zfirst E wo p (k + 1) i u = if p u then zJ i else zfirst E wo p k (i + 1) (zhour E wo u) := rfl
      rw [e2]
      cases hp : p u
      · rw [if_neg (by decide), if_neg (by decide)]
        rcases zfirst_lim K k (i + 1) (zhour E wo u) (by omega) with ⟨a, b⟩ | ⟨h, h1, h2, h3, h4⟩
        · exact Or.inl ⟨a, b⟩
        · refine Or.inr ⟨h, by omega, by omega, h3, ?_⟩
          rw [h4]
          by_cases z : h < i + 1 + k
          · rw [if_pos z, if_pos (by omega)]
          · rw [if_neg z, if_neg (by omega)]
      · exact Or.inr ⟨i, by omega, by omega, by rw [if_pos rfl], by rw [if_pos rfl, if_pos (by omega)]⟩
def ztc (t : zT) (m : Nat) (c : Int32) : zT := zT.mk t.hour t.oil t.weight t.spider t.treas t.joy t.passed t.lean (upd t.call m c)
def zmvv (E : zE) (t : zT) (m c k : Nat) : Int32 := zfirst E (-1) (fun v => zis (zhour E (-1) v).passed (zJ m)) k 1 (ztc t m (zJ c))
def zmvg (E : zE) (t : zT) (m : Nat) (s : Int32 × Int32) (c : Nat) : Int32 × Int32 := if zmvv E t m c 48 = -1 then s else if s.2 = -1 then (zJ c, zmvv E t m c 48) else if zmvv E t m c 48 < s.2 then (zJ c, zmvv E t m c 48) else s
def zmvf (E : zE) (t : zT) (m : Nat) : Nat → Nat → Int32 × Int32 → Int32 × Int32
  | 0, _, s => s
  | k + 1, c, s => zmvf E t m k (c + 1) (zmvg E t m s c)
theorem ztc_ok {E : zE} {t : zT} {m b : Nat} {c : Int32} (ht : zTb E b t) (h : 0 ≤ c ∧ c ≤ 24) : zTb E b (ztc t m c) := by
  obtain ⟨⟨a1, a2, a3, a4, a5, a6, a7⟩, b2, b3, b4⟩ := ht
  refine ⟨⟨a1, a2, a3, a4, a5, a6, fun j hj => ?_⟩, b2, b3, b4⟩
  show 0 ≤ upd t.call m c j ∧ upd t.call m c j ≤ 24
  by_cases z : j = m
  · subst z; rw [zupd_eq]; exact h
  · rw [zupd_ne z]; exact a7 j hj
def zsoon (E : zE) (m : Nat) : Nat → Nat → zT → Int32 × Int32
  | 0, _, _ => (-1, -1)
  | k + 1, i, u => if zis (zhour E (-1) (ztc u m (zsaid E u))).passed (zJ m) then (zJ i, zsaid E u) else zsoon E m k (i + 1) (zhour E (-1) (ztc u m (zsaid E u)))
def zPb (p : Int32) : Prop := ∃ n, n < 1024 ∧ p = zJ n
theorem zPb_or {p : Int32} {j : Nat} (h : zPb p) (hj : j < 10) : zPb (p ||| zbit j) := by
  obtain ⟨n, hn, rfl⟩ := h
  refine ⟨n ||| 2 ^ j, ?_, zor_any ⟨j, hj⟩ ⟨n, hn⟩⟩
  have := Nat.or_lt_two_pow (n := 10) (x := n) (y := 2 ^ j) (by omega) (Nat.pow_lt_pow_right (by omega) hj)
  omega
theorem zupd_upd {f : Nat → Int32} {k : Nat} {a b : Int32} : upd (upd f k a) k b = upd f k b := by
  funext j
  by_cases z : j = k
  · subst z; rw [zupd_eq, zupd_eq]
  · rw [zupd_ne z, zupd_ne z, zupd_ne z]
theorem ztc_tc {w : zT} {m : Nat} {c c' : Int32} : ztc (ztc w m c') m c = ztc w m c := by
  show zT.mk w.hour w.oil w.weight w.spider w.treas w.joy w.passed w.lean (upd (upd w.call m c') m c) = zT.mk w.hour w.oil w.weight w.spider w.treas w.joy w.passed w.lean (upd w.call m c)
  rw [zupd_upd]
theorem zsupN_tc {E : zE} {w : zT} {m j : Nat} {c s : Int32} : ∀ k, zsupN E (ztc w m c) j s k = zsupN E w j s k
  | 0 => rfl
  | k + 1 => by
    show (if zfor E w.passed k (w.lean k) j s then zsupN E (ztc w m c) j s k ||| zbit k else zsupN E (ztc w m c) j s k) = if zfor E w.passed k (w.lean k) j s then zsupN E w j s k ||| zbit k else zsupN E w j s k
    rw [zsupN_tc k]
theorem zwould_tc {E : zE} {w : zT} {m j : Nat} {c s : Int32} : zwould E (ztc w m c) j s = zwould E w j s := by
  show (!decide (w.treas < zexp E j) && zcarry E (zsupN E (ztc w m c) j s E.nA)) = (!decide (w.treas < zexp E j) && zcarry E (zsupN E w j s E.nA))
  rw [zsupN_tc]
theorem zvote1_tc {E : zE} {w : zT} {m j : Nat} {c s : Int32} (h : j ≠ m) : zvote1 E (-1) s (ztc w m c) j = ztc (zvote1 E (-1) s w j) m c := by
  have e : (ztc w m c).call j = w.call j := zupd_ne h
  unfold zvote1
  rw [e, zwould_tc]
  by_cases q : (!decide (zJ j = -1) && (decide (w.call j = s) && (zopen E w.passed j && zwould E w j s))) = true
  · exact (if_pos q).trans (by rw [if_pos q]; rfl)
  · exact (if_neg q).trans (by rw [if_neg q])
theorem zvote1_pb {E : zE} {w : zT} {j : Nat} {s : Int32} (hj : j < 10) (h : zPb w.passed) : zPb (zvote1 E (-1) s w j).passed := by
  unfold zvote1
  split
  · exact zPb_or h hj
  · exact h
theorem zvote1_is {E : zE} {w : zT} {j m : Nat} {s : Int32} (hj : j < 10) (hm : m < 10) (h : zPb w.passed) (hne : j ≠ m) : zis (zvote1 E (-1) s w j).passed (zJ m) = zis w.passed (zJ m) := by
  unfold zvote1
  split
  · obtain ⟨n, hn, e⟩ := h
    show zis (w.passed ||| zbit j) (zJ m) = _
    rw [e, zis_or hn hj hm, decide_eq_false hne, Bool.or_false]
  · rfl
theorem zpass_is {w : zT} {j m : Nat} (hj : j < 10) (hm : m < 10) (h : zPb w.passed) (hz : zis w.passed (zJ m) = true ∨ j = m) : zis (w.passed ||| zbit j) (zJ m) = true := by
  obtain ⟨n, hn, e⟩ := h
  rw [e] at hz ⊢
  rw [zis_or hn hj hm]
  rcases hz with z | z
  · rw [z, Bool.true_or]
  · rw [decide_eq_true z, Bool.or_true]
theorem zvote1_stay {E : zE} {w : zT} {j m : Nat} {s : Int32} (hj : j < 10) (hm : m < 10) (h : zPb w.passed) (hz : zis w.passed (zJ m) = true) : zis (zvote1 E (-1) s w j).passed (zJ m) = true := by
  unfold zvote1
  split
  · exact zpass_is hj hm h (Or.inl hz)
  · exact hz
theorem zvotes_pb {E : zE} {s : Int32} : ∀ (k j : Nat) (w : zT), k + j ≤ 10 → zPb w.passed → zPb (zvotes E (-1) s k j w).passed
  | 0, _, _, _, h => h
  | k + 1, j, w, hk, h => zvotes_pb k (j + 1) _ (by omega) (zvote1_pb (by omega) h)
theorem zvotes_stay {E : zE} {s : Int32} {m : Nat} (hm : m < 10) : ∀ (k j : Nat) (w : zT), k + j ≤ 10 → zPb w.passed → zis w.passed (zJ m) = true → zis (zvotes E (-1) s k j w).passed (zJ m) = true
  | 0, _, _, _, _, h => h
  | k + 1, j, w, hk, hp, h => zvotes_stay hm k (j + 1) _ (by omega) (zvote1_pb (by omega) hp) (zvote1_stay (by omega) hm hp h)
theorem zvotes_off {E : zE} {s c : Int32} {m : Nat} (hm : m < 10) (hcs : c ≠ s) : ∀ (k j : Nat) (w : zT), k + j ≤ 10 → w.call m = c → zPb w.passed → zis w.passed (zJ m) = false → zis (zvotes E (-1) s k j w).passed (zJ m) = false
  | 0, _, _, _, _, _, h => h
  | k + 1, j, w, hk, hc, hp, h => by
    show zis (zvotes E (-1) s k (j + 1) (zvote1 E (-1) s w j)).passed (zJ m) = false
    by_cases q : j = m
    · have e : zvote1 E (-1) s w j = w := by
        unfold zvote1
        rw [q, hc, if_neg (by rw [decide_eq_false hcs]; simp)]
      rw [e]
      exact zvotes_off hm hcs k (j + 1) w (by omega) hc hp h
    · exact zvotes_off hm hcs k (j + 1) _ (by omega) (by rw [zvote1_call]; exact hc) (zvote1_pb (by omega) hp) (by rw [zvote1_is (by omega) hm hp q]; exact h)
theorem zvotes_tc {E : zE} {s c c' : Int32} {m : Nat} (hm : m < 10) : ∀ (k j : Nat) (w : zT), k + j ≤ 10 → zPb w.passed → zis (zvotes E (-1) s k j (ztc w m c)).passed (zJ m) = false → zis (zvotes E (-1) s k j (ztc w m c')).passed (zJ m) = false → zvotes E (-1) s k j (ztc w m c) = ztc (zvotes E (-1) s k j (ztc w m c')) m c
  | 0, _, _, _, _, _, _ => ztc_tc.symm
  | k + 1, j, w, hk, hp, h, h' => by
    have h : zis (zvotes E (-1) s k (j + 1) (zvote1 E (-1) s (ztc w m c) j)).passed (zJ m) = false := h
    have h' : zis (zvotes E (-1) s k (j + 1) (zvote1 E (-1) s (ztc w m c') j)).passed (zJ m) = false := h'
    show zvotes E (-1) s k (j + 1) (zvote1 E (-1) s (ztc w m c) j) = ztc (zvotes E (-1) s k (j + 1) (zvote1 E (-1) s (ztc w m c') j)) m c
    by_cases q : j = m
    · have e : ∀ d, zis (zvotes E (-1) s k (j + 1) (zvote1 E (-1) s (ztc w m d) j)).passed (zJ m) = false → zvote1 E (-1) s (ztc w m d) j = ztc w m d := by
        intro d hd
        unfold zvote1 at hd ⊢
        split
        · rename_i y
          rw [if_pos y] at hd
          have st := zvotes_stay (E := E) (s := s) hm k (j + 1) (zpass E (ztc w m d) j) (by omega) (zPb_or hp (by omega)) (zpass_is (w := w) (by omega) hm hp (Or.inr q))
          rw [st] at hd
          exact absurd hd (by decide)
        · rfl
      have e1 := e c h
      have e2 := e c' h'
      rw [e1] at h ⊢
      rw [e2] at h' ⊢
      exact zvotes_tc hm k (j + 1) w (by omega) hp h h'
    · have e1 : zvote1 E (-1) s (ztc w m c) j = _ := zvote1_tc q
      have e2 : zvote1 E (-1) s (ztc w m c') j = _ := zvote1_tc q
      rw [e1] at h ⊢
      rw [e2] at h' ⊢
      exact zvotes_tc hm k (j + 1) (zvote1 E (-1) s w j) (by omega) (zvote1_pb (by omega) hp) h h'
theorem zsaid_tc {E : zE} {u : zT} {m : Nat} {c : Int32} : zsaid E (ztc u m c) = zsaid E u := rfl
theorem zdrop_tc {E : zE} {u : zT} {m : Nat} {c : Int32} : zdrop E (ztc u m c) = ztc (zdrop E u) m c := by
  unfold zdrop
  rw [zsaid_tc]
  by_cases q : zsaid E u = -1
  · exact (if_pos q).trans (by rw [if_pos q])
  · exact (if_neg q).trans (by rw [if_neg q]; rfl)
theorem zhour_tcE {E : zE} {u : zT} {m : Nat} {c : Int32} : zhour E (-1) (ztc u m c) = zturn (if zsaid E u = -1 then ztc u m c else zvotes E (-1) (zsaid E u) E.nM 0 (ztc (zdrop E u) m c)) := by
  unfold zhour
  rw [zdrop_tc, zsaid_tc]
theorem zdrop_pb {E : zE} {u : zT} (h : zPb u.passed) : zPb (zdrop E u).passed := by
  rw [(zdrop_keep (E := E) (t := u)).2.2.2.2.2.1]; exact h
theorem zhour_off {E : zE} {u : zT} {m : Nat} {c : Int32} (h10 : E.nM ≤ 10) (hm : m < 10) (hp : zPb u.passed) (hz : zis u.passed (zJ m) = false) (hcs : c ≠ zsaid E u) : zis (zhour E (-1) (ztc u m c)).passed (zJ m) = false := by
  rw [zhour_tcE]
  show zis (if zsaid E u = -1 then ztc u m c else zvotes E (-1) (zsaid E u) E.nM 0 (ztc (zdrop E u) m c)).passed (zJ m) = false
  by_cases q : zsaid E u = -1
  · rw [if_pos q]; exact hz
  · rw [if_neg q]
    refine zvotes_off hm hcs E.nM 0 (ztc (zdrop E u) m c) (by omega) (show upd (zdrop E u).call m c m = c from zupd_eq) (zdrop_pb hp) ?_
    show zis (zdrop E u).passed (zJ m) = false
    rw [(zdrop_keep (E := E) (t := u)).2.2.2.2.2.1]; exact hz
theorem zhour_pb {E : zE} {u : zT} {m : Nat} {c : Int32} (h10 : E.nM ≤ 10) (hp : zPb u.passed) : zPb (zhour E (-1) (ztc u m c)).passed := by
  rw [zhour_tcE]
  show zPb (if zsaid E u = -1 then ztc u m c else zvotes E (-1) (zsaid E u) E.nM 0 (ztc (zdrop E u) m c)).passed
  by_cases q : zsaid E u = -1
  · rw [if_pos q]; exact hp
  · rw [if_neg q]
    exact zvotes_pb E.nM 0 _ (by omega) (zdrop_pb hp)
theorem zhour_tc {E : zE} {u : zT} {m : Nat} {c c' : Int32} (h10 : E.nM ≤ 10) (hm : m < 10) (hp : zPb u.passed) (h : zis (zhour E (-1) (ztc u m c)).passed (zJ m) = false) (h' : zis (zhour E (-1) (ztc u m c')).passed (zJ m) = false) : zhour E (-1) (ztc u m c) = ztc (zhour E (-1) (ztc u m c')) m c := by
  have f : ∀ d, zhour E (-1) (ztc u m d) = zturn (if zsaid E u = -1 then ztc u m d else zvotes E (-1) (zsaid E u) E.nM 0 (ztc (zdrop E u) m d)) := fun d => zhour_tcE
  rw [f c] at h ⊢
  rw [f c'] at h' ⊢
  by_cases q : zsaid E u = -1
  · rw [if_pos q, if_pos q]
    show zturn (ztc u m c) = ztc (ztc (zturn u) m c') m c
    rw [ztc_tc]; rfl
  · rw [if_neg q] at h h'
    rw [if_neg q, if_neg q]
    have e := zvotes_tc (E := E) (s := zsaid E u) (c := c) (c' := c') hm E.nM 0 (zdrop E u) (by omega) (zdrop_pb hp) h h'
    rw [e]; rfl
theorem zhour_mute {E : zE} {u : zT} {wo : Int32} (h : zsaid E u = -1) : (zhour E wo u).passed = u.passed := by
  unfold zhour
  rw [if_pos h]; rfl
theorem zsoon_ok {E : zE} (hE : zEok E) {m : Nat} (hm : m < E.nM) : ∀ (k i b : Nat) (u : zT), 0 ≤ u.hour → u.hour ≤ zJ b → b + k < 1000000 → zPb u.passed → zis u.passed (zJ m) = false → (zsoon E m k i u = (-1, -1) ∧ ∀ c : Nat, zfirst E (-1) (fun v => zis (zhour E (-1) v).passed (zJ m)) k i (ztc u m (zJ c)) = -1) ∨ ∃ h d, i ≤ h ∧ h < i + k ∧ d < 25 ∧ zsoon E m k i u = (zJ h, zJ d) ∧ zfirst E (-1) (fun v => zis (zhour E (-1) v).passed (zJ m)) k i (ztc u m (zJ d)) = zJ h ∧ ∀ c : Nat, c < 25 → c ≠ d → (zfirst E (-1) (fun v => zis (zhour E (-1) v).passed (zJ m)) k i (ztc u m (zJ c)) = -1 ∨ ∃ h', h < h' ∧ h' < i + k ∧ zfirst E (-1) (fun v => zis (zhour E (-1) v).passed (zJ m)) k i (ztc u m (zJ c)) = zJ h')
  | 0, _, _, _, _, _, _, _, _ => Or.inl ⟨rfl, fun _ => rfl⟩
  | k + 1, i, b, u, h0, hb, h6, hp, hz => by
    have h10 := hE.m10
    have fs : ∀ c : Int32, zfirst E (-1) (fun v => zis (zhour E (-1) v).passed (zJ m)) (k + 1) i (ztc u m c) = if zis (zhour E (-1) (ztc u m c)).passed (zJ m) then zJ i else zfirst E (-1) (fun v => zis (zhour E (-1) v).passed (zJ m)) k (i + 1) (zhour E (-1) (ztc u m c)) := fun _ => rfl
    have so : zsoon E m (k + 1) i u = if zis (zhour E (-1) (ztc u m (zsaid E u))).passed (zJ m) then (zJ i, zsaid E u) else zsoon E m k (i + 1) (zhour E (-1) (ztc u m (zsaid E u))) := rfl
    have off : ∀ c : Int32, c ≠ zsaid E u → zis (zhour E (-1) (ztc u m c)).passed (zJ m) = false := fun c q => zhour_off h10 (by omega) hp hz q
    cases hv : zis (zhour E (-1) (ztc u m (zsaid E u))).passed (zJ m)
    · have pf : ∀ c : Int32, zis (zhour E (-1) (ztc u m c)).passed (zJ m) = false := by
        intro c
        by_cases q : c = zsaid E u
        · rw [q]; exact hv
        · exact off c q
      have fs' : ∀ c : Int32, zfirst E (-1) (fun v => zis (zhour E (-1) v).passed (zJ m)) (k + 1) i (ztc u m c) = zfirst E (-1) (fun v => zis (zhour E (-1) v).passed (zJ m)) k (i + 1) (ztc (zhour E (-1) (ztc u m (zsaid E u))) m c) := by
        intro c
        rw [fs c, pf c, zhour_tc (c := c) (c' := zsaid E u) h10 (by omega) hp (pf c) hv]
        rfl
      have so' : zsoon E m (k + 1) i u = zsoon E m k (i + 1) (zhour E (-1) (ztc u m (zsaid E u))) := by
        rw [so, hv]; rfl
      obtain ⟨nh, hnh, eh⟩ := zof_le h0 (by omega) hb
      have hh : (zhour E (-1) (ztc u m (zsaid E u))).hour = zJ (nh + 1) := by
        rw [zhour_hour]
        show u.hour + 1 = _
        rw [eh, zJ_succ]
      have ih := zsoon_ok hE hm k (i + 1) (b + 1) (zhour E (-1) (ztc u m (zsaid E u))) (by rw [hh]; exact zJ_yle (a := 0) (by omega) (by omega)) (by rw [hh]; exact zJ_yle (by omega) (by omega)) (by omega) (zhour_pb h10 hp) hv
      rw [so']
      rcases ih with ⟨a1, a2⟩ | ⟨h, d, a1, a2, a3, a4, a5, a6⟩
      · exact Or.inl ⟨a1, fun c => (fs' (zJ c)).trans (a2 c)⟩
      · refine Or.inr ⟨h, d, by omega, by omega, a3, a4, (fs' (zJ d)).trans a5, fun c hc hne => ?_⟩
        rcases a6 c hc hne with y | ⟨h', y1, y2, y3⟩
        · exact Or.inl ((fs' (zJ c)).trans y)
        · exact Or.inr ⟨h', y1, by omega, (fs' (zJ c)).trans y3⟩
    · have hne : ¬ zsaid E u = -1 := by
        intro q
        have := zhour_mute (E := E) (u := ztc u m (zsaid E u)) (wo := -1) q
        rw [this] at hv
        have hv : zis u.passed (zJ m) = true := hv
        rw [hz] at hv
        exact absurd hv (by decide)
      have hr := zsaid_r (E := E) h0 (fun z => hne ((zsaid_mut h0).2 z))
      obtain ⟨d, hd, ed⟩ := zof_le (k := 24) hr.1 (by omega) hr.2
      refine Or.inr ⟨i, d, by omega, by omega, by omega, ?_, ?_, fun c hc hcd => ?_⟩
      · rw [so, hv, ed]; rfl
      · rw [← ed, fs, hv]; rfl
      · have q : zJ c ≠ zsaid E u := by
          rw [ed]
          exact fun y => hcd ((zJ_inj (by omega) (by omega)).1 y)
        rw [fs, off _ q]
        rcases zfirst_lim (E := E) (wo := -1) (p := fun v => zis (zhour E (-1) v).passed (zJ m)) k 0 (i + 1) (zhour E (-1) (ztc u m (zJ c))) (by omega) with ⟨y, _⟩ | ⟨h', y1, y2, y3, _⟩
        · exact Or.inl y
        · exact Or.inr ⟨h', by omega, by omega, y3⟩
theorem zmvf_none {E : zE} {t : zT} {m : Nat} : ∀ (k c : Nat) (s : Int32 × Int32), (∀ c', c ≤ c' → c' < c + k → zmvv E t m c' 48 = -1) → zmvf E t m k c s = s
  | 0, _, _, _ => rfl
  | k + 1, c, s, H => by
    have e : zmvg E t m s c = s := by unfold zmvg; rw [if_pos (H c (by omega) (by omega))]
    show zmvf E t m k (c + 1) (zmvg E t m s c) = s
    rw [e]
    exact zmvf_none k (c + 1) s (fun c' h1 h2 => H c' (by omega) (by omega))
theorem zmvf_keep {E : zE} {t : zT} {m h : Nat} (hh : h < 2147483648) : ∀ (k c : Nat) (s : Int32 × Int32), s.2 = zJ h → (∀ c', c ≤ c' → c' < c + k → zmvv E t m c' 48 = -1 ∨ ∃ h', h < h' ∧ h' < 2147483648 ∧ zmvv E t m c' 48 = zJ h') → zmvf E t m k c s = s
  | 0, _, _, _, _ => rfl
  | k + 1, c, s, hs, H => by
    have e : zmvg E t m s c = s := by
      unfold zmvg
      rcases H c (by omega) (by omega) with z | ⟨h', a, b, z⟩
      · rw [if_pos z]
      · rw [if_neg (by rw [z]; exact zJ_nm1 b), if_neg (by rw [hs]; exact zJ_nm1 hh), if_neg (by rw [z, hs]; exact zJ_nlt (by omega) b)]
    show zmvf E t m k (c + 1) (zmvg E t m s c) = s
    rw [e]
    exact zmvf_keep hh k (c + 1) s hs (fun c' h1 h2 => H c' (by omega) (by omega))
theorem zmvf_find {E : zE} {t : zT} {m h d : Nat} (hh : h < 2147483648) (ed : zmvv E t m d 48 = zJ h) : ∀ (k c : Nat) (s : Int32 × Int32), c ≤ d → d < c + k → (s.2 = -1 ∨ ∃ h', h < h' ∧ h' < 2147483648 ∧ s.2 = zJ h') → (∀ c', c ≤ c' → c' < c + k → c' ≠ d → zmvv E t m c' 48 = -1 ∨ ∃ h', h < h' ∧ h' < 2147483648 ∧ zmvv E t m c' 48 = zJ h') → zmvf E t m k c s = (zJ d, zJ h)
  | 0, c, _, h1, h2, _, _ => by exfalso; omega
  | k + 1, c, s, h1, h2, hs, H => by
    show zmvf E t m k (c + 1) (zmvg E t m s c) = (zJ d, zJ h)
    by_cases q : c = d
    · have e : zmvg E t m s c = (zJ d, zJ h) := by
        unfold zmvg
        rw [q, ed, if_neg (zJ_nm1 hh)]
        rcases hs with z | ⟨h', a, b, z⟩
        · rw [if_pos z]
        · rw [if_neg (by rw [z]; exact zJ_nm1 b), if_pos (by rw [z]; exact zJ_ylt a b)]
      rw [e]
      exact zmvf_keep hh k (c + 1) _ rfl (fun c' a1 a2 => H c' (by omega) (by omega) (by omega))
    · refine zmvf_find hh ed k (c + 1) _ (by omega) (by omega) ?_ (fun c' a1 a2 a3 => H c' (by omega) (by omega) a3)
      unfold zmvg
      rcases H c (by omega) (by omega) q with z | ⟨h', a, b, z⟩
      · rw [if_pos z]; exact hs
      · rw [if_neg (by rw [z]; exact zJ_nm1 b)]
        by_cases y : s.2 = -1
        · rw [if_pos y]; exact Or.inr ⟨h', a, b, z⟩
        · rw [if_neg y]
          by_cases x : zmvv E t m c 48 < s.2
          · rw [if_pos x]; exact Or.inr ⟨h', a, b, z⟩
          · rw [if_neg x]; exact hs
theorem zsoon_mv {E : zE} (hE : zEok E) {m : Nat} (hm : m < E.nM) {t : zT} (ht : zTb E 9999 t) (hz : zis t.passed (zJ m) = false) : zmvf E t m 25 0 (-1, -1) = if (zsoon E m 48 1 t).1 = -1 then (-1, -1) else ((zsoon E m 48 1 t).2, (zsoon E m 48 1 t).1) := by
  have h10 := hE.m10
  have hp : zPb t.passed := by
    obtain ⟨n, hn, e⟩ := ht.ok.passed
    exact ⟨n, zpow hn h10, e⟩
  rcases zsoon_ok hE hm 48 1 9999 t ht.h0 ht.hb (by omega) hp hz with ⟨a1, a2⟩ | ⟨h, d, a1, a2, a3, a4, a5, a6⟩
  · have e : (zsoon E m 48 1 t).1 = -1 := by rw [a1]
    rw [if_pos e]
    exact zmvf_none 25 0 _ (fun c' _ _ => a2 c')
  · have e : ¬ (zsoon E m 48 1 t).1 = -1 := by rw [a4]; exact zJ_nm1 (by omega)
    rw [if_neg e, a4]
    show zmvf E t m 25 0 (-1, -1) = (zJ d, zJ h)
    refine zmvf_find (h := h) (d := d) (by omega) a5 25 0 _ (by omega) (by omega) (Or.inl rfl) (fun c' _ h2 hne => ?_)
    rcases a6 c' (by omega) hne with y | ⟨h', y1, y2, y3⟩
    · exact Or.inl y
    · exact Or.inr ⟨h', y1, by omega, y3⟩
section
variable {A2_acts A2_seen A_acts A_seen B2_aldermen B2_codeLength B2_motions B2_oil B2_treasury B2_weight B_aldermen B_codeLength B_motions B_oil B_treasury B_weight D_aldermen D_codeLength D_motions D_oil D_treasury D_weight F_seed K_acts K_seen M_acts M_actsThen M_at M_bad M_badPlace M_begins M_code M_faultPlace M_fitMany M_hasImage M_hoarse M_hour M_joy M_never M_number M_ofVoting M_oil M_passed M_said M_seedNow M_seen M_seenThen M_size M_spider M_stops M_taped M_token M_treasury M_values M_weight R_clockIsTold R_depth R_digits R_end R_fault R_notMayStand R_nots R_number R_partIsDue R_place R_start R_token R_waits T2_hour T2_joy T2_oil T2_passed T2_spider T2_treasury T2_weight T_hour T_joy T_oil T_passed T_spider T_treasury T_weight V_hour V_joy V_oil V_passed V_spider V_treasury V_weight X_hour X_joy X_oil X_passed X_spider X_treasury X_weight Y_hour Y_joy Y_oil Y_passed Y_spider Y_treasury Y_weight Z_faultPlace Z_hasImage Z_tapeLength : Int32} {A2_before A2_refused A2_seenHour A2_seenNumber A_before A_refused A_seenHour A_seenNumber B2_call B2_code B2_cost B2_deaf B2_follows B2_joy B2_kind B2_lean B2_ruleFrom B2_ruleTo B_call B_code B_cost B_deaf B_follows B_joy B_kind B_lean B_ruleFrom B_ruleTo C_stack C_values D_call D_code D_cost D_deaf D_follows D_joy D_kind D_lean D_ruleFrom D_ruleTo F_times K_before K_refused K_seenHour K_seenNumber M_asked M_behind M_call M_callTold M_cost M_deaf M_extras M_fits M_imageRow M_kind M_lean M_leanTold M_past M_pastThen M_pleases M_rowSeen M_rowThen M_saidOften M_saids M_seenIn M_seenInThen M_seenSaid M_seenSaidThen M_signsSays M_signsVotes M_stack M_status M_statusThen M_tape M_told R_tape R_waiting S_heard S_unlike T2_call T2_lean T_call T_lean U_prices V_call V_lean X_call X_lean Y_call Y_lean Z_tape : Nat → Int32}
variable {E : zE} {t : zT} {n : Nat} {wo : Int32}
theorem zl_called {ke : _} {Q : _} (hE : zEok E) (hcm : B_motions = zJ E.nM) (hcl : ∀ m, m < E.nM → T_call m = t.call m) (ht : zTok E t) : ∀ (k m fuel n : Nat), k + m = E.nM → k < fuel → n < 2 ^ m → (∀ i, i < m → n.testBit i = decide (0 < F_times (t.call i).toNatClampNeg)) → (∀ n', n' < 2 ^ E.nM → (∀ i, i < E.nM → n'.testBit i = decide (0 < F_times (t.call i).toNatClampNeg)) → zOk (ke (zJ n')) Q) → zOk (lX4_motionsCalled_9 ke F_times B_motions T_call fuel (zJ n) (zJ m)) Q := by
  have h10 := hE.m10
  intro k
  induction k with
  | zero =>
    intro m fuel n hk hf hn hb kk
    obtain ⟨fuel, rfl, hf⟩ := zfu hf
    unfold lX4_motionsCalled_9
    have : m = E.nM := by omega
    subst this
    exact zOk.pos (by rw [hcm]; exact zJ_yle (by omega) (by omega)) (kk n hn hb)
  | succ k ih =>
    intro m fuel n hk hf hn hb kk
    obtain ⟨fuel, rfl, hf⟩ := zfu hf
    unfold lX4_motionsCalled_9
    refine zOk.neg (by rw [hcm]; exact zJ_nle (by omega) (by omega)) ?_
    have hm := ht.call m (by omega)
    obtain ⟨v, hv, ev⟩ := zof_le (k := 24) hm.1 (by omega) hm.2
    rw [ck_t (zinb (by omega) (by omega)), zJ_ix (by omega), hcl m (by omega), ev]
    refine zOk.neg (zJ_nn (by omega)) (zOk.neg (zJ_nle (a := 25) (by omega) (by omega)) ?_)
    rw [ck_t (zinb (by omega) (by omega)), zJ_ix (by omega), zJ_succ]
    have h2 : 2 ^ (m + 1) = 2 ^ m + 2 ^ m := by rw [Nat.pow_succ]; omega
    have evx : (t.call m).toNatClampNeg = v := by rw [ev, zJ_ix (by omega)]
    refine zOk.ite (fun q => ?_) (fun q => ?_)
    · refine ih (m + 1) fuel n (by omega) (by omega) (by omega) (fun i hi => ?_) kk
      by_cases z : i = m
      · subst z
        rw [Nat.testBit_lt_two_pow hn, evx, decide_eq_false (Int32.not_lt.2 q)]
      · exact hb i (by omega)
    · rw [show zJ n ||| ((1 : Int32) <<< (zJ m &&& 31)) = zJ (n ||| 2 ^ m) from zor_nat (by omega)]
      refine ih (m + 1) fuel (n ||| 2 ^ m) (by omega) (by omega) (zor_lt (k := m + 1) (by omega) (by omega)) (fun i hi => ?_) kk
      rw [Nat.testBit_or, Nat.testBit_two_pow]
      by_cases z : i = m
      · subst z
        rw [decide_eq_true rfl, Bool.or_true, evx, decide_eq_true (Int32.not_le.1 q)]
      · rw [decide_eq_false (fun y => z y.symm), Bool.or_false, hb i (by omega)]
theorem zl_soonest {ka kb : _} {Q : _} (hE : zEok E) (hc : zCls E B_aldermen B_motions B_deaf B_kind B_cost B_joy B_follows B_code B_ruleFrom B_ruleTo) (hn : n < 2147483647) {m : Nat} (hm : m < E.nM) : ∀ (k i fuel b : Nat) (C_values C_stack X_call : Nat → Int32) (u : zT), k + i = n + 1 → k < fuel → 0 ≤ u.hour → u.hour ≤ zJ b → b + k < 1000000 → (0 ≤ u.oil ∧ u.oil ≤ 99) → (∀ a, a < E.nA → X_lean a = u.lean a) → (∀ j, j < E.nM → j ≠ m → X_call j = u.call j) → (∀ (C_values C_stack C : Nat → Int32) (w : zT), C m = (zsoon E m k i u).2 → zOk (ka C_values C_stack w.hour w.oil w.weight w.spider w.treas w.joy w.passed C (zsoon E m k i u).1) Q) → ((zsoon E m k i u).1 = -1 → ∀ (C_values C_stack C : Nat → Int32) (w : zT), zOk (kb C_values C_stack w.hour w.oil w.weight w.spider w.treas w.joy w.passed C) Q) → zOk (lX4_soonestPassing_13 ka kb B_aldermen B_motions B_deaf B_kind B_cost B_joy B_follows B_code B_ruleFrom B_ruleTo X_lean (zJ m) (zJ n) fuel C_values C_stack u.hour u.oil u.weight u.spider u.treas u.joy u.passed X_call (zJ i)) Q := by
  have h10 := hE.m10
  intro k
  induction k with
  | zero =>
    intro i fuel b C_values C_stack X_call u hk hf h0 hb h6 ho hl hcl k1 k2
    obtain ⟨fuel, rfl, hf⟩ := zfu hf
    unfold lX4_soonestPassing_13
    exact zOk.pos (zJ_ylt (by omega) (by omega)) (k2 rfl _ _ _ u)
  | succ k ih =>
    intro i fuel b C_values C_stack X_call u hk hf h0 hb h6 ho hl hcl k1 k2
    obtain ⟨fuel, rfl, hf⟩ := zfu hf
    unfold lX4_soonestPassing_13
    refine zOk.neg (zJ_nlt (by omega) (by omega)) ?_
    refine zOk.bind (zc_nsaid hE hc h0) (fun o hs => ?_)
    obtain ⟨s, V1, S1⟩ := o
    have hs : s = zsaid E u := hs
    subst hs
    dsimp only
    rw [ck_t (zinb (by omega) (by omega)), zJ_ix (by omega)]
    have hcl' : ∀ j, j < E.nM → upd X_call m (zsaid E u) j = (ztc u m (zsaid E u)).call j := by
      intro j hj
      show upd X_call m (zsaid E u) j = upd u.call m (zsaid E u) j
      by_cases z : j = m
      · subst z; rw [zupd_eq, zupd_eq]
      · rw [zupd_ne z, zupd_ne z, hcl j hj z]
    have H := zc_hour (t := ztc u m (zsaid E u)) (V := V1) (S := S1) (wo := -1) hE hc h0 ho hl hcl'
    refine zOk.bind H (fun o ho' => ?_)
    obtain ⟨said, V, S, r⟩ := o
    obtain ⟨-, h2⟩ := ho'
    have h2 : r = _ := h2
    subst h2
    dsimp only
    refine zOk.eq zisP ?_
    have e : zsoon E m (k + 1) i u = if zis (zhour E (-1) (ztc u m (zsaid E u))).passed (zJ m) then (zJ i, zsaid E u) else zsoon E m k (i + 1) (zhour E (-1) (ztc u m (zsaid E u))) := rfl
    rw [e] at k1 k2
    rw [zJ_succ]
    cases hz : zis (zhour E (-1) (ztc u m (zsaid E u))).passed (zJ m)
    · rw [hz] at k1 k2
      refine zOk.pos rfl ?_
      obtain ⟨nh, hnh, eh⟩ := zof_le h0 (by omega) hb
      have hh : (zhour E (-1) (ztc u m (zsaid E u))).hour = zJ (nh + 1) := by
        rw [zhour_hour]
        show u.hour + 1 = _
        rw [eh, zJ_succ]
      have hd : (zdrop E u).oil = if zsaid E u = -1 then u.oil else if u.oil = 0 then u.oil else u.oil - 1 := by unfold zdrop; split <;> rfl
      have hol : 0 ≤ (zhour E (-1) (ztc u m (zsaid E u))).oil ∧ (zhour E (-1) (ztc u m (zsaid E u))).oil ≤ 99 := by
        rw [zhour_oil, zdrop_tc]
        show 0 ≤ (zdrop E u).oil ∧ (zdrop E u).oil ≤ 99
        rw [hd]
        by_cases q : zsaid E u = -1
        · rw [if_pos q]; exact ho
        · rw [if_neg q]; grind
      exact ih (i + 1) fuel (b + 1) V S _ (zhour E (-1) (ztc u m (zsaid E u))) (by omega) (by omega) (by rw [hh]; exact zJ_yle (a := 0) (by omega) (by omega)) (by rw [hh]; exact zJ_yle (by omega) (by omega)) (by omega) hol (by rw [zhour_lean]; exact hl) (fun j hj hne => by rw [zhour_call]; exact hcl' j hj) k1 k2
    · rw [hz] at k1
      exact zOk.neg (by decide) (k1 _ _ (upd X_call m (zsaid E u)) (zhour E (-1) (ztc u m (zsaid E u))) zupd_eq)
theorem zc_soonest (hE : zEok E) (hc : zCls E B_aldermen B_motions B_deaf B_kind B_cost B_joy B_follows B_code B_ruleFrom B_ruleTo) {b m : Nat} (hm : m < E.nM) (ht : zTb E b t) (hb : b + n < 1000000) (hn : n ≤ 4000) (hl : ∀ a, a < E.nA → T_lean a = t.lean a) (hcl : ∀ m, m < E.nM → T_call m = t.call m) : zOk (fX4_soonestPassing C_values C_stack B_aldermen B_motions B_deaf B_kind B_cost B_joy B_follows B_code B_ruleFrom B_ruleTo t.hour t.oil t.weight t.spider t.treas t.joy t.passed T_lean T_call X_hour X_oil X_weight X_spider X_treasury X_joy X_passed X_lean X_call (zJ m) (zJ n)) (fun o => o.1 = (zsoon E m n 1 t).1 ∧ (¬ (zsoon E m n 1 t).1 = -1 → o.2.2.2.2.2.2.2.2.2.2.2 m = (zsoon E m n 1 t).2)) := by
  have h7 := hE.a7
  have h10 := hE.m10
  unfold fX4_soonestPassing
  refine zOk.eq zcopy ?_
  exact zl_soonest (E := E) (n := n) hE hc (by omega) hm n 1 FU b _ _ _ t (by omega) (by unfold FU; omega) ht.h0 ht.hb hb ht.ok.oil (fun a ha => (zcpyl (by omega)).trans (hl a ha)) (fun j hj _ => (zcpyc (by omega)).trans (hcl j hj)) (fun V S C w h => zOk.pure ⟨rfl, fun _ => h⟩) (fun e V S C w => zOk.pure ⟨e.symm, fun h => absurd e h⟩)
theorem zr_moving {ke : _} {Q : _} (hE : zEok E) (hr : zRef E M_told M_deaf M_kind M_cost M_pleases M_behind M_signsSays M_signsVotes) (ht : zTb E 9999 t) (hl : ∀ a, a < E.nA → M_lean a = t.lean a) (hcl : ∀ m, m < E.nM → M_call m = t.call m) {m : Nat} (hm : m < E.nM) (hz : zis t.passed (zJ m) = false) : ∀ (k c fuel : Nat) (M_said M_hoarse : Int32) (Lx Cx M_asked M_stack M_rowThen : Nat → Int32) (s : Int32 × Int32), k + c = 25 → k < fuel → (∀ a, a < 7 → Lx a = M_lean a) → (∀ j, j < 10 → j ≠ m → Cx j = M_call j) → (∀ (sd ho : Int32) (L C V S R : Nat → Int32), (∀ a, a < 7 → L a = M_lean a) → (∀ j, j < 10 → j ≠ m → C j = M_call j) → zOk (ke t.hour t.oil t.weight t.spider t.treas t.joy t.passed sd ho L C V S R (zmvf E t m k c s).1 (zmvf E t m k c s).2) Q) → zOk (lX9_moving_57 ke (-1) M_told M_deaf M_kind M_cost M_pleases M_behind M_signsSays M_signsVotes (zJ m) fuel t.hour t.oil t.weight t.spider t.treas t.joy t.passed M_said M_hoarse Lx Cx M_asked M_stack M_rowThen s.1 s.2 (zJ c)) Q := by
  have h7 := hE.a7
  have h10 := hE.m10
  intro k
  induction k with
  | zero =>
    intro c fuel M_said M_hoarse Lx Cx M_asked M_stack M_rowThen s hk hf hL hC kk
    obtain ⟨fuel, rfl, hf⟩ := zfu hf
    unfold lX9_moving_57
    exact zOk.pos (zJ_ylt (a := 24) (by omega) (by omega)) (kk _ _ _ _ _ _ _ hL hC)
  | succ k ih =>
    intro c fuel M_said M_hoarse Lx Cx M_asked M_stack M_rowThen s hk hf hL hC kk
    obtain ⟨fuel, rfl, hf⟩ := zfu hf
    unfold lX9_moving_57
    refine zOk.neg (zJ_nlt (a := 24) (by omega) (by omega)) ?_
    have hc24 : 0 ≤ zJ c ∧ zJ c ≤ 24 := ⟨zJ_yle (a := 0) (by omega) (by omega), zJ_yle (b := 24) (by omega) (by omega)⟩
    have step : zmvf E t m (k + 1) c s = zmvf E t m k (c + 1) (zmvg E t m s c) := rfl
    rw [step] at kk
    rw [ck_t (zinb (by omega) (by omega)), zJ_ix (by omega), zJ_succ]
    refine zOk.bind (zm_passedIn (t := ztc t m (zJ c)) (n := 48) hE hr (by omega) (ztc_ok ht hc24) (by omega) (fun a ha => (hL a (by omega)).trans (hl a ha)) (fun j hj => ?_)) (fun o ho => ?_)
    · show upd Cx m (zJ c) j = upd t.call m (zJ c) j
      by_cases z : j = m
      · subst z; rw [zupd_eq, zupd_eq]
      · rw [zupd_ne z, zupd_ne z, hC j (by omega) z, hcl j hj]
    · obtain ⟨sd, ho, L', C', V, S, P, rfl, hL', hC'⟩ := ho
      have ev : zfirst E (-1) (fun v => zis v.passed (zJ m)) (48 + 1) 0 (ztc t m (zJ c)) = zmvv E t m c 48 := zfirst_when (t := ztc t m (zJ c)) hz
      have go : ∀ (s' : Int32 × Int32), s' = zmvg E t m s c → zOk (lX9_moving_57 ke (-1) M_told M_deaf M_kind M_cost M_pleases M_behind M_signsSays M_signsVotes (zJ m) fuel t.hour t.oil t.weight t.spider t.treas t.joy t.passed sd ho L' C' V S P s'.1 s'.2 (zJ (c + 1))) Q := by
        intro s' e
        exact ih (c + 1) fuel sd ho L' C' V S P s' (by omega) (by omega) (fun a ha => (hL' a ha).trans (hL a ha)) (fun j hj hne => by rw [hC' j hj, zupd_ne hne]; exact hC j hj hne) (by rw [e]; exact kk)
      dsimp only
      rw [ev]
      unfold zmvg at go
      refine zOk.ite (fun q => ?_) (fun q => ?_)
      · exact go s (by rw [if_pos q])
      · refine zOk.ite (fun q2 => ?_) (fun q2 => ?_)
        · exact go (zJ c, zmvv E t m c 48) (by rw [if_neg q, if_pos q2])
        · refine zOk.ite (fun q3 => ?_) (fun q3 => ?_)
          · exact go (zJ c, zmvv E t m c 48) (by rw [if_neg q, if_neg q2, if_pos q3])
          · exact go s (by rw [if_neg q, if_neg q2, if_neg q3])
end
section
variable {L : Nat} {xs : Nat → Int32} {sc : Nat → Int32} {ar : Nat → Nat → Int32} {O : Nat → Int64} {x4 : Int32}
theorem zst0 (h : zInv sc ar) (hx : inb (x4 + 1) L = true ∧ inb (x4 + 2) L = true ∧ inb (x4 + 3) L = true ∧ inb (x4 + 4) L = true ∧ inb (x4 + 5) L = true) : zOk (st0 L xs sc ar O x4) (fun o => zInv o.1 o.2.1) := by
  obtain ⟨E, t, hI⟩ := h
  have hJ := hI
  obtain ⟨hE, hc, hr, ht, ⟨c1, c2, c3, c4, c5, c6, c7, c8, c9⟩, ⟨m1, m2, m3, m4, m5, m6, m7, m8, m9⟩, hnv, hh, hse, hst, htp, hfp, him, hik⟩ := hI
  have h7 := hE.a7
  have h10 := hE.m10
  unfold st0
  try simp only [ck_t hx.1, ck_t hx.2.1, ck_t hx.2.2.1, ck_t hx.2.2.2.1, ck_t hx.2.2.2.2, c1, c2, c3, c4, c5, c6, c7, m1, m2, m3, m4, m5, m6, m7, hnv]
  generalize xs (x4 + 1).toNatClampNeg = a
  generalize xs (x4 + 2).toNatClampNeg = b
  generalize xs (x4 + 3).toNatClampNeg = c
  generalize xs (x4 + 4).toNatClampNeg = d
  generalize xs (x4 + 5).toNatClampNeg = e
  obtain ⟨k, hk, ek, ek', hby⟩ := id htp
  rw [ek, ek']
  by_cases q : k ≤ 680
  · obtain ⟨T1, f1, g1, l1⟩ := zput (p := a) (k := k) (T := ar 0) (by omega)
    obtain ⟨T2, f2, g2, l2⟩ := zput (p := b) (k := k + 4) (T := T1) (by omega)
    obtain ⟨T3, f3, g3, l3⟩ := zput (p := c) (k := k + 4 + 4) (T := T2) (by omega)
    obtain ⟨T4, f4, g4, l4⟩ := zput (p := d) (k := k + 4 + 4 + 4) (T := T3) (by omega)
    obtain ⟨T5, f5, g5, l5⟩ := zput (p := e) (k := k + 4 + 4 + 4 + 4) (T := T4) (by omega)
    have e1 : fX8_feed (zJ k) (ar 0) a b c d e = some (zJ (k + 20), zJ (k + 20), T5) := by
      unfold fX8_feed
      exact (if_pos (show zJ k ≤ 680 from zJ_yle (b := 680) q (by omega))).trans (zBind f1 (zBind f2 (zBind f3 (zBind f4 (zBind f5 rfl)))))
    have e2 : zOk (fX9_feed (sc 4) (zJ k) (ar 12) a b c d e) (fun o => ∃ T', o = (zJ (k + 20), 0, zJ (k + 20), T') ∧ (∀ j, j < 20 → T' (k + j) = zrb (zV a b c d e 0 (j / 4)) (j % 4)) ∧ ∀ j, j < k → T' j = ar 12 j) := by
      unfold fX9_feed
      refine zOk.pos (by rw [show (20 : Int32) = zJ 20 from rfl, zJ_add]; exact zJ_yle (b := 700) (by omega) (by omega)) ?_
      exact zr_feed (k := k) (by omega) 20 0 FU _ (by omega) (by unfold FU; omega) (fun T' h1 h2 => zOk.pure ⟨T', rfl, fun j hj => h1 j (by omega) hj, fun j hj => h2 j (by omega)⟩)
    refine zOk.eq e1 (zOk.bind e2 (fun o ho => ?_))
    obtain ⟨T', rfl, h1, h2⟩ := ho
    refine zOk.pos rfl (zOk.pure ?_)
    refine zInv_mk (E := E) (t := t) hE hc hr ht ⟨c1, c2, c3, c4, c5, c6, c7, c8, c9⟩ ⟨m1, m2, m3, m4, m5, m6, m7, m8, m9⟩ hnv hh hse hst ⟨k + 20, by omega, rfl, rfl, fun i hi => ?_⟩ hfp him hik
    show zByte (T5 i) (T' i)
    by_cases z : i < k
    · rw [h2 i z, l5 i (by omega), l4 i (by omega), l3 i (by omega), l2 i (by omega), l1 i z]
      exact hby i z
    · obtain ⟨j, rfl⟩ : ∃ j, i = k + j := ⟨i - k, by omega⟩
      rw [h1 j (by omega)]
      have key : ∀ (r u : Nat) (w : Int32), j = 4 * r + u → u < 4 → zV a b c d e 0 r = w → T5 (k + j) = zcb w u → zByte (T5 (k + j)) (zrb (zV a b c d e 0 (j / 4)) (j % 4)) := by
        intro r u w hj hu hw hT
        rw [hT, show j / 4 = r by omega, show j % 4 = u by omega, hw]
        exact zbyte_of _
      rcases (show j < 4 ∨ (4 ≤ j ∧ j < 8) ∨ (8 ≤ j ∧ j < 12) ∨ (12 ≤ j ∧ j < 16) ∨ 16 ≤ j by omega) with y | y | y | y | y
      · exact key 0 j a (by omega) y rfl (by rw [l5 _ (by omega), l4 _ (by omega), l3 _ (by omega), l2 _ (by omega), g1 j y])
      · exact key 1 (j - 4) b (by omega) (by omega) rfl (by rw [l5 _ (by omega), l4 _ (by omega), l3 _ (by omega), show k + j = k + 4 + (j - 4) by omega, g2 _ (by omega)])
      · exact key 2 (j - 8) c (by omega) (by omega) rfl (by rw [l5 _ (by omega), l4 _ (by omega), show k + j = k + 4 + 4 + (j - 8) by omega, g3 _ (by omega)])
      · exact key 3 (j - 12) d (by omega) (by omega) rfl (by rw [l5 _ (by omega), show k + j = k + 4 + 4 + 4 + (j - 12) by omega, g4 _ (by omega)])
      · exact key 4 (j - 16) e (by omega) (by omega) rfl (by rw [show k + j = k + 4 + 4 + 4 + 4 + (j - 16) by omega, g5 _ (by omega)])
  · have e1 : fX8_feed (zJ k) (ar 0) a b c d e = some (-1, zJ k, ar 0) := by
      unfold fX8_feed
      rw [if_neg (show ¬ zJ k ≤ 680 from zJ_nle (b := 680) (by omega) (by omega))]
    have e2 : fX9_feed (sc 4) (zJ k) (ar 12) a b c d e = some (-1, 0, zJ k, ar 12) := by
      unfold fX9_feed
      rw [if_neg (show ¬ zJ k + (20 : Int32) ≤ 700 by rw [show (20 : Int32) = zJ 20 from rfl, zJ_add]; exact zJ_nle (b := 700) (by omega) (by omega))]
    refine zOk.eq e1 (zOk.eq e2 (zOk.pos rfl (zOk.pure ?_)))
    exact zInv_mk (E := E) (t := t) hE hc hr ht ⟨c1, c2, c3, c4, c5, c6, c7, c8, c9⟩ ⟨m1, m2, m3, m4, m5, m6, m7, m8, m9⟩ hnv hh hse hst ⟨k, hk, rfl, rfl, hby⟩ hfp him hik
theorem zst31 (h : zInv sc ar) (hx : inb (x4 + 1) L = true ∧ inb (x4 + 2) L = true ∧ inb (x4 + 3) L = true ∧ inb (x4 + 4) L = true ∧ inb (x4 + 5) L = true) : zOk (st31 L xs sc ar O x4) (fun o => zInv o.1 o.2.1) := by
  obtain ⟨E, t, hI⟩ := h
  have hJ := hI
  obtain ⟨hE, hc, hr, ht, ⟨c1, c2, c3, c4, c5, c6, c7, c8, c9⟩, ⟨m1, m2, m3, m4, m5, m6, m7, m8, m9⟩, hnv, hh, hse, hst, htp, hfp, him, hik⟩ := hI
  have h7 := hE.a7
  have h10 := hE.m10
  unfold st31
  try simp only [ck_t hx.1, ck_t hx.2.1, ck_t hx.2.2.1, ck_t hx.2.2.2.1, ck_t hx.2.2.2.2, c1, c2, c3, c4, c5, c6, c7, m1, m2, m3, m4, m5, m6, m7, hnv]
  obtain ⟨pn, hpn, ep⟩ := ht.ok.passed
  have hpn' := zpow hpn h10
  have h2p := Nat.two_pow_pos E.nM
  have h2 : 2 ^ E.nM ≤ 1024 := Nat.pow_le_pow_right (n := 2) (by omega) h10
  have es0 : ((((1 : Int32) <<< (zJ E.nM &&& 31)) - (1 : Int32)) &&& (t.passed ^^^ (-1 : Int32))) = zJ (zdiff (2 ^ E.nM - 1) pn) := by
    rw [zones' h10, ep, show zJ (2 ^ E.nM) - (1 : Int32) = zJ (2 ^ E.nM - 1) from zJ_sub (b := 1) (by omega), zandnot (by omega)]
  have hs0 : zdiff (2 ^ E.nM - 1) pn < 1024 := zdiff_lt (by omega)
  obtain ⟨n1, a1, a2, a3⟩ := zidle_bits (E := E) h10 (call := ar 14) 96 0 t (zdiff (2 ^ E.nM - 1) pn) hs0
  have hc8 : zOk (fX8_idle (ar 32) (ar 44) (ar 45) (sc 55) (ar 53) (ar 54) (ar 55) t.hour t.oil t.weight t.spider t.treas t.joy t.passed (ar 66) (ar 67) (sc 70) (sc 71) (sc 72) (sc 73) (sc 74) (sc 75) (sc 76) (ar 68) (ar 69)) (fun v => v.1 = zJ n1) := by
    unfold fX8_idle
    have eu : fX3_unpassedMotions (sc 55) t.passed = some (zJ (zdiff (2 ^ E.nM - 1) pn)) := by
      unfold fX3_unpassedMotions
      rw [hc.m, es0]
    refine zOk.eq eu ?_
    have cm : zOk (fX4_motionsCalled (ar 32) (ar 44) (ar 45) (sc 55) (ar 53) (ar 54) (ar 55) t.hour t.oil t.weight t.spider t.treas t.joy t.passed (ar 66) (ar 67) (sc 70) (sc 71) (sc 72) (sc 73) (sc 74) (sc 75) (sc 76) (ar 68) (ar 69) 96) (fun v => ∃ n', n' < 2 ^ E.nM ∧ v.1 = zJ n' ∧ ∀ i, i < E.nM → n'.testBit i = zsin E 96 t (t.call i)) := by
      unfold fX4_motionsCalled
      refine zOk.bind (zc_count (n := 96) hE hc ht (by omega) (by omega) (zfill (by omega))) (fun o ho => ?_)
      obtain ⟨G, hG, eG⟩ := ho
      rw [eG]
      refine zl_called hE hc.m c9 ht.ok E.nM 0 FU 0 (by omega) (by unfold FU; omega) (by omega) (fun i hi => by omega) (fun n' hn' hb => ⟨_, rfl, n', hn', rfl, fun i hi => ?_⟩)
      rw [hb i hi]
      have hcl := ht.ok.call i hi
      obtain ⟨v, hv, ev⟩ := zof_le (k := 24) hcl.1 (by omega) hcl.2
      rw [ev, zJ_ix (by omega)]
      obtain ⟨c', b1, b2, b3, b4⟩ := ztimes_sin hE (v := v) (by omega) 96 0 9999 t G 0 ht (by omega) (hG v (by omega)) (by omega)
      rw [b3]
      cases hz : zsin E 96 t (zJ v)
      · rw [b4.2 hz]; rfl
      · rw [decide_eq_true]
        have : c' ≠ 0 := fun y => by have := b4.1 y; rw [hz] at this; exact absurd this (by decide)
        exact zJ_ylt (a := 0) (by omega) (by omega)
    refine zOk.bind cm (fun o ho => ?_)
    obtain ⟨n', hn', en', hb⟩ := ho
    refine ⟨_, rfl, ?_⟩
    show zJ (zdiff (2 ^ E.nM - 1) pn) &&& (o.1 ^^^ (-1 : Int32)) = zJ n1
    rw [en', zandnot hs0]
    congr 1
    apply zext (n := 10) (zdiff_lt hs0) a1
    intro i hi
    rw [zdiff_bit hi, a3 i hi]
    by_cases z : i < E.nM
    · rw [hb i z, m9 i z, decide_eq_true z, Bool.true_and]
    · have : (zdiff (2 ^ E.nM - 1) pn).testBit i = false := by
        rw [zdiff_bit hi, Nat.testBit_two_pow_sub_one, decide_eq_false z, Bool.false_and]
      rw [this]; rfl
  have hc9 : zOk (fX9_idle (sc 4) t.hour t.oil t.weight t.spider t.treas t.joy t.passed (-1) (sc 26) (sc 27) (ar 1) (ar 3) (ar 4) (ar 6) (ar 7) (ar 8) (ar 9) (ar 10) (ar 13) (ar 14) (ar 16) (ar 17) (ar 18)) (zQ16 t (ar 13) (ar 14) (zJ n1) 0) := by
    unfold fX9_idle
    rw [ck_t (by decide), show (4 : Int32).toNatClampNeg = 4 from rfl, hr.m, es0]
    refine zOk.bind (zm_pack (n0 := 24) (p := 0) (by omega) (by omega)) (fun P hP => ?_)
    refine zr_idle hE hr 96 0 FU 9999 _ _ t _ _ _ (by omega) (by unfold FU; omega) ht (by omega) m8 m9 (fun V S sd ho w => ?_)
    refine zOk.bind (zm_unpack (n0 := 24) (p := 0) (by omega) (by omega) hP.1) (fun r hr => ?_)
    obtain ⟨L, C, rfl, hL, hC⟩ := hr
    rw [a2]
    exact zOk.pure ⟨_, _, L, C, V, S, P, rfl, hL, hC⟩
  obtain ⟨v, ev, hv⟩ := hc8
  obtain ⟨w, ew, sd, ho, L', C', V, S, P, rfl, hL, hC⟩ := hc9
  refine zOk.eq ev (zOk.eq ew (zOk.pos hv (zOk.pure ?_)))
  exact zInv_q hJ (by repeat' (first | exact zSr0 | refine zSn rfl ?_ | refine zSs (by assumption) ?_)) (by repeat' (first | exact zAr0 | refine zAn rfl rfl rfl ?_ | refine zAn13 hL ?_ | refine zAn14 hC ?_ | refine zAs rfl ?_))
theorem zst19 (h : zInv sc ar) (hx : inb (x4 + 1) L = true ∧ inb (x4 + 2) L = true ∧ inb (x4 + 3) L = true ∧ inb (x4 + 4) L = true ∧ inb (x4 + 5) L = true) : zOk (st19 L xs sc ar O x4) (fun o => zInv o.1 o.2.1) := by
  obtain ⟨E, t, hI⟩ := h
  have hJ := hI
  obtain ⟨hE, hc, hr, ht, ⟨c1, c2, c3, c4, c5, c6, c7, c8, c9⟩, ⟨m1, m2, m3, m4, m5, m6, m7, m8, m9⟩, hnv, hh, hse, hst, htp, hfp, him, hik⟩ := hI
  have h7 := hE.a7
  have h10 := hE.m10
  unfold st19
  try simp only [ck_t hx.1, ck_t hx.2.1, ck_t hx.2.2.1, ck_t hx.2.2.2.1, ck_t hx.2.2.2.2, c1, c2, c3, c4, c5, c6, c7, m1, m2, m3, m4, m5, m6, m7, hnv]
  generalize xs (x4 + 1).toNatClampNeg = p
  generalize xs (x4 + 2).toNatClampNeg = p'
  suffices key : ∃ (R : Sum Nat Int32) (a c : Int32), zOk (fX8_moving (ar 44) (ar 45) (sc 54) (sc 55) (ar 47) (ar 48) (ar 50) (ar 51) (ar 52) (ar 53) (ar 54) (ar 55) t.hour t.oil t.weight t.spider t.treas t.joy t.passed (ar 66) (ar 67) (sc 70) (sc 71) (sc 72) (sc 73) (sc 74) (sc 75) (sc 76) (ar 68) (ar 69) p p') (fun v => v.1 = R) ∧ zOk (fX9_moving (sc 4) t.hour t.oil t.weight t.spider t.treas t.joy t.passed (-1) (sc 26) (sc 27) (ar 1) (ar 3) (ar 4) (ar 6) (ar 7) (ar 8) (ar 9) (ar 10) (ar 13) (ar 14) (ar 16) (ar 17) (ar 18) p p') (zQ16 t (ar 13) (ar 14) a c) ∧ ((R = Sum.inr a ∧ c = 0) ∨ (R = Sum.inl 1 ∧ c = 1)) by
    obtain ⟨R, a, c, ⟨v, ev, hv⟩, ⟨w, ew, sd, ho, L', C', V, S, P, rfl, hL, hC⟩, hR⟩ := key
    rcases hR with ⟨rfl, rfl⟩ | ⟨rfl, rfl⟩
    · obtain ⟨o, eo, h1, h2⟩ : ∃ o, (fL_moving O (ar 44) (ar 45) (sc 54) (sc 55) (ar 47) (ar 48) (ar 50) (ar 51) (ar 52) (ar 53) (ar 54) (ar 55) t.hour t.oil t.weight t.spider t.treas t.joy t.passed (ar 66) (ar 67) (sc 70) (sc 71) (sc 72) (sc 73) (sc 74) (sc 75) (sc 76) (ar 68) (ar 69) p p') = some o ∧ o.1 = 0 ∧ o.2.1 = vp_updL O 0 a.toInt64 := by
        unfold fL_moving; rw [ev]; show ∃ o, Sum.elim _ _ v.1 = some o ∧ _; rw [hv]; exact ⟨_, rfl, rfl, rfl⟩
      refine zOk.eq eo (zOk.eq ew (zOk.eq rfl (zOk.pos h1.symm (zOk.pos h1 (zOk.pos (by rw [h2]; exact zlgO) (zOk.pure ?_))))))
      exact zInv_q hJ (by repeat' (first | exact zSr0 | refine zSn rfl ?_ | refine zSs (by assumption) ?_)) (by repeat' (first | exact zAr0 | refine zAn rfl rfl rfl ?_ | refine zAn13 hL ?_ | refine zAn14 hC ?_ | refine zAs rfl ?_))
    · obtain ⟨o, eo, h1, h2⟩ : ∃ o, (fL_moving O (ar 44) (ar 45) (sc 54) (sc 55) (ar 47) (ar 48) (ar 50) (ar 51) (ar 52) (ar 53) (ar 54) (ar 55) t.hour t.oil t.weight t.spider t.treas t.joy t.passed (ar 66) (ar 67) (sc 70) (sc 71) (sc 72) (sc 73) (sc 74) (sc 75) (sc 76) (ar 68) (ar 69) p p') = some o ∧ o.1 = 1 ∧ o.2.1 = O := by
        unfold fL_moving; rw [ev]; show ∃ o, Sum.elim _ _ v.1 = some o ∧ _; rw [hv]; exact ⟨_, rfl, rfl, rfl⟩
      refine zOk.eq eo (zOk.eq ew (zOk.eq rfl (zOk.pos h1.symm (zOk.neg (by rw [h1]; decide) (zOk.pure ?_)))))
      exact zInv_q hJ (by repeat' (first | exact zSr0 | refine zSn rfl ?_ | refine zSs (by assumption) ?_)) (by repeat' (first | exact zAr0 | refine zAn rfl rfl rfl ?_ | refine zAn13 hL ?_ | refine zAn14 hC ?_ | refine zAs rfl ?_))
  by_cases q : ∃ m, m < E.nM ∧ p = zJ m
  rotate_left
  · have e := zmo_no hE hc.m hr q
    refine ⟨Sum.inl 1, 0, 1, ?_, ?_, Or.inr ⟨rfl, rfl⟩⟩
    · unfold fX8_moving; exact zOk.eq e.1 ⟨_, rfl, rfl⟩
    · unfold fX9_moving; exact zOk.eq e.2 (zOk.pos rfl ⟨_, rfl, _, _, _, _, _, _, _, rfl, fun _ _ => rfl, fun _ _ => rfl⟩)
  · obtain ⟨m, hm, rfl⟩ := q
    have e := zmo_yes hE hc.m hr hm
    by_cases qw : p' < 0 ∨ 1 < p'
    · refine ⟨Sum.inl 1, 0, 1, ?_, ?_, Or.inr ⟨rfl, rfl⟩⟩
      · unfold fX8_moving; exact zOk.eq e.1 (zOk.inr (zOk.eq (zw_no qw) ⟨_, rfl, rfl⟩))
      · unfold fX9_moving; refine zOk.eq e.2 (zOk.neg (by decide) ?_)
        refine zOk.ite (fun _ => ⟨_, rfl, _, _, _, _, _, _, _, rfl, fun _ _ => rfl, fun _ _ => rfl⟩) (fun z => zOk.neg (by grind) ⟨_, rfl, _, _, _, _, _, _, _, rfl, fun _ _ => rfl, fun _ _ => rfl⟩)
    · have w0 : ¬ p' < 0 := fun z => qw (Or.inl z)
      have w1 : p' ≤ 1 := Int32.not_lt.1 (fun z => qw (Or.inr z))
      cases hz : zis t.passed (zJ m)
      rotate_left
      · refine ⟨Sum.inr _, -1, 0, ?_, ?_, Or.inl ⟨rfl, rfl⟩⟩
        · unfold fX8_moving; refine zOk.eq e.1 (zOk.inr (zOk.eq (zw_yes qw) (zOk.inr (zOk.eq zisP ?_))))
          rw [hz]; exact zOk.neg (by decide) ⟨_, rfl, rfl⟩
        · unfold fX9_moving; refine zOk.eq e.2 (zOk.neg (by decide) (zOk.neg w0 (zOk.pos w1 (zOk.eq zisM ?_))))
          rw [hz]; exact zOk.neg (by decide) ⟨_, rfl, _, _, _, _, _, _, _, rfl, fun _ _ => rfl, fun _ _ => rfl⟩
      · refine ⟨Sum.inr _, if p' = 0 then (zmvf E t m 25 0 (-1, -1)).1 else (zmvf E t m 25 0 (-1, -1)).2, 0, ?_, ?_, Or.inl ⟨rfl, rfl⟩⟩
        · unfold fX8_moving; refine zOk.eq e.1 (zOk.inr (zOk.eq (zw_yes qw) (zOk.inr (zOk.eq zisP ?_))))
          rw [hz]
          refine zOk.pos rfl ?_
          rw [zsoon_mv hE hm ht hz]
          have i10 : inb (zJ m) 10 = true := zinb (by omega) (by omega)
          refine zOk.bind (zc_soonest (n := 48) hE hc hm ht (by omega) (by omega) c8 c9) (fun o ho => ?_)
          obtain ⟨h1, h2⟩ := ho
          generalize zsoon E m 48 1 t = r at *
          rcases zwhat w0 (Int32.not_lt.2 w1) with z | z
          · refine zOk.neg (by rw [z]; decide) ?_
            rw [if_pos z]
            refine zOk.ite (fun y => ⟨_, rfl, ?_⟩) (fun y => ?_)
            · have y' := h1.symm.trans y
              rw [if_pos y']
              exact congrArg Sum.inr y
            · have y' : ¬ r.1 = -1 := fun z => y (h1.trans z)
              rw [if_neg y']
              refine zOk.eq rfl ?_
              rw [ck_t i10, zJ_ix (by omega)]
              exact ⟨_, rfl, congrArg Sum.inr (h2 y')⟩
          · refine zOk.pos z ⟨_, rfl, ?_⟩
            rw [if_neg (show ¬ p' = 0 by rw [z]; decide)]
            by_cases y : r.1 = -1
            · rw [if_pos y]; exact congrArg Sum.inr (h1.trans y)
            · rw [if_neg y]; exact congrArg Sum.inr h1
        · unfold fX9_moving; refine zOk.eq e.2 (zOk.neg (by decide) (zOk.neg w0 (zOk.pos w1 (zOk.eq zisM ?_))))
          rw [hz]
          refine zOk.pos rfl ?_
          have i10 : inb (zJ m) 10 = true := zinb (by omega) (by omega)
          rw [ck_t i10]
          refine zr_moving (t := t) hE hr ht m8 m9 hm hz 25 0 FU _ _ _ _ _ _ _ (-1, -1) (by omega) (by unfold FU; omega) (fun _ _ => rfl) (fun _ _ _ => rfl) (fun sd ho L C V S R h1 h2 => ?_)
          rw [ck_t i10, zJ_ix (by omega)]
          generalize zmvf E t m 25 0 (-1, -1) = r at *
          have hCC : ∀ j, j < 10 → upd C m (ar 14 m) j = ar 14 j := by
            intro j hj
            by_cases z : j = m
            · subst z; rw [zupd_eq]
            · rw [zupd_ne z]; exact h2 j hj z
          refine zOk.ite (fun z => ?_) (fun z => ?_)
          · rw [if_pos z]; exact ⟨_, rfl, _, _, _, _, _, _, _, rfl, h1, hCC⟩
          · rw [if_neg z]; exact ⟨_, rfl, _, _, _, _, _, _, _, rfl, h1, hCC⟩
end
