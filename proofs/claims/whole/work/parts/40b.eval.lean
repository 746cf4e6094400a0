/-! ===== pure: what a rule's words come to ===== -/
def zRep (S : Nat → Int32) : List Int32 → Prop
  | [] => True
  | x :: xs => S xs.length = x ∧ zRep S xs
theorem zRep_upd {S : Nat → Int32} {k : Nat} {v : Int32} : ∀ {xs : List Int32}, xs.length ≤ k → zRep S xs → zRep (upd S k v) xs
  | [], _, _ => trivial
  | x :: xs, h, ⟨h1, h2⟩ => by
    have hl : xs.length + 1 ≤ k := h
    refine ⟨?_, zRep_upd (by omega) h2⟩
    unfold upd; rw [if_neg (by omega)]; exact h1
theorem zRep_push {S : Nat → Int32} {v : Int32} {xs : List Int32} (h : zRep S xs) : zRep (upd S xs.length v) (v :: xs) := ⟨by unfold upd; rw [if_pos rfl], zRep_upd (Nat.le_refl _) h⟩
def zAt (code : Nat → Int32) : Nat → List Int32 → Prop
  | _, [] => True
  | p, w :: ws => code p = w ∧ zAt code (p + 1) ws
def zop (w l r : Int32) : Int32 :=
  if w = -14 then l * r else if w = -13 then l - r else if w = -12 then l + r else if w = -11 then (if l = r then 1 else 0)
  else if w = -10 then (if r ≤ l then 0 else 1) else if w = -9 then (if l = 0 then 0 else if r = 0 then 0 else 1)
  else if w = -8 then (if l = 0 then (if r = 0 then 0 else 1) else 1) else if r = 0 then 0 else l / r
def zstep (V : Nat → Int32) (w : Int32) (st : List Int32) : List Int32 :=
  if w < -6 then
    if w = -7 then (match st with | x :: r => (if x = 0 then 1 else 0) :: r | [] => [])
    else (match st with | r :: l :: q => zop w l r :: q | _ => st)
  else (if w < 0 then V ((-1 : Int32) - w).toNatClampNeg else w) :: st
def zrun (V : Nat → Int32) : List Int32 → List Int32 → List Int32
  | [], st => st
  | w :: ws, st => zrun V ws (zstep V w st)
def zwf : List Int32 → Nat → Prop
  | [], d => d = 1
  | w :: ws, d => if w < -6 then (if w = -7 then 1 ≤ d ∧ zwf ws d else -15 ≤ w ∧ 2 ≤ d ∧ d ≤ 40 ∧ zwf ws (d - 1)) else d < 40 ∧ zwf ws (d + 1)
def zev (V : Nat → Int32) (ws : List Int32) : Int32 := (zrun V ws []).headD 0
def zcv (w : Int32) : Int32 := if w < -6 then (if w = -7 then -28 else if w = -8 then -27 else if w = -9 then -26 else if w = -10 then -24 else if w = -11 then -25 else if w = -12 then -20 else if w = -13 then -21 else if w = -14 then -22 else -23) else w
theorem zJ_lit (n : Nat) : (OfNat.ofNat n : Int32) = zJ n := rfl
theorem zJ_m1 {a : Nat} : zJ (a + 1) + (-1) = zJ a := by rw [← zJ_succ]; grind
theorem zinb6 {w : Int32} (h : ¬ w < -6) (h0 : w < 0) : inb ((-1 : Int32) - w) 6 = true := by
  have h1 : ¬ ((-1 : Int32) - w < 0) := by grind
  have h2 : ((-1 : Int32) - w) < zJ 6 := by show ((-1 : Int32) - w) < 6; grind
  obtain ⟨i, hi, e⟩ := zJ_of h1 (by omega) h2
  rw [e]; exact zinb hi (by omega)
theorem zwf_le : ∀ {ws : List Int32} {d : Nat}, zwf ws d → d ≤ 40
  | [], d, h => by have h : d = 1 := h; omega
  | w :: ws, d, h => by
    unfold zwf at h
    split at h
    · split at h
      · exact zwf_le h.2
      · exact h.2.2.1
    · omega
theorem zl_resultOf {ke : (Nat → Int32) → Option (Int32 × (Nat → Int32))} {V code : Nat → Int32} {Q : Int32 × (Nat → Int32) → Prop} : ∀ (ws : List Int32) (fuel p e : Nat) (S : Nat → Int32) (st : List Int32), zAt code p ws → e = p + ws.length → e ≤ 700 → zwf ws st.length → zRep S st → ws.length < fuel → (∀ S', zRep S' (zrun V ws st) → zOk (ke S') Q) → zOk (lX2_resultOf_38 ke V code (zJ e) fuel S (zJ st.length) (zJ p)) Q
  | [], fuel + 1, p, e, S, st, _, he, h7, _, hR, _, k => by
    have he : e = p := he
    unfold lX2_resultOf_38
    exact zOk.pos ((zJ_le (by omega) (by omega)).2 (by omega)) (k _ hR)
  | w :: ws, fuel + 1, p, e, S, st, hA, he, h7, hW, hR, hf, k => by
    obtain ⟨rfl, hA⟩ := hA
    have hl : (code p :: ws).length = ws.length + 1 := rfl
    rw [hl] at he hf
    have ih := zl_resultOf (ke := ke) (V := V) (code := code) (Q := Q) ws fuel (p + 1) e
    have hep : ¬ zJ e ≤ zJ p := fun q => by have := (zJ_le (by omega) (by omega)).1 q; omega
    unfold lX2_resultOf_38
    rw [if_neg hep, ck_t (zinb (by omega) (by omega)), zJ_ix (by omega), zJ_succ]
    unfold zwf at hW
    by_cases c1 : code p < -6
    · rw [if_pos c1] at hW ⊢
      by_cases c2 : code p = -7
      · rw [if_pos c2] at hW ⊢
        obtain ⟨hd, hW⟩ := hW
        cases st with
        | nil => simp at hd
        | cons x xs =>
          have hxl : (x :: xs).length = xs.length + 1 := rfl
          have hR1 := hR.1
          have hk : zrun V (code p :: ws) (x :: xs) = zrun V ws ((if x = 0 then 1 else 0) :: xs) := by
            show zrun V ws (zstep V (code p) (x :: xs)) = _
            unfold zstep; rw [if_pos c1, if_pos c2]
          rw [hk] at k
          rw [hxl] at hW ⊢
          have hb : xs.length + 1 ≤ 40 := zwf_le hW
          have hin : inb (zJ xs.length) 40 = true := zinb (by omega) (by omega)
          rw [if_neg (fun q => by have := (zJ_lt (a := xs.length + 1) (b := 1) (by omega) (by omega)).1 q; omega), zJ_pred, ck_t hin, ck_t hin, ck_t hin, zJ_ix (by omega), hR1]
          refine zOk.ite (fun q => ?_) (fun q => ?_)
          · rw [if_pos q] at k
            exact ih _ ((1 : Int32) :: xs) hA (by omega) h7 hW (zRep_push hR.2) (by omega) k
          · rw [if_neg q] at k
            exact ih _ ((0 : Int32) :: xs) hA (by omega) h7 hW (zRep_push hR.2) (by omega) k
      · rw [if_neg c2] at hW ⊢
        obtain ⟨h15, hd, hd4, hW⟩ := hW
        cases st with
        | nil => simp at hd
        | cons r st => cases st with
          | nil => simp at hd
          | cons l xs =>
            have hxl : (r :: l :: xs).length = xs.length + 1 + 1 := rfl
            have hr : S (xs.length + 1) = r := hR.1
            have hll : S xs.length = l := hR.2.1
            have hk : zrun V (code p :: ws) (r :: l :: xs) = zrun V ws (zop (code p) l r :: xs) := by
              show zrun V ws (zstep V (code p) (r :: l :: xs)) = _
              unfold zstep; rw [if_pos c1, if_neg c2]
            rw [hk] at k
            rw [hxl] at hW ⊢
            have hW : zwf ws (xs.length + 1) := hW
            have hb : xs.length + 1 ≤ 40 := zwf_le hW
            have hin : inb (zJ xs.length) 40 = true := zinb (by omega) (by omega)
            have hin2 : inb (zJ (xs.length + 1)) 40 = true := zinb (by have : xs.length + 1 + 1 ≤ 40 := hd4; omega) (by omega)
            have hres := ih (upd S xs.length (zop (code p) l r)) (zop (code p) l r :: xs) hA (by omega) h7 hW (zRep_push hR.2.2) (by omega) k
            unfold jX2_resultOf_281 jX2_resultOf_264 jX2_resultOf_246 jX2_resultOf_247 jX2_resultOf_227 jX2_resultOf_222 jX2_resultOf_227
            rw [if_neg (fun q => by have := (zJ_lt (a := xs.length + 1 + 1) (b := 2) (by omega) (by omega)).1 q; omega)]
            simp only [zJ_m1, zJ_pred, ck_t hin, ck_t hin2, zJ_ix (show xs.length < 2147483648 by omega), zJ_ix (show xs.length + 1 < 2147483648 by omega), hr, hll, zJ_succ]
            unfold zop at hres
            repeat' (refine zOk.ite (fun q => ?_) (fun q => ?_))
            all_goals first
              | (simp (disch := assumption) only [if_pos, if_neg] at hres; exact hres)
              | (have hz : nz r = true := by (unfold nz; rw [decide_eq_true_eq]; assumption)
                 first
                   | (rw [ck_t hz]; simp (disch := assumption) only [if_pos, if_neg] at hres; exact hres)
                   | exact absurd hz (by assumption))
    · rw [if_neg c1] at hW ⊢
      obtain ⟨hd, hW⟩ := hW
      have hin : inb (zJ st.length) 40 = true := zinb hd (by omega)
      have hk : zrun V (code p :: ws) st = zrun V ws ((if code p < 0 then V ((-1 : Int32) - code p).toNatClampNeg else code p) :: st) := by
        show zrun V ws (zstep V (code p) st) = _
        unfold zstep; rw [if_neg c1]
      rw [hk] at k
      have h40 : ¬ (40 : Int32) ≤ zJ st.length := fun q => by have := (zJ_le (a := 40) (b := st.length) (by omega) (by omega)).1 q; omega
      rw [if_neg h40, zJ_ix (show st.length < 2147483648 by omega), zJ_succ]
      refine zOk.ite (fun q => ?_) (fun q => ?_)
      · rw [if_pos q] at k
        rw [ck_t (zinb6 c1 q), ck_t hin]
        exact ih _ (_ :: st) hA (by omega) h7 hW (zRep_push hR) (by omega) k
      · rw [if_neg q] at k
        rw [ck_t hin]
        exact ih _ (_ :: st) hA (by omega) h7 hW (zRep_push hR) (by omega) k
theorem zreckon {w l r : Int32} (h : w < -6) (h7 : ¬ w = -7) (h15 : -15 ≤ w) : fX9_reckon (zcv w) l r = some (zop w l r) := by
  have : w = -8 ∨ w = -9 ∨ w = -10 ∨ w = -11 ∨ w = -12 ∨ w = -13 ∨ w = -14 ∨ w = -15 := by grind
  have hz : ¬ r = 0 → nz r = true := fun q => by unfold nz; rw [decide_eq_true_eq]; exact q
  unfold fX9_reckon zcv zop
  rcases this with rfl | rfl | rfl | rfl | rfl | rfl | rfl | rfl <;> simp
  all_goals repeat' split
  all_goals first | rfl | contradiction | (rw [ck_t (hz (by assumption))])
theorem zcv_lo {w : Int32} (h : w < -6) : zcv w ≤ -20 := by unfold zcv; grind
theorem zcv_not {w : Int32} (h : w < -6) : zcv w = -28 ↔ w = -7 := by unfold zcv; grind
theorem zcv_hi {w : Int32} (h : ¬ w < -6) : zcv w = w := by unfold zcv; rw [if_neg h]
theorem zl_valueNow {ke : (Nat → Int32) → Option (Int32 × (Nat → Int32))} {n0 : Nat} {V code : Nat → Int32} {Q : Int32 × (Nat → Int32) → Prop} (hn0 : n0 ≤ 2147483648) : ∀ (ws : List Int32) (fuel p e : Nat) (S : Nat → Int32) (st : List Int32), zAt code p (ws.map zcv) → e = p + ws.length → e ≤ 700 → 700 ≤ n0 → zwf ws st.length → zRep S st → ws.length < fuel → (∀ S', zRep S' (zrun V ws st) → zOk (ke S') Q) → zOk (lX9_valueNow_5 ke n0 V code (zJ e) fuel S (zJ st.length) (zJ p)) Q
  | [], fuel + 1, p, e, S, st, _, he, h7, _, _, hR, _, k => by
    have he : e = p := he
    unfold lX9_valueNow_5
    exact zOk.pos ((zJ_le (by omega) (by omega)).2 (by omega)) (k _ hR)
  | w :: ws, fuel + 1, p, e, S, st, hA, he, h7, hn, hW, hR, hf, k => by
    obtain ⟨hw, hA⟩ := hA
    have hl : (w :: ws).length = ws.length + 1 := rfl
    rw [hl] at he hf
    have ih := zl_valueNow (ke := ke) (n0 := n0) (V := V) (code := code) (Q := Q) hn0 ws fuel (p + 1) e
    have hep : ¬ zJ e ≤ zJ p := fun q => by have := (zJ_le (by omega) (by omega)).1 q; omega
    unfold lX9_valueNow_5
    rw [if_neg hep, ck_t (zinb (by omega) (by omega)), zJ_ix (by omega), zJ_succ, hw]
    unfold zwf at hW
    by_cases c1 : w < -6
    · rw [if_pos c1] at hW
      rw [if_pos (zcv_lo c1)]
      by_cases c2 : w = -7
      · rw [if_pos c2] at hW
        rw [if_pos ((zcv_not c1).2 c2)]
        obtain ⟨hd, hW⟩ := hW
        cases st with
        | nil => simp at hd
        | cons x xs =>
          have hxl : (x :: xs).length = xs.length + 1 := rfl
          have hR1 := hR.1
          have hk : zrun V (w :: ws) (x :: xs) = zrun V ws ((if x = 0 then 1 else 0) :: xs) := by
            show zrun V ws (zstep V w (x :: xs)) = _
            unfold zstep; rw [if_pos c1, if_pos c2]
          rw [hk] at k
          rw [hxl] at hW ⊢
          have hb : xs.length + 1 ≤ 40 := zwf_le hW
          have hin : inb (zJ xs.length) 64 = true := zinb (by omega) (by omega)
          rw [zJ_pred, ck_t hin, ck_t hin, ck_t hin, zJ_ix (by omega), hR1]
          refine zOk.ite (fun q => ?_) (fun q => ?_)
          · rw [if_pos q] at k
            exact ih _ ((1 : Int32) :: xs) hA (by omega) h7 hn hW (zRep_push hR.2) (by omega) k
          · rw [if_neg q] at k
            exact ih _ ((0 : Int32) :: xs) hA (by omega) h7 hn hW (zRep_push hR.2) (by omega) k
      · rw [if_neg c2] at hW
        rw [if_neg (fun q => c2 ((zcv_not c1).1 q))]
        obtain ⟨h15, hd, hd4, hW⟩ := hW
        cases st with
        | nil => simp at hd
        | cons r st => cases st with
          | nil => simp at hd
          | cons l xs =>
            have hxl : (r :: l :: xs).length = xs.length + 1 + 1 := rfl
            have hr : S (xs.length + 1) = r := hR.1
            have hll : S xs.length = l := hR.2.1
            have hk : zrun V (w :: ws) (r :: l :: xs) = zrun V ws (zop w l r :: xs) := by
              show zrun V ws (zstep V w (r :: l :: xs)) = _
              unfold zstep; rw [if_pos c1, if_neg c2]
            rw [hk] at k
            rw [hxl] at hW ⊢
            have hW : zwf ws (xs.length + 1) := hW
            have hd5 : xs.length + 1 + 1 ≤ 40 := hd4
            have hin : inb (zJ xs.length) 64 = true := zinb (by omega) (by omega)
            have hin2 : inb (zJ (xs.length + 1)) 64 = true := zinb (by omega) (by omega)
            rw [zJ_m1, zJ_pred, ck_t hin, ck_t hin2, zJ_ix (show xs.length < 2147483648 by omega), zJ_ix (show xs.length + 1 < 2147483648 by omega), hr, hll]
            refine zOk.eq (zreckon c1 c2 h15) ?_
            rw [ck_t hin]
            exact ih _ (_ :: xs) hA (by omega) h7 hn hW (zRep_push hR.2.2) (by omega) k
    · rw [if_neg c1] at hW
      rw [zcv_hi c1, if_neg (by grind)]
      obtain ⟨hd, hW⟩ := hW
      have hin : inb (zJ st.length) 64 = true := zinb (by omega) (by omega)
      have hk : zrun V (w :: ws) st = zrun V ws ((if w < 0 then V ((-1 : Int32) - w).toNatClampNeg else w) :: st) := by
        show zrun V ws (zstep V w st) = _
        unfold zstep; rw [if_neg c1]
      rw [hk] at k
      rw [zJ_ix (show st.length < 2147483648 by omega), zJ_succ]
      refine zOk.ite (fun q => ?_) (fun q => ?_)
      · rw [if_pos q] at k
        rw [ck_t (zinb6 c1 q), ck_t hin]
        exact ih _ (_ :: st) hA (by omega) h7 hn hW (zRep_push hR) (by omega) k
      · rw [if_neg q] at k
        rw [ck_t hin]
        exact ih _ (_ :: st) hA (by omega) h7 hn hW (zRep_push hR) (by omega) k
