/-! ===== pure: all lines, in both ===== -/
def zLe (t0 lt0 df0 kd0 cq0 cs0 ps0 bh0 sS0 sV0 : Nat → Int32) (n : Nat) (oc : Int32 × Int32 × Int32 × Int32 × Int32 × Int32 × Int32 × Int32 × Int32 × Int32 × Int32 × Int32 × (Nat → Int32) × Int32 × Int32 × Int32 × Int32 × Int32 × Int32 × (Nat → Int32) × (Nat → Int32) × (Nat → Int32) × (Nat → Int32) × (Nat → Int32) × (Nat → Int32) × (Nat → Int32) × (Nat → Int32) × (Nat → Int32) × (Nat → Int32)) (om : Int32 × Int32 × Int32 × Int32 × Int32 × Int32 × Int32 × Int32 × Int32 × Int32 × (Nat → Int32) × (Nat → Int32) × (Nat → Int32) × (Nat → Int32) × (Nat → Int32) × (Nat → Int32) × (Nat → Int32) × (Nat → Int32) × (Nat → Int32) × (Nat → Int32)) : Prop := zFr t0 lt0 df0 kd0 cq0 cs0 ps0 bh0 sS0 sV0 om.2.2.2.2.2.2.2.2.2.2.1 om.2.2.2.2.2.2.2.2.2.2.2.1 om.2.2.2.2.2.2.2.2.2.2.2.2.1 om.2.2.2.2.2.2.2.2.2.2.2.2.2.1 om.2.2.2.2.2.2.2.2.2.2.2.2.2.2.1 om.2.2.2.2.2.2.2.2.2.2.2.2.2.2.2.1 om.2.2.2.2.2.2.2.2.2.2.2.2.2.2.2.2.1 om.2.2.2.2.2.2.2.2.2.2.2.2.2.2.2.2.2.1 om.2.2.2.2.2.2.2.2.2.2.2.2.2.2.2.2.2.2.1 om.2.2.2.2.2.2.2.2.2.2.2.2.2.2.2.2.2.2.2 ∧ ((¬ oc.2.2.2.2.2.1 = 0 ∧ om.2.2.2.2.2.2.2.1 = oc.2.2.2.2.2.1 ∧ om.2.2.2.2.2.2.2.2.1 = oc.2.2.1 ∧ ∃ S, S ≤ n ∧ oc.2.2.1 = zJ S) ∨ (oc.2.2.2.2.2.1 = 0 ∧ om.2.2.2.2.2.2.2.1 = 0 ∧ ∃ p1, p1 ≤ n ∧ (zDc oc.2.2.2.2.2.2.1 oc.2.2.2.2.2.2.2.2.2.2.2.2.2.1 oc.2.2.2.2.2.2.2.2.2.2.2.2.2.2.1 oc.2.2.2.2.2.2.2.2.2.2.2.2.2.2.2.1 om.2.2.2.2.2.2.2.2.2.2.1 ∧ zDa oc.2.2.2.2.2.2.2.2.2.2.2.2.2.2.2.2.1 oc.2.2.2.2.2.2.2.2.2.2.2.2.2.2.2.2.2.2.2.1 oc.2.2.2.2.2.2.2.2.2.2.2.2.2.2.2.2.2.2.2.2.1 om.2.2.2.2.2.2.2.2.2.2.1 om.2.2.2.2.2.2.2.2.2.2.2.1 om.2.2.2.2.2.2.2.2.2.2.2.2.1 ∧ zDm oc.2.2.2.2.2.2.2.2.2.2.2.2.2.2.2.2.2.1 oc.2.2.2.2.2.2.2.2.2.2.2.2.2.2.2.2.2.2.2.2.2.1 oc.2.2.2.2.2.2.2.2.2.2.2.2.2.2.2.2.2.2.2.2.2.2.1 oc.2.2.2.2.2.2.2.2.2.2.2.2.2.2.2.2.2.2.2.2.2.2.2.1 oc.2.2.2.2.2.2.2.2.2.2.2.2.2.2.2.2.2.2.2.2.2.2.2.2.1 oc.2.2.2.2.2.2.2.2.2.2.2.2.2.2.2.2.2.2.2.2.2.2.2.2.2.1 om.2.2.2.2.2.2.2.2.2.2.1 om.2.2.2.2.2.2.2.2.2.2.2.2.2.1 om.2.2.2.2.2.2.2.2.2.2.2.2.2.2.1 om.2.2.2.2.2.2.2.2.2.2.2.2.2.2.2.1 om.2.2.2.2.2.2.2.2.2.2.2.2.2.2.2.2.1 om.2.2.2.2.2.2.2.2.2.2.2.2.2.2.2.2.2.1 ∧ zDu p1 oc.2.2.2.2.2.2.1 oc.2.2.2.2.2.2.2.2.2.2.2.2.2.2.2.2.2.2.1 oc.2.2.2.2.2.2.2.2.2.2.2.2.2.2.2.2.2.2.2.2.2.2.2.2.2.2.1 oc.2.2.2.2.2.2.2.2.2.2.2.2.2.2.2.2.2.2.2.2.2.2.2.2.2.2.2.1 oc.2.2.2.2.2.2.2.2.2.2.2.2.2.2.2.2.2.2.2.2.2.2.2.2.2.2.2.2 om.1 om.2.2.2.2.2.2.2.2.2.2.1 om.2.2.2.2.2.2.2.2.2.2.2.2.2.2.2.2.2.2.1 om.2.2.2.2.2.2.2.2.2.2.2.2.2.2.2.2.2.2.2)))
theorem zFr_tr {t0 lt0 df0 kd0 cq0 cs0 ps0 bh0 sS0 sV0 t lt df kd cq cs ps bh sS sV t1 lt1 df1 kd1 cq1 cs1 ps1 bh1 sS1 sV1 : Nat → Int32} (h : zFr t0 lt0 df0 kd0 cq0 cs0 ps0 bh0 sS0 sV0 t lt df kd cq cs ps bh sS sV) (h' : zFr t lt df kd cq cs ps bh sS sV t1 lt1 df1 kd1 cq1 cs1 ps1 bh1 sS1 sV1) : zFr t0 lt0 df0 kd0 cq0 cs0 ps0 bh0 sS0 sV0 t1 lt1 df1 kd1 cq1 cs1 ps1 bh1 sS1 sV1 := by
  obtain ⟨a1, a2, a3⟩ := h
  obtain ⟨b1, b2, b3⟩ := h'
  refine ⟨fun j hj => ?_, fun j hj => ?_, fun j hj => ?_⟩
  · obtain ⟨c1, c2, c3⟩ := a1 j hj
    obtain ⟨d1, d2, d3⟩ := b1 j hj
    exact ⟨d1.trans c1, d2.trans c2, d3.trans c3⟩
  · obtain ⟨c1, c2, c3, c4, c5⟩ := a2 j hj
    obtain ⟨d1, d2, d3, d4, d5⟩ := b2 j hj
    exact ⟨d1.trans c1, d2.trans c2, d3.trans c3, d4.trans c4, d5.trans c5⟩
  · obtain ⟨c1, c2⟩ := a3 j hj
    obtain ⟨d1, d2⟩ := b3 j hj
    exact ⟨d1.trans c1, d2.trans c2⟩
section
variable {b r : Nat → Int32} {n : Nat} {ke : Int32 → Int32 → Int32 → Int32 → Int32 → Int32 → Int32 → Int32 → Int32 → Int32 → Int32 → Int32 → (Nat → Int32) → Int32 → Int32 → Int32 → Int32 → Int32 → Int32 → (Nat → Int32) → (Nat → Int32) → (Nat → Int32) → (Nat → Int32) → (Nat → Int32) → (Nat → Int32) → (Nat → Int32) → (Nat → Int32) → (Nat → Int32) → (Nat → Int32) → Option (Int32 × Int32 × Int32 × Int32 × Int32 × Int32 × Int32 × Int32 × Int32 × Int32 × Int32 × Int32 × Int32 × Int32 × (Nat → Int32) × Int32 × Int32 × Int32 × Int32 × Int32 × Int32 × (Nat → Int32) × (Nat → Int32) × (Nat → Int32) × (Nat → Int32) × (Nat → Int32) × (Nat → Int32) × (Nat → Int32) × (Nat → Int32) × (Nat → Int32) × (Nat → Int32))} {kf : Int32 → Int32 → Int32 → Int32 → Int32 → Int32 → Int32 → Int32 → Int32 → (Nat → Int32) → (Nat → Int32) → (Nat → Int32) → (Nat → Int32) → (Nat → Int32) → (Nat → Int32) → (Nat → Int32) → (Nat → Int32) → (Nat → Int32) → (Nat → Int32) → Option (Int32 × Int32 × Int32 × Int32 × Int32 × Int32 × Int32 × Int32 × Int32 × Int32 × Int32 × Int32 × Int32 × Int32 × Int32 × Int32 × Int32 × Int32 × Int32 × Int32 × Int32 × Int32 × Int32 × Int32 × (Nat → Int32) × (Nat → Int32) × (Nat → Int32) × (Nat → Int32) × (Nat → Int32) × (Nat → Int32) × (Nat → Int32) × (Nat → Int32) × (Nat → Int32) × (Nat → Int32) × (Nat → Int32) × (Nat → Int32) × (Nat → Int32))} {t0 lt0 df0 kd0 cq0 cs0 ps0 bh0 sS0 sV0 : Nat → Int32}
theorem zText (hb : zByts b n) (hB : ∀ i, i < n → zBy (b i) (r i)) : ∀ (fuel p0 i : Nat) (pl tk st dg nm fa ct x1 x2 x3 x4 x5 : Int32) (wa : Nat → Int32) (oil wt tr al mo cl : Int32) (le de ki ca co jo fo cd rf rt : Nat → Int32) (vals A k m g sp bad bp ofv : Int32) (t lt df kd cq cs ps bh sS sV : Nat → Int32) (done : Int32), zCu b n p0 pl tk st dg nm fa A k m g sp bad bp → (fa = 0 → (zDc ct oil wt tr t ∧ zDa al le de t lt df ∧ zDm mo ki ca co jo fo t kd cq cs ps bh ∧ zDu p0 ct cl cd rf rt done t sS sV)) → zFr t0 lt0 df0 kd0 cq0 cs0 ps0 bh0 sS0 sV0 t lt df kd cq cs ps bh sS sV → i ≤ p0 → i ≤ 700 → n - p0 + 1 < fuel → ∃ oc om, lX5_readText_41 ke (zJ n) b fuel pl tk st dg nm fa ct x1 x2 x3 x4 x5 wa oil wt tr al mo cl le de ki ca co jo fo cd rf rt (zJ i) = ke oc.1 oc.2.1 oc.2.2.1 oc.2.2.2.1 oc.2.2.2.2.1 oc.2.2.2.2.2.1 oc.2.2.2.2.2.2.1 oc.2.2.2.2.2.2.2.1 oc.2.2.2.2.2.2.2.2.1 oc.2.2.2.2.2.2.2.2.2.1 oc.2.2.2.2.2.2.2.2.2.2.1 oc.2.2.2.2.2.2.2.2.2.2.2.1 oc.2.2.2.2.2.2.2.2.2.2.2.2.1 oc.2.2.2.2.2.2.2.2.2.2.2.2.2.1 oc.2.2.2.2.2.2.2.2.2.2.2.2.2.2.1 oc.2.2.2.2.2.2.2.2.2.2.2.2.2.2.2.1 oc.2.2.2.2.2.2.2.2.2.2.2.2.2.2.2.2.1 oc.2.2.2.2.2.2.2.2.2.2.2.2.2.2.2.2.2.1 oc.2.2.2.2.2.2.2.2.2.2.2.2.2.2.2.2.2.2.1 oc.2.2.2.2.2.2.2.2.2.2.2.2.2.2.2.2.2.2.2.1 oc.2.2.2.2.2.2.2.2.2.2.2.2.2.2.2.2.2.2.2.2.1 oc.2.2.2.2.2.2.2.2.2.2.2.2.2.2.2.2.2.2.2.2.2.1 oc.2.2.2.2.2.2.2.2.2.2.2.2.2.2.2.2.2.2.2.2.2.2.1 oc.2.2.2.2.2.2.2.2.2.2.2.2.2.2.2.2.2.2.2.2.2.2.2.1 oc.2.2.2.2.2.2.2.2.2.2.2.2.2.2.2.2.2.2.2.2.2.2.2.2.1 oc.2.2.2.2.2.2.2.2.2.2.2.2.2.2.2.2.2.2.2.2.2.2.2.2.2.1 oc.2.2.2.2.2.2.2.2.2.2.2.2.2.2.2.2.2.2.2.2.2.2.2.2.2.2.1 oc.2.2.2.2.2.2.2.2.2.2.2.2.2.2.2.2.2.2.2.2.2.2.2.2.2.2.2.1 oc.2.2.2.2.2.2.2.2.2.2.2.2.2.2.2.2.2.2.2.2.2.2.2.2.2.2.2.2 ∧ lX9_borough_107 kf (zJ n) r fuel vals A k m g sp bad bp ofv t lt df kd cq cs ps bh sS sV done = kf om.2.1 om.2.2.1 om.2.2.2.1 om.2.2.2.2.1 om.2.2.2.2.2.1 om.2.2.2.2.2.2.1 om.2.2.2.2.2.2.2.1 om.2.2.2.2.2.2.2.2.1 om.2.2.2.2.2.2.2.2.2.1 om.2.2.2.2.2.2.2.2.2.2.1 om.2.2.2.2.2.2.2.2.2.2.2.1 om.2.2.2.2.2.2.2.2.2.2.2.2.1 om.2.2.2.2.2.2.2.2.2.2.2.2.2.1 om.2.2.2.2.2.2.2.2.2.2.2.2.2.2.1 om.2.2.2.2.2.2.2.2.2.2.2.2.2.2.2.1 om.2.2.2.2.2.2.2.2.2.2.2.2.2.2.2.2.1 om.2.2.2.2.2.2.2.2.2.2.2.2.2.2.2.2.2.1 om.2.2.2.2.2.2.2.2.2.2.2.2.2.2.2.2.2.2.1 om.2.2.2.2.2.2.2.2.2.2.2.2.2.2.2.2.2.2.2 ∧ zLe t0 lt0 df0 kd0 cq0 cs0 ps0 bh0 sS0 sV0 n oc om := by
  intro fuel
  induction fuel with
  | zero => intro p0 i pl tk st dg nm fa ct x1 x2 x3 x4 x5 wa oil wt tr al mo cl le de ki ca co jo fo cd rf rt vals A k m g sp bad bp ofv t lt df kd cq cs ps bh sS sV done hc hd hf hi hi7 hfu; omega
  | succ fuel ih =>
    intro p0 i pl tk st dg nm fa ct x1 x2 x3 x4 x5 wa oil wt tr al mo cl le de ki ca co jo fo cd rf rt vals A k m g sp bad bp ofv t lt df kd cq cs ps bh sS sV done hc hd hf hi hi7 hfu
    have hn := hb.1
    rcases hc with ⟨h1, h2, h3, h4⟩ | ⟨h1, h2, p, hp0, hp, h3, h4⟩
    · refine ⟨(pl, tk, st, dg, nm, fa, ct, x1, x2, x3, x4, x5, wa, oil, wt, tr, al, mo, cl, le, de, ki, ca, co, jo, fo, cd, rf, rt), (done, vals, A, k, m, g, sp, bad, bp, ofv, t, lt, df, kd, cq, cs, ps, bh, sS, sV), ?_, ?_, hf, Or.inl ⟨h1, h2, h3, h4⟩⟩
      · unfold lX5_readText_41
        rw [if_neg (show ¬ (700 : Int32) < zJ i from zJ_nlt (a := 700) (by omega) (by omega)), if_neg h1]
      · unfold lX9_borough_107
        rw [if_neg (by rw [h2]; exact h1)]
    · subst h1 h2
      obtain ⟨D1, D2, D3, D4⟩ := hd rfl
      obtain ⟨r1, r2, r3, r4, r5, r6⟩ := zlx_r (b := b) hp
      by_cases k0 : (zlx b n p).1 = 0
      · refine ⟨(pl, tk, st, dg, nm, 0, ct, x1, x2, x3, x4, x5, wa, oil, wt, tr, al, mo, cl, le, de, ki, ca, co, jo, fo, cd, rf, rt), (done, vals, A, k, m, g, sp, 0, bp, ofv, t, lt, df, kd, cq, cs, ps, bh, sS, sV), ?_, ?_, hf, Or.inr ⟨rfl, rfl, p, hp, D1, D2, D3, zDu_le D4 hp0⟩⟩
        · unfold lX5_readText_41
          rw [if_neg (show ¬ (700 : Int32) < zJ i from zJ_nlt (a := 700) (by omega) (by omega)), if_pos rfl, if_pos (show tk = 0 by rw [h3.2.1, k0]; rfl)]
        · unfold lX9_borough_107
          rw [if_pos rfl, if_pos (show k = 0 by rw [h4.2.1]; exact zrt0.2 k0)]
      · have r5 := r5 k0
        obtain ⟨oa, ma, e1, e2, p1, q1, q2, q3, q4⟩ := zLine (vals := vals) (ofv := ofv) (bp := bp) (ct := ct) (x1 := x1) (x2 := x2) (x3 := x3) (x4 := x4) (x5 := x5) (wa := wa) (done := done) hb hB hp h3 h4 ⟨D1, D2, D3, zDu_le D4 hp0⟩
        obtain ⟨oc, om, f1, f2, f3⟩ := ih p1 (i + 1) _ _ _ _ _ _ _ oa.2.2.2.2.2.2.2.1 oa.2.2.2.2.2.2.2.2.1 oa.2.2.2.2.2.2.2.2.2.1 oa.2.2.2.2.2.2.2.2.2.2.1 oa.2.2.2.2.2.2.2.2.2.2.2.1 oa.2.2.2.2.2.2.2.2.2.2.2.2.1 _ _ _ _ _ _ _ _ _ _ _ _ _ _ _ _ ma.2.1 _ _ _ _ _ _ _ ma.2.2.2.2.2.2.2.2.2.1 _ _ _ _ _ _ _ _ _ _ _ q2 q4 (zFr_tr hf q3) (by omega) (by omega) (by omega)
        refine ⟨oc, om, ?_, ?_, f3⟩
        · unfold lX5_readText_41
          rw [if_neg (show ¬ (700 : Int32) < zJ i from zJ_nlt (a := 700) (by omega) (by omega)), if_pos rfl, if_neg (show ¬ tk = 0 by rw [h3.2.1]; exact zKn (c := 0) k0 (by omega) (by omega)), zJ_succ]
          exact zBind e1 f1
        · unfold lX9_borough_107
          rw [if_pos rfl, if_neg (show ¬ k = 0 by rw [h4.2.1]; exact fun z => k0 (zrt0.1 z))]
          exact zBind e2 f2
end
