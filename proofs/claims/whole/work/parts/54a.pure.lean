/-! ===== pure: the start, and every case ===== -/
theorem zlaw {L : Nat} {xs : Nat → Int32} {sc : Nat → Int32} {ar : Nat → Nat → Int32} {O : Nat → Int64} {x4 k : Int32} (h : zInv sc ar) (hx : inb (x4 + 1) L = true ∧ inb (x4 + 2) L = true ∧ inb (x4 + 3) L = true ∧ inb (x4 + 4) L = true ∧ inb (x4 + 5) L = true) : zOk (lawSt L xs sc ar O x4 k) (fun o => zInv o.1 o.2.1) := by
  unfold lawSt
  refine zOk.ite (fun _ => zst0 h hx) (fun _ => ?_)
  refine zOk.ite (fun _ => zst1 h hx) (fun _ => ?_)
  refine zOk.ite (fun _ => zst2 h hx) (fun _ => ?_)
  refine zOk.ite (fun _ => zst3 h hx) (fun _ => ?_)
  refine zOk.ite (fun _ => zst4 h hx) (fun _ => ?_)
  refine zOk.ite (fun _ => zst5 h hx) (fun _ => ?_)
  refine zOk.ite (fun _ => zst6 h hx) (fun _ => ?_)
  refine zOk.ite (fun _ => zst7 h hx) (fun _ => ?_)
  refine zOk.ite (fun _ => zst8 h hx) (fun _ => ?_)
  refine zOk.ite (fun _ => zst9 h hx) (fun _ => ?_)
  refine zOk.ite (fun _ => zst10 h hx) (fun _ => ?_)
  refine zOk.ite (fun _ => zst11 h hx) (fun _ => ?_)
  refine zOk.ite (fun _ => zst12 h hx) (fun _ => ?_)
  refine zOk.ite (fun _ => zst13 h hx) (fun _ => ?_)
  refine zOk.ite (fun _ => zst14 h hx) (fun _ => ?_)
  refine zOk.ite (fun _ => zst15 h hx) (fun _ => ?_)
  refine zOk.ite (fun _ => zst16 h hx) (fun _ => ?_)
  refine zOk.ite (fun _ => zst17 h hx) (fun _ => ?_)
  refine zOk.ite (fun _ => zst18 h hx) (fun _ => ?_)
  refine zOk.ite (fun _ => zst19 h hx) (fun _ => ?_)
  refine zOk.ite (fun _ => zst20 h hx) (fun _ => ?_)
  refine zOk.ite (fun _ => zst21 h hx) (fun _ => ?_)
  refine zOk.ite (fun _ => zst22 h hx) (fun _ => ?_)
  refine zOk.ite (fun _ => zst23 h hx) (fun _ => ?_)
  refine zOk.ite (fun _ => zst24 h hx) (fun _ => ?_)
  refine zOk.ite (fun _ => zst25 h hx) (fun _ => ?_)
  refine zOk.ite (fun _ => zst26 h hx) (fun _ => ?_)
  refine zOk.ite (fun _ => zst27 h hx) (fun _ => ?_)
  refine zOk.ite (fun _ => zst28 h hx) (fun _ => ?_)
  refine zOk.ite (fun _ => zst29 h hx) (fun _ => ?_)
  refine zOk.ite (fun _ => zst30 h hx) (fun _ => ?_)
  refine zOk.ite (fun _ => zst31 h hx) (fun _ => ?_)
  refine zOk.ite (fun _ => zst32 h hx) (fun _ => ?_)
  refine zOk.ite (fun _ => zst33 h hx) (fun _ => ?_)
  refine zOk.ite (fun _ => zst34 h hx) (fun _ => ?_)
  refine zOk.ite (fun _ => zst35 h hx) (fun _ => ?_)
  refine zOk.ite (fun _ => zst36 h hx) (fun _ => ?_)
  refine zOk.ite (fun _ => zst37 h hx) (fun _ => ?_)
  refine zOk.ite (fun _ => zst38 h hx) (fun _ => ?_)
  refine zOk.ite (fun _ => zst39 h hx) (fun _ => ?_)
  exact ⟨_, rfl, h⟩
theorem zz_pure : ∃ (Inv : (Nat → Int32) → (Nat → Nat → Int32) → Prop) (O_h4 O_h7 : Int32 × Int32 × Int32 × Int32 × Int32 × Int32 × (Nat → Int32) × (Nat → Int32)) (O_h23 : Int32 × Int32 × Int32 × Int32 × Int32 × Int32 × Int32 × Int32 × Int32 × (Nat → Int32) × (Nat → Int32)), fX1_clear 0 0 0 0 0 0 (fun _ => 0) (fun _ => 0) = some O_h4 ∧ fX1_clear 0 0 0 0 0 0 (fun _ => 0) (fun _ => 0) = some O_h7 ∧ fX0_begin 0 0 O_h4.1 O_h4.2.1 O_h4.2.2.1 (fun _ => 0) (fun _ => 0) 0 0 0 0 0 0 0 (fun _ => 0) (fun _ => 0) = some O_h23 ∧ Inv (lsc0 O_h4 O_h7 O_h23) (lar0 O_h4 O_h7 O_h23) ∧ ∀ (L : Nat) (xs : Nat → Int32) (sc : Nat → Int32) (ar : Nat → Nat → Int32) (O : Nat → Int64) (i : Nat), L ≤ 3072 → Inv sc ar → i + 6 ≤ L → ∃ out, lawSt L xs sc ar O (nI i) (xs i &&& 63) = some out ∧ Inv out.1 out.2.1 := by
  obtain ⟨G1, f1, g1⟩ := zfill (nP := 2) (x1 := 0) (P0 := fun _ => 0) (by omega)
  have e4 : fX1_clear 0 0 0 0 0 0 (fun _ => 0) (fun _ => 0) = some (20, 24, 100, 0, 0, 0, G1, G1) := by
    unfold fX1_clear
    exact zBind f1 (zBind f1 rfl)
  refine ⟨zInv, (20, 24, 100, 0, 0, 0, G1, G1), (20, 24, 100, 0, 0, 0, G1, G1), (0, 0, 0, 20, 24, 0, 100, 0, 0, va_cpy (fun _ => 0) (fun _ => 0) (0 : Int32).toNatClampNeg (0 : Int32).toNatClampNeg (7 : Int32).toNatClampNeg, va_cpy (fun _ => 0) (fun _ => 0) (0 : Int32).toNatClampNeg (0 : Int32).toNatClampNeg (10 : Int32).toNatClampNeg), e4, e4, rfl, ?_, ?_⟩
  · have hE : zEok (zE.mk 0 0 (fun _ => 0) (fun _ => 0) (fun _ => 0) (fun _ => 0) (fun _ => 0) [] []) := ⟨Nat.zero_le _, Nat.zero_le _, fun a ha => absurd ha (Nat.not_lt_zero a), fun a ha => absurd ha (Nat.not_lt_zero a), fun a ha => absurd ha (Nat.not_lt_zero a), fun a ha => absurd ha (Nat.not_lt_zero a), fun a ha => absurd ha (Nat.not_lt_zero a), Or.inl rfl, fun w hw => absurd hw (by exact List.not_mem_nil), Or.inl rfl⟩
    have ht : zTb (zE.mk 0 0 (fun _ => 0) (fun _ => 0) (fun _ => 0) (fun _ => 0) (fun _ => 0) [] []) 9999 (zT.mk 0 20 24 0 100 0 0 (fun _ => 0) (fun _ => 0)) := ⟨⟨⟨(show (0 : Int32) ≤ 20 by decide), (show (20 : Int32) ≤ 99 by decide)⟩, ⟨(show (0 : Int32) ≤ 24 by decide), (show (24 : Int32) ≤ 99 by decide)⟩, ⟨(show (0 : Int32) ≤ 0 by decide), (show (0 : Int32) ≤ 24 by decide)⟩, ⟨(show (0 : Int32) ≤ 100 by decide), (show (100 : Int32) ≤ 9999 by decide)⟩, ⟨0, Nat.two_pow_pos _, rfl⟩, fun a ha => absurd ha (Nat.not_lt_zero a), fun a ha => absurd ha (Nat.not_lt_zero a)⟩, (show (0 : Int32) ≤ 0 by decide), (show (0 : Int32) ≤ zJ 9999 by decide), by omega⟩
    have nl : ∀ (a : Nat) (p : Prop), a < 0 → p := fun a p ha => absurd ha (Nat.not_lt_zero a)
    exact zInv_mk (E := zE.mk 0 0 (fun _ => 0) (fun _ => 0) (fun _ => 0) (fun _ => 0) (fun _ => 0) [] []) (t := zT.mk 0 20 24 0 100 0 0 (fun _ => 0) (fun _ => 0)) hE ⟨rfl, rfl, fun a ha => nl a _ ha, fun a ha => nl a _ ha, fun a ha => nl a _ ha, fun a ha => nl a _ ha, fun a ha => nl a _ ha, ⟨0, g1 0 (by omega), g1 0 (by omega), Nat.zero_le _, trivial⟩, ⟨0, g1 1 (by omega), g1 1 (by omega), Nat.zero_le _, trivial⟩⟩ ⟨rfl, rfl, rfl, rfl, fun a ha => nl a _ ha, fun a ha => nl a _ ha, fun a ha => nl a _ ha, fun a ha => nl a _ ha, fun a ha => nl a _ ha, ⟨Nat.zero_le _, trivial⟩, ⟨Nat.zero_le _, trivial⟩⟩ ht ⟨rfl, rfl, rfl, rfl, rfl, rfl, rfl, fun a ha => nl a _ ha, fun a ha => nl a _ ha⟩ ⟨rfl, rfl, rfl, rfl, rfl, rfl, rfl, fun a ha => nl a _ ha, fun a ha => nl a _ ha⟩ rfl ⟨0, Nat.zero_le _, rfl, rfl, fun i hi => nl i _ hi⟩ ⟨0, Nat.zero_le _, rfl, rfl, fun i hi => nl i _ hi⟩ (fun i hi => rfl) ⟨0, Nat.zero_le _, rfl, rfl, fun i hi => nl i _ hi⟩ rfl rfl (Or.inl rfl)
  · intro L xs sc ar O i hL h hi
    have e : ∀ j : Nat, j < 6 → inb (zJ i + zJ j) L = true := fun j hj => by rw [zJ_add]; exact zinb (by omega) (by omega)
    exact zlaw h ⟨e 1 (by omega), e 2 (by omega), e 3 (by omega), e 4 (by omega), e 5 (by omega)⟩
