/-! ===== my own base, third part: constructors ===== -/
theorem arr_eq {dC : Nat → ClassId} {dI : Nat → Nat → Nat} {cc : Nat → ClassId} {s : State} {cA : ClassId} (hK : va_K (dC, dI) cLs (tyL cc) s) (hK1 : va_K (dC, dI) cLs (tyL cc ++ [(cA, .int)]) s) : cA = cc 0 := by
  have h1 := (hK.2 0 _ rfl).2
  have h2 := (hK1.2 4 _ rfl).2
  exact Option.some.inj (h2.symm.trans h1)
theorem arr_eqB {dC : Nat → ClassId} {dI : Nat → Nat → Nat} {cc : Nat → ClassId} {s : State} {cA : ClassId} (hK : va_K (dC, dI) cLs (tyL cc) s) (hK1 : va_K (dC, dI) cLs (tyL cc ++ [(cA, .byte)]) s) : cA = cc 1 := by
  have h1 := (hK.2 1 _ rfl).2
  have h2 := (hK1.2 4 _ rfl).2
  exact Option.some.inj (h2.symm.trans h1)
theorem arr_eqL {dC : Nat → ClassId} {dI : Nat → Nat → Nat} {cc : Nat → ClassId} {s : State} {cA : ClassId} (hK : va_K (dC, dI) cLs (tyL cc) s) (hK1 : va_K (dC, dI) cLs (tyL cc ++ [(cA, .long)]) s) : cA = cc 2 := by
  have h1 := (hK.2 2 _ rfl).2
  have h2 := (hK1.2 4 _ rfl).2
  exact Option.some.inj (h2.symm.trans h1)
theorem arr_eqS {dC : Nat → ClassId} {dI : Nat → Nat → Nat} {cc : Nat → ClassId} {s : State} {cA : ClassId} (hK : va_K (dC, dI) cLs (tyL cc) s) (hK1 : va_K (dC, dI) cLs (tyL cc ++ [(cA, .object "java/lang/String")]) s) : cA = cc 3 := by
  obtain ⟨-, -, -, -, -, h1⟩ := (hK.2 3 _ rfl).2
  obtain ⟨-, -, -, -, -, h2⟩ := (hK1.2 4 _ rfl).2
  exact Option.some.inj (h2.symm.trans h1)
theorem arrV_congr {cA : ClassId} {n : Nat} {f g : Nat → Value} (h : ∀ j, j < n → f j = g j) : arrV cA n f = arrV cA n g := by
  simp only [arrV]
  congr 1
  apply Array.ext
  · simp
  · intro i h1 h2
    simp at h1 ⊢
    exact h i h1
theorem va_P.strs {dC : Nat → ClassId} {dI : Nat → Nat → Nat} {w : va_W} {H : Heap} (hP : va_P (dC, dI) cLs w H) (k : Nat) {a n : Nat} {cA : ClassId} {f g : Nat → Option Nat} (hk : w[k]? = some (a, .inl (cA, n, .inr (.inr (.inr (.inr f)))))) (h : ∀ j, j < n → f j = g j) : va_P (dC, dI) cLs (w.set k (a, .inl (cA, n, .inr (.inr (.inr (.inr g)))))) H := by
  intro i q hq
  rw [List.getElem?_set] at hq
  split at hq
  · rename_i e
    subst e
    split at hq
    · cases hq
      have h1 : H[a]? = some (vp_cell cA (n, .inr (.inr (.inr (.inr f))))) := hP _ _ hk
      show H[a]? = some (vp_cell cA (n, .inr (.inr (.inr (.inr g)))))
      rw [h1, vp_cell_q, vp_cell_q]
      exact congrArg some (arrV_congr (fun j hj => by rw [h j hj]))
    · cases hq
  · exact hP i q hq
theorem va_D.strs {A : Nat → Prop} {w : va_W} (hD : va_D A w) (k : Nat) {a : Nat} {x y : va_E} (hk : w[k]? = some (a, x)) : va_D A (w.set k (a, y)) := by
  have key : ∀ (i : Nat) (q : Nat × va_E), (w.set k (a, y))[i]? = some q → ∃ z, w[i]? = some (q.1, z) := by
    intro i q hq
    rw [List.getElem?_set] at hq
    split at hq
    · rename_i e
      subst e
      split at hq
      · cases hq; exact ⟨x, hk⟩
      · cases hq
    · exact ⟨q.2, hq⟩
  refine ⟨fun i j p q hp hq e => ?_, fun i q hq => ?_⟩
  · obtain ⟨z1, h1⟩ := key i p hp
    obtain ⟨z2, h2⟩ := key j q hq
    exact hD.1 i j _ _ h1 h2 e
  · obtain ⟨z, h1⟩ := key i q hq
    exact hD.2 i (q.1, z) h1
abbrev QN {S : Type} (dC : Nat → ClassId) (dI : Nat → Nat → Nat) (cc : Nat → ClassId) (w : S → va_W) (A : Nat → Prop) : Array Value → State → Outcome → State → Prop := va_Qv (S := S) (fun _ => True) (fun u t => va_P (dC, dI) cLs (w u) t.heap ∧ va_K (dC, dI) cLs (tyL cc) t ∧ va_D A (w u)) A
theorem met_ofN {l : Launch} {y : MethodName} {rm : Room} {code0 : ByteArray} {nL mc ms : Nat} {ret0 : Option FieldType} {own : String} {dC : Nat → ClassId} {dI : Nat → Nat → Nat} {cc : Nat → ClassId} {ak : Nat → Nat} {av : List Value} {w : va_W} {sz : Nat} {Q : (Nat → Prop) → Array Value → State → Outcome → State → Prop}
    (hy : plainName y.cls = true) (hyn : y.name = "<init>") (ho : y.cls = own) (hn : (lg_sl av).length ≤ nL)
    (body : ∀ (p : Program) (e : Env) (s : State) (m : MethodId) (below : List Frame) (meth : Method) (c : Code) (A : Nat → Prop), CT p s m av.toArray meth c A dC dI cc ak code0 nL ret0 own → meth.name = "<init>" → va_P (dC, dI) cLs w s.heap → va_D A w → va_S A s.heap s.heap [] → ∀ ls : Array Slot, lv_has ls nL (lv_args 0 av) → W p l e rm s m av.toArray below meth c s.heap [] 0 0 (MQ below (Q A) av.toArray s mc ms A) (F0 m 0 ls [])) :
    Met l y (Cond.code y code0 nL ret0 :: GW) rm (PI dC dI cc ak av w sz) (Q (va_A w sz)) mc ms (va_A w sz) := by
  refine Met.ofW (cc := code0) (maxL := nL) (ret := ret0) hy rfl ?_
  intro p e s m args below meth c s₁ B hml hv
  obtain ⟨rfl, hsz, hP, hK, hD0, hE⟩ := hv
  subst hsz
  have hD := hD0.self (sz := s.heap.size)
  have hown : s.vm.findClass own = some m.cls := by rw [← ho]; exact findClass_of_methodNamed B.named
  have hts := atoms_spec (ws := Cond.code y code0 nL ret0 :: GW) B.pre
  have hl := lv_entry av (n := nL) hn
  rw [lg_entry_eq]
  exact body p e s m below meth c _ ⟨B.exec, B.bytes, hml, B.returns, B.notSynchronized, hown, fun w h => hts w (List.mem_cons_of_mem _ h), hK, fun q h => Or.inr h, hE⟩ ((name_of_methodNamed B.named B.method).1.trans hyn) hP hD va_S.rf _ hl
def KI (y : MethodName) (bytes : ByteArray) (maxL n : Nat) : Prop := Cond.instanceMethod y ∈ GW ∧ Cond.initialized y.cls ∈ GW ∧ Cond.code y bytes maxL none ∈ GW ∧ y.name = "<init>" ∧ (y.cls ≠ "java/lang/invoke/MethodHandle" ∧ y.cls ≠ "java/lang/invoke/VarHandle" ∧ (parseMethodDescriptor y.desc).map (fun d => d.parameters.length) = some n)
section NEWS
variable {p : Program} {l : Launch} {e : Env} {R : Room} {s : State} {m : MethodId} {args : Array Value} {below : List Frame} {meth : Method} {c : Code} {H : Heap} {locs : List Loc} {Q : State → Prop} {A : Nat → Prop} {dC : Nat → ClassId} {dI : Nat → Nat → Nat} {cc : Nat → ClassId} {ak : Nat → Nat} {code0 : ByteArray} {nL : Nat} {ret0 : Option FieldType} {own : String} {y : MethodName} {bytes : ByteArray} {maxL n index : Nat} {rm : Room} {pc : Nat} {ls : Array Slot} {rest As : List Value} {b : Nat} {w0 wc : va_W} {cells slots mc ms : Nat}
theorem callI0 {S : Type} {w1 : S → va_W} (C0 : CT p s m args meth c A dC dI cc ak code0 nL ret0 own) (kv : KI y bytes maxL n) (hlk : Cond.methodLink own index y ∈ GW) (hP : va_P (dC, dI) cLs w0 H) (hD : va_D A w0) (hS : va_S A s.heap H locs)
    (hM : Met l y (Cond.code y bytes maxL none :: GW) rm (PI dC dI cc ak (.ref b :: As) wc H.size) (QN dC dI cc w1 (va_A wc H.size)) mc ms (va_A wc H.size))
    (hrm : rm.cells = mc ∧ rm.slots = ms) (hR : rm.frames + 1 ≤ R.frames ∧ 8 + (maxL + 11) + rm.locals ≤ R.locals) (isC isR : List Nat) {wr : va_W} (hC : isC.map (fun i => w0[i]?) = wc.map some) (hRr : isR.map (fun i => w0[i]?) = wr.map some) (hok : plOk isC isR [] = true)
    {st : List Value} (hst : st = As.reverse ++ .ref b :: rest) (hls : ls.size = nL) (hAs : As.length = n) (hroom : (rest.map fun v => v.category).sum ≤ 8) (hcs : cells + mc ≤ R.cells ∧ slots + ms ≤ R.slots) (hdg : decode code0 pc = .ok (.invokespecial index, 3))
    (kk : ∀ (u : S) (H1 : Heap) (locs1 : List Loc), va_P (dC, dI) cLs (wr ++ w1 u) H1 → va_D A (wr ++ w1 u) → va_S A s.heap H1 locs1 → W p l e R s m args below meth c H1 locs1 (cells + mc) (slots + ms) Q (F0 m (pc + 3) ls rest)) : W p l e R s m args below meth c H locs cells slots Q (F0 m pc ls st) := by
  obtain ⟨hx, hb, hml, -, -, hown, hG, hK, hA, hE⟩ := C0
  obtain ⟨v1, v3, v4, vn, v5⟩ := kv
  have hPc := hP.sub (ws' := wc) isC (fm_of hC)
  have hDc := hD.sub (ws' := wc) isC (plOk_C hok) hC
  have hFc := va_free (wc := wc) hD hS hA isC hC
  refine va_callv (va_runI (As := As) (rest := rest) ⟨hx, hb, hml, hown, hG⟩ hM (cwI n hG (GW_all (GW_cons v4)) rfl hrm.1 hrm.2 (hG _ v3) (hG _ hlk) (hG _ v1) vn v5 hR) ⟨PI_blind, fun U hU hW => ⟨rfl, by rw [hU], by rw [hU]; exact hPc, va_K.moved hW.alike hK, hDc.weaken (fun _ _ _ _ => trivial), hE.next hS hFc hU hW⟩⟩ rfl hAs hls hst (lv_room hroom) hdg hcs) hS (fun q _ h => hFc q h) hFc (fun u t H1 locs1 ht hvm hw hB hz1 hk1 hS1 => ?_)
  obtain ⟨hP1, -, hD1⟩ := hB
  rw [ht] at hP1
  unfold plOk at hok
  simp only [Bool.and_eq_true] at hok
  obtain ⟨-, h2, h3, h4⟩ := hok
  have h5 : ∀ i ∈ isR, i ∉ isC := fun i hi hc => by
    have := List.all_eq_true.mp h4 i hi
    simp only [Bool.not_eq_true', List.contains_eq_mem, decide_eq_false_iff_not] at this
    exact this hc
  obtain ⟨hPn, hDn⟩ := va_join hP hD isC isR hC hRr h2 h5 hk1 hFc hP1 hD1
  exact kk u H1 locs1 hPn hDn hS1
theorem callIN {S : Type} {w1 : S → va_W} {host : String} (C0 : CT p s m args meth c A dC dI cc ak code0 nL ret0 own) (kv : KI y bytes maxL n) (hlk : va_Nw (.methodLinkNest own index y host) s) (hP : va_P (dC, dI) cLs w0 H) (hD : va_D A w0) (hS : va_S A s.heap H locs)
    (hM : Met l y (Cond.code y bytes maxL none :: GW) rm (PI dC dI cc ak (.ref b :: As) wc H.size) (QN dC dI cc w1 (va_A wc H.size)) mc ms (va_A wc H.size))
    (hrm : rm.cells = mc ∧ rm.slots = ms) (hR : rm.frames + 1 ≤ R.frames ∧ 8 + (maxL + 11) + rm.locals ≤ R.locals) (isC isR : List Nat) {wr : va_W} (hC : isC.map (fun i => w0[i]?) = wc.map some) (hRr : isR.map (fun i => w0[i]?) = wr.map some) (hok : plOk isC isR [] = true)
    {st : List Value} (hst : st = As.reverse ++ .ref b :: rest) (hls : ls.size = nL) (hAs : As.length = n) (hroom : (rest.map fun v => v.category).sum ≤ 8) (hcs : cells + mc ≤ R.cells ∧ slots + ms ≤ R.slots) (hdg : decode code0 pc = .ok (.invokespecial index, 3))
    (kk : ∀ (u : S) (H1 : Heap) (locs1 : List Loc), va_P (dC, dI) cLs (wr ++ w1 u) H1 → va_D A (wr ++ w1 u) → va_S A s.heap H1 locs1 → W p l e R s m args below meth c H1 locs1 (cells + mc) (slots + ms) Q (F0 m (pc + 3) ls rest)) : W p l e R s m args below meth c H locs cells slots Q (F0 m pc ls st) := by
  obtain ⟨hx, hb, hml, -, -, hown, hG, hK, hA, hE⟩ := C0
  obtain ⟨v1, v3, v4, vn, v5⟩ := kv
  have hPc := hP.sub (ws' := wc) isC (fm_of hC)
  have hDc := hD.sub (ws' := wc) isC (plOk_C hok) hC
  have hFc := va_free (wc := wc) hD hS hA isC hC
  refine va_callv (va_runIN (As := As) (rest := rest) ⟨hx, hb, hml, hown, hG⟩ hM ⟨va_cnB n hG (GW_all (GW_cons v4)) rfl hrm.1 hrm.2 hlk (hG _ v3) v5 hR, vn, hG _ v1⟩ ⟨PI_blind, fun U hU hW => ⟨rfl, by rw [hU], by rw [hU]; exact hPc, va_K.moved hW.alike hK, hDc.weaken (fun _ _ _ _ => trivial), hE.next hS hFc hU hW⟩⟩ rfl hAs hls hst (lv_room hroom) hdg hcs) hS (fun q _ h => hFc q h) hFc (fun u t H1 locs1 ht hvm hw hB hz1 hk1 hS1 => ?_)
  obtain ⟨hP1, -, hD1⟩ := hB
  rw [ht] at hP1
  unfold plOk at hok
  simp only [Bool.and_eq_true] at hok
  obtain ⟨-, h2, h3, h4⟩ := hok
  have h5 : ∀ i ∈ isR, i ∉ isC := fun i hi hc => by
    have := List.all_eq_true.mp h4 i hi
    simp only [Bool.not_eq_true', List.contains_eq_mem, decide_eq_false_iff_not] at this
    exact this hc
  obtain ⟨hPn, hDn⟩ := va_join hP hD isC isR hC hRr h2 h5 hk1 hFc hP1 hD1
  exact kk u H1 locs1 hPn hDn hS1
theorem retN {S : Type} {w1 : S → va_W} (C0 : CT p s m args meth c A dC dI cc ak code0 nL none own) (u : S) (hP : va_P (dC, dI) cLs (w1 u) H) (hD : va_D A (w1 u)) (hS : va_S A s.heap H locs) (hdg : decode code0 pc = .ok (.return_, 1)) : W p l e R s m args below meth c H locs cells slots (MQ below (QN dC dI cc w1 A) args s cells slots A) (F0 m pc ls []) := by
  obtain ⟨hx, hb, hml, hr, hlocks, hown, hG, hK, hA, hE⟩ := C0
  exact W.vret hx hb hr (fun t ht hW => ⟨⟨u, rfl, trivial, by rw [ht]; exact hP, va_K.moved hW.alike hK, hD⟩, hS.F ht⟩) hS.2.2 hdg
theorem strAny (hE : EX ak A s s.heap) (hS : va_S A s.heap H locs) {i : Nat} (hi : i < 33) : va_Any "java/lang/String" s H (ak i) := by
  obtain ⟨cell, h1, h2, h3⟩ := hE.recv hS hi
  obtain ⟨kC, hkC, -⟩ := Vm.findClass_spec h3
  refine ⟨cell, h1, h2, ⟨kC, hkC⟩, fun comp hc => ?_⟩
  cases Option.some.inj (h3.symm.trans hc)
  exact va_asg _ _
end NEWS
theorem kobj_i : Cond.instanceMethod objectInit ∈ GW := (gw_1 31 rfl rfl)
theorem kobj_c : Cond.code objectInit ⟨#[0xb1]⟩ 1 none ∈ GW := (gw_1 32 rfl rfl)
theorem karr_I : Cond.arrayClass .int ∈ GW := (gw_1 139 rfl rfl)
theorem karr_B : Cond.arrayClass .byte ∈ GW := (gw_1 138 rfl rfl)
theorem karr_L : Cond.arrayClass .long ∈ GW := (gw_8 238 rfl rfl)
theorem kins_X0 : Cond.instantiable RX0 7 ∈ GW := (gw_1 196 rfl rfl)
theorem kini_X0 : Cond.initialized RX0 ∈ GW := (gw_1 5 rfl rfl)
theorem dfX0 : ∀ j, j < 7 → defaultValue (tyX0 j) = vp_V [.null, .null, .int 0, .null, .null, .int 0, .null] j := by decide
theorem kiX0_init : KI yX0_init cX0_init 1 0 := ⟨(gw_1 198 rfl rfl), (gw_1 5 rfl rfl), (gw_1 199 rfl rfl), rfl, by decide +kernel⟩
theorem kins_X1 : Cond.instantiable RX1 16 ∈ GW := (gw_1 34 rfl rfl)
theorem kini_X1 : Cond.initialized RX1 ∈ GW := (gw_1 2 rfl rfl)
theorem dfX1 : ∀ j, j < 16 → defaultValue (tyX1 j) = vp_V [.int 0, .int 0, .int 0, .int 0, .null, .null, .int 0, .null, .null, .null, .null, .null, .null, .int 0, .null, .null] j := by decide
theorem kiX1_init : KI yX1_init cX1_init 1 0 := ⟨(gw_1 36 rfl rfl), (gw_1 2 rfl rfl), (gw_1 37 rfl rfl), rfl, by decide +kernel⟩
theorem kins_X2 : Cond.instantiable RX2 3 ∈ GW := (gw_2 53 rfl rfl)
theorem kini_X2 : Cond.initialized RX2 ∈ GW := (gw_1 7 rfl rfl)
theorem dfX2 : ∀ j, j < 3 → defaultValue (tyX2 j) = vp_V [.null, .null, .null] j := by decide
theorem kiX2_init : KI yX2_init cX2_init 2 1 := ⟨(gw_2 55 rfl rfl), (gw_1 7 rfl rfl), (gw_2 56 rfl rfl), rfl, by decide +kernel⟩
theorem kins_X3 : Cond.instantiable RX3 4 ∈ GW := (gw_2 69 rfl rfl)
theorem kini_X3 : Cond.initialized RX3 ∈ GW := (gw_1 8 rfl rfl)
theorem dfX3 : ∀ j, j < 4 → defaultValue (tyX3 j) = vp_V [.null, .null, .null, .null] j := by decide
theorem kiX3_init : KI yX3_init cX3_init 4 3 := ⟨(gw_2 71 rfl rfl), (gw_1 8 rfl rfl), (gw_2 72 rfl rfl), rfl, by decide +kernel⟩
theorem kins_X4 : Cond.instantiable RX4 6 ∈ GW := (gw_2 88 rfl rfl)
theorem kini_X4 : Cond.initialized RX4 ∈ GW := (gw_1 9 rfl rfl)
theorem dfX4 : ∀ j, j < 6 → defaultValue (tyX4 j) = vp_V [.null, .null, .null, .null, .null, .int 0] j := by decide
theorem kiX4_init : KI yX4_init cX4_init 4 3 := ⟨(gw_2 90 rfl rfl), (gw_1 9 rfl rfl), (gw_2 91 rfl rfl), rfl, by decide +kernel⟩
theorem kins_X5 : Cond.instantiable RX5 16 ∈ GW := (gw_1 141 rfl rfl)
theorem kini_X5 : Cond.initialized RX5 ∈ GW := (gw_1 4 rfl rfl)
theorem dfX5 : ∀ j, j < 16 → defaultValue (tyX5 j) = vp_V [.null, .null, .int 0, .int 0, .int 0, .int 0, .int 0, .int 0, .int 0, .int 0, .null, .int 0, .int 0, .int 0, .int 0, .int 0] j := by decide
theorem kiX5_init : KI yX5_init cX5_init 3 2 := ⟨(gw_1 143 rfl rfl), (gw_1 4 rfl rfl), (gw_1 144 rfl rfl), rfl, by decide +kernel⟩
theorem kins_X6 : Cond.instantiable RX6 5 ∈ GW := (gw_2 115 rfl rfl)
theorem kini_X6 : Cond.initialized RX6 ∈ GW := (gw_1 10 rfl rfl)
theorem dfX6 : ∀ j, j < 5 → defaultValue (tyX6 j) = vp_V [.null, .null, .null, .null, .null] j := by decide
theorem kiX6_init : KI yX6_init cX6_init 3 2 := ⟨(gw_2 117 rfl rfl), (gw_1 10 rfl rfl), (gw_2 118 rfl rfl), rfl, by decide +kernel⟩
theorem kins_X7 : Cond.instantiable RX7 9 ∈ GW := (gw_1 202 rfl rfl)
theorem kini_X7 : Cond.initialized RX7 ∈ GW := (gw_1 6 rfl rfl)
theorem dfX7 : ∀ j, j < 9 → defaultValue (tyX7 j) = vp_V [.int 0, .int 0, .int 0, .int 0, .int 0, .int 0, .int 0, .null, .null] j := by decide
theorem kiX7_init : KI yX7_init cX7_init 1 0 := ⟨(gw_1 204 rfl rfl), (gw_1 6 rfl rfl), (gw_1 205 rfl rfl), rfl, by decide +kernel⟩
theorem kins_X8 : Cond.instantiable RX8 13 ∈ GW := (gw_1 26 rfl rfl)
theorem kini_X8 : Cond.initialized RX8 ∈ GW := (gw_1 1 rfl rfl)
theorem dfX8 : ∀ j, j < 13 → defaultValue (tyX8 j) = vp_V [.null, .int 0, .int 0, .null, .null, .null, .null, .null, .int 0, .null, .null, .null, .null] j := by decide
theorem kiX8_init : KI yX8_init cX8_init 1 0 := ⟨(gw_1 28 rfl rfl), (gw_1 1 rfl rfl), (gw_1 29 rfl rfl), rfl, by decide +kernel⟩
theorem kins_X9 : Cond.instantiable RX9 63 ∈ GW := (gw_6 76 rfl rfl)
theorem kini_X9 : Cond.initialized RX9 ∈ GW := (gw_1 12 rfl rfl)
theorem dfX9 : ∀ j, j < 63 → defaultValue (tyX9 j) = vp_V [.null, .null, .null, .null, .int 0, .null, .null, .null, .null, .null, .null, .null, .null, .null, .null, .null, .null, .int 0, .int 0, .int 0, .int 0, .int 0, .int 0, .int 0, .int 0, .int 0, .int 0, .int 0, .null, .null, .null, .int 0, .int 0, .int 0, .int 0, .int 0, .int 0, .int 0, .int 0, .int 0, .null, .null, .int 0, .int 0, .int 0, .null, .null, .null, .null, .null, .null, .null, .null, .int 0, .int 0, .int 0, .int 0, .int 0, .null, .null, .null, .null, .null] j := by decide
theorem kiX9_init : KI yX9_init cX9_init 1 0 := ⟨(gw_6 78 rfl rfl), (gw_1 12 rfl rfl), (gw_6 79 rfl rfl), rfl, by decide +kernel⟩
