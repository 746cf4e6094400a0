/-! ===== my own base, second part: methods that may throw ===== -/
def xcl (k : Nat) : String := if k = 1 then "java/util/NoSuchElementException" else "java/lang/IllegalArgumentException"
abbrev xup : List String := ["java/lang/RuntimeException", "java/lang/Exception"]
theorem sumr {α β γ : Type} {f : α → γ} {g : β → γ} {v : Sum α β} {r : β} {x : γ} (h : v = .inr r) (e : Sum.elim f g v = x) : g r = x := by subst h; exact e
theorem suml {α β γ : Type} {f : α → γ} {g : β → γ} {v : Sum α β} {r : α} {x : γ} (h : v = .inl r) (e : Sum.elim f g v = x) : f r = x := by subst h; exact e
abbrev XB {α : Type} (dC : Nat → ClassId) (dI : Nat → Nat → Nat) (cc : Nat → ClassId) (k : Sum Nat α) (w : va_W) (A : Nat → Prop) : String → State → State → Prop := vx_X (S := Unit) (fun _ => True) (fun E _ t => (∃ n, k = .inl n ∧ E = xcl n) ∧ va_P (dC, dI) cLs w t.heap ∧ va_K (dC, dI) cLs (tyL cc) t ∧ va_D A w) A
abbrev QIx (dC : Nat → ClassId) (dI : Nat → Nat → Nat) (cc : Nat → ClassId) (k : Sum Nat Int32) (w : va_W) (A : Nat → Prop) : Array Value → State → Outcome → State → Prop := va_Qi (S := Unit) (fun r _ => k = .inr r) (fun _ t => va_P (dC, dI) cLs w t.heap ∧ va_K (dC, dI) cLs (tyL cc) t ∧ va_D A w) A
abbrev QVx (dC : Nat → ClassId) (dI : Nat → Nat → Nat) (cc : Nat → ClassId) (k : Sum Nat Unit) (w : va_W) (A : Nat → Prop) : Array Value → State → Outcome → State → Prop := va_Qv (S := Unit) (fun _ => k = .inr ()) (fun _ t => va_P (dC, dI) cLs w t.heap ∧ va_K (dC, dI) cLs (tyL cc) t ∧ va_D A w) A
theorem mex_of {l : Launch} {y : MethodName} {rm : Room} {code0 : ByteArray} {nL mc ms : Nat} {ret0 : Option FieldType} {own : String} {dC : Nat → ClassId} {dI : Nat → Nat → Nat} {cc : Nat → ClassId} {ak : Nat → Nat} {av : List Value} {w : va_W} {sz : Nat} {Q : (Nat → Prop) → Array Value → State → Outcome → State → Prop} {X : (Nat → Prop) → String → State → State → Prop}
    (hy : plainName y.cls = true) (ho : y.cls = own) (hn : (lg_sl av).length ≤ nL)
    (body : ∀ (p : Program) (e : Env) (s : State) (m : MethodId) (below : List Frame) (meth : Method) (c : Code) (A : Nat → Prop), CT p s m av.toArray meth c A dC dI cc ak code0 nL ret0 own → (∀ x ∈ c.exceptionTable.toList, False) → va_P (dC, dI) cLs w s.heap → va_D A w → va_S A s.heap s.heap [] → ∀ ls : Array Slot, lv_has ls nL (lv_args 0 av) → W p l e rm s m av.toArray below meth c s.heap [] 0 0 (vx_MQ below (Q A) (X A) av.toArray s mc ms A) (F0 m 0 ls [])) :
    vx_Met l y (Cond.code y code0 nL ret0 :: GW) rm (PI dC dI cc ak av w sz) (Q (va_A w sz)) (X (va_A w sz)) mc ms (va_A w sz) := by
  refine vx_ofW (cc := code0) (maxL := nL) (ret := ret0) hy rfl ?_
  intro p e s m args below meth c s₁ B hml hno hv
  obtain ⟨rfl, hsz, hP, hK, hD0, hE⟩ := hv
  subst hsz
  have hD := hD0.self (sz := s.heap.size)
  have hown : s.vm.findClass own = some m.cls := by rw [← ho]; exact findClass_of_methodNamed B.named
  have hts := atoms_spec (ws := Cond.code y code0 nL ret0 :: GW) B.pre
  have hl := lv_entry av (n := nL) hn
  rw [lg_entry_eq]
  exact body p e s m below meth c _ ⟨B.exec, B.bytes, hml, B.returns, B.notSynchronized, hown, fun w h => hts w (List.mem_cons_of_mem _ h), hK, fun q h => Or.inr h, hE⟩ hno hP hD va_S.rf _ hl
theorem at_N : ∀ w ∈ xAtV.filter goodWord, w ∈ lw_tbl := by decide +kernel
theorem at_I : ∀ w ∈ (vx_atS RX8 102 "java/lang/IllegalArgumentException" xup).filter goodWord, w ∈ lw_tbl := by decide +kernel
theorem ng_N : ∀ w ∈ xAtV.filter (fun w => !goodWord w), w ∈ [Cond.declares (Bundle.initS "java/lang/RuntimeException"), Cond.declares (Bundle.initS "java/lang/Exception"), Cond.declares (Bundle.initS "java/lang/Throwable"), Cond.castable "java/util/NoSuchElementException" "java/util/NoSuchElementException"] := by decide +kernel
theorem ng_I : ∀ w ∈ (vx_atS RX8 102 "java/lang/IllegalArgumentException" xup).filter (fun w => !goodWord w), w ∈ [Cond.declares (Bundle.initS "java/lang/RuntimeException"), Cond.declares (Bundle.initS "java/lang/Exception"), Cond.declares (Bundle.initS "java/lang/Throwable"), Cond.castable "java/lang/IllegalArgumentException" "java/lang/IllegalArgumentException"] := by decide +kernel
theorem ot_N : ∀ w ∈ Cond.classLink RX8 158 "java/util/NoSuchElementException" :: Cond.initialized "java/util/NoSuchElementException" :: xAtV, vx_ot w = true := by decide +kernel
theorem ot_I : ∀ w ∈ Cond.classLink RX8 98 "java/lang/IllegalArgumentException" :: Cond.initialized "java/lang/IllegalArgumentException" :: vx_atS RX8 102 "java/lang/IllegalArgumentException" xup, vx_ot w = true := by decide +kernel
theorem filt_GW {L : List Cond} (h : ∀ w ∈ L.filter goodWord, w ∈ lw_tbl) {args : Array Value} {s : State} (hG : ∀ w ∈ GW, w.before args s = true) : ∀ w ∈ L.filter goodWord, w.before args s = true := fun w hw => hG w (List.mem_filter.mpr ⟨h w hw, (List.mem_filter.mp hw).2⟩)
theorem hat_N {ak : Nat → Nat} {A : Nat → Prop} {args : Array Value} {s : State} {H : Heap} (hG : ∀ w ∈ GW, w.before args s = true) (hE : EX ak A s H) : ∀ w ∈ xAtV, w.before args s = true := by
  obtain ⟨-, -, -, -, -, -, h7, h8, -⟩ := hE
  exact vx_hat (filt_GW at_N hG) ng_N (vx_c ((h7 _ (by simp)).use rfl) (vx_c ((h7 _ (by simp)).use rfl) (vx_c ((h7 _ (by simp)).use rfl) (vx_c ((h8 _ (by simp)).use rfl) vx_n))))
theorem hat_I {ak : Nat → Nat} {A : Nat → Prop} {args : Array Value} {s : State} {H : Heap} (hG : ∀ w ∈ GW, w.before args s = true) (hE : EX ak A s H) : ∀ w ∈ vx_atS RX8 102 "java/lang/IllegalArgumentException" xup, w.before args s = true := by
  obtain ⟨-, -, -, -, -, -, h7, h8, -⟩ := hE
  exact vx_hat (filt_GW at_I hG) ng_I (vx_c ((h7 _ (by simp)).use rfl) (vx_c ((h7 _ (by simp)).use rfl) (vx_c ((h7 _ (by simp)).use rfl) (vx_c ((h8 _ (by simp)).use rfl) vx_n))))
section THROWS
variable {p : Program} {l : Launch} {e : Env} {R : Room} {s : State} {m : MethodId} {args : Array Value} {below : List Frame} {meth : Method} {c : Code} {H : Heap} {locs : List Loc} {Q : State → Prop} {A : Nat → Prop} {dC : Nat → ClassId} {dI : Nat → Nat → Nat} {cc : Nat → ClassId} {ak : Nat → Nat} {code0 : ByteArray} {nL : Nat} {ret0 : Option FieldType} {own : String} {y : MethodName} {bytes : ByteArray} {maxL n index : Nat} {ret : Option FieldType} {rm : Room} {pc : Nat} {ls : Array Slot} {rest As : List Value} {b : Nat} {w0 wc w1 wn wout : va_W} {cells slots mc ms mc1 ms1 : Nat} {Qc : Array Value → State → Outcome → State → Prop}
theorem thr_XC {α : Type} (hK : va_K (dC, dI) cLs (tyL cc) s) (hP : va_P (dC, dI) cLs w0 H) (hD : va_D A w0) (hS : va_S A s.heap H locs) {k : Sum Nat α} {i : Nat} (hk : k = .inl i) : ∀ t : State, s.vm.Alike t.vm → H.size ≤ t.heap.size → (∀ q : Nat, q < H.size → t.heap[q]? = H[q]?) → XB dC dI cc k w0 A (xcl i) s t :=
  fun t al h1 h2 => ⟨(), trivial, ⟨⟨i, hk, rfl⟩, fun j q hq => (hP j q hq).kept (h2 q.1 (hP j q hq).lt), va_K.moved al hK, hD⟩, ⟨Nat.le_trans hS.1 h1, fun q a b => (h2 q (Nat.lt_of_lt_of_le a hS.1)).trans (hS.2.1 q a b)⟩⟩
theorem fit_up : ∀ x ∈ xup, Bundle.fit x = true := by decide +kernel
theorem kcl_N : Cond.classLink RX8 158 "java/util/NoSuchElementException" ∈ GW := (gw_4 175 rfl rfl)
theorem kcl_I : Cond.classLink RX8 98 "java/lang/IllegalArgumentException" ∈ GW := (gw_3 141 rfl rfl)
theorem kin_N : Cond.initialized "java/util/NoSuchElementException" ∈ GW := (gw_1 23 rfl rfl)
theorem kin_I : Cond.initialized "java/lang/IllegalArgumentException" ∈ GW := (gw_1 16 rfl rfl)
theorem throwN {α : Type} (C0 : CT p s m args meth c A dC dI cc ak code0 nL ret0 RX8) (hno : ∀ x ∈ c.exceptionTable.toList, False) (hst : l.stackTraces = false) (hP : va_P (dC, dI) cLs w0 H) (hD : va_D A w0) (hS : va_S A s.heap H locs) (hls : ls.size = nL) {k : Sum Nat α} (hk : k = .inl 1) {is sa : Nat} {text : String} (hstr : vk_R RX8 is text sa s)
    (d0 : decode code0 pc = .ok (.new 158, 3)) (d3 : decode code0 (pc + 3) = .ok (.dup, 1)) (d4 : decode code0 (pc + 4) = .ok (.ldc is, 2)) (d6 : decode code0 (pc + 6) = .ok (.invokespecial 162, 3)) (d9 : decode code0 (pc + 9) = .ok (.athrow, 1)) (hRf : 5 < R.frames) (hRl : (rest.map fun v => v.category).sum + 82 ≤ R.locals) (hRc : cells + 1 ≤ R.cells) (hRs : slots + 6 ≤ R.slots) (hc : cells + 1 ≤ mc) (hs : slots + 6 ≤ ms) :
    W p l e R s m args below meth c H locs cells slots (vx_MQ below Qc (XB dC dI cc k w0 A) args s mc ms A) (F0 m pc ls rest) := by
  obtain ⟨hx, hb, hml, hr, hlocks, hown, hG, hK, hA, hE⟩ := C0
  exact x_throw hx hb hst hown (hG _ kcl_N) (hG _ kin_N) hstr (hat_N hG hE) ot_N hE.2.2.2.2.1 hE.2.2.2.2.2.1 hS (hls.trans hml.symm) d0 d3 d4 d6 d9 (fun x hx => (hno x hx).elim) hRf hRl hRc hRs hlocks (thr_XC hK hP hD hS hk) hS.2.2 hc hs
theorem throwNw {α : Type} (C0 : CT p s m args meth c A dC dI cc ak code0 nL ret0 RX8) (hno : ∀ x ∈ c.exceptionTable.toList, False) (hst : l.stackTraces = false) (hP : va_P (dC, dI) cLs w0 H) (hD : va_D A w0) (hS : va_S A s.heap H locs) (hls : ls.size = nL) {k : Sum Nat α} (hk : k = .inl 1) {is sa : Nat} {text : String} (hstr : vk_R RX8 is text sa s)
    (d0 : decode code0 pc = .ok (.new 158, 3)) (d3 : decode code0 (pc + 3) = .ok (.dup, 1)) (d4 : decode code0 (pc + 4) = .ok (.ldc_w is, 3)) (d7 : decode code0 (pc + 7) = .ok (.invokespecial 162, 3)) (d10 : decode code0 (pc + 10) = .ok (.athrow, 1)) (hRf : 5 < R.frames) (hRl : (rest.map fun v => v.category).sum + 82 ≤ R.locals) (hRc : cells + 1 ≤ R.cells) (hRs : slots + 6 ≤ R.slots) (hc : cells + 1 ≤ mc) (hs : slots + 6 ≤ ms) :
    W p l e R s m args below meth c H locs cells slots (vx_MQ below Qc (XB dC dI cc k w0 A) args s mc ms A) (F0 m pc ls rest) := by
  obtain ⟨hx, hb, hml, hr, hlocks, hown, hG, hK, hA, hE⟩ := C0
  exact x_throwW hx hb hst hown (hG _ kcl_N) (hG _ kin_N) hstr (hat_N hG hE) ot_N hE.2.2.2.2.1 hE.2.2.2.2.2.1 hS (hls.trans hml.symm) d0 d3 d4 d7 d10 (fun x hx => (hno x hx).elim) hRf hRl hRc hRs hlocks (thr_XC hK hP hD hS hk) hS.2.2 hc hs
theorem throwI {α : Type} (C0 : CT p s m args meth c A dC dI cc ak code0 nL ret0 RX8) (hno : ∀ x ∈ c.exceptionTable.toList, False) (hst : l.stackTraces = false) (hP : va_P (dC, dI) cLs w0 H) (hD : va_D A w0) (hS : va_S A s.heap H locs) (hls : ls.size = nL) {k : Sum Nat α} (hk : k = .inl 2) {is sa : Nat} {text : String} (hstr : vk_R RX8 is text sa s)
    (d0 : decode code0 pc = .ok (.new 98, 3)) (d3 : decode code0 (pc + 3) = .ok (.dup, 1)) (d4 : decode code0 (pc + 4) = .ok (.ldc is, 2)) (d6 : decode code0 (pc + 6) = .ok (.invokespecial 102, 3)) (d9 : decode code0 (pc + 9) = .ok (.athrow, 1)) (hRf : 5 < R.frames) (hRl : (rest.map fun v => v.category).sum + 82 ≤ R.locals) (hRc : cells + 1 ≤ R.cells) (hRs : slots + 6 ≤ R.slots) (hc : cells + 1 ≤ mc) (hs : slots + 6 ≤ ms) :
    W p l e R s m args below meth c H locs cells slots (vx_MQ below Qc (XB dC dI cc k w0 A) args s mc ms A) (F0 m pc ls rest) := by
  obtain ⟨hx, hb, hml, hr, hlocks, hown, hG, hK, hA, hE⟩ := C0
  exact vx_throwS hx hb hst hown (by decide +kernel) fit_up (hG _ kcl_I) (hG _ kin_I) hstr (hat_I hG hE) ot_I hE.2.2.2.2.1 hE.2.2.2.2.2.1 hS (hls.trans hml.symm) d0 d3 d4 d6 d9 (fun x hx => (hno x hx).elim) hRf hRl hRc hRs hlocks (thr_XC hK hP hD hS hk) hS.2.2 hc hs
theorem throwIw {α : Type} (C0 : CT p s m args meth c A dC dI cc ak code0 nL ret0 RX8) (hno : ∀ x ∈ c.exceptionTable.toList, False) (hst : l.stackTraces = false) (hP : va_P (dC, dI) cLs w0 H) (hD : va_D A w0) (hS : va_S A s.heap H locs) (hls : ls.size = nL) {k : Sum Nat α} (hk : k = .inl 2) {is sa : Nat} {text : String} (hstr : vk_R RX8 is text sa s)
    (d0 : decode code0 pc = .ok (.new 98, 3)) (d3 : decode code0 (pc + 3) = .ok (.dup, 1)) (d4 : decode code0 (pc + 4) = .ok (.ldc_w is, 3)) (d7 : decode code0 (pc + 7) = .ok (.invokespecial 102, 3)) (d10 : decode code0 (pc + 10) = .ok (.athrow, 1)) (hRf : 5 < R.frames) (hRl : (rest.map fun v => v.category).sum + 82 ≤ R.locals) (hRc : cells + 1 ≤ R.cells) (hRs : slots + 6 ≤ R.slots) (hc : cells + 1 ≤ mc) (hs : slots + 6 ≤ ms) :
    W p l e R s m args below meth c H locs cells slots (vx_MQ below Qc (XB dC dI cc k w0 A) args s mc ms A) (F0 m pc ls rest) := by
  obtain ⟨hx, hb, hml, hr, hlocks, hown, hG, hK, hA, hE⟩ := C0
  exact vx_throwSW hx hb hst hown (by decide +kernel) fit_up (hG _ kcl_I) (hG _ kin_I) hstr (hat_I hG hE) ot_I hE.2.2.2.2.1 hE.2.2.2.2.2.1 hS (hls.trans hml.symm) d0 d3 d4 d7 d10 (fun x hx => (hno x hx).elim) hRf hRl hRc hRs hlocks (thr_XC hK hP hD hS hk) hS.2.2 hc hs
theorem callXVv {α : Type} (C0 : CT p s m args meth c A dC dI cc ak code0 nL ret0 own) (hno : ∀ x ∈ c.exceptionTable.toList, False) (kv : KV y bytes maxL ret n) (hlk : Cond.methodLink own index y ∈ GW) (hP : va_P (dC, dI) cLs w0 H) (hD : va_D A w0) (hS : va_S A s.heap H locs) {k1 : Sum Nat Unit}
    (hM : vx_Met l y (Cond.code y bytes maxL ret :: GW) rm (PI dC dI cc ak (.ref b :: As) wc H.size) (QVx dC dI cc k1 w1 (va_A wc H.size)) (XB dC dI cc k1 w1 (va_A wc H.size)) mc1 ms1 (va_A wc H.size))
    (hrm : rm.cells = mc1 ∧ rm.slots = ms1) (hR : rm.frames + 1 ≤ R.frames ∧ 8 + (maxL + 11) + rm.locals ≤ R.locals) (isC isR pm : List Nat) {wr : va_W} (hC : isC.map (fun i => w0[i]?) = wc.map some) (hRr : isR.map (fun i => w0[i]?) = wr.map some) (hok : plOk isC isR pm = true) (hN : pm.map (fun i => (wr ++ w1)[i]?) = wn.map some)
    (hrv : ∃ cell : Cell, H[b]? = some cell ∧ cell.vm.isStatics = false ∧ s.vm.findClass y.cls = some cell.cls) {st : List Value} (hst : st = As.reverse ++ .ref b :: rest) (hls : ls.size = nL) (hAs : As.length = n) (hroom : (rest.map fun v => v.category).sum ≤ 8) (hcs : cells + mc1 ≤ R.cells ∧ slots + ms1 ≤ R.slots) (hdg : decode code0 pc = .ok (.invokevirtual index, 3))
    {kout : Sum Nat α} (hmc : cells + mc1 ≤ mc ∧ slots + ms1 ≤ ms) (kx : ∀ i, k1 = .inl i → kout = .inl i ∧ wout = wn)
    (kk : k1 = .inr () → ∀ (H1 : Heap) (locs1 : List Loc), va_P (dC, dI) cLs wn H1 → va_D A wn → va_S A s.heap H1 locs1 → W p l e R s m args below meth c H1 locs1 (cells + mc1) (slots + ms1) (vx_MQ below Qc (XB dC dI cc kout wout A) args s mc ms A) (F0 m (pc + 3) ls rest)) : W p l e R s m args below meth c H locs cells slots (vx_MQ below Qc (XB dC dI cc kout wout A) args s mc ms A) (F0 m pc ls st) := by
  obtain ⟨hx, hb, hml, -, hlocks, hown, hG, hK, hA, hE⟩ := C0
  obtain ⟨v1, v2, v3, v4, v5⟩ := kv
  have hPc := hP.sub (ws' := wc) isC (fm_of hC)
  have hDc := hD.sub (ws' := wc) isC (plOk_C hok) hC
  have hFc := va_free (wc := wc) hD hS hA isC hC
  refine vx_callv (vx_runV (As := As) (rest := rest) ⟨hx, hb, hml, hown, hG⟩ hM (cwV n hG (gw_V hlk v1 v2 v3 v4) rfl hrm.1 hrm.2 ⟨rfl, v5⟩ hR) ⟨PI_blind, hrv, fun U hU hW => ⟨rfl, by rw [hU], by rw [hU]; exact hPc, va_K.moved hW.alike hK, hDc.weaken (fun _ _ _ _ => trivial), hE.next hS hFc hU hW⟩⟩ rfl hAs hls hst (lv_room hroom) hdg hcs) hS (fun q _ h => hFc q h) hFc (fun q _ h => hFc q h) (fun E ce q9 u t H1 locs1 ht hvm hp hB hz1 hk1 hS1 hce hcv hcl => ?_) (fun u t H1 locs1 ht hvm hw hB hz1 hk1 hS1 => ?_)
  · obtain ⟨⟨i, hi, rfl⟩, hP1, -, hD1⟩ := hB
    rw [ht] at hP1
    obtain ⟨hPn, hDn⟩ := back_w hP hD isC isR pm hC hRr hok hk1 hFc hP1 hD1 hN
    obtain ⟨e1, e2⟩ := kx i hi
    subst e2
    exact vx_out (fun x hx => (hno x hx).elim) hlocks hce hcv hcl (fun t2 ht2 al2 => ⟨(), trivial, ⟨⟨i, e1, rfl⟩, by rw [ht2]; exact hPn, va_K.moved al2 hK, hDn⟩, hS1.F ht2⟩) hS1.2.2 hmc.1 hmc.2
  · obtain ⟨hP1, -, hD1⟩ := hB
    rw [ht] at hP1
    obtain ⟨hPn, hDn⟩ := back_w hP hD isC isR pm hC hRr hok hk1 hFc hP1 hD1 hN
    exact kk hw H1 locs1 hPn hDn hS1
theorem callXSv {α : Type} (C0 : CT p s m args meth c A dC dI cc ak code0 nL ret0 own) (hno : ∀ x ∈ c.exceptionTable.toList, False) (kv : KS y bytes maxL ret n) (hlk : Cond.methodLink own index y ∈ GW) (hP : va_P (dC, dI) cLs w0 H) (hD : va_D A w0) (hS : va_S A s.heap H locs) {k1 : Sum Nat Unit}
    (hM : vx_Met l y (Cond.code y bytes maxL ret :: GW) rm (PI dC dI cc ak As wc H.size) (QVx dC dI cc k1 w1 (va_A wc H.size)) (XB dC dI cc k1 w1 (va_A wc H.size)) mc1 ms1 (va_A wc H.size))
    (hrm : rm.cells = mc1 ∧ rm.slots = ms1) (hR : rm.frames + 1 ≤ R.frames ∧ 8 + (maxL + 11) + rm.locals ≤ R.locals) (isC isR pm : List Nat) {wr : va_W} (hC : isC.map (fun i => w0[i]?) = wc.map some) (hRr : isR.map (fun i => w0[i]?) = wr.map some) (hok : plOk isC isR pm = true) (hN : pm.map (fun i => (wr ++ w1)[i]?) = wn.map some)
    {st : List Value} (hst : st = As.reverse ++ rest) (hls : ls.size = nL) (hAs : As.length = n) (hroom : (rest.map fun v => v.category).sum ≤ 8) (hcs : cells + mc1 ≤ R.cells ∧ slots + ms1 ≤ R.slots) (hdg : decode code0 pc = .ok (.invokestatic index, 3))
    {kout : Sum Nat α} (hmc : cells + mc1 ≤ mc ∧ slots + ms1 ≤ ms) (kx : ∀ i, k1 = .inl i → kout = .inl i ∧ wout = wn)
    (kk : k1 = .inr () → ∀ (H1 : Heap) (locs1 : List Loc), va_P (dC, dI) cLs wn H1 → va_D A wn → va_S A s.heap H1 locs1 → W p l e R s m args below meth c H1 locs1 (cells + mc1) (slots + ms1) (vx_MQ below Qc (XB dC dI cc kout wout A) args s mc ms A) (F0 m (pc + 3) ls rest)) : W p l e R s m args below meth c H locs cells slots (vx_MQ below Qc (XB dC dI cc kout wout A) args s mc ms A) (F0 m pc ls st) := by
  obtain ⟨hx, hb, hml, -, hlocks, hown, hG, hK, hA, hE⟩ := C0
  obtain ⟨v1, v3, v4, v5⟩ := kv
  have hPc := hP.sub (ws' := wc) isC (fm_of hC)
  have hDc := hD.sub (ws' := wc) isC (plOk_C hok) hC
  have hFc := va_free (wc := wc) hD hS hA isC hC
  refine vx_callv (vx_runS (As := As) (rest := rest) ⟨hx, hb, hml, hown, hG⟩ hM (va_cwS n hG (gw_S hlk v1 v3 v4) rfl hrm.1 hrm.2 v5 hR) ⟨PI_blind, fun U hU hW => ⟨rfl, by rw [hU], by rw [hU]; exact hPc, va_K.moved hW.alike hK, hDc.weaken (fun _ _ _ _ => trivial), hE.next hS hFc hU hW⟩⟩ rfl hAs hls hst (lv_room hroom) hdg hcs) hS (fun q _ h => hFc q h) hFc (fun q _ h => hFc q h) (fun E ce q9 u t H1 locs1 ht hvm hp hB hz1 hk1 hS1 hce hcv hcl => ?_) (fun u t H1 locs1 ht hvm hw hB hz1 hk1 hS1 => ?_)
  · obtain ⟨⟨i, hi, rfl⟩, hP1, -, hD1⟩ := hB
    rw [ht] at hP1
    obtain ⟨hPn, hDn⟩ := back_w hP hD isC isR pm hC hRr hok hk1 hFc hP1 hD1 hN
    obtain ⟨e1, e2⟩ := kx i hi
    subst e2
    exact vx_out (fun x hx => (hno x hx).elim) hlocks hce hcv hcl (fun t2 ht2 al2 => ⟨(), trivial, ⟨⟨i, e1, rfl⟩, by rw [ht2]; exact hPn, va_K.moved al2 hK, hDn⟩, hS1.F ht2⟩) hS1.2.2 hmc.1 hmc.2
  · obtain ⟨hP1, -, hD1⟩ := hB
    rw [ht] at hP1
    obtain ⟨hPn, hDn⟩ := back_w hP hD isC isR pm hC hRr hok hk1 hFc hP1 hD1 hN
    exact kk hw H1 locs1 hPn hDn hS1
-- returns of methods that may throw
theorem retIx (C0 : CT p s m args meth c A dC dI cc ak code0 nL (some .int) own) {v : Int32} {k : Sum Nat Int32} {XC : String → State → State → Prop} (hP : va_P (dC, dI) cLs w1 H) (hD : va_D A w1) (hS : va_S A s.heap H locs) (hv : k = .inr v) (hdg : decode code0 pc = .ok (.ireturn, 1)) : W p l e R s m args below meth c H locs cells slots (vx_MQ below (QIx dC dI cc k w1 A) XC args s cells slots A) (F0 m pc ls [.int v]) := by
  obtain ⟨hx, hb, hml, hr, hlocks, hown, hG, hK, hA, hE⟩ := C0
  exact vx_ret (W.iret (v := v) hx hb hr (fun t ht hW => ⟨⟨v, (), rfl, hv, by rw [ht]; exact hP, va_K.moved hW.alike hK, hD⟩, hS.F ht⟩) hS.2.2 hdg)
theorem retVx (C0 : CT p s m args meth c A dC dI cc ak code0 nL none own) {k : Sum Nat Unit} {XC : String → State → State → Prop} (hP : va_P (dC, dI) cLs w1 H) (hD : va_D A w1) (hS : va_S A s.heap H locs) (hv : k = .inr ()) (hdg : decode code0 pc = .ok (.return_, 1)) : W p l e R s m args below meth c H locs cells slots (vx_MQ below (QVx dC dI cc k w1 A) XC args s cells slots A) (F0 m pc ls []) := by
  obtain ⟨hx, hb, hml, hr, hlocks, hown, hG, hK, hA, hE⟩ := C0
  exact vx_ret (W.vret hx hb hr (fun t ht hW => ⟨⟨(), rfl, hv, by rw [ht]; exact hP, va_K.moved hW.alike hK, hD⟩, hS.F ht⟩) hS.2.2 hdg)
end THROWS
