/-! ===== my own base, fourth part: methods that catch (the law's wrappers) ===== -/
theorem met_ofH {l : Launch} {y : MethodName} {rm : Room} {code0 : ByteArray} {nL mc ms : Nat} {ret0 : Option FieldType} {own : String} {hh : List (Nat × Nat × Nat × Nat)} {dC : Nat → ClassId} {dI : Nat → Nat → Nat} {cc : Nat → ClassId} {ak : Nat → Nat} {av : List Value} {w : va_W} {sz : Nat} {Q : (Nat → Prop) → Array Value → State → Outcome → State → Prop}
    (hy : plainName y.cls = true) (ho : y.cls = own) (hn : (lg_sl av).length ≤ nL)
    (body : ∀ (p : Program) (e : Env) (s : State) (m : MethodId) (below : List Frame) (meth : Method) (c : Code) (A : Nat → Prop), CT p s m av.toArray meth c A dC dI cc ak code0 nL ret0 own → c.exceptionTable.toList = tableOf hh → va_P (dC, dI) cLs w s.heap → va_D A w → va_S A s.heap s.heap [] → ∀ ls : Array Slot, lv_has ls nL (lv_args 0 av) → W p l e rm s m av.toArray below meth c s.heap [] 0 0 (MQ below (Q A) av.toArray s mc ms A) (F0 m 0 ls [])) :
    Met l y (Cond.codeWith y code0 nL ret0 hh :: GW) rm (PI dC dI cc ak av w sz) (Q (va_A w sz)) mc ms (va_A w sz) := by
  refine va_MetW (cc := code0) (maxL := nL) (ret := ret0) (hh := hh) hy rfl ?_
  intro p e s m args below meth c s₁ B hml hv
  obtain ⟨rfl, hsz, hP, hK, hD0, hE⟩ := hv
  subst hsz
  have hD := hD0.self (sz := s.heap.size)
  have hown : s.vm.findClass own = some m.cls := by rw [← ho]; exact findClass_of_methodNamed B.named
  have hts := atoms_spec (ws := Cond.codeWith y code0 nL ret0 hh :: GW) B.pre
  have htab := vx_table (x := y) B (hts _ List.mem_cons_self)
  have hl := lv_entry av (n := nL) hn
  rw [lg_entry_eq]
  exact body p e s m below meth c _ ⟨B.exec, B.bytes, hml, B.returns, B.notSynchronized, hown, fun w h => hts w (List.mem_cons_of_mem _ h), hK, fun q h => Or.inr h, hE⟩ htab hP hD va_S.rf _ hl
section CATCH
variable {p : Program} {l : Launch} {e : Env} {R : Room} {s : State} {m : MethodId} {args : Array Value} {below : List Frame} {meth : Method} {c : Code} {H : Heap} {locs : List Loc} {Q : State → Prop} {A : Nat → Prop} {dC : Nat → ClassId} {dI : Nat → Nat → Nat} {cc : Nat → ClassId} {ak : Nat → Nat} {code0 : ByteArray} {nL : Nat} {ret0 : Option FieldType} {own : String} {y : MethodName} {bytes : ByteArray} {maxL n index : Nat} {ret : Option FieldType} {rm : Room} {pc : Nat} {ls : Array Slot} {rest As : List Value} {b : Nat} {w0 wc w1 wn : va_W} {cells slots mc1 ms1 : Nat}
theorem callCx (C0 : CT p s m args meth c A dC dI cc ak code0 nL ret0 own) (kv : KV y bytes maxL ret n) (hlk : Cond.methodLink own index y ∈ GW) (hP : va_P (dC, dI) cLs w0 H) (hD : va_D A w0) (hS : va_S A s.heap H locs) {k1 : Sum Nat Int32}
    (hM : vx_Met l y (Cond.code y bytes maxL ret :: GW) rm (PI dC dI cc ak (.ref b :: As) wc H.size) (QIx dC dI cc k1 w1 (va_A wc H.size)) (XB dC dI cc k1 w1 (va_A wc H.size)) mc1 ms1 (va_A wc H.size))
    (hrm : rm.cells = mc1 ∧ rm.slots = ms1) (hR : rm.frames + 1 ≤ R.frames ∧ 8 + (maxL + 11) + rm.locals ≤ R.locals) (isC isR pm : List Nat) {wr : va_W} (hC : isC.map (fun i => w0[i]?) = wc.map some) (hRr : isR.map (fun i => w0[i]?) = wr.map some) (hok : plOk isC isR pm = true) (hN : pm.map (fun i => (wr ++ w1)[i]?) = wn.map some)
    (hrv : ∃ cell : Cell, H[b]? = some cell ∧ cell.vm.isStatics = false ∧ s.vm.findClass y.cls = some cell.cls) {st : List Value} (hst : st = As.reverse ++ .ref b :: rest) (hls : ls.size = nL) (hAs : As.length = n) (hroom : (rest.map fun v => v.category).sum ≤ 8) (hcs : cells + mc1 ≤ R.cells ∧ slots + ms1 ≤ R.slots) (hdg : decode code0 pc = .ok (.invokevirtual index, 3))
    (kx : ∀ (i : Nat), k1 = .inl i → ∀ (q9 : Addr) (ce : Cell) (H1 : Heap) (locs1 : List Loc), va_P (dC, dI) cLs wn H1 → va_D A wn → va_S A s.heap H1 locs1 → H1[q9]? = some ce → ce.vm = .none → s.vm.findClass (xcl i) = some ce.cls → vx_W p l e R s m args below meth c H1 locs1 (cells + mc1) (slots + ms1) Q (F0 m pc ls rest) q9)
    (kk : ∀ (r : Int32), k1 = .inr r → ∀ (H1 : Heap) (locs1 : List Loc), va_P (dC, dI) cLs wn H1 → va_D A wn → va_S A s.heap H1 locs1 → W p l e R s m args below meth c H1 locs1 (cells + mc1) (slots + ms1) Q (F0 m (pc + 3) ls (.int r :: rest))) : W p l e R s m args below meth c H locs cells slots Q (F0 m pc ls st) := by
  obtain ⟨hx, hb, hml, -, hlocks, hown, hG, hK, hA, hE⟩ := C0
  obtain ⟨v1, v2, v3, v4, v5⟩ := kv
  have hPc := hP.sub (ws' := wc) isC (fm_of hC)
  have hDc := hD.sub (ws' := wc) isC (plOk_C hok) hC
  have hFc := va_free (wc := wc) hD hS hA isC hC
  refine vx_calli (vx_runV (As := As) (rest := rest) ⟨hx, hb, hml, hown, hG⟩ hM (cwV n hG (gw_V hlk v1 v2 v3 v4) rfl hrm.1 hrm.2 ⟨rfl, v5⟩ hR) ⟨PI_blind, hrv, fun U hU hW => ⟨rfl, by rw [hU], by rw [hU]; exact hPc, va_K.moved hW.alike hK, hDc.weaken (fun _ _ _ _ => trivial), hE.next hS hFc hU hW⟩⟩ rfl hAs hls hst (lv_room hroom) hdg hcs) hS (fun q _ h => hFc q h) hFc (fun q _ h => hFc q h) (fun E ce q9 u t H1 locs1 ht hvm hp hB hz1 hk1 hS1 hce hcv hcl => ?_) (fun r u t H1 locs1 ht hvm hw hB hz1 hk1 hS1 => ?_)
  · obtain ⟨⟨i, hi, rfl⟩, hP1, -, hD1⟩ := hB
    rw [ht] at hP1
    obtain ⟨hPn, hDn⟩ := back_w hP hD isC isR pm hC hRr hok hk1 hFc hP1 hD1 hN
    exact kx i hi q9 ce H1 locs1 hPn hDn hS1 hce hcv hcl
  · obtain ⟨hP1, -, hD1⟩ := hB
    rw [ht] at hP1
    obtain ⟨hPn, hDn⟩ := back_w hP hD isC isR pm hC hRr hok hk1 hFc hP1 hD1 hN
    exact kk r hw H1 locs1 hPn hDn hS1
theorem catch1 (C0 : CT p s m args meth c A dC dI cc ak code0 nL ret0 RL) {a b h ct i : Nat} {E : String} (htab : c.exceptionTable.toList = [⟨a, b, h, ct⟩]) (hc : covers (⟨a, b, h, ct⟩ : ExceptionTableEntry) pc = true) (h0 : ct ≠ 0) (hlk : Cond.classLink RL ct E ∈ GW) (hE : xcl i = E) (hcast : va_Nw (.castable E E) s) {q9 : Addr} {ce : Cell} (hce : H[q9]? = some ce) (hcv : ce.vm = .none) (hcl : s.vm.findClass (xcl i) = some ce.cls)
    (kk : W p l e R s m args below meth c H locs cells slots Q (F0 m h ls [.ref q9])) : vx_W p l e R s m args below meth c H locs cells slots Q (F0 m pc ls rest) q9 := by
  obtain ⟨hx, hb, hml, -, hlocks, hown, hG, hK, hA, -⟩ := C0
  subst hE
  exact vx_catch hown [] ⟨a, b, h, ct⟩ [] htab (fun z hz => nomatch hz) hc h0 (hG _ hlk) (hcast.use rfl) hce hcv hcl kk
theorem catch2 (C0 : CT p s m args meth c A dC dI cc ak code0 nL ret0 RL) {a b h ct a2 b2 h2 ct2 i : Nat} {E E2 : String} (htab : c.exceptionTable.toList = [⟨a, b, h, ct⟩, ⟨a2, b2, h2, ct2⟩]) (h0 : ct ≠ 0) (hlk : Cond.classLink RL ct E ∈ GW) (hc2 : covers (⟨a2, b2, h2, ct2⟩ : ExceptionTableEntry) pc = true) (h02 : ct2 ≠ 0) (hlk2 : Cond.classLink RL ct2 E2 ∈ GW) (hE : xcl i = E2) (hnc : va_Nc E2 E s) (hcast : va_Nw (.castable E2 E2) s) {q9 : Addr} {ce : Cell} (hce : H[q9]? = some ce) (hcv : ce.vm = .none) (hcl : s.vm.findClass (xcl i) = some ce.cls)
    (kk : W p l e R s m args below meth c H locs cells slots Q (F0 m h2 ls [.ref q9])) : vx_W p l e R s m args below meth c H locs cells slots Q (F0 m pc ls rest) q9 := by
  obtain ⟨hx, hb, hml, -, hlocks, hown, hG, hK, hA, -⟩ := C0
  subst hE
  exact vx_catch hown [⟨a, b, h, ct⟩] ⟨a2, b2, h2, ct2⟩ [] htab (fun z hz => by
    rcases List.mem_singleton.mp hz with rfl
    exact Or.inr ⟨h0, E, hG _ hlk, hnc⟩) hc2 h02 (hG _ hlk2) (hcast.use rfl) hce hcv hcl kk
theorem catch1of2 (C0 : CT p s m args meth c A dC dI cc ak code0 nL ret0 RL) {a b h ct i : Nat} {E : String} {suf : List ExceptionTableEntry} (htab : c.exceptionTable.toList = ⟨a, b, h, ct⟩ :: suf) (hc : covers (⟨a, b, h, ct⟩ : ExceptionTableEntry) pc = true) (h0 : ct ≠ 0) (hlk : Cond.classLink RL ct E ∈ GW) (hE : xcl i = E) (hcast : va_Nw (.castable E E) s) {q9 : Addr} {ce : Cell} (hce : H[q9]? = some ce) (hcv : ce.vm = .none) (hcl : s.vm.findClass (xcl i) = some ce.cls)
    (kk : W p l e R s m args below meth c H locs cells slots Q (F0 m h ls [.ref q9])) : vx_W p l e R s m args below meth c H locs cells slots Q (F0 m pc ls rest) q9 := by
  obtain ⟨hx, hb, hml, -, hlocks, hown, hG, hK, hA, -⟩ := C0
  subst hE
  exact vx_catch hown [] ⟨a, b, h, ct⟩ suf htab (fun z hz => nomatch hz) hc h0 (hG _ hlk) (hcast.use rfl) hce hcv hcl kk
def KW (y : MethodName) (bytes : ByteArray) (maxL : Nat) (ret : Option FieldType) (hh : List (Nat × Nat × Nat × Nat)) (n : Nat) : Prop := Cond.static y ∈ GW ∧ Cond.initialized y.cls ∈ GW ∧ Cond.codeWith y bytes maxL ret hh ∈ GW ∧ (y.cls ≠ "java/lang/invoke/MethodHandle" ∧ y.cls ≠ "java/lang/invoke/VarHandle" ∧ (parseMethodDescriptor y.desc).map (fun d => d.parameters.length) = some n)
/-- a static call of a wrapper -/
theorem callWi {hh : List (Nat × Nat × Nat × Nat)} (C0 : CT p s m args meth c A dC dI cc ak code0 nL ret0 own) (kv : KW y bytes maxL ret hh n) (hlk : Cond.methodLink own index y ∈ GW) (hP : va_P (dC, dI) cLs w0 H) (hD : va_D A w0) (hS : va_S A s.heap H locs) {r0 : Int32}
    (hM : Met l y (Cond.codeWith y bytes maxL ret hh :: GW) rm (PI dC dI cc ak As wc H.size) (QI dC dI cc r0 w1 (va_A wc H.size)) mc1 ms1 (va_A wc H.size))
    (hrm : rm.cells = mc1 ∧ rm.slots = ms1) (hR : rm.frames + 1 ≤ R.frames ∧ 8 + (maxL + 11) + rm.locals ≤ R.locals) (isC isR pm : List Nat) {wr : va_W} (hC : isC.map (fun i => w0[i]?) = wc.map some) (hRr : isR.map (fun i => w0[i]?) = wr.map some) (hok : plOk isC isR pm = true) (hN : pm.map (fun i => (wr ++ w1)[i]?) = wn.map some)
    {st : List Value} (hst : st = As.reverse ++ rest) (hls : ls.size = nL) (hAs : As.length = n) (hroom : (rest.map fun v => v.category).sum ≤ 8) (hcs : cells + mc1 ≤ R.cells ∧ slots + ms1 ≤ R.slots) (hdg : decode code0 pc = .ok (.invokestatic index, 3))
    (kk : ∀ (H1 : Heap) (locs1 : List Loc), va_P (dC, dI) cLs wn H1 → va_D A wn → va_S A s.heap H1 locs1 → W p l e R s m args below meth c H1 locs1 (cells + mc1) (slots + ms1) Q (F0 m (pc + 3) ls (.int r0 :: rest))) : W p l e R s m args below meth c H locs cells slots Q (F0 m pc ls st) := by
  obtain ⟨hx, hb, hml, -, -, hown, hG, hK, hA, hE⟩ := C0
  obtain ⟨v1, v3, v4, v5⟩ := kv
  have hPc := hP.sub (ws' := wc) isC (fm_of hC)
  have hDc := hD.sub (ws' := wc) isC (plOk_C hok) hC
  have hFc := va_free (wc := wc) hD hS hA isC hC
  refine va_calli (vx_runSW (As := As) (rest := rest) ⟨hx, hb, hml, hown, hG⟩ hM (vx_cwSW n hG (gw_S hlk v1 v3 v4) rfl hrm.1 hrm.2 v5 hR) ⟨PI_blind, fun U hU hW => ⟨rfl, by rw [hU], by rw [hU]; exact hPc, va_K.moved hW.alike hK, hDc.weaken (fun _ _ _ _ => trivial), hE.next hS hFc hU hW⟩⟩ rfl hAs hls hst (lv_room hroom) hdg hcs) hS (fun q _ h => hFc q h) hFc (fun r u t H1 locs1 ht hvm hw hB hz1 hk1 hS1 => ?_)
  obtain ⟨hP1, -, hD1⟩ := hB
  rw [ht] at hP1
  subst hw
  obtain ⟨hPn, hDn⟩ := back_w hP hD isC isR pm hC hRr hok hk1 hFc hP1 hD1 hN
  exact kk H1 locs1 hPn hDn hS1
end CATCH
