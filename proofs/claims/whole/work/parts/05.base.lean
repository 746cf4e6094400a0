/-! ===== my own base: one list of words, contracts over cells, calls in one row ===== -/
abbrev cLs : List vw_C := [(RX0, TX0, 7), (RX1, TX1, 16), (RX2, TX2, 3), (RX3, TX3, 4), (RX4, TX4, 6), (RX5, TX5, 16), (RX6, TX6, 5), (RX7, TX7, 9), (RX8, TX8, 13), (RX9, TX9, 63)]
abbrev tyL (cc : Nat → ClassId) : List (ClassId × FieldType) := [(cc 0, .int), (cc 1, .byte), (cc 2, .long), (cc 3, .object "java/lang/String")]
-- words
def GW : List Cond := lw_tbl.filter goodWord
theorem inGW {w : Cond} (i : Nat) (h : lw_tbl[i]? = some w) (hg : goodWord w = true) : w ∈ GW := List.mem_filter.mpr ⟨List.mem_of_getElem? h, hg⟩
theorem GW_tbl {w : Cond} (h : w ∈ GW) : w ∈ lw_tbl := (List.mem_filter.mp h).1
theorem GW_ok {w : Cond} (h : w ∈ GW) : w ∈ GW ∧ ((w.onTables && w.keeps) = true ∨ ∃ ty, w = .arrayClass ty) := ⟨h, good_of_word (List.mem_filter.mp h).2⟩
theorem GW_all {ws : List Cond} (h : ∀ w ∈ ws, w ∈ GW) : GoodIn GW ws := fun w hw => GW_ok (h w hw)
theorem GW_cons {c : Cond} (hc : c ∈ GW) : ∀ w ∈ c :: GW, w ∈ GW := fun w h => (List.mem_cons.mp h).elim (fun e => e ▸ hc) id
/-- what a call of an own method needs of the tables, but for the link -/
def KV (y : MethodName) (bytes : ByteArray) (maxL : Nat) (ret : Option FieldType) (n : Nat) : Prop := Cond.instanceMethod y ∈ GW ∧ Cond.selects y.cls y y ∈ GW ∧ Cond.initialized y.cls ∈ GW ∧ Cond.code y bytes maxL ret ∈ GW ∧ (y.cls ≠ "java/lang/invoke/MethodHandle" ∧ y.cls ≠ "java/lang/invoke/VarHandle" ∧ (parseMethodDescriptor y.desc).map (fun d => d.parameters.length) = some n)
def KS (y : MethodName) (bytes : ByteArray) (maxL : Nat) (ret : Option FieldType) (n : Nat) : Prop := Cond.static y ∈ GW ∧ Cond.initialized y.cls ∈ GW ∧ Cond.code y bytes maxL ret ∈ GW ∧ (y.cls ≠ "java/lang/invoke/MethodHandle" ∧ y.cls ≠ "java/lang/invoke/VarHandle" ∧ (parseMethodDescriptor y.desc).map (fun d => d.parameters.length) = some n)
theorem gw_V {own : String} {idx : Nat} {y : MethodName} {c : Cond} (hl : Cond.methodLink own idx y ∈ GW) (h1 : Cond.instanceMethod y ∈ GW) (h2 : Cond.selects y.cls y y ∈ GW) (h3 : Cond.initialized y.cls ∈ GW) (hc : c ∈ GW) : GoodIn GW (wsV own idx y.cls y (c :: GW)) := GW_all (fun w h => by
  unfold wsV at h
  rcases List.mem_append.mp h with h | h
  · simp only [List.mem_cons, List.not_mem_nil, or_false] at h
    rcases h with rfl | rfl | rfl | rfl <;> assumption
  · exact GW_cons hc w h)
theorem gw_S {own : String} {idx : Nat} {y : MethodName} {c : Cond} (hl : Cond.methodLink own idx y ∈ GW) (h1 : Cond.static y ∈ GW) (h3 : Cond.initialized y.cls ∈ GW) (hc : c ∈ GW) : GoodIn GW (va_wsS own idx y (c :: GW)) := GW_all (fun w h => by
  unfold va_wsS at h
  rcases List.mem_append.mp h with h | h
  · simp only [List.mem_cons, List.not_mem_nil, or_false] at h
    rcases h with rfl | rfl | rfl <;> assumption
  · exact GW_cons hc w h)
-- pure
def ck {α : Type} (b : Bool) (x : Option α) : Option α := if b = true then x else none
theorem ck_some {α : Type} {b : Bool} {x : Option α} {y : α} (h : ck b x = some y) : b = true ∧ x = some y := by
  unfold ck at h
  by_cases hb : b = true
  · rw [if_pos hb] at h; exact ⟨hb, h⟩
  · rw [if_neg hb] at h; cases h
theorem ck_t {α : Type} {b : Bool} {x : Option α} (h : b = true) : ck b x = x := by unfold ck; rw [if_pos h]
theorem bd_some {α β : Type} {x : Option α} {g : α → Option β} {y : β} (h : x.bind g = some y) : ∃ v, x = some v ∧ g v = some y := by
  cases x with
  | none => cases h
  | some v => exact ⟨v, rfl, h⟩
theorem ck_el {α : Type} {P : Prop} {b : Bool} {x : Option α} {y : α} (h : ck b x = some y) (k : b = true → x = some y → P) : P := k (ck_some h).1 (ck_some h).2
theorem bd_el {α β : Type} {P : Prop} {x : Option α} {g : α → Option β} {y : β} (h : x.bind g = some y) (k : ∀ v, x = some v → g v = some y → P) : P := (bd_some h).elim (fun v q => k v q.1 q.2)
theorem ift {α : Type} {c : Prop} {d : Decidable c} {a b x : α} (h : c) (e : @ite α c d a b = x) : a = x := (if_pos h).symm.trans e
theorem iff_ {α : Type} {c : Prop} {d : Decidable c} {a b x : α} (h : ¬ c) (e : @ite α c d a b = x) : b = x := (if_neg h).symm.trans e
def inb (i : Int32) (n : Nat) : Bool := decide (¬ (i < 0 ∨ n ≤ i.toNatClampNeg))
theorem inb_in {i : Int32} {n : Nat} (h : inb i n = true) : vp_in i n := by unfold inb at h; unfold vp_in; exact of_decide_eq_true h
def nz (x : Int32) : Bool := decide (¬ x = 0)
theorem nz_ne {x : Int32} (h : nz x = true) : ¬ x = 0 := of_decide_eq_true h
def isb (x : Int32) : Bool := decide (x = 0 ∨ x = 1)
theorem isb_n {x : Int32} (h : isb x = true) : narrow .boolean (.int x) = .int x := by rcases of_decide_eq_true h with rfl | rfl <;> rfl
theorem isb_f {x : Int32} (h : isb x = true) : fits .boolean (.int x) = true := by rcases of_decide_eq_true h with rfl | rfl <;> decide
/-- System.arraycopy between rows of ints: what must hold of its numbers -/
def cpb (sp dp n : Int32) (n0 n1 : Nat) : Bool := decide (¬ sp < 0 ∧ ¬ dp < 0 ∧ ¬ n < 0 ∧ sp.toNatClampNeg + n.toNatClampNeg ≤ n0 ∧ dp.toNatClampNeg + n.toNatClampNeg ≤ n1)
theorem cpb_ok {sp dp n : Int32} {n0 n1 : Nat} (h : cpb sp dp n n0 n1 = true) : ¬ sp < 0 ∧ ¬ dp < 0 ∧ ¬ n < 0 ∧ sp.toNatClampNeg + n.toNatClampNeg ≤ n0 ∧ dp.toNatClampNeg + n.toNatClampNeg ≤ n1 := of_decide_eq_true h
def ischr (x : Int32) : Bool := decide ((x.toUInt32 % 65536).toInt32 = x)
theorem ischr_n {x : Int32} (h : ischr x = true) : narrow .char (.int x) = .int x := by
  have e : (x.toUInt32 % 65536).toInt32 = x := of_decide_eq_true h
  rw [← e]
  exact pk_nc x
def isbyt (x : Int32) : Bool := decide (x.toInt8.toInt32 = x)
theorem isbyt_n {x : Int32} (h : isbyt x = true) : narrow .byte (.int x) = .int x := by
  have e : x.toInt8.toInt32 = x := of_decide_eq_true h
  rw [← e]
  exact pk_nb x
def i33 (i : Nat) : Bool := decide (i < 33)
theorem i33_lt {i : Nat} (h : i33 i = true) : i < 33 := of_decide_eq_true h
def FU : Nat := 5000
theorem tb_out {x : Int32} {lo hi : Int} (h : ∀ k : Int, lo ≤ k → k ≤ hi → x.toInt ≠ k) : x.toInt < lo ∨ hi < x.toInt := by
  rcases Int.lt_or_le x.toInt lo with a | a
  · exact Or.inl a
  · rcases Int.lt_or_le hi x.toInt with b | b
    · exact Or.inr b
    · exact absurd rfl (h _ a b)
theorem tb_ne {x k : Int32} {z : Int} (h : ¬ x = k) (hk : k.toInt = z) : x.toInt ≠ z := fun e => h (Int32.toInt_inj.mp (e.trans hk.symm))
-- contexts and contracts
/-- the String constants: whose, which entry, the text, its bytes -/
def sTab : List (String × Nat × String × List Int32) := [
  ("CuckooMayorModel", 11, "law", [108, 97, 119]),
  ("CuckooMayorModel", 13, "feast", [102, 101, 97, 115, 116]),
  ("CuckooMayorModel", 15, "toll", [116, 111, 108, 108]),
  ("CuckooMayorModel", 21, "hour", [104, 111, 117, 114]),
  ("CuckooMayorModel", 23, "oil", [111, 105, 108]),
  ("CuckooMayorModel", 25, "weight", [119, 101, 105, 103, 104, 116]),
  ("CuckooMayorModel", 27, "day", [100, 97, 121]),
  ("CuckooMayorModel", 32, "heard", [104, 101, 97, 114, 100]),
  ("CuckooMayorModel", 34, "lean", [108, 101, 97, 110]),
  ("CuckooMayorModel", 36, "cost", [99, 111, 115, 116]),
  ("CuckooMayorModel", 38, "joy", [106, 111, 121]),
  ("CuckooMayorModel", 40, "kind", [107, 105, 110, 100]),
  ("CuckooMayorModel", 42, "passed", [112, 97, 115, 115, 101, 100]),
  ("CuckooMayorModel", 258, "not", [110, 111, 116]),
  ("CuckooMayorModel", 266, "and", [97, 110, 100]),
  ("CuckooMayorModel", 271, "or", [111, 114]),
  ("CuckooMayorModel", 280, "behind", [98, 101, 104, 105, 110, 100]),
  ("CuckooMayorModel", 281, "clock", [99, 108, 111, 99, 107]),
  ("CuckooMayorModel", 283, "says", [115, 97, 121, 115]),
  ("CuckooMayorModel", 285, "votes", [118, 111, 116, 101, 115]),
  ("CuckooMayorModel", 294, "alderman", [97, 108, 100, 101, 114, 109, 97, 110]),
  ("CuckooMayor$Reader", 187, ";()+-*/<=", [59, 40, 41, 43, 45, 42, 47, 60, 61]),
  ("CuckooMayor$Reader", 194, "clock alderman law feast toll says votes behind or and not hour oil weight day heard lean cost joy kind passed ", [99, 108, 111, 99, 107, 32, 97, 108, 100, 101, 114, 109, 97, 110, 32, 108, 97, 119, 32, 102, 101, 97, 115, 116, 32, 116, 111, 108, 108, 32, 115, 97, 121, 115, 32, 118, 111, 116, 101, 115, 32, 98, 101, 104, 105, 110, 100, 32, 111, 114, 32, 97, 110, 100, 32, 110, 111, 116, 32, 104, 111, 117, 114, 32, 111, 105, 108, 32, 119, 101, 105, 103, 104, 116, 32, 100, 97, 121, 32, 104, 101, 97, 114, 100, 32, 108, 101, 97, 110, 32, 99, 111, 115, 116, 32, 106, 111, 121, 32, 107, 105, 110, 100, 32, 112, 97, 115, 115, 101, 100, 32]),
  ("CuckooMayor", 100, "the tape has not so many bytes", [116, 104, 101, 32, 116, 97, 112, 101, 32, 104, 97, 115, 32, 110, 111, 116, 32, 115, 111, 32, 109, 97, 110, 121, 32, 98, 121, 116, 101, 115]),
  ("CuckooMayor", 160, "no such count", [110, 111, 32, 115, 117, 99, 104, 32, 99, 111, 117, 110, 116]),
  ("CuckooMayor", 175, "no such thing of an alderman", [110, 111, 32, 115, 117, 99, 104, 32, 116, 104, 105, 110, 103, 32, 111, 102, 32, 97, 110, 32, 97, 108, 100, 101, 114, 109, 97, 110]),
  ("CuckooMayor", 206, "no such thing of a motion", [110, 111, 32, 115, 117, 99, 104, 32, 116, 104, 105, 110, 103, 32, 111, 102, 32, 97, 32, 109, 111, 116, 105, 111, 110]),
  ("CuckooMayor", 317, "a game is one of two motions that are not passed", [97, 32, 103, 97, 109, 101, 32, 105, 115, 32, 111, 110, 101, 32, 111, 102, 32, 116, 119, 111, 32, 109, 111, 116, 105, 111, 110, 115, 32, 116, 104, 97, 116, 32, 97, 114, 101, 32, 110, 111, 116, 32, 112, 97, 115, 115, 101, 100]),
  ("CuckooMayor", 323, "nothing would be said", [110, 111, 116, 104, 105, 110, 103, 32, 119, 111, 117, 108, 100, 32, 98, 101, 32, 115, 97, 105, 100]),
  ("CuckooMayor", 338, "no such alderman", [110, 111, 32, 115, 117, 99, 104, 32, 97, 108, 100, 101, 114, 109, 97, 110]),
  ("CuckooMayor", 340, "no such motion", [110, 111, 32, 115, 117, 99, 104, 32, 109, 111, 116, 105, 111, 110]),
  ("CuckooMayor", 342, "no such what", [110, 111, 32, 115, 117, 99, 104, 32, 119, 104, 97, 116]),
  ("CuckooMayor", 344, "a number outside its range", [97, 32, 110, 117, 109, 98, 101, 114, 32, 111, 117, 116, 115, 105, 100, 101, 32, 105, 116, 115, 32, 114, 97, 110, 103, 101])]
def sN (i : Nat) : Nat := (sTab.getD i ("", 0, "", [])).2.2.2.length
def sB (i j : Nat) : Int32 := (sTab.getD i ("", 0, "", [])).2.2.2.getD j 0
/-- what lies outside of every world and never changes: the String constants (33), statics of the JDK, words of a throw -/
def EX (ak : Nat → Nat) (A : Nat → Prop) (U : State) (H : Heap) : Prop :=
  (∀ i : Nat, i < 33 → va_O "java/lang/String" (ak i) A U H ∧ va_OF "java/lang/String" "coder" "B" (.int 0) (ak i) A U H ∧ va_OF "java/lang/String" "value" "[B" (.ref (ak (100 + i))) (ak i) A U H ∧ va_T .byte (ak (100 + i)) (sN i) (fun j => .int (sB i j)) A U H) ∧
  (∀ i : Nat, i < 33 → vk_R (sTab.getD i ("", 0, "", [])).1 (sTab.getD i ("", 0, "", [])).2.1 (sTab.getD i ("", 0, "", [])).2.2.1 (ak i) U) ∧
  va_Z "java/lang/String" "COMPACT_STRINGS" "Z" (.int 1) A U H ∧ va_Zq "jdk/internal/util/Preconditions" "SIOOBE_FORMATTER" "Ljava/util/function/BiFunction;" A U H ∧
  vx_Zq Bundle.tN "UNASSIGNED_STACK" Bundle.steD A U H ∧ vx_Zq Bundle.tN "SUPPRESSED_SENTINEL" Bundle.listD A U H ∧
  (∀ X ∈ ["java/lang/RuntimeException", "java/lang/Exception", "java/lang/Throwable"], va_Nw (.declares (Bundle.initS X)) U) ∧
  (∀ X ∈ ["java/lang/IllegalArgumentException", "java/util/NoSuchElementException"], va_Nw (.castable X X) U) ∧
  (va_Nc "java/util/NoSuchElementException" "java/lang/IllegalArgumentException" U ∧ va_Nc "java/lang/IllegalArgumentException" "java/util/NoSuchElementException" U) ∧
  (∀ q ∈ [("CuckooMayor", 41, yX0_init), ("CuckooMayor$Affairs", 11, yX7_init), ("CuckooMayor$Foresight", 11, yX7_init), ("CuckooMayor$Suspicion", 11, yX7_init)], va_Nw (.methodLinkNest q.1 q.2.1 q.2.2 "CuckooMayor") U) ∧ va_AO "java/lang/String" U
theorem EX.mv {ak : Nat → Nat} {A : Nat → Prop} {u U : State} {H : Heap} (hvm : u.vm = U.vm) (h : EX ak A u H) : EX ak A U H := by
  have al : u.vm.Alike U.vm := hvm ▸ Vm.Alike.refl u.vm
  obtain ⟨h1, h2, h3, h4, h5, h6, h7, h8, h9, h10, h11⟩ := h
  exact ⟨fun i hi => ⟨va_O.moved al (h1 i hi).1, va_OF.moved al (h1 i hi).2.1, va_OF.moved al (h1 i hi).2.2.1, va_T.moved al (h1 i hi).2.2.2⟩, fun i hi => vk_R.same hvm.symm (h2 i hi), va_Z.moved al h3, va_Zq.moved al h4, vx_Zq.moved al h5, vx_Zq.moved al h6, fun X hX => va_Nw.same rfl hvm (h7 X hX), fun X hX => va_Nw.same rfl hvm (h8 X hX), ⟨va_Nc.moved al h9.1, va_Nc.moved al h9.2⟩, fun q hq => va_Nw.same rfl hvm (h10 q hq), va_AO.moved al h11⟩
theorem EX.next {ak : Nat → Nat} {A B : Nat → Prop} {s U : State} {H : Heap} {locs : List Loc} (h : EX ak A s s.heap) (hS : va_S A s.heap H locs) (hAB : ∀ q, B q → A q) (hU : U.heap = H) (hW : s.WarmedH U.vm) : EX ak B U U.heap := by
  subst hU
  have al := hW.alike
  obtain ⟨h1, h2, h3, h4, h5, h6, h7, h8, h9, h10, h11⟩ := h
  refine ⟨fun i hi => ⟨va_O.moved al (((h1 i hi).1.kept hS.2.1).narrow hAB), va_OF.moved al (((h1 i hi).2.1.kept hS.2.1).narrow hAB), va_OF.moved al (((h1 i hi).2.2.1.kept hS.2.1).narrow hAB), va_T.moved al (((h1 i hi).2.2.2.kept hS.2.1).narrow hAB)⟩, fun i hi => vk_R.warm hW (h2 i hi), va_Z.moved al ((h3.kept hS.2.1).narrow hAB), va_Zq.moved al ((h4.kept hS.2.1).narrow hAB), vx_Zq.moved al ((h5.kept hS.2.1).narrow hAB), vx_Zq.moved al ((h6.kept hS.2.1).narrow hAB), fun X hX => va_Nw.warmD hW (h7 X hX), fun X hX => va_Nw.warmC hW (h8 X hX), ⟨va_Nc.moved al h9.1, va_Nc.moved al h9.2⟩, fun q hq => va_Nw.warmM hW (h10 q hq), va_AO.moved al h11⟩
theorem EX.recv {ak : Nat → Nat} {A : Nat → Prop} {s : State} {H : Heap} {locs : List Loc} (h : EX ak A s s.heap) (hS : va_S A s.heap H locs) {i : Nat} (hi : i < 33) : ∃ cell : Cell, H[ak i]? = some cell ∧ cell.vm.isStatics = false ∧ s.vm.findClass "java/lang/String" = some cell.cls := by
  obtain ⟨cell, h1, h2, h3, -⟩ := (h.1 i hi).1.kept hS.2.1
  exact ⟨cell, h1, h2, h3⟩
theorem EX.form {ak : Nat → Nat} {A : Nat → Prop} {s : State} {H : Heap} (h : EX ak A s H) : ∃ v : Value, v.category = 1 ∧ va_Z "jdk/internal/util/Preconditions" "SIOOBE_FORMATTER" "Ljava/util/function/BiFunction;" v A s H := by
  rcases h.2.2.2.1 with q | ⟨t, q⟩
  · exact ⟨_, rfl, q⟩
  · exact ⟨_, rfl, q⟩
def CT (p : Program) (s : State) (m : MethodId) (args : Array Value) (meth : Method) (c : Code) (A : Nat → Prop) (dC : Nat → ClassId) (dI : Nat → Nat → Nat) (cc : Nat → ClassId) (ak : Nat → Nat) (code0 : ByteArray) (nL : Nat) (ret0 : Option FieldType) (own : String) : Prop :=
  p.tables.exec = Jvm.exec ∧ c.code = code0 ∧ c.maxLocals = nL ∧ meth.sig.returnType = ret0 ∧ meth.locks = false ∧ s.vm.findClass own = some m.cls ∧ (∀ w ∈ GW, w.before args s = true) ∧ va_K (dC, dI) cLs (tyL cc) s ∧ (∀ q : Nat, s.heap.size ≤ q → A q) ∧ EX ak A s s.heap
abbrev PI (dC : Nat → ClassId) (dI : Nat → Nat → Nat) (cc : Nat → ClassId) (ak : Nat → Nat) (av : List Value) (w : va_W) (sz : Nat) : Array Value → State → Prop := va_Pc av (fun U => U.heap.size = sz ∧ va_P (dC, dI) cLs w U.heap ∧ va_K (dC, dI) cLs (tyL cc) U ∧ va_D (fun _ => True) w ∧ EX ak (va_A w sz) U U.heap)
abbrev QI (dC : Nat → ClassId) (dI : Nat → Nat → Nat) (cc : Nat → ClassId) (r0 : Int32) (w : va_W) (A : Nat → Prop) : Array Value → State → Outcome → State → Prop := va_Qi (S := Unit) (fun r _ => r = r0) (fun _ t => va_P (dC, dI) cLs w t.heap ∧ va_K (dC, dI) cLs (tyL cc) t ∧ va_D A w) A
abbrev QV (dC : Nat → ClassId) (dI : Nat → Nat → Nat) (cc : Nat → ClassId) (w : va_W) (A : Nat → Prop) : Array Value → State → Outcome → State → Prop := va_Qv (S := Unit) (fun _ => True) (fun _ t => va_P (dC, dI) cLs w t.heap ∧ va_K (dC, dI) cLs (tyL cc) t ∧ va_D A w) A
abbrev QR (dC : Nat → ClassId) (dI : Nat → Nat → Nat) (cc : Nat → ClassId) (a0 : Nat) (w : va_W) (A : Nat → Prop) : Array Value → State → Outcome → State → Prop := va_Qr (S := Unit) (fun _ => True) (fun _ a t => a = a0 ∧ va_P (dC, dI) cLs w t.heap ∧ va_K (dC, dI) cLs (tyL cc) t ∧ va_D A w) A
theorem PI_blind {dC : Nat → ClassId} {dI : Nat → Nat → Nat} {cc : Nat → ClassId} {ak : Nat → Nat} {av : List Value} {w : va_W} {sz : Nat} : FrameBlind (PI dC dI cc ak av w sz) := fun a U g mk q => by
  obtain ⟨q0, q1, qP, qK, qD, qE⟩ := q
  exact ⟨q0, q1, qP, va_K.moved (u := U) (U := U.calling g mk a) (Vm.Alike.refl U.vm) qK, qD, EX.mv (u := U) (U := U.calling g mk a) rfl qE⟩
theorem met_of {l : Launch} {y : MethodName} {rm : Room} {code0 : ByteArray} {nL : Nat} {ret0 : Option FieldType} {own : String} {dC : Nat → ClassId} {dI : Nat → Nat → Nat} {cc : Nat → ClassId} {ak : Nat → Nat} {av : List Value} {w : va_W} {sz : Nat} {Q : (Nat → Prop) → Array Value → State → Outcome → State → Prop}
    (hy : plainName y.cls = true) (ho : y.cls = own) (hn : (lg_sl av).length ≤ nL)
    (body : ∀ (p : Program) (e : Env) (s : State) (m : MethodId) (below : List Frame) (meth : Method) (c : Code) (A : Nat → Prop), CT p s m av.toArray meth c A dC dI cc ak code0 nL ret0 own → va_P (dC, dI) cLs w s.heap → va_D A w → va_S A s.heap s.heap [] → ∀ ls : Array Slot, lv_has ls nL (lv_args 0 av) → W p l e rm s m av.toArray below meth c s.heap [] 0 0 (MQ below (Q A) av.toArray s 0 0 A) (F0 m 0 ls [])) :
    Met l y (Cond.code y code0 nL ret0 :: GW) rm (PI dC dI cc ak av w sz) (Q (va_A w sz)) 0 0 (va_A w sz) := by
  refine Met.ofW (cc := code0) (maxL := nL) (ret := ret0) hy rfl ?_
  intro p e s m args below meth c s₁ B hml hv
  obtain ⟨rfl, hsz, hP, hK, hD0, hE⟩ := hv
  subst hsz
  have hD := hD0.self (sz := s.heap.size)
  have hown : s.vm.findClass own = some m.cls := by rw [← ho]; exact findClass_of_methodNamed B.named
  have hts := atoms_spec (ws := Cond.code y code0 nL ret0 :: GW) B.pre
  have hl := lv_entry av (n := nL) hn
  rw [lg_entry_eq]
  exact body p e s m below meth c _ ⟨B.exec, B.bytes, hml, B.returns, B.notSynchronized, hown, fun w h => hts w (List.mem_cons_of_mem _ h), hK, fun q h => Or.inr h, hE⟩ hP hD va_S.rf _ hl
-- calls: the callee's cells (places isC) are cut out, and put back where they were
section CALLS
variable {p : Program} {l : Launch} {e : Env} {R : Room} {s : State} {m : MethodId} {args : Array Value} {below : List Frame} {meth : Method} {c : Code} {H : Heap} {locs : List Loc} {Q : State → Prop} {A : Nat → Prop} {dC : Nat → ClassId} {dI : Nat → Nat → Nat} {cc : Nat → ClassId} {ak : Nat → Nat} {code0 : ByteArray} {nL : Nat} {ret0 : Option FieldType} {own : String} {y : MethodName} {bytes : ByteArray} {maxL n index : Nat} {ret : Option FieldType} {rm : Room} {pc : Nat} {ls : Array Slot} {rest As : List Value} {b : Nat} {w0 wc w1 wn : va_W} {cells slots : Nat}
theorem fm_of {α : Type} {f : Nat → Option α} : ∀ {is : List Nat} {l : List α}, is.map f = l.map some → is.filterMap f = l
  | [], [], _ => rfl
  | [], _ :: _, h => by simp at h
  | _ :: _, [], h => by simp at h
  | i :: is, a :: l, h => by
    simp only [List.map_cons, List.cons.injEq] at h
    rw [List.filterMap_cons, h.1]
    exact congrArg _ (fm_of h.2)
/-- the places: isC those of the callee, isR the others, pm where each comes to lie again -/
def plOk (isC isR pm : List Nat) : Bool := va_nd isC && (va_nd isR && (va_nd pm && isR.all (fun i => !isC.contains i)))
theorem back_w {H1 : Heap} (hP : va_P (dC, dI) cLs w0 H) (hD : va_D A w0) (isC isR pm : List Nat) {wr : va_W} (hC : isC.map (fun i => w0[i]?) = wc.map some) (hR : isR.map (fun i => w0[i]?) = wr.map some) (hok : plOk isC isR pm = true)
    (hk : ∀ q : Nat, q < H.size → ¬ va_A wc H.size q → H1[q]? = H[q]?) (hF : ∀ q, va_A wc H.size q → A q) (hP1 : va_P (dC, dI) cLs w1 H1) (hD1 : va_D (va_A wc H.size) w1) (hN : pm.map (fun i => (wr ++ w1)[i]?) = wn.map some) : va_P (dC, dI) cLs wn H1 ∧ va_D A wn := by
  unfold plOk at hok
  simp only [Bool.and_eq_true] at hok
  obtain ⟨-, h2, h3, h4⟩ := hok
  have h5 : ∀ i ∈ isR, i ∉ isC := fun i hi hc => by
    have := List.all_eq_true.mp h4 i hi
    simp only [Bool.not_eq_true', List.contains_eq_mem, decide_eq_false_iff_not] at this
    exact this hc
  obtain ⟨a, b⟩ := va_join hP hD isC isR hC hR h2 h5 hk hF hP1 hD1
  exact ⟨a.sub pm (fm_of hN), b.sub pm h3 hN⟩
theorem plOk_C {isC isR pm : List Nat} (h : plOk isC isR pm = true) : va_nd isC = true := by
  unfold plOk at h
  simp only [Bool.and_eq_true] at h
  exact h.1
theorem callVi (C0 : CT p s m args meth c A dC dI cc ak code0 nL ret0 own) (kv : KV y bytes maxL ret n) (hlk : Cond.methodLink own index y ∈ GW) (hP : va_P (dC, dI) cLs w0 H) (hD : va_D A w0) (hS : va_S A s.heap H locs) {r0 : Int32}
    (hM : Met l y (Cond.code y bytes maxL ret :: GW) rm (PI dC dI cc ak (.ref b :: As) wc H.size) (QI dC dI cc r0 w1 (va_A wc H.size)) 0 0 (va_A wc H.size))
    (hrm : rm.cells = 0 ∧ rm.slots = 0) (hR : rm.frames + 1 ≤ R.frames ∧ 8 + (maxL + 11) + rm.locals ≤ R.locals) (isC isR pm : List Nat) {wr : va_W} (hC : isC.map (fun i => w0[i]?) = wc.map some) (hRr : isR.map (fun i => w0[i]?) = wr.map some) (hok : plOk isC isR pm = true) (hN : pm.map (fun i => (wr ++ w1)[i]?) = wn.map some)
    (hrv : ∃ cell : Cell, H[b]? = some cell ∧ cell.vm.isStatics = false ∧ s.vm.findClass y.cls = some cell.cls) {st : List Value} (hst : st = As.reverse ++ .ref b :: rest) (hls : ls.size = nL) (hAs : As.length = n) (hroom : (rest.map fun v => v.category).sum ≤ 8) (hcs : cells + 0 ≤ R.cells ∧ slots + 0 ≤ R.slots) (hdg : decode code0 pc = .ok (.invokevirtual index, 3))
    (kk : ∀ (H1 : Heap) (locs1 : List Loc), va_P (dC, dI) cLs wn H1 → va_D A wn → va_S A s.heap H1 locs1 → W p l e R s m args below meth c H1 locs1 cells slots Q (F0 m (pc + 3) ls (.int r0 :: rest))) : W p l e R s m args below meth c H locs cells slots Q (F0 m pc ls st) := by
  obtain ⟨hx, hb, hml, -, -, hown, hG, hK, hA, hE⟩ := C0
  obtain ⟨v1, v2, v3, v4, v5⟩ := kv
  have hPc := hP.sub (ws' := wc) isC (fm_of hC)
  have hDc := hD.sub (ws' := wc) isC (plOk_C hok) hC
  have hFc := va_free (wc := wc) hD hS hA isC hC
  refine va_calli (va_runV (As := As) (rest := rest) ⟨hx, hb, hml, hown, hG⟩ hM (cwV n hG (gw_V hlk v1 v2 v3 v4) rfl hrm.1 hrm.2 ⟨rfl, v5⟩ hR) ⟨PI_blind, hrv, fun U hU hW => ⟨rfl, by rw [hU], by rw [hU]; exact hPc, va_K.moved hW.alike hK, hDc.weaken (fun _ _ _ _ => trivial), hE.next hS hFc hU hW⟩⟩ rfl hAs hls hst (lv_room hroom) hdg hcs) hS (fun q _ h => hFc q h) hFc (fun r u t H1 locs1 ht hvm hw hB hz1 hk1 hS1 => ?_)
  obtain ⟨hP1, -, hD1⟩ := hB
  rw [ht] at hP1
  subst hw
  obtain ⟨hPn, hDn⟩ := back_w hP hD isC isR pm hC hRr hok hk1 hFc hP1 hD1 hN
  exact kk H1 locs1 hPn hDn hS1
theorem callVv (C0 : CT p s m args meth c A dC dI cc ak code0 nL ret0 own) (kv : KV y bytes maxL ret n) (hlk : Cond.methodLink own index y ∈ GW) (hP : va_P (dC, dI) cLs w0 H) (hD : va_D A w0) (hS : va_S A s.heap H locs)
    (hM : Met l y (Cond.code y bytes maxL ret :: GW) rm (PI dC dI cc ak (.ref b :: As) wc H.size) (QV dC dI cc w1 (va_A wc H.size)) 0 0 (va_A wc H.size))
    (hrm : rm.cells = 0 ∧ rm.slots = 0) (hR : rm.frames + 1 ≤ R.frames ∧ 8 + (maxL + 11) + rm.locals ≤ R.locals) (isC isR pm : List Nat) {wr : va_W} (hC : isC.map (fun i => w0[i]?) = wc.map some) (hRr : isR.map (fun i => w0[i]?) = wr.map some) (hok : plOk isC isR pm = true) (hN : pm.map (fun i => (wr ++ w1)[i]?) = wn.map some)
    (hrv : ∃ cell : Cell, H[b]? = some cell ∧ cell.vm.isStatics = false ∧ s.vm.findClass y.cls = some cell.cls) {st : List Value} (hst : st = As.reverse ++ .ref b :: rest) (hls : ls.size = nL) (hAs : As.length = n) (hroom : (rest.map fun v => v.category).sum ≤ 8) (hcs : cells + 0 ≤ R.cells ∧ slots + 0 ≤ R.slots) (hdg : decode code0 pc = .ok (.invokevirtual index, 3))
    (kk : ∀ (H1 : Heap) (locs1 : List Loc), va_P (dC, dI) cLs wn H1 → va_D A wn → va_S A s.heap H1 locs1 → W p l e R s m args below meth c H1 locs1 cells slots Q (F0 m (pc + 3) ls rest)) : W p l e R s m args below meth c H locs cells slots Q (F0 m pc ls st) := by
  obtain ⟨hx, hb, hml, -, -, hown, hG, hK, hA, hE⟩ := C0
  obtain ⟨v1, v2, v3, v4, v5⟩ := kv
  have hPc := hP.sub (ws' := wc) isC (fm_of hC)
  have hDc := hD.sub (ws' := wc) isC (plOk_C hok) hC
  have hFc := va_free (wc := wc) hD hS hA isC hC
  refine va_callv (va_runV (As := As) (rest := rest) ⟨hx, hb, hml, hown, hG⟩ hM (cwV n hG (gw_V hlk v1 v2 v3 v4) rfl hrm.1 hrm.2 ⟨rfl, v5⟩ hR) ⟨PI_blind, hrv, fun U hU hW => ⟨rfl, by rw [hU], by rw [hU]; exact hPc, va_K.moved hW.alike hK, hDc.weaken (fun _ _ _ _ => trivial), hE.next hS hFc hU hW⟩⟩ rfl hAs hls hst (lv_room hroom) hdg hcs) hS (fun q _ h => hFc q h) hFc (fun u t H1 locs1 ht hvm hw hB hz1 hk1 hS1 => ?_)
  obtain ⟨hP1, -, hD1⟩ := hB
  rw [ht] at hP1
  obtain ⟨hPn, hDn⟩ := back_w hP hD isC isR pm hC hRr hok hk1 hFc hP1 hD1 hN
  exact kk H1 locs1 hPn hDn hS1
theorem callVr (C0 : CT p s m args meth c A dC dI cc ak code0 nL ret0 own) (kv : KV y bytes maxL ret n) (hlk : Cond.methodLink own index y ∈ GW) (hP : va_P (dC, dI) cLs w0 H) (hD : va_D A w0) (hS : va_S A s.heap H locs) {r0 : Nat}
    (hM : Met l y (Cond.code y bytes maxL ret :: GW) rm (PI dC dI cc ak (.ref b :: As) wc H.size) (QR dC dI cc r0 w1 (va_A wc H.size)) 0 0 (va_A wc H.size))
    (hrm : rm.cells = 0 ∧ rm.slots = 0) (hR : rm.frames + 1 ≤ R.frames ∧ 8 + (maxL + 11) + rm.locals ≤ R.locals) (isC isR pm : List Nat) {wr : va_W} (hC : isC.map (fun i => w0[i]?) = wc.map some) (hRr : isR.map (fun i => w0[i]?) = wr.map some) (hok : plOk isC isR pm = true) (hN : pm.map (fun i => (wr ++ w1)[i]?) = wn.map some)
    (hrv : ∃ cell : Cell, H[b]? = some cell ∧ cell.vm.isStatics = false ∧ s.vm.findClass y.cls = some cell.cls) {st : List Value} (hst : st = As.reverse ++ .ref b :: rest) (hls : ls.size = nL) (hAs : As.length = n) (hroom : (rest.map fun v => v.category).sum ≤ 8) (hcs : cells + 0 ≤ R.cells ∧ slots + 0 ≤ R.slots) (hdg : decode code0 pc = .ok (.invokevirtual index, 3))
    (kk : ∀ (H1 : Heap) (locs1 : List Loc), va_P (dC, dI) cLs wn H1 → va_D A wn → va_S A s.heap H1 locs1 → W p l e R s m args below meth c H1 locs1 cells slots Q (F0 m (pc + 3) ls (.ref r0 :: rest))) : W p l e R s m args below meth c H locs cells slots Q (F0 m pc ls st) := by
  obtain ⟨hx, hb, hml, -, -, hown, hG, hK, hA, hE⟩ := C0
  obtain ⟨v1, v2, v3, v4, v5⟩ := kv
  have hPc := hP.sub (ws' := wc) isC (fm_of hC)
  have hDc := hD.sub (ws' := wc) isC (plOk_C hok) hC
  have hFc := va_free (wc := wc) hD hS hA isC hC
  refine va_callr (va_runV (As := As) (rest := rest) ⟨hx, hb, hml, hown, hG⟩ hM (cwV n hG (gw_V hlk v1 v2 v3 v4) rfl hrm.1 hrm.2 ⟨rfl, v5⟩ hR) ⟨PI_blind, hrv, fun U hU hW => ⟨rfl, by rw [hU], by rw [hU]; exact hPc, va_K.moved hW.alike hK, hDc.weaken (fun _ _ _ _ => trivial), hE.next hS hFc hU hW⟩⟩ rfl hAs hls hst (lv_room hroom) hdg hcs) hS (fun q _ h => hFc q h) hFc (fun u ra t H1 locs1 ht hvm hw hB hz1 hk1 hS1 => ?_)
  obtain ⟨hra, hP1, -, hD1⟩ := hB
  rw [ht] at hP1
  subst hra
  obtain ⟨hPn, hDn⟩ := back_w hP hD isC isR pm hC hRr hok hk1 hFc hP1 hD1 hN
  exact kk H1 locs1 hPn hDn hS1
theorem callSi (C0 : CT p s m args meth c A dC dI cc ak code0 nL ret0 own) (kv : KS y bytes maxL ret n) (hlk : Cond.methodLink own index y ∈ GW) (hP : va_P (dC, dI) cLs w0 H) (hD : va_D A w0) (hS : va_S A s.heap H locs) {r0 : Int32}
    (hM : Met l y (Cond.code y bytes maxL ret :: GW) rm (PI dC dI cc ak As wc H.size) (QI dC dI cc r0 w1 (va_A wc H.size)) 0 0 (va_A wc H.size))
    (hrm : rm.cells = 0 ∧ rm.slots = 0) (hR : rm.frames + 1 ≤ R.frames ∧ 8 + (maxL + 11) + rm.locals ≤ R.locals) (isC isR pm : List Nat) {wr : va_W} (hC : isC.map (fun i => w0[i]?) = wc.map some) (hRr : isR.map (fun i => w0[i]?) = wr.map some) (hok : plOk isC isR pm = true) (hN : pm.map (fun i => (wr ++ w1)[i]?) = wn.map some)
    {st : List Value} (hst : st = As.reverse ++ rest) (hls : ls.size = nL) (hAs : As.length = n) (hroom : (rest.map fun v => v.category).sum ≤ 8) (hcs : cells + 0 ≤ R.cells ∧ slots + 0 ≤ R.slots) (hdg : decode code0 pc = .ok (.invokestatic index, 3))
    (kk : ∀ (H1 : Heap) (locs1 : List Loc), va_P (dC, dI) cLs wn H1 → va_D A wn → va_S A s.heap H1 locs1 → W p l e R s m args below meth c H1 locs1 cells slots Q (F0 m (pc + 3) ls (.int r0 :: rest))) : W p l e R s m args below meth c H locs cells slots Q (F0 m pc ls st) := by
  obtain ⟨hx, hb, hml, -, -, hown, hG, hK, hA, hE⟩ := C0
  obtain ⟨v1, v3, v4, v5⟩ := kv
  have hPc := hP.sub (ws' := wc) isC (fm_of hC)
  have hDc := hD.sub (ws' := wc) isC (plOk_C hok) hC
  have hFc := va_free (wc := wc) hD hS hA isC hC
  refine va_calli (va_runS (As := As) (rest := rest) ⟨hx, hb, hml, hown, hG⟩ hM (va_cwS n hG (gw_S hlk v1 v3 v4) rfl hrm.1 hrm.2 v5 hR) ⟨PI_blind, fun U hU hW => ⟨rfl, by rw [hU], by rw [hU]; exact hPc, va_K.moved hW.alike hK, hDc.weaken (fun _ _ _ _ => trivial), hE.next hS hFc hU hW⟩⟩ rfl hAs hls hst (lv_room hroom) hdg hcs) hS (fun q _ h => hFc q h) hFc (fun r u t H1 locs1 ht hvm hw hB hz1 hk1 hS1 => ?_)
  obtain ⟨hP1, -, hD1⟩ := hB
  rw [ht] at hP1
  subst hw
  obtain ⟨hPn, hDn⟩ := back_w hP hD isC isR pm hC hRr hok hk1 hFc hP1 hD1 hN
  exact kk H1 locs1 hPn hDn hS1
theorem callSv (C0 : CT p s m args meth c A dC dI cc ak code0 nL ret0 own) (kv : KS y bytes maxL ret n) (hlk : Cond.methodLink own index y ∈ GW) (hP : va_P (dC, dI) cLs w0 H) (hD : va_D A w0) (hS : va_S A s.heap H locs)
    (hM : Met l y (Cond.code y bytes maxL ret :: GW) rm (PI dC dI cc ak As wc H.size) (QV dC dI cc w1 (va_A wc H.size)) 0 0 (va_A wc H.size))
    (hrm : rm.cells = 0 ∧ rm.slots = 0) (hR : rm.frames + 1 ≤ R.frames ∧ 8 + (maxL + 11) + rm.locals ≤ R.locals) (isC isR pm : List Nat) {wr : va_W} (hC : isC.map (fun i => w0[i]?) = wc.map some) (hRr : isR.map (fun i => w0[i]?) = wr.map some) (hok : plOk isC isR pm = true) (hN : pm.map (fun i => (wr ++ w1)[i]?) = wn.map some)
    {st : List Value} (hst : st = As.reverse ++ rest) (hls : ls.size = nL) (hAs : As.length = n) (hroom : (rest.map fun v => v.category).sum ≤ 8) (hcs : cells + 0 ≤ R.cells ∧ slots + 0 ≤ R.slots) (hdg : decode code0 pc = .ok (.invokestatic index, 3))
    (kk : ∀ (H1 : Heap) (locs1 : List Loc), va_P (dC, dI) cLs wn H1 → va_D A wn → va_S A s.heap H1 locs1 → W p l e R s m args below meth c H1 locs1 cells slots Q (F0 m (pc + 3) ls rest)) : W p l e R s m args below meth c H locs cells slots Q (F0 m pc ls st) := by
  obtain ⟨hx, hb, hml, -, -, hown, hG, hK, hA, hE⟩ := C0
  obtain ⟨v1, v3, v4, v5⟩ := kv
  have hPc := hP.sub (ws' := wc) isC (fm_of hC)
  have hDc := hD.sub (ws' := wc) isC (plOk_C hok) hC
  have hFc := va_free (wc := wc) hD hS hA isC hC
  refine va_callv (va_runS (As := As) (rest := rest) ⟨hx, hb, hml, hown, hG⟩ hM (va_cwS n hG (gw_S hlk v1 v3 v4) rfl hrm.1 hrm.2 v5 hR) ⟨PI_blind, fun U hU hW => ⟨rfl, by rw [hU], by rw [hU]; exact hPc, va_K.moved hW.alike hK, hDc.weaken (fun _ _ _ _ => trivial), hE.next hS hFc hU hW⟩⟩ rfl hAs hls hst (lv_room hroom) hdg hcs) hS (fun q _ h => hFc q h) hFc (fun u t H1 locs1 ht hvm hw hB hz1 hk1 hS1 => ?_)
  obtain ⟨hP1, -, hD1⟩ := hB
  rw [ht] at hP1
  obtain ⟨hPn, hDn⟩ := back_w hP hD isC isR pm hC hRr hok hk1 hFc hP1 hD1 hN
  exact kk H1 locs1 hPn hDn hS1
theorem ldcSw {cc0 : ByteArray} (hexec : p.tables.exec = Jvm.exec) (hb : c.code = cc0) {own tx : String} {index q : Nat} (hown : s.vm.findClass own = some m.cls) (hZ : vk_R own index tx q s) (hdg : decode cc0 pc = .ok (.ldc_w index, 3))
    (k : W p l e R s m args below meth c H locs cells slots Q (F0 m (pc + 3) ls (.ref q :: rest))) : W p l e R s m args below meth c H locs cells slots Q (F0 m pc ls rest) := by
  intro T hT X
  obtain ⟨t, a1, b1⟩ := k T hT X
  exact ⟨t, X.ldcStringW hexec hown (text := tx) (a := q) hZ.1 hZ.2 (g := F0 m pc ls rest) rfl (by rw [hb]; exact hdg) t a1, b1⟩
-- returns
theorem retI (C0 : CT p s m args meth c A dC dI cc ak code0 nL (some .int) own) {v r0 : Int32} (hP : va_P (dC, dI) cLs w1 H) (hD : va_D A w1) (hS : va_S A s.heap H locs) (hv : v = r0) (hdg : decode code0 pc = .ok (.ireturn, 1)) : W p l e R s m args below meth c H locs cells slots (MQ below (QI dC dI cc r0 w1 A) args s cells slots A) (F0 m pc ls [.int v]) := by
  obtain ⟨hx, hb, hml, hr, hlocks, hown, hG, hK, hA, hE⟩ := C0
  exact W.iret (v := v) hx hb hr (fun t ht hW => ⟨⟨v, (), rfl, hv, by rw [ht]; exact hP, va_K.moved hW.alike hK, hD⟩, hS.F ht⟩) hS.2.2 hdg
theorem retZ (C0 : CT p s m args meth c A dC dI cc ak code0 nL (some .boolean) own) {v r0 : Int32} (hP : va_P (dC, dI) cLs w1 H) (hD : va_D A w1) (hS : va_S A s.heap H locs) (hn : narrow .boolean (.int v) = .int v) (hv : v = r0) (hdg : decode code0 pc = .ok (.ireturn, 1)) : W p l e R s m args below meth c H locs cells slots (MQ below (QI dC dI cc r0 w1 A) args s cells slots A) (F0 m pc ls [.int v]) := by
  obtain ⟨hx, hb, hml, hr, hlocks, hown, hG, hK, hA, hE⟩ := C0
  exact W.zret (v := v) hx hb hr hn (fun t ht hW => ⟨⟨v, (), rfl, hv, by rw [ht]; exact hP, va_K.moved hW.alike hK, hD⟩, hS.F ht⟩) hS.2.2 hdg
theorem retB (C0 : CT p s m args meth c A dC dI cc ak code0 nL (some .byte) own) {v r0 : Int32} (hP : va_P (dC, dI) cLs w1 H) (hD : va_D A w1) (hS : va_S A s.heap H locs) (hn : narrow .byte (.int v) = .int v) (hv : v = r0) (hdg : decode code0 pc = .ok (.ireturn, 1)) : W p l e R s m args below meth c H locs cells slots (MQ below (QI dC dI cc r0 w1 A) args s cells slots A) (F0 m pc ls [.int v]) := by
  obtain ⟨hx, hb, hml, hr, hlocks, hown, hG, hK, hA, hE⟩ := C0
  exact W.zret (v := v) hx hb hr hn (fun t ht hW => ⟨⟨v, (), rfl, hv, by rw [ht]; exact hP, va_K.moved hW.alike hK, hD⟩, hS.F ht⟩) hS.2.2 hdg
theorem retC (C0 : CT p s m args meth c A dC dI cc ak code0 nL (some .char) own) {v r0 : Int32} (hP : va_P (dC, dI) cLs w1 H) (hD : va_D A w1) (hS : va_S A s.heap H locs) (hn : narrow .char (.int v) = .int v) (hv : v = r0) (hdg : decode code0 pc = .ok (.ireturn, 1)) : W p l e R s m args below meth c H locs cells slots (MQ below (QI dC dI cc r0 w1 A) args s cells slots A) (F0 m pc ls [.int v]) := by
  obtain ⟨hx, hb, hml, hr, hlocks, hown, hG, hK, hA, hE⟩ := C0
  exact W.zret (v := v) hx hb hr hn (fun t ht hW => ⟨⟨v, (), rfl, hv, by rw [ht]; exact hP, va_K.moved hW.alike hK, hD⟩, hS.F ht⟩) hS.2.2 hdg
theorem retV (C0 : CT p s m args meth c A dC dI cc ak code0 nL none own) (hP : va_P (dC, dI) cLs w1 H) (hD : va_D A w1) (hS : va_S A s.heap H locs) (hdg : decode code0 pc = .ok (.return_, 1)) : W p l e R s m args below meth c H locs cells slots (MQ below (QV dC dI cc w1 A) args s cells slots A) (F0 m pc ls []) := by
  obtain ⟨hx, hb, hml, hr, hlocks, hown, hG, hK, hA, hE⟩ := C0
  exact W.vret hx hb hr (fun t ht hW => ⟨⟨(), rfl, trivial, by rw [ht]; exact hP, va_K.moved hW.alike hK, hD⟩, hS.F ht⟩) hS.2.2 hdg
theorem retR {tn : String} (C0 : CT p s m args meth c A dC dI cc ak code0 nL (some (.object tn)) own) {v : Nat} (hP : va_P (dC, dI) cLs w1 H) (hD : va_D A w1) (hS : va_S A s.heap H locs) (hdg : decode code0 pc = .ok (.areturn, 1)) : W p l e R s m args below meth c H locs cells slots (MQ below (QR dC dI cc v w1 A) args s cells slots A) (F0 m pc ls [.ref v]) := by
  obtain ⟨hx, hb, hml, hr, hlocks, hown, hG, hK, hA, hE⟩ := C0
  exact W.aret hx hb hr (Or.inl ⟨_, rfl⟩) (Or.inr ⟨_, rfl⟩) (fun t ht hW => ⟨⟨(), v, rfl, trivial, rfl, by rw [ht]; exact hP, va_K.moved hW.alike hK, hD⟩, hS.F ht⟩) hS.2.2 hdg
end CALLS
abbrev mkX0 (a0 : Nat) (a1 : Nat) (x2 : Int32) (a3 : Nat) (a4 : Nat) (x5 : Int32) (a6 : Nat) : List Value := [.ref a0, .ref a1, .int x2, .ref a3, .ref a4, .int x5, .ref a6]
abbrev mkX1 (x0 : Int32) (x1 : Int32) (x2 : Int32) (x3 : Int32) (a4 : Nat) (a5 : Nat) (x6 : Int32) (a7 : Nat) (a8 : Nat) (a9 : Nat) (a10 : Nat) (a11 : Nat) (a12 : Nat) (x13 : Int32) (a14 : Nat) (a15 : Nat) : List Value := [.int x0, .int x1, .int x2, .int x3, .ref a4, .ref a5, .int x6, .ref a7, .ref a8, .ref a9, .ref a10, .ref a11, .ref a12, .int x13, .ref a14, .ref a15]
abbrev mkX2 (a0 : Nat) (a1 : Nat) (a2 : Nat) : List Value := [.ref a0, .ref a1, .ref a2]
abbrev mkX3 (a0 : Nat) (a1 : Nat) (a2 : Nat) (a3 : Nat) : List Value := [.ref a0, .ref a1, .ref a2, .ref a3]
abbrev mkX4 (a0 : Nat) (a1 : Nat) (a2 : Nat) (a3 : Nat) (a4 : Nat) (x5 : Int32) : List Value := [.ref a0, .ref a1, .ref a2, .ref a3, .ref a4, .int x5]
abbrev mkX5 (a0 : Nat) (a1 : Nat) (x2 : Int32) (x3 : Int32) (x4 : Int32) (x5 : Int32) (x6 : Int32) (x7 : Int32) (x8 : Int32) (x9 : Int32) (a10 : Nat) (x11 : Int32) (x12 : Int32) (x13 : Int32) (x14 : Int32) (x15 : Int32) : List Value := [.ref a0, .ref a1, .int x2, .int x3, .int x4, .int x5, .int x6, .int x7, .int x8, .int x9, .ref a10, .int x11, .int x12, .int x13, .int x14, .int x15]
abbrev mkX6 (a0 : Nat) (a1 : Nat) (a2 : Nat) (a3 : Nat) (a4 : Nat) : List Value := [.ref a0, .ref a1, .ref a2, .ref a3, .ref a4]
abbrev mkX7 (x0 : Int32) (x1 : Int32) (x2 : Int32) (x3 : Int32) (x4 : Int32) (x5 : Int32) (x6 : Int32) (a7 : Nat) (a8 : Nat) : List Value := [.int x0, .int x1, .int x2, .int x3, .int x4, .int x5, .int x6, .ref a7, .ref a8]
abbrev mkX8 (a0 : Nat) (x1 : Int32) (x2 : Int32) (a3 : Nat) (a4 : Nat) (a5 : Nat) (a6 : Nat) (a7 : Nat) (x8 : Int32) (a9 : Nat) (a10 : Nat) (a11 : Nat) (a12 : Nat) : List Value := [.ref a0, .int x1, .int x2, .ref a3, .ref a4, .ref a5, .ref a6, .ref a7, .int x8, .ref a9, .ref a10, .ref a11, .ref a12]
abbrev mkX9 (ad : Nat → Nat) (x3 x4 x17 x18 x19 x20 x21 x22 x23 x24 x25 x26 x27 x31 x32 x33 x34 x35 x36 x37 x38 x39 x42 x43 x44 x53 x54 x55 x56 x57 : Int32) : List Value := [.ref (ad 0), .ref (ad 1), .ref (ad 2), .ref (if x3 = 0 then ad 1 else ad 2), .int x4, .ref (ad 5), .ref (ad 6), .ref (ad 7), .ref (ad 8), .ref (ad 9), .ref (ad 10), .ref (ad 11), .ref (ad 12), .ref (ad 13), .ref (ad 14), .ref (ad 15), .ref (ad 16), .int x17, .int x18, .int x19, .int x20, .int x21, .int x22, .int x23, .int x24, .int x25, .int x26, .int x27, .ref (ad 28), .ref (ad 29), .ref (ad 30), .int x31, .int x32, .int x33, .int x34, .int x35, .int x36, .int x37, .int x38, .int x39, .ref (ad 40), .ref (ad 41), .int x42, .int x43, .int x44, .ref (ad 45), .ref (ad 46), .ref (ad 47), .ref (ad 48), .ref (ad 49), .ref (ad 50), .ref (ad 51), .ref (ad 52), .int x53, .int x54, .int x55, .int x56, .int x57, .ref (ad 58), .ref (ad 59), .ref (ad 60), .ref (ad 61), .ref (ad 62)]
