/-! ===== the law's entry: what the Statement gives of the start ===== -/
def sTm (i : Nat) : Term := .string (sTab.getD i ("", 0, "", [])).1 (sTab.getD i ("", 0, "", [])).2.1
def sVal (i : Nat) : Term := .field (sTm i) "java/lang/String" "value" "[B"
def sExp (i : Nat) : List Cond := [.exactly (sTm i) "java/lang/String", .eq (.field (sTm i) "java/lang/String" "coder" "B") (.int 0), .arrayOf (sVal i) .byte, .eq (.length (sVal i)) (.int (Int32.ofNat (sN i)))] ++ (List.range (sN i)).map (fun j => .eq (.elem (sVal i) (.int (Int32.ofNat j))) (.int (sB i j)))
def sBase : List Nat := [434, 441, 450, 458, 466, 473, 483, 490, 499, 507, 515, 522, 530, 566, 573, 580, 586, 540, 549, 557, 596, 182, 67, 33, 195, 232, 282, 357, 409, 212, 264, 341, 311]
set_option maxRecDepth 100000 in
theorem sFlat : ∀ i : Fin 33, ((flatC (Jvm.Cond.and given_1 narrow_1)).drop (sBase.getD i.1 0)).take (4 + sN i.1) = sExp i.1 := by decide +kernel
set_option maxRecDepth 100000 in
theorem sRefs : ∀ i : Fin 33, Cond.stringRef (sTab.getD i.1 ("", 0, "", [])).1 (sTab.getD i.1 ("", 0, "", [])).2.1 (sTab.getD i.1 ("", 0, "", [])).2.2.1 ∈ lw_tbl := by decide +kernel
theorem sLen : ∀ i : Fin 33, sN i.1 < 2 ^ 31 := by decide +kernel
theorem sIn {i : Nat} (hi : i < 33) {w : Cond} (h : w ∈ sExp i) : w ∈ flatC (Jvm.Cond.and given_1 narrow_1) := by
  rw [← sFlat ⟨i, hi⟩] at h
  exact List.mem_of_mem_drop (List.mem_of_mem_take h)
theorem strs_of {args : Array Value} {s : State} {A : Nat → Prop} (hs : ∀ w ∈ flatC (Jvm.Cond.and given_1 narrow_1), w.before args s = true) (hA : ∀ a : Nat, a < s.heap.size → ¬ A a) : ∃ ak : Nat → Nat, ∀ i : Nat, i < 33 → (sTm i).eval args s none [] s = some (.ref (ak i)) ∧ va_O "java/lang/String" (ak i) A s s.heap ∧ va_OF "java/lang/String" "coder" "B" (.int 0) (ak i) A s s.heap ∧ va_OF "java/lang/String" "value" "[B" (.ref (ak (100 + i))) (ak i) A s s.heap ∧ va_T .byte (ak (100 + i)) (sN i) (fun j => .int (sB i j)) A s s.heap := by
  have h0 : ∀ i : Nat, ∃ q : Nat × Nat, i < 33 → (sTm i).eval args s none [] s = some (.ref q.1) ∧ va_O "java/lang/String" q.1 A s s.heap ∧ va_OF "java/lang/String" "coder" "B" (.int 0) q.1 A s s.heap ∧ va_OF "java/lang/String" "value" "[B" (.ref q.2) q.1 A s s.heap ∧ va_T .byte q.2 (sN i) (fun j => .int (sB i j)) A s s.heap := by
    intro i
    by_cases hi : i < 33
    · have hex := hs _ (sIn hi (w := .exactly (sTm i) "java/lang/String") (by simp [sExp]))
      have hco := hs _ (sIn hi (w := .eq (.field (sTm i) "java/lang/String" "coder" "B") (.int 0)) (by simp [sExp]))
      have har := hs _ (sIn hi (w := .arrayOf (sVal i) .byte) (by simp [sExp]))
      have hle := hs _ (sIn hi (w := .eq (.length (sVal i)) (.int (Int32.ofNat (sN i)))) (by simp [sExp]))
      have hel : ∀ j : Nat, j < sN i → (Cond.eq (.elem (sVal i) (.int (Int32.ofNat j))) (.int (sB i j))).before args s = true := fun j hj => hs _ (sIn hi (List.mem_append_right _ (List.mem_map.mpr ⟨j, List.mem_range.mpr hj, rfl⟩)))
      obtain ⟨a, c, cA, kA, q1, q2, q3, q4, q5, q6, -⟩ := Cond.exactly_spec (args := args) (first := s) (o := none) (s := s) (idx := []) (t := sTm i) (cls := "java/lang/String") hex
      obtain ⟨t, ht, hT⟩ := va_Tof (f := fun j => .int (sB i j)) (A := A) (sLen ⟨i, hi⟩) har (va_eqt hle) (fun j hj => va_eqt (hel j hj)) hA
      exact ⟨(a, t), fun _ => ⟨q1, ⟨cA, q3, q5, by rw [q6]; exact q2, hA a (Array.getElem?_eq_some_iff.mp q3).1⟩, vk_OFof q1 (va_eqt hco) hA, vk_OFof q1 ht hA, hT⟩⟩
    · exact ⟨(0, 0), fun h => absurd h hi⟩
  obtain ⟨ad, had⟩ := Classical.axiomOfChoice h0
  refine ⟨fun i => if i < 100 then (ad i).1 else (ad (i - 100)).2, fun i hi => ?_⟩
  have e1 : (if i < 100 then (ad i).1 else (ad (i - 100)).2) = (ad i).1 := if_pos (by omega)
  have e2 : (if 100 + i < 100 then (ad (100 + i)).1 else (ad (100 + i - 100)).2) = (ad i).2 := by rw [if_neg (by omega), show 100 + i - 100 = i by omega]
  show _ = some (Value.ref (if i < 100 then (ad i).1 else (ad (i - 100)).2)) ∧ va_O _ (if i < 100 then (ad i).1 else (ad (i - 100)).2) _ _ _ ∧ va_OF _ _ _ _ (if i < 100 then (ad i).1 else (ad (i - 100)).2) _ _ _ ∧ va_OF _ _ _ (Value.ref (if 100 + i < 100 then (ad (100 + i)).1 else (ad (100 + i - 100)).2)) (if i < 100 then (ad i).1 else (ad (i - 100)).2) _ _ _ ∧ va_T _ (if 100 + i < 100 then (ad (100 + i)).1 else (ad (100 + i - 100)).2) _ _ _ _ _
  rw [e1, e2]
  exact had i hi
theorem arr_of {s : State} {args : Array Value} {ty : FieldType} (h : (Cond.arrayClass ty).before args s = true) : ∃ cA : ClassId, ArrOfT s cA ty ∧ s.vm.findClass ("[" ++ ty.toString) = some cA := by
  obtain ⟨c, k, comp, h1, h2, h3⟩ := Cond.arrayClass_spec h
  exact ⟨c, fun n z => ⟨fun k h => (by cases h), k, h2, comp, h3⟩, h1⟩
theorem ex_start {s : State} {args : Array Value} (hts : ∀ w ∈ lw_tbl, w.before args s = true) (hgv : (Jvm.Cond.and given_1 narrow_1).before args s = true) : ∃ ak : Nat → Nat, EX ak (fun q => s.heap.size ≤ q) s s.heap := by
  have hs := flat_of_before _ hgv
  have hA : ∀ a : Nat, a < s.heap.size → ¬ (fun q : Nat => s.heap.size ≤ q) a := fun a h => Nat.not_le.mpr h
  obtain ⟨ak, hak⟩ := strs_of (A := fun q => s.heap.size ≤ q) hs hA
  have i1 : (Cond.initialized "java/lang/String").before args s = true := hts _ (by decide +kernel)
  have i2 : (Cond.initialized "jdk/internal/util/Preconditions").before args s = true := hts _ (by decide +kernel)
  have i3 : (Cond.initialized "java/lang/Throwable").before args s = true := hts _ (by decide +kernel)
  refine ⟨ak, fun i hi => (hak i hi).2, fun i hi => vk_R.of (hts _ (sRefs ⟨i, hi⟩)) (hak i hi).1, ?_, ?_, ?_, ?_, ?_, ?_, ⟨?_, ?_⟩, ?_, ?_⟩
  · exact va_Zof (hts _ (by decide +kernel)) i1 (va_eqt (hs _ (by decide +kernel))) hA
  · exact va_Zqof (hts _ (by decide +kernel)) i2 (hs _ (by decide +kernel)) hA
  · exact vx_Zqof (hts _ (by decide +kernel)) i3 (hs _ (by decide +kernel)) hA
  · exact vx_Zqof (hts _ (by decide +kernel)) i3 (hs _ (by decide +kernel)) hA
  · intro X hX
    simp only [List.mem_cons, List.not_mem_nil, or_false] at hX
    rcases hX with rfl | rfl | rfl
    · exact va_Nw.of rfl (hts _ (by decide +kernel))
    · exact va_Nw.of rfl (hts _ (by decide +kernel))
    · exact va_Nw.of rfl (hts _ (by decide +kernel))
  · intro X hX
    simp only [List.mem_cons, List.not_mem_nil, or_false] at hX
    rcases hX with rfl | rfl
    · exact va_Nw.of rfl (hts _ (by decide +kernel))
    · exact va_Nw.of rfl (hts _ (by decide +kernel))
  · exact va_Nc.of (hs _ (by decide +kernel))
  · exact va_Nc.of (hs _ (by decide +kernel))
  · intro q hq
    simp only [List.mem_cons, List.not_mem_nil, or_false] at hq
    rcases hq with rfl | rfl | rfl | rfl
    · exact va_Nw.of rfl (hts _ (by decide +kernel))
    · exact va_Nw.of rfl (hts _ (by decide +kernel))
    · exact va_Nw.of rfl (hts _ (by decide +kernel))
    · exact va_Nw.of rfl (hts _ (by decide +kernel))
  · exact va_AO.of (hts _ (by decide +kernel))
