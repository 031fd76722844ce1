/-! THE START: the words of throws, from the law's entry on; the first ints of the script -/
theorem y_Zl {s t : State} {a : Array Value} {args : Array Value} {C n d : String} (h : (Cond.laysStatic C n d).before args s = true) (hvm : s.vm.Alike t.vm) (hq : ∀ q : Nat, q < s.heap.size → t.heap[q]? = s.heap[q]?) : (Cond.laysStatic C n d).before a t = true := by
  obtain ⟨c, k, i, f, b, cell, h1, h2, h3, h4, h5, h6, h7, h8, h9⟩ := Cond.laysStatic_spec h
  obtain ⟨k', hi', he⟩ := State.fieldFound?_setVm hvm h2
  have hi2 : t.fieldFound? C n d = some (c, k', i, f) := hi'
  show (Cond.laysStatic C n d).holds a t none t [] = true
  exact Cond.laysStatic_of (by rw [hvm.findClass]; exact h1) hi2 h3 (by rw [he]; exact h4) (by rw [hq b (Array.getElem?_eq_some_iff.mp h5).1]; exact h5) h6 h7 h8 (by rw [he]; exact h9)
theorem y_Zr {s t : State} {a : Array Value} {args : Array Value} {C n d : String} (hl : (Cond.laysStatic C n d).before args s = true) (hini : (Cond.initialized C).before args s = true) (h : (Cond.isRef (.static C n d)).before args s = true) (hvm : s.vm.Alike t.vm) (hq : ∀ q : Nat, q < s.heap.size → t.heap[q]? = s.heap[q]?) : (Cond.isRef (.static C n d)).before a t = true := by
  have hz : va_Zq C n d (fun _ => False) s s.heap := va_Zqof hl hini h (fun _ _ => id)
  have hz2 : va_Zq C n d (fun _ => False) t t.heap := va_Zq.moved hvm (hz.kept (fun q h1 _ => hq q h1))
  have key : ∀ v : Value, v.isRef = true → va_Z C n d v (fun _ => False) t t.heap → (Cond.isRef (.static C n d)).before a t = true := by
    intro v hv hz3
    obtain ⟨cf, kf, fi, f, b, cell, h1, h2, h3, h4, h5, h6, h7, -⟩ := hz3
    have he : (Term.static C n d).eval a t none [] t = some v := by
      simp [Term.eval, State.fieldNamed?, h1, h2, h4, h5, h6, h7]
    simp only [Cond.before, Cond.holds, Cond.value, he]
    cases v <;> simp_all [Value.isRef]
  rcases hz2 with hz3 | ⟨t3, hz3⟩
  · exact key .null rfl hz3
  · exact key (.ref t3) rfl hz3
theorem y_Zof {s : State} {args : Array Value} (hts : ∀ w ∈ lw_tbl, w.before args s = true) (hg : (Jvm.Cond.and given_1 narrow_1).before args s = true) : y_Z (fun q : Nat => s.heap.size ≤ q) s := by
  have hs := flat_of_before _ hg
  intro a t hvm hq w hw
  have hq2 : ∀ q : Nat, q < s.heap.size → t.heap[q]? = s.heap[q]? := fun q h => hq q h (Nat.not_le.mpr h)
  have i1 : (Cond.initialized "java/lang/Throwable").before args s = true := hts _ (List.mem_append_right _ (by decide +kernel))
  have l1 : (Cond.laysStatic "java/lang/Throwable" "UNASSIGNED_STACK" "[Ljava/lang/StackTraceElement;").before args s = true := hts _ (List.mem_append_right _ (by decide +kernel))
  have l2 : (Cond.laysStatic "java/lang/Throwable" "SUPPRESSED_SENTINEL" "Ljava/util/List;").before args s = true := hts _ (List.mem_append_right _ (by decide +kernel))
  have r1 : (Cond.isRef (.static "java/lang/Throwable" "UNASSIGNED_STACK" "[Ljava/lang/StackTraceElement;")).before args s = true := hs _ (by decide +kernel)
  have r2 : (Cond.isRef (.static "java/lang/Throwable" "SUPPRESSED_SENTINEL" "Ljava/util/List;")).before args s = true := hs _ (by decide +kernel)
  have dk : ∀ x : MethodName, (Cond.declares x).before args s = true → (Cond.declares x).before a t = true := fun x h => va_tabs (A := args) (u := s.setVm t.vm) rfl rfl (by rw [Cond.declares_setVm hvm]; exact h)
  have ck : ∀ x y : String, (Cond.castable x y).before args s = true → (Cond.castable x y).before a t = true := fun x y h => va_tabs (A := args) (u := s.setVm t.vm) rfl rfl (by rw [Cond.castable_setVm hvm]; exact h)
  simp only [y_zw, List.mem_cons, List.not_mem_nil, or_false] at hw
  rcases hw with rfl | rfl | rfl | rfl | rfl | rfl | rfl | rfl | rfl | rfl
  · exact y_Zl l1 hvm hq2
  · exact y_Zl l2 hvm hq2
  · exact y_Zr l1 i1 r1 hvm hq2
  · exact y_Zr l2 i1 r2 hvm hq2
  · exact dk _ (hts _ (List.mem_append_right _ (by decide +kernel)))
  · exact dk _ (hts _ (List.mem_append_right _ (by decide +kernel)))
  · exact dk _ (hts _ (List.mem_append_right _ (by decide +kernel)))
  · exact ck _ _ (hts _ (List.mem_append_right _ (by decide +kernel)))
  · exact ck _ _ (hts _ (List.mem_append_right _ (by decide +kernel)))
  · exact ck _ _ (hts _ (List.mem_append_right _ (by decide +kernel)))
theorem y_Nof {s : State} {args : Array Value} (hts : ∀ w ∈ lw_tbl, w.before args s = true) (hown : ∃ m, s.vm.findClass R_Lr = some m) (hg : (Jvm.Cond.and given_1 narrow_1).before args s = true) : y_N s := by
  have hs := flat_of_before _ hg
  refine ⟨⟨va_Nc.of (hs _ (by decide +kernel)) , va_Nc.of (hs _ (by decide +kernel)), va_Nc.of (hs _ (by decide +kernel))⟩, ?_⟩
  obtain ⟨m, hm⟩ := hown
  intro q hq
  have hw : ∀ q ∈ y_strs, Cond.stringRef R_Lr q.1 q.2 ∈ tables_1 := by decide +kernel
  have h1 := hts _ (List.mem_append_right _ (hw q hq))
  obtain ⟨-, -, -, sa, -, -, -, -, -, hev⟩ := Cond.stringRef_spec hm h1
  exact ⟨sa, vk_R.of h1 hev⟩
