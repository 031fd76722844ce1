/-! ROWS for walks that may throw, over the shaped world -/
def y_nms : List String := ["java/lang/RuntimeException", "java/lang/Exception"]
/-- the words of a throw that speak of the heap, or are not among the kit's good ones -/
def y_zw : List Cond := [.laysStatic "java/lang/Throwable" "UNASSIGNED_STACK" "[Ljava/lang/StackTraceElement;", .laysStatic "java/lang/Throwable" "SUPPRESSED_SENTINEL" "Ljava/util/List;", .isRef (.static "java/lang/Throwable" "UNASSIGNED_STACK" "[Ljava/lang/StackTraceElement;"), .isRef (.static "java/lang/Throwable" "SUPPRESSED_SENTINEL" "Ljava/util/List;"), .declares (Bundle.initS "java/lang/RuntimeException"), .declares (Bundle.initS "java/lang/Exception"), .declares (Bundle.initS "java/lang/Throwable"), .castable eS eS, .castable eA eA, .castable eB eB]
/-- they hold now and as long as nothing outside A is written -/
def y_Z (A : Nat → Prop) (U : State) : Prop := ∀ (a : Array Value) (t : State), U.vm.Alike t.vm → (∀ q : Nat, q < U.heap.size → ¬ A q → t.heap[q]? = U.heap[q]?) → ∀ w ∈ y_zw, w.before a t = true
/-- which of the three exceptions is none of another's kind -/
def y_N (U : State) : Prop := (va_Nc eA eS U ∧ va_Nc eA eB U ∧ va_Nc eS eB U) ∧ ∀ q ∈ y_strs, ∃ a, vk_R R_Lr q.1 q.2 a U
theorem y_N.moved {u U : State} (hW : u.WarmedH U.vm) (h : y_N u) : y_N U := ⟨⟨h.1.1.moved hW.alike, h.1.2.1.moved hW.alike, h.1.2.2.moved hW.alike⟩, fun q hq => by
  obtain ⟨a, ha⟩ := h.2 q hq
  exact ⟨a, vk_R.warm hW ha⟩⟩
theorem y_str {s : State} {args : Array Value} {k : Nat} {tx : String} (h : y_N s) (hq : (k, tx) ∈ y_strs) : (Cond.stringRef R_Lr k tx).before args s = true := by
  obtain ⟨a, ha⟩ := h.2 (k, tx) hq
  exact ha.1
theorem y_Z.call {A A' : Nat → Prop} {s U : State} {H : Heap} {locs : List Loc} (h : y_Z A s) (hvm : s.vm.Alike U.vm) (hH : U.heap = H) (hS : va_S A s.heap H locs) (hA : ∀ q, q < s.heap.size → A' q → A q) : y_Z A' U := fun a t ht hq =>
  h a t (Vm.Alike.trans hvm ht) (fun q h1 h2 => by
    rw [hq q (by rw [hH]; exact Nat.lt_of_lt_of_le h1 hS.1) (fun g => h2 (hA q h1 g)), hH]
    exact hS.2.1 q h1 h2)
section YE
variable {p : Program} {l : Launch} {e : Env} {R : Room} {s : State} {m : MethodId} {args : Array Value} {below : List Frame} {meth : Method} {c : Code} {H : Heap} {locs : List Loc} {cells slots : Nat} {Q : State → Prop}
variable {cc : ByteArray} {pc : Nat} {ls : Array Slot} {rest : List Value}
variable {D : va_G} {cl : List vw_C} {sh : List x_D} {ad : Nat → Nat} {cA : Nat → ClassId} {N : Nat → Nat} {A0 : Nat → Prop} {F : Nat → Int} {A : Nat → Int → Int}
/-- a contract's start, of a method that may throw -/
def y_P (D : va_G) (cl : List vw_C) (sh : List x_D) (ad : Nat → Nat) (cA : Nat → ClassId) (N : Nat → Nat) (sz : Nat) (F : Nat → Int) (A : Nat → Int → Int) (U : State) : Prop :=
  x_P D cl sh ad cA N sz F A U ∧ y_Z (va_A (x_w sh ad cA N F A) sz) U ∧ y_N U
theorem y_blind {vs : List Value} {sz : Nat} : FrameBlind (va_Pc vs (y_P D cl sh ad cA N sz F A)) := fun a U g mk q => by
  obtain ⟨q0, ⟨q1, qP, qK, qD⟩, qZ, qN⟩ := q
  exact ⟨q0, ⟨q1, qP, va_K.moved (u := U) (U := U.calling g mk a) (Vm.Alike.refl U.vm) qK, qD⟩, qZ, qN.moved (U := U.calling g mk a) (State.WarmedH.refl U)⟩
theorem y_pre (hS : x_S D cl sh ad cA N A0 s F A H locs) (hZ : y_Z A0 s) (hN : y_N s) (U : State) (hU : U.heap = H) (hW : s.WarmedH U.vm) : y_P D cl sh ad cA N H.size F A U :=
  ⟨⟨by rw [hU], by rw [hU]; exact hS.2.1, va_K.moved hW.alike hS.1, hS.2.2.1.weaken (fun _ _ _ _ => trivial), hS.2.2.2.2⟩,
    hZ.call hW.alike hU hS.2.2.2.1 (fun q hq h => by
      rcases h with ⟨k, e, h⟩ | h
      · exact hS.2.2.1.2 k _ h
      · exact absurd (Nat.lt_of_lt_of_le hq hS.2.2.2.1.1) (Nat.not_lt.mpr h)), hN.moved hW⟩
theorem y_preS (hS : x_S D cl sh ad cA N A0 s F A H locs) (hZ : y_Z A0 s) (hN : y_N s) (As : List Value) : PreS s H (va_Pc As (y_P D cl sh ad cA N H.size F A)) As :=
  ⟨y_blind, fun U hU hW => ⟨rfl, y_pre hS hZ hN U hU hW⟩⟩
theorem y_preV (hS : x_S D cl sh ad cA N A0 s F A H locs) (hZ : y_Z A0 s) (hN : y_N s) (q : Nat) {C : String} {T : u_T} {t ci n : Nat} {fs : List x_F} (hq : sh[q]? = some (t, .inl (ci, fs))) (hc : cl[ci]? = some (C, T, n)) (As : List Value) : PreV s H C (ad t) (va_Pc (.ref (ad t) :: As) (y_P D cl sh ad cA N H.size F A)) As :=
  ⟨y_blind, va_recv hS.1 hS.2.1 hc (x_wq hq), fun U hU hW => ⟨rfl, y_pre hS hZ hN U hU hW⟩⟩
/-- the return of a method that reads alone -/
theorem y_rp {K : Prop} {XE : String → Prop} (hx : p.tables.exec = Jvm.exec) (hb : c.code = cc) (hr : meth.sig.returnType = none) (hlocks : meth.locks = false) (hK : K) (hdg : decode cc pc = .ok (.return_, 1)) :
    W p l e R s m args below meth c s.heap [] 0 0 (y_MQ below (y_Qp K) (fun _ => False) XE args s) (F0 m pc ls []) :=
  y_ret (W.vret hx hb hr (fun t ht _ => ⟨rfl, hK, ht⟩) (fun _ h => by cases h) hdg hlocks)
/-- a throw's words at the start of a walk -/
theorem y_words {own cls : String} {ic : Nat} {names : List String} (hts : ∀ w ∈ gT, w.before args s = true) (hZ : y_Z A0 s) (h : ∀ w ∈ Bundle.ownAtoms own ic cls names, w ∈ gT ∨ w ∈ y_zw) : ∀ w ∈ Bundle.ownAtoms own ic cls names, w.before args s = true := fun w hw => by
  rcases h w hw with g | g
  · exact hts w g
  · exact hZ args s (Vm.Alike.refl s.vm) (fun _ _ _ => rfl) w g
/-- the exception caught: from above the frame to the handler's first instruction -/
theorem y_catch {T : State} (X : Stand p l e R s m args below meth c T locs cells slots) {own E nm : String} {q : Addr} {ce : Cell} (hown : s.vm.findClass own = some m.cls) (pre : List ExceptionTableEntry) (x : ExceptionTableEntry) (suf : List ExceptionTableEntry) (hsplit : c.exceptionTable.toList = pre ++ x :: suf)
    (hpass : ∀ z ∈ pre, covers z pc = true ∧ z.catchType ≠ 0 ∧ ∃ nz : String, (Cond.classLink own z.catchType nz).before args s = true ∧ va_Nc E nz s) (hx : covers x pc = true) (h0 : x.catchType ≠ 0)
    (hlink : (Cond.classLink own x.catchType nm).before args s = true) (hcast : (Cond.castable E nm).before args s = true) (hce : T.heap[q]? = some ce) (hv : ce.vm = .none) (hcl : s.vm.findClass E = some ce.cls) :
    ∃ vm', Stand p l e R s m args below meth c (T.setVm vm') locs cells slots ∧ ∀ tg, Steps p.tables e below ((T.setVm vm').setTop (F0 m x.handlerPc ls [.ref q])) tg → Steps p.tables e below ((T.setTop (F0 m pc ls rest)).pushFrame (.throwing q)) tg := by
  have hpl : e.platform.magicAccessors = ({} : Platform).magicAccessors := by rw [X.admits.platform]
  obtain ⟨c3, c4, hc3, hc4, hasg⟩ := Cond.castable_spec hcast
  cases Option.some.inj (hc3.symm.trans hcl)
  obtain ⟨c5, hc5, hcl5⟩ := Cond.classLink_spec hown hlink e.platform hpl
  cases Option.some.inj (hc4.symm.trans hc5)
  obtain ⟨k9, h9, -⟩ := Vm.findClass_spec hcl
  obtain ⟨vm', hW', hq⟩ := y_search (e := e) (f := F0 m pc ls rest) (a := q) (s₀ := s) (cell := ce) (VmData.ne_statics_of (by rw [hv]; rfl)) ⟨k9, h9⟩ x suf hx h0 hcl5 hasg pre ((T.setTop (F0 m pc ls rest)).pushFrame (.throwing q)) X.warmed hce
    (fun z hz => by
      obtain ⟨z1, z2, nz, hl1, a8, b8, g1, g2, g3⟩ := hpass z hz
      obtain ⟨c6, hc6, hcl6⟩ := Cond.classLink_spec hown hl1 e.platform hpl
      cases Option.some.inj (g1.symm.trans hcl)
      cases Option.some.inj (g2.symm.trans hc6)
      exact ⟨z1, z2, _, hcl6, g3⟩)
  refine ⟨vm', X.noted hW', fun tg h => ?_⟩
  refine y_caught (g := F0 m pc ls rest) X.here (vm' := vm') (pc := x.handlerPc) (fun Q E d acts => ?_) h
  rw [W.findHandler_eq (meth := meth) (code := c) X.method' X.code, hsplit]
  exact hq Q E d acts
end YE
