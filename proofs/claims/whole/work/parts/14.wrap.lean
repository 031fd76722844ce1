/-! WRAPPERS: a call that may throw, inside a try -/
def y_ent (h : Nat × Nat × Nat × Nat) : ExceptionTableEntry := ⟨h.1, h.2.1, h.2.2.1, h.2.2.2⟩
theorem y_tab {L : List ExceptionTableEntry} {hh : List (Nat × Nat × Nat × Nat)} (h : L.map (fun h => (h.startPc, h.endPc, h.handlerPc, h.catchType)) = hh) : L = hh.map y_ent := by
  subst h
  rw [List.map_map]
  exact (List.map_id L).symm
section YW
variable {p : Program} {l : Launch} {e : Env} {R : Room} {s : State} {m : MethodId} {args : Array Value} {below : List Frame} {meth : Method} {c : Code} {H : Heap} {locs : List Loc} {cells slots : Nat} {Q : State → Prop}
variable {cc : ByteArray} {pc : Nat} {ls : Array Slot} {rest : List Value}
variable {D : va_G} {cl : List vw_C} {sh : List x_D} {ad : Nat → Nat} {cA : Nat → ClassId} {N : Nat → Nat} {A0 : Nat → Prop} {F : Nat → Int} {A : Nat → Int → Int}
/-- what is known where an exception stands above the frame: its class, its cell; the world is as it was -/
def y_At (p : Program) (l : Launch) (e : Env) (R : Room) (s : State) (m : MethodId) (args : Array Value) (below : List Frame) (meth : Method) (c : Code) (Q : State → Prop) (g : JFrame) (E : String) (T : State) (locs : List Loc) (cells slots : Nat) : Prop :=
  ∀ (q : Addr) (ce : Cell), Stand p l e R s m args below meth c T locs cells slots → T.heap[q]? = some ce → ce.vm = .none → s.vm.findClass E = some ce.cls → ∃ t, Steps p.tables e below ((T.setTop g).pushFrame (.throwing q)) t ∧ Q t
theorem y_keep (hS : x_S D cl sh ad cA N A0 s F A s.heap []) {H1 : Heap} (hold : ∀ b : Nat, b < s.heap.size → H1[b]? = s.heap[b]?) : x_S D cl sh ad cA N A0 s F A H1 [] := by
  have hle : s.heap.size ≤ H1.size := by
    rcases Nat.lt_or_ge H1.size s.heap.size with h | h
    · have h1 := hold H1.size h
      rw [Array.getElem?_eq_none (Nat.le_refl _), Array.getElem?_eq_getElem h] at h1
      cases h1
    · exact h
  refine ⟨hS.1, fun k q hq => ?_, hS.2.2.1, ⟨hle, fun q h1 _ => hold q h1, fun z hz => by cases hz⟩, hS.2.2.2.2⟩
  exact (hS.2.1 k q hq).kept (hold q.1 ((hS.2.1 k q hq).lt))
theorem y_ci {st0 : List Value} {va : Array Value} {K : Int → (Nat → Int) → (Nat → Int → Int) → Prop} {XE : String → Prop} (hr : y_Run p l e R s m args below meth c s.heap [] 0 0 (F0 m pc ls st0) rest (x_QI D cl sh ad cA N (va_A (x_w sh ad cA N F A) s.heap.size) K va) (va_A (x_w sh ad cA N F A) s.heap.size) XE) (hS : x_S D cl sh ad cA N A0 s F A s.heap []) (hA : ∀ q : Nat, s.heap.size ≤ q → A0 q)
    (kx : ∀ (E : String) (T : State), XE E → x_S D cl sh ad cA N A0 s F A T.heap [] → y_At p l e R s m args below meth c Q (F0 m pc ls rest) E T [] 1 6)
    (kk : ∀ (z : Int) (F1 : Nat → Int) (A1 : Nat → Int → Int) (H1 : Heap) (locs1 : List Loc), x_S D cl sh ad cA N A0 s F1 A1 H1 locs1 → K z F1 A1 → W p l e R s m args below meth c H1 locs1 0 0 Q (F0 m (pc + 3) ls (.int (iI z) :: rest))) : W p l e R s m args below meth c s.heap [] 0 0 Q (F0 m pc ls st0) := by
  have hF : ∀ q, va_A (x_w sh ad cA N F A) s.heap.size q → A0 q := by
    rintro q (⟨k, e, h⟩ | h)
    · exact hS.2.2.1.2 k _ h
    · exact hA q h
  intro T hT X
  rcases hr T hT X with ⟨v, st₀, t, T', L, h0, X', hL, e1, e2, ⟨⟨r, u, hv, ⟨z, hz, hK⟩, hP1, hK1, hD1⟩, hsz, hfr⟩, st⟩ | ⟨q, T', E, ce, X', hXE, hce, hcv, hcl, hold, st⟩
  · cases hv
    subst hz
    rw [← e1] at hP1
    rw [h0] at hsz hfr
    obtain ⟨t2, a1, b1⟩ := kk z u.1 u.2 T'.heap ([] ++ L) ⟨hS.1, hP1, x_Dm hS.2.2.1, ⟨by rw [e1]; exact hsz, fun q h1 h2 => by rw [e1]; exact hfr q h1 (fun g => h2 (hF q g)), fun q hq => by
      rcases List.mem_append.mp hq with g | g
      · cases g
      · exact hF _ (hL q g)⟩, hS.2.2.2.2⟩ hK T' rfl X'
    exact ⟨t2, st t2 a1, b1⟩
  · obtain ⟨t2, a1, b1⟩ := kx E T' hXE (y_keep hS hold) q ce X' hce hcv hcl
    exact ⟨t2, st t2 a1, b1⟩
theorem y_cl {st0 : List Value} {va : Array Value} {K : Int → (Nat → Int) → (Nat → Int → Int) → Prop} {XE : String → Prop} (hr : y_Run p l e R s m args below meth c s.heap [] 0 0 (F0 m pc ls st0) rest (x_QL D cl sh ad cA N (va_A (x_w sh ad cA N F A) s.heap.size) K va) (va_A (x_w sh ad cA N F A) s.heap.size) XE) (hS : x_S D cl sh ad cA N A0 s F A s.heap []) (hA : ∀ q : Nat, s.heap.size ≤ q → A0 q)
    (kx : ∀ (E : String) (T : State), XE E → x_S D cl sh ad cA N A0 s F A T.heap [] → y_At p l e R s m args below meth c Q (F0 m pc ls rest) E T [] 1 6)
    (kk : ∀ (z : Int) (F1 : Nat → Int) (A1 : Nat → Int → Int) (H1 : Heap) (locs1 : List Loc), x_S D cl sh ad cA N A0 s F1 A1 H1 locs1 → K z F1 A1 → W p l e R s m args below meth c H1 locs1 0 0 Q (F0 m (pc + 3) ls (.long (lI z) :: rest))) : W p l e R s m args below meth c s.heap [] 0 0 Q (F0 m pc ls st0) := by
  have hF : ∀ q, va_A (x_w sh ad cA N F A) s.heap.size q → A0 q := by
    rintro q (⟨k, e, h⟩ | h)
    · exact hS.2.2.1.2 k _ h
    · exact hA q h
  intro T hT X
  rcases hr T hT X with ⟨v, st₀, t, T', L, h0, X', hL, e1, e2, ⟨⟨r, u, hv, ⟨z, hz, hK⟩, hP1, hK1, hD1⟩, hsz, hfr⟩, st⟩ | ⟨q, T', E, ce, X', hXE, hce, hcv, hcl, hold, st⟩
  · cases hv
    subst hz
    rw [← e1] at hP1
    rw [h0] at hsz hfr
    obtain ⟨t2, a1, b1⟩ := kk z u.1 u.2 T'.heap ([] ++ L) ⟨hS.1, hP1, x_Dm hS.2.2.1, ⟨by rw [e1]; exact hsz, fun q h1 h2 => by rw [e1]; exact hfr q h1 (fun g => h2 (hF q g)), fun q hq => by
      rcases List.mem_append.mp hq with g | g
      · cases g
      · exact hF _ (hL q g)⟩, hS.2.2.2.2⟩ hK T' rfl X'
    exact ⟨t2, st t2 a1, b1⟩
  · obtain ⟨t2, a1, b1⟩ := kx E T' hXE (y_keep hS hold) q ce X' hce hcv hcl
    exact ⟨t2, st t2 a1, b1⟩
/-- into a handler -/
theorem y_into {T : State} {own E nm : String} (hown : s.vm.findClass own = some m.cls) (pre : List ExceptionTableEntry) (x : ExceptionTableEntry) (suf : List ExceptionTableEntry) (hsplit : c.exceptionTable.toList = pre ++ x :: suf)
    (hpass : ∀ z ∈ pre, covers z pc = true ∧ z.catchType ≠ 0 ∧ ∃ nz : String, (Cond.classLink own z.catchType nz).before args s = true ∧ va_Nc E nz s) (hx : covers x pc = true) (h0 : x.catchType ≠ 0)
    (hlink : (Cond.classLink own x.catchType nm).before args s = true) (hcast : (Cond.castable E nm).before args s = true)
    (kk : ∀ q : Nat, W p l e R s m args below meth c T.heap locs cells slots Q (F0 m x.handlerPc ls [.ref q])) : y_At p l e R s m args below meth c Q (F0 m pc ls rest) E T locs cells slots := by
  intro q ce X hce hv hcl
  obtain ⟨vm', X', st⟩ := y_catch (ls := ls) (rest := rest) X hown pre x suf hsplit hpass hx h0 hlink hcast hce hv hcl
  obtain ⟨t, a1, b1⟩ := kk q (T.setVm vm') rfl X'
  exact ⟨t, st t a1, b1⟩
end YW
theorem y_zat {A0 : Nat → Prop} {s : State} {args : Array Value} {w : Cond} (hZ : y_Z A0 s) (h : w ∈ y_zw) : w.before args s = true := hZ args s (Vm.Alike.refl s.vm) (fun _ _ _ => rfl) w h
