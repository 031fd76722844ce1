section W23
variable {p : Program} {l : Launch} {e : Env} {s : State} {m : MethodId} {args : Array Value} {below : List Frame} {meth : Method} {c : Code} {D : va_G} {ad : Nat → Nat} {cA : Nat → ClassId} {A0 : Nat → Prop}
/-! Mo_thrown -/
def w_Mo_thrown (mo : Nat) (F : Nat → Int) (A : Nat → Int → Int)  (Q : Int → Prop) : Prop := Q (F 10)
set_option maxHeartbeats 4000000 in
set_option maxRecDepth 100000 in
theorem ct_Mo_thrown (l : Launch) (D : va_G) (ad : Nat → Nat) (cA : Nat → ClassId) (mo sz : Nat) (F : Nat → Int) (A : Nat → Int → Int)  (Q : Int → Prop) (h : w_Mo_thrown mo F A  Q) : Met l y_Mo_thrown (Cond.code y_Mo_thrown c_Mo_thrown 1 (some .int) :: gT) ({ frames := 0, cells := 0, slots := 0, locals := 0 } : Room) (va_Pc [.ref (ad 30)] (x_P D vCl shU ad cA (NN mo) sz F A)) (x_QI D vCl shU ad cA (NN mo) (va_A (x_w shU ad cA (NN mo) F A) sz) (fun z F1 A1 => F = F1 ∧ A = A1 ∧ Q z)) 0 0 (va_A (x_w shU ad cA (NN mo) F A) sz) := by
  refine Met.ofW (cc := c_Mo_thrown) (maxL := 1) (ret := some .int) (by decide) rfl ?_
  intro p e s m args below meth c s₁ B hml hv
  obtain ⟨rfl, hsz, hP, hK, hD0, hN0⟩ := hv
  have hx := B.exec
  have hb := B.bytes
  have hr := B.returns
  have hts0 := atoms_spec (ws := (Cond.code y_Mo_thrown c_Mo_thrown 1 (some .int) :: gT)) B.pre
  have hts : ∀ w ∈ gT, w.before _ s = true := fun w h => hts0 w (List.mem_cons_of_mem _ h)
  have hown : s.vm.findClass R_Mo = some m.cls := findClass_of_methodNamed B.named
  have hlocks := B.notSynchronized
  subst hsz
  have hS : x_S D vCl shU ad cA (NN mo) (va_A (x_w shU ad cA (NN mo) F A) s.heap.size) s F A s.heap [] := ⟨hK, hP, hD0.self, va_S.rf, hN0⟩
  have hA : ∀ q : Nat, s.heap.size ≤ q → va_A (x_w shU ad cA (NN mo) F A) s.heap.size q := fun q h => Or.inr h
  have C0 : x_C p s m [.ref (ad 30)].toArray meth c c_Mo_thrown 1 (some .int) gT R_Mo := ⟨hx, hb, hr, hml, hown, hts, hlocks⟩
  generalize va_A (x_w shU ad cA (NN mo) F A) s.heap.size = A0 at hS hA ⊢
  have hl := lv_entry [.ref (ad 30)] (n := 1) (Nat.le_of_ble_eq_true rfl)
  rw [lg_entry_eq]
  generalize (lg_sl [.ref (ad 30)] ++ List.replicate (1 - (lg_sl [.ref (ad 30)]).length) Slot.unset).toArray = ls at hl ⊢
  have hl : lv_has ls 1 [(0, .ref (ad 30))] := hl
  refine lv_aload_n hx hb d_Mo_thrown_0 rfl (lv_at hl 0 rfl) ?_
  refine r_geti (z := F 10) hx hb hts in_Mo hown hS 30 rfl rfl 0 (by decide) rfl (hts _ tw_634) d_Mo_thrown_1 rfl ?_
  exact r_iret (z := (F 10)) hx hb hr hlocks hS ⟨rfl, rfl, h⟩ d_Mo_thrown_4
/-! Mo_isCell -/
def w_Mo_isCell (mo : Nat) (F : Nat → Int) (A : Nat → Int → Int) (x1 : Int) (Q : Int → Prop) : Prop := rg x1 ∧ ((x1 < 0 → Q 0) ∧ (¬ x1 < 0 → rg (F 13) ∧ (((F 13) ≤ x1 → Q 0) ∧ (¬ (F 13) ≤ x1 → Q 1))))
set_option maxHeartbeats 4000000 in
set_option maxRecDepth 100000 in
theorem ct_Mo_isCell (l : Launch) (D : va_G) (ad : Nat → Nat) (cA : Nat → ClassId) (mo sz : Nat) (F : Nat → Int) (A : Nat → Int → Int) (x1 : Int) (Q : Int → Prop) (h : w_Mo_isCell mo F A x1 Q) : Met l y_Mo_isCell (Cond.code y_Mo_isCell c_Mo_isCell 2 (some .boolean) :: gT) ({ frames := 0, cells := 0, slots := 0, locals := 0 } : Room) (va_Pc [.ref (ad 30), .int (iI x1)] (x_P D vCl shU ad cA (NN mo) sz F A)) (x_QI D vCl shU ad cA (NN mo) (va_A (x_w shU ad cA (NN mo) F A) sz) (fun z F1 A1 => F = F1 ∧ A = A1 ∧ Q z)) 0 0 (va_A (x_w shU ad cA (NN mo) F A) sz) := by
  refine Met.ofW (cc := c_Mo_isCell) (maxL := 2) (ret := some .boolean) (by decide) rfl ?_
  intro p e s m args below meth c s₁ B hml hv
  obtain ⟨rfl, hsz, hP, hK, hD0, hN0⟩ := hv
  have hx := B.exec
  have hb := B.bytes
  have hr := B.returns
  have hts0 := atoms_spec (ws := (Cond.code y_Mo_isCell c_Mo_isCell 2 (some .boolean) :: gT)) B.pre
  have hts : ∀ w ∈ gT, w.before _ s = true := fun w h => hts0 w (List.mem_cons_of_mem _ h)
  have hown : s.vm.findClass R_Mo = some m.cls := findClass_of_methodNamed B.named
  have hlocks := B.notSynchronized
  subst hsz
  have hS : x_S D vCl shU ad cA (NN mo) (va_A (x_w shU ad cA (NN mo) F A) s.heap.size) s F A s.heap [] := ⟨hK, hP, hD0.self, va_S.rf, hN0⟩
  have hA : ∀ q : Nat, s.heap.size ≤ q → va_A (x_w shU ad cA (NN mo) F A) s.heap.size q := fun q h => Or.inr h
  have C0 : x_C p s m [.ref (ad 30), .int (iI x1)].toArray meth c c_Mo_isCell 2 (some .boolean) gT R_Mo := ⟨hx, hb, hr, hml, hown, hts, hlocks⟩
  generalize va_A (x_w shU ad cA (NN mo) F A) s.heap.size = A0 at hS hA ⊢
  have hl := lv_entry [.ref (ad 30), .int (iI x1)] (n := 2) (Nat.le_of_ble_eq_true rfl)
  rw [lg_entry_eq]
  generalize (lg_sl [.ref (ad 30), .int (iI x1)] ++ List.replicate (2 - (lg_sl [.ref (ad 30), .int (iI x1)]).length) Slot.unset).toArray = ls at hl ⊢
  have hl : lv_has ls 2 [(0, .ref (ad 30)), (1, .int (iI x1))] := hl
  refine lv_iload_n hx hb d_Mo_isCell_0 rfl (lv_at hl 1 rfl) ?_
  obtain ⟨g1, h⟩ := h
  refine r_if_lt (tgt := 16) hx hb g1 d_Mo_isCell_1 (by decide) (fun hc => ?_) (fun hc => ?_)
  · replace h := h.1 hc
    refine r_iconst hx hb d_Mo_isCell_16 ?_
    exact r_zret (z := 0) hx hb hr hlocks (Or.inl rfl) hS ⟨rfl, rfl, h⟩ d_Mo_isCell_17
  · replace h := h.2 hc
    refine lv_iload_n hx hb d_Mo_isCell_4 rfl (lv_at hl 1 rfl) ?_
    refine lv_aload_n hx hb d_Mo_isCell_5 rfl (lv_at hl 0 rfl) ?_
    refine r_geti (z := F 13) hx hb hts in_Mo hown hS 30 rfl rfl 4 (by decide) rfl (hts _ tw_638) d_Mo_isCell_6 rfl ?_
    obtain ⟨g2, h⟩ := h
    refine r_icmp_ge (tgt := 16) hx hb g1 g2 d_Mo_isCell_9 (by decide) (fun hc => ?_) (fun hc => ?_)
    · replace h := h.1 hc
      refine r_iconst hx hb d_Mo_isCell_16 ?_
      exact r_zret (z := 0) hx hb hr hlocks (Or.inl rfl) hS ⟨rfl, rfl, h⟩ d_Mo_isCell_17
    · replace h := h.2 hc
      refine r_iconst hx hb d_Mo_isCell_12 ?_
      refine lv_goto (tgt := 17) hx hb d_Mo_isCell_13 (by decide) ?_
      exact r_zret (z := 1) hx hb hr hlocks (Or.inr rfl) hS ⟨rfl, rfl, h⟩ d_Mo_isCell_17
/-! Mo_isRow -/
def w_Mo_isRow (mo : Nat) (F : Nat → Int) (A : Nat → Int → Int) (x1 : Int) (Q : Int → Prop) : Prop := rg x1 ∧ ((x1 < 0 → Q 0) ∧ (¬ x1 < 0 → rg (F 11) ∧ (((F 11) ≤ x1 → Q 0) ∧ (¬ (F 11) ≤ x1 → Q 1))))
set_option maxHeartbeats 4000000 in
set_option maxRecDepth 100000 in
theorem ct_Mo_isRow (l : Launch) (D : va_G) (ad : Nat → Nat) (cA : Nat → ClassId) (mo sz : Nat) (F : Nat → Int) (A : Nat → Int → Int) (x1 : Int) (Q : Int → Prop) (h : w_Mo_isRow mo F A x1 Q) : Met l y_Mo_isRow (Cond.code y_Mo_isRow c_Mo_isRow 2 (some .boolean) :: gT) ({ frames := 0, cells := 0, slots := 0, locals := 0 } : Room) (va_Pc [.ref (ad 30), .int (iI x1)] (x_P D vCl shU ad cA (NN mo) sz F A)) (x_QI D vCl shU ad cA (NN mo) (va_A (x_w shU ad cA (NN mo) F A) sz) (fun z F1 A1 => F = F1 ∧ A = A1 ∧ Q z)) 0 0 (va_A (x_w shU ad cA (NN mo) F A) sz) := by
  refine Met.ofW (cc := c_Mo_isRow) (maxL := 2) (ret := some .boolean) (by decide) rfl ?_
  intro p e s m args below meth c s₁ B hml hv
  obtain ⟨rfl, hsz, hP, hK, hD0, hN0⟩ := hv
  have hx := B.exec
  have hb := B.bytes
  have hr := B.returns
  have hts0 := atoms_spec (ws := (Cond.code y_Mo_isRow c_Mo_isRow 2 (some .boolean) :: gT)) B.pre
  have hts : ∀ w ∈ gT, w.before _ s = true := fun w h => hts0 w (List.mem_cons_of_mem _ h)
  have hown : s.vm.findClass R_Mo = some m.cls := findClass_of_methodNamed B.named
  have hlocks := B.notSynchronized
  subst hsz
  have hS : x_S D vCl shU ad cA (NN mo) (va_A (x_w shU ad cA (NN mo) F A) s.heap.size) s F A s.heap [] := ⟨hK, hP, hD0.self, va_S.rf, hN0⟩
  have hA : ∀ q : Nat, s.heap.size ≤ q → va_A (x_w shU ad cA (NN mo) F A) s.heap.size q := fun q h => Or.inr h
  have C0 : x_C p s m [.ref (ad 30), .int (iI x1)].toArray meth c c_Mo_isRow 2 (some .boolean) gT R_Mo := ⟨hx, hb, hr, hml, hown, hts, hlocks⟩
  generalize va_A (x_w shU ad cA (NN mo) F A) s.heap.size = A0 at hS hA ⊢
  have hl := lv_entry [.ref (ad 30), .int (iI x1)] (n := 2) (Nat.le_of_ble_eq_true rfl)
  rw [lg_entry_eq]
  generalize (lg_sl [.ref (ad 30), .int (iI x1)] ++ List.replicate (2 - (lg_sl [.ref (ad 30), .int (iI x1)]).length) Slot.unset).toArray = ls at hl ⊢
  have hl : lv_has ls 2 [(0, .ref (ad 30)), (1, .int (iI x1))] := hl
  refine lv_iload_n hx hb d_Mo_isRow_0 rfl (lv_at hl 1 rfl) ?_
  obtain ⟨g1, h⟩ := h
  refine r_if_lt (tgt := 16) hx hb g1 d_Mo_isRow_1 (by decide) (fun hc => ?_) (fun hc => ?_)
  · replace h := h.1 hc
    refine r_iconst hx hb d_Mo_isRow_16 ?_
    exact r_zret (z := 0) hx hb hr hlocks (Or.inl rfl) hS ⟨rfl, rfl, h⟩ d_Mo_isRow_17
  · replace h := h.2 hc
    refine lv_iload_n hx hb d_Mo_isRow_4 rfl (lv_at hl 1 rfl) ?_
    refine lv_aload_n hx hb d_Mo_isRow_5 rfl (lv_at hl 0 rfl) ?_
    refine r_geti (z := F 11) hx hb hts in_Mo hown hS 30 rfl rfl 1 (by decide) rfl (hts _ tw_635) d_Mo_isRow_6 rfl ?_
    obtain ⟨g2, h⟩ := h
    refine r_icmp_ge (tgt := 16) hx hb g1 g2 d_Mo_isRow_9 (by decide) (fun hc => ?_) (fun hc => ?_)
    · replace h := h.1 hc
      refine r_iconst hx hb d_Mo_isRow_16 ?_
      exact r_zret (z := 0) hx hb hr hlocks (Or.inl rfl) hS ⟨rfl, rfl, h⟩ d_Mo_isRow_17
    · replace h := h.2 hc
      refine r_iconst hx hb d_Mo_isRow_12 ?_
      refine lv_goto (tgt := 17) hx hb d_Mo_isRow_13 (by decide) ?_
      exact r_zret (z := 1) hx hb hr hlocks (Or.inr rfl) hS ⟨rfl, rfl, h⟩ d_Mo_isRow_17
/-! Mo_isKind -/
def w_Mo_isKind (mo : Nat) (F : Nat → Int) (A : Nat → Int → Int) (x0 : Int) (Q : Int → Prop) : Prop := rg x0 ∧ ((x0 < 0 → Q 0) ∧ (¬ x0 < 0 → ((4 ≤ x0 → Q 0) ∧ (¬ 4 ≤ x0 → Q 1))))
set_option maxHeartbeats 4000000 in
set_option maxRecDepth 100000 in
theorem ct_Mo_isKind (l : Launch) (D : va_G) (ad : Nat → Nat) (cA : Nat → ClassId) (mo sz : Nat) (F : Nat → Int) (A : Nat → Int → Int) (x0 : Int) (Q : Int → Prop) (h : w_Mo_isKind mo F A x0 Q) : Met l y_Mo_isKind (Cond.code y_Mo_isKind c_Mo_isKind 1 (some .boolean) :: gT) ({ frames := 0, cells := 0, slots := 0, locals := 0 } : Room) (va_Pc [.int (iI x0)] (x_P D vCl shU ad cA (NN mo) sz F A)) (x_QI D vCl shU ad cA (NN mo) (va_A (x_w shU ad cA (NN mo) F A) sz) (fun z F1 A1 => F = F1 ∧ A = A1 ∧ Q z)) 0 0 (va_A (x_w shU ad cA (NN mo) F A) sz) := by
  refine Met.ofW (cc := c_Mo_isKind) (maxL := 1) (ret := some .boolean) (by decide) rfl ?_
  intro p e s m args below meth c s₁ B hml hv
  obtain ⟨rfl, hsz, hP, hK, hD0, hN0⟩ := hv
  have hx := B.exec
  have hb := B.bytes
  have hr := B.returns
  have hts0 := atoms_spec (ws := (Cond.code y_Mo_isKind c_Mo_isKind 1 (some .boolean) :: gT)) B.pre
  have hts : ∀ w ∈ gT, w.before _ s = true := fun w h => hts0 w (List.mem_cons_of_mem _ h)
  have hown : s.vm.findClass R_Mo = some m.cls := findClass_of_methodNamed B.named
  have hlocks := B.notSynchronized
  subst hsz
  have hS : x_S D vCl shU ad cA (NN mo) (va_A (x_w shU ad cA (NN mo) F A) s.heap.size) s F A s.heap [] := ⟨hK, hP, hD0.self, va_S.rf, hN0⟩
  have hA : ∀ q : Nat, s.heap.size ≤ q → va_A (x_w shU ad cA (NN mo) F A) s.heap.size q := fun q h => Or.inr h
  have C0 : x_C p s m [.int (iI x0)].toArray meth c c_Mo_isKind 1 (some .boolean) gT R_Mo := ⟨hx, hb, hr, hml, hown, hts, hlocks⟩
  generalize va_A (x_w shU ad cA (NN mo) F A) s.heap.size = A0 at hS hA ⊢
  have hl := lv_entry [.int (iI x0)] (n := 1) (Nat.le_of_ble_eq_true rfl)
  rw [lg_entry_eq]
  generalize (lg_sl [.int (iI x0)] ++ List.replicate (1 - (lg_sl [.int (iI x0)]).length) Slot.unset).toArray = ls at hl ⊢
  have hl : lv_has ls 1 [(0, .int (iI x0))] := hl
  refine lv_iload_n hx hb d_Mo_isKind_0 rfl (lv_at hl 0 rfl) ?_
  obtain ⟨g1, h⟩ := h
  refine r_if_lt (tgt := 13) hx hb g1 d_Mo_isKind_1 (by decide) (fun hc => ?_) (fun hc => ?_)
  · replace h := h.1 hc
    refine r_iconst hx hb d_Mo_isKind_13 ?_
    exact r_zret (z := 0) hx hb hr hlocks (Or.inl rfl) hS ⟨rfl, rfl, h⟩ d_Mo_isKind_14
  · replace h := h.2 hc
    refine lv_iload_n hx hb d_Mo_isKind_4 rfl (lv_at hl 0 rfl) ?_
    refine r_iconst hx hb d_Mo_isKind_5 ?_
    refine r_icmp_ge (tgt := 13) hx hb g1 ⟨by omega, by omega⟩ d_Mo_isKind_6 (by decide) (fun hc => ?_) (fun hc => ?_)
    · replace h := h.1 hc
      refine r_iconst hx hb d_Mo_isKind_13 ?_
      exact r_zret (z := 0) hx hb hr hlocks (Or.inl rfl) hS ⟨rfl, rfl, h⟩ d_Mo_isKind_14
    · replace h := h.2 hc
      refine r_iconst hx hb d_Mo_isKind_9 ?_
      refine lv_goto (tgt := 14) hx hb d_Mo_isKind_10 (by decide) ?_
      exact r_zret (z := 1) hx hb hr hlocks (Or.inr rfl) hS ⟨rfl, rfl, h⟩ d_Mo_isKind_14
/-! Mo_cell -/
def w_Mo_cell_b38 (mo : Nat) (Q : Int → (Nat → Int) → (Nat → Int → Int) → Prop) (x1 : Int) (y1 : Int) (F : Nat → Int) (A : Nat → Int → Int) : Prop := rg y1 ∧ ((y1 ≤ 0 → 0 ≤ (F 13) ∧ (F 13) < 60 ∧ Q (((F 13) + 1) - 1) (uf (uf (uf F 10 y1) 13 ((F 13) + 1)) 15 0) (ua A 25 (F 13) x1)) ∧ (¬ y1 ≤ 0 → Q 0 (uf F 10 y1) A))
def w_Mo_cell_b33 (mo : Nat) (Q : Int → (Nat → Int) → (Nat → Int → Int) → Prop) (x1 : Int) (F : Nat → Int) (A : Nat → Int → Int) : Prop := w_Mo_cell_b38 mo Q x1 2 F A
def w_Mo_cell (mo : Nat) (F : Nat → Int) (A : Nat → Int → Int) (x1 : Int) (x3 : Int) (Q : Int → (Nat → Int) → (Nat → Int → Int) → Prop) : Prop := rg (F 13) ∧ ((¬ (F 13) = 60 → rL x1 ∧ ((x1 < 1 → w_Mo_cell_b33 mo Q x1 F A) ∧ (¬ x1 < 1 → ((40 < x1 → w_Mo_cell_b33 mo Q x1 F A) ∧ (¬ 40 < x1 → rg x3 ∧ ((x3 = 1 → w_Mo_cell_b38 mo Q x1 0 F A) ∧ (¬ x3 = 1 → w_Mo_cell_b33 mo Q x1 F A))))))) ∧ ((F 13) = 60 → w_Mo_cell_b38 mo Q x1 1 F A))
set_option maxHeartbeats 4000000 in
set_option maxRecDepth 100000 in
theorem s_Mo_cell_b38 (C0 : x_C p s m args meth c c_Mo_cell 4 (some .int) gT R_Mo) (hA : ∀ q : Nat, s.heap.size ≤ q → A0 q) {mo : Nat} {Q : Int → (Nat → Int) → (Nat → Int → Int) → Prop} (x1 : Int) (y1 : Int) (F : Nat → Int) (A : Nat → Int → Int) (h : w_Mo_cell_b38 mo Q x1 y1 F A) (H : Heap) (locs : List Loc) (ls : Array Slot) (hS : x_S D vCl shU ad cA (NN mo) A0 s F A H locs) (hl : lv_has ls 4 [(0, .ref (ad 30)), (1, .long (lI x1))]) : W p l e ({ frames := 0, cells := 0, slots := 0, locals := 0 } : Room) s m args below meth c H locs 0 0 (MQ below (x_QI D vCl shU ad cA (NN mo) A0 Q) args s 0 0 A0) (F0 m 38 ls [.int (iI y1), .ref (ad 30)]) := by
  obtain ⟨hx, hb, hr, hml, hown, hts, hlocks⟩ := id C0
  refine r_puti (j := 10) (v := y1) hx hb hts in_Mo t_Mo to_Mo nm_Mo hown hS 30 rfl rfl 0 (by decide) (hts _ tw_634) rfl (by decide +kernel) (setf_10 ad cA mo _ _ _) (by decide) d_Mo_cell_38 (fun H locs hS => ?_)
  refine lv_aload_n hx hb d_Mo_cell_41 rfl (lv_at hl 0 rfl) ?_
  refine r_geti (z := y1) hx hb hts in_Mo hown hS 30 rfl rfl 0 (by decide) rfl (hts _ tw_634) d_Mo_cell_42 rfl ?_
  obtain ⟨g1, h⟩ := h
  refine r_if_le (tgt := 50) hx hb g1 d_Mo_cell_45 (by decide) (fun hc => ?_) (fun hc => ?_)
  · replace h := h.1 hc
    refine lv_aload_n hx hb d_Mo_cell_50 rfl (lv_at hl 0 rfl) ?_
    refine r_getr (t2 := 32) hx hb hts in_Mo hown hS 30 rfl rfl 5 (by decide) rfl (hts _ tw_639) d_Mo_cell_51 ?_
    refine lv_aload_n hx hb d_Mo_cell_54 rfl (lv_at hl 0 rfl) ?_
    refine r_geti (z := F 13) hx hb hts in_Mo hown hS 30 rfl rfl 4 (by decide) rfl (hts _ tw_638) d_Mo_cell_55 rfl ?_
    refine lv_lload_n hx hb d_Mo_cell_58 rfl (lv_at hl 1 rfl) ?_
    refine r_l2i hx hb d_Mo_cell_59 ?_
    obtain ⟨g2, h⟩ := h
    obtain ⟨g3, h⟩ := h
    refine r_iast (id := 25) (i := (F 13)) (v := x1) hx hb hS 32 rfl g2 g3 (seta_25 ad cA mo _ _ _ _) d_Mo_cell_60 (fun H locs hS => ?_)
    refine lv_aload_n hx hb d_Mo_cell_61 rfl (lv_at hl 0 rfl) ?_
    refine lv_dup hx hb d_Mo_cell_62 rfl ?_
    refine r_geti (z := F 13) hx hb hts in_Mo hown hS 30 rfl rfl 4 (by decide) rfl (hts _ tw_638) d_Mo_cell_63 rfl ?_
    refine r_iconst hx hb d_Mo_cell_66 ?_
    refine r_iadd hx hb d_Mo_cell_67 ?_
    refine r_puti (j := 13) (v := (F 13) + 1) hx hb hts in_Mo t_Mo to_Mo nm_Mo hown hS 30 rfl rfl 4 (by decide) (hts _ tw_638) rfl (by decide +kernel) (setf_13 ad cA mo _ _ _) (by decide) d_Mo_cell_68 (fun H locs hS => ?_)
    refine lv_aload_n hx hb d_Mo_cell_71 rfl (lv_at hl 0 rfl) ?_
    refine r_iconst hx hb d_Mo_cell_72 ?_
    refine r_putz (j := 15) (v := 0) hx hb hts in_Mo t_Mo to_Mo nm_Mo hown hS 30 rfl rfl 17 (by decide) (hts _ tw_651) rfl (by decide +kernel) (Or.inl rfl) (setf_15 ad cA mo _ _ _) (by decide) d_Mo_cell_73 (fun H locs hS => ?_)
    refine lv_aload_n hx hb d_Mo_cell_76 rfl (lv_at hl 0 rfl) ?_
    refine r_geti (z := (F 13) + 1) hx hb hts in_Mo hown hS 30 rfl rfl 4 (by decide) rfl (hts _ tw_638) d_Mo_cell_77 rfl ?_
    refine r_iconst hx hb d_Mo_cell_80 ?_
    refine r_isub hx hb d_Mo_cell_81 ?_
    exact r_iret (z := (((F 13) + 1) - 1)) hx hb hr hlocks hS h d_Mo_cell_82
  · replace h := h.2 hc
    refine r_iconst hx hb d_Mo_cell_48 ?_
    exact r_iret (z := 0) hx hb hr hlocks hS h d_Mo_cell_49
set_option maxHeartbeats 4000000 in
set_option maxRecDepth 100000 in
theorem s_Mo_cell_b33 (C0 : x_C p s m args meth c c_Mo_cell 4 (some .int) gT R_Mo) (hA : ∀ q : Nat, s.heap.size ≤ q → A0 q) {mo : Nat} {Q : Int → (Nat → Int) → (Nat → Int → Int) → Prop} (x1 : Int) (F : Nat → Int) (A : Nat → Int → Int) (h : w_Mo_cell_b33 mo Q x1 F A) (H : Heap) (locs : List Loc) (ls : Array Slot) (hS : x_S D vCl shU ad cA (NN mo) A0 s F A H locs) (hl : lv_has ls 4 [(0, .ref (ad 30)), (1, .long (lI x1))]) : W p l e ({ frames := 0, cells := 0, slots := 0, locals := 0 } : Room) s m args below meth c H locs 0 0 (MQ below (x_QI D vCl shU ad cA (NN mo) A0 Q) args s 0 0 A0) (F0 m 33 ls [.ref (ad 30)]) := by
  obtain ⟨hx, hb, hr, hml, hown, hts, hlocks⟩ := id C0
  refine r_iconst hx hb d_Mo_cell_33 ?_
  refine lv_goto (tgt := 38) hx hb d_Mo_cell_34 (by decide) ?_
  exact s_Mo_cell_b38 C0 hA _ _ _ _ h _ _ _ hS (lv_sub hl [0, 1] rfl)
set_option maxHeartbeats 4000000 in
set_option maxRecDepth 100000 in
theorem ct_Mo_cell (l : Launch) (D : va_G) (ad : Nat → Nat) (cA : Nat → ClassId) (mo sz : Nat) (F : Nat → Int) (A : Nat → Int → Int) (x1 : Int) (x3 : Int) (Q : Int → (Nat → Int) → (Nat → Int → Int) → Prop) (h : w_Mo_cell mo F A x1 x3 Q) : Met l y_Mo_cell (Cond.code y_Mo_cell c_Mo_cell 4 (some .int) :: gT) ({ frames := 0, cells := 0, slots := 0, locals := 0 } : Room) (va_Pc [.ref (ad 30), .long (lI x1), .int (iI x3)] (x_P D vCl shU ad cA (NN mo) sz F A)) (x_QI D vCl shU ad cA (NN mo) (va_A (x_w shU ad cA (NN mo) F A) sz) Q) 0 0 (va_A (x_w shU ad cA (NN mo) F A) sz) := by
  refine Met.ofW (cc := c_Mo_cell) (maxL := 4) (ret := some .int) (by decide) rfl ?_
  intro p e s m args below meth c s₁ B hml hv
  obtain ⟨rfl, hsz, hP, hK, hD0, hN0⟩ := hv
  have hx := B.exec
  have hb := B.bytes
  have hr := B.returns
  have hts0 := atoms_spec (ws := (Cond.code y_Mo_cell c_Mo_cell 4 (some .int) :: gT)) B.pre
  have hts : ∀ w ∈ gT, w.before _ s = true := fun w h => hts0 w (List.mem_cons_of_mem _ h)
  have hown : s.vm.findClass R_Mo = some m.cls := findClass_of_methodNamed B.named
  have hlocks := B.notSynchronized
  subst hsz
  have hS : x_S D vCl shU ad cA (NN mo) (va_A (x_w shU ad cA (NN mo) F A) s.heap.size) s F A s.heap [] := ⟨hK, hP, hD0.self, va_S.rf, hN0⟩
  have hA : ∀ q : Nat, s.heap.size ≤ q → va_A (x_w shU ad cA (NN mo) F A) s.heap.size q := fun q h => Or.inr h
  have C0 : x_C p s m [.ref (ad 30), .long (lI x1), .int (iI x3)].toArray meth c c_Mo_cell 4 (some .int) gT R_Mo := ⟨hx, hb, hr, hml, hown, hts, hlocks⟩
  generalize va_A (x_w shU ad cA (NN mo) F A) s.heap.size = A0 at hS hA ⊢
  have hl := lv_entry [.ref (ad 30), .long (lI x1), .int (iI x3)] (n := 4) (Nat.le_of_ble_eq_true rfl)
  rw [lg_entry_eq]
  generalize (lg_sl [.ref (ad 30), .long (lI x1), .int (iI x3)] ++ List.replicate (4 - (lg_sl [.ref (ad 30), .long (lI x1), .int (iI x3)]).length) Slot.unset).toArray = ls at hl ⊢
  have hl : lv_has ls 4 [(0, .ref (ad 30)), (1, .long (lI x1)), (3, .int (iI x3))] := hl
  refine lv_aload_n hx hb d_Mo_cell_0 rfl (lv_at hl 0 rfl) ?_
  refine lv_aload_n hx hb d_Mo_cell_1 rfl (lv_at hl 0 rfl) ?_
  refine r_geti (z := F 13) hx hb hts in_Mo hown hS 30 rfl rfl 4 (by decide) rfl (hts _ tw_638) d_Mo_cell_2 rfl ?_
  refine r_bipush hx hb d_Mo_cell_5 (by decide +kernel) ?_
  obtain ⟨g4, h⟩ := h
  refine r_icmp_ne (tgt := 14) hx hb g4 ⟨by omega, by omega⟩ d_Mo_cell_7 (by decide) (fun hc => ?_) (fun hc => ?_)
  · replace h := h.1 hc
    refine lv_lload_n hx hb d_Mo_cell_14 rfl (lv_at hl 1 rfl) ?_
    refine r_lconst hx hb 1 d_Mo_cell_15 (by decide +kernel) ?_
    obtain ⟨g5, h⟩ := h
    refine r_lcmp_lt (tgt := 33) hx hb g5 ⟨by omega, by omega⟩ d_Mo_cell_16 d_Mo_cell_17 (by decide) (fun hc => ?_) (fun hc => ?_)
    · replace h := h.1 hc
      exact s_Mo_cell_b33 C0 hA _ _ _ h _ _ _ hS (lv_sub hl [0, 1] rfl)
    · replace h := h.2 hc
      refine lv_lload_n hx hb d_Mo_cell_20 rfl (lv_at hl 1 rfl) ?_
      refine r_ldc2 40 hx hb hown (v := 40) (hts _ tw_729) rfl d_Mo_cell_21 ?_
      refine r_lcmp_gt (tgt := 33) hx hb g5 ⟨by omega, by omega⟩ d_Mo_cell_24 d_Mo_cell_25 (by decide) (fun hc => ?_) (fun hc => ?_)
      · replace h := h.1 hc
        exact s_Mo_cell_b33 C0 hA _ _ _ h _ _ _ hS (lv_sub hl [0, 1] rfl)
      · replace h := h.2 hc
        refine lv_iload_n hx hb d_Mo_cell_28 rfl (lv_at hl 2 rfl) ?_
        refine r_iconst hx hb d_Mo_cell_29 ?_
        obtain ⟨g6, h⟩ := h
        refine r_icmp_eq (tgt := 37) hx hb g6 ⟨by omega, by omega⟩ d_Mo_cell_30 (by decide) (fun hc => ?_) (fun hc => ?_)
        · replace h := h.1 hc
          refine r_iconst hx hb d_Mo_cell_37 ?_
          exact s_Mo_cell_b38 C0 hA _ _ _ _ h _ _ _ hS (lv_sub hl [0, 1] rfl)
        · replace h := h.2 hc
          exact s_Mo_cell_b33 C0 hA _ _ _ h _ _ _ hS (lv_sub hl [0, 1] rfl)
  · replace h := h.2 hc
    refine r_iconst hx hb d_Mo_cell_10 ?_
    refine lv_goto (tgt := 38) hx hb d_Mo_cell_11 (by decide) ?_
    exact s_Mo_cell_b38 C0 hA _ _ _ _ h _ _ _ hS (lv_sub hl [0, 1] rfl)
/-! Mo_want -/
def w_Mo_want_b74 (mo : Nat) (Q : Int → (Nat → Int) → (Nat → Int → Int) → Prop) (x1 : Int) (x2 : Int) (x4 : Int) (F : Nat → Int) (A : Nat → Int → Int) : Prop := 0 ≤ x1 ∧ x1 < 60 ∧ Q 1 (uf F 15 0) (ua (ua A 28 x1 x2) 29 x1 x4)
def w_Mo_want_b39 (mo : Nat) (Q : Int → (Nat → Int) → (Nat → Int → Int) → Prop) (x1 : Int) (x2 : Int) (x4 : Int) (y1 : Int) (F : Nat → Int) (A : Nat → Int → Int) : Prop := rg y1 ∧ ((0 < y1 → Q 0 (uf F 10 y1) A) ∧ (¬ 0 < y1 → 0 ≤ x1 ∧ x1 < 60 ∧ rg (A 28 x1) ∧ rL (A 28 x1) ∧ rL x2 ∧ ((¬ (A 28 x1) = x2 → w_Mo_want_b74 mo Q x1 x2 x4 (uf F 10 y1) A) ∧ ((A 28 x1) = x2 → rg (A 29 x1) ∧ rg x4 ∧ ((¬ (A 29 x1) = x4 → w_Mo_want_b74 mo Q x1 x2 x4 (uf F 10 y1) A) ∧ ((A 29 x1) = x4 → Q 0 (uf F 10 y1) A))))))
def w_Mo_want_b34 (mo : Nat) (Q : Int → (Nat → Int) → (Nat → Int → Int) → Prop) (x1 : Int) (x2 : Int) (x4 : Int) (F : Nat → Int) (A : Nat → Int → Int) : Prop := w_Mo_want_b39 mo Q x1 x2 x4 1 F A
def w_Mo_want (mo : Nat) (F : Nat → Int) (A : Nat → Int → Int) (x1 : Int) (x2 : Int) (x4 : Int) (Q : Int → (Nat → Int) → (Nat → Int → Int) → Prop) : Prop := w_Mo_isCell mo F A x1 (fun z11 => rg z11 ∧ ((z11 = 0 → w_Mo_want_b34 mo Q x1 x2 x4 F A) ∧ (¬ z11 = 0 → rL x2 ∧ ((x2 < 0 → w_Mo_want_b34 mo Q x1 x2 x4 F A) ∧ (¬ x2 < 0 → rg (F 12) ∧ rL (F 12) ∧ (((F 12) ≤ x2 → w_Mo_want_b34 mo Q x1 x2 x4 F A) ∧ (¬ (F 12) ≤ x2 → w_Mo_isRow mo F A x4 (fun z16 => rg z16 ∧ ((¬ z16 = 0 → w_Mo_want_b39 mo Q x1 x2 x4 0 F A) ∧ (z16 = 0 → w_Mo_want_b34 mo Q x1 x2 x4 F A))))))))))
set_option maxHeartbeats 4000000 in
set_option maxRecDepth 100000 in
theorem s_Mo_want_b74 (C0 : x_C p s m args meth c c_Mo_want 5 (some .boolean) gT R_Mo) (hA : ∀ q : Nat, s.heap.size ≤ q → A0 q) {mo : Nat} {Q : Int → (Nat → Int) → (Nat → Int → Int) → Prop} (x1 : Int) (x2 : Int) (x4 : Int) (F : Nat → Int) (A : Nat → Int → Int) (h : w_Mo_want_b74 mo Q x1 x2 x4 F A) (H : Heap) (locs : List Loc) (ls : Array Slot) (hS : x_S D vCl shU ad cA (NN mo) A0 s F A H locs) (hl : lv_has ls 5 [(0, .ref (ad 30)), (1, .int (iI x1)), (2, .long (lI x2)), (4, .int (iI x4))]) : W p l e ({ frames := 1, cells := 0, slots := 0, locals := 21 } : Room) s m args below meth c H locs 0 0 (MQ below (x_QI D vCl shU ad cA (NN mo) A0 Q) args s 0 0 A0) (F0 m 74 ls []) := by
  obtain ⟨hx, hb, hr, hml, hown, hts, hlocks⟩ := id C0
  refine lv_aload_n hx hb d_Mo_want_74 rfl (lv_at hl 0 rfl) ?_
  refine r_getr (t2 := 35) hx hb hts in_Mo hown hS 30 rfl rfl 8 (by decide) rfl (hts _ tw_642) d_Mo_want_75 ?_
  refine lv_iload_n hx hb d_Mo_want_78 rfl (lv_at hl 1 rfl) ?_
  refine lv_lload_n hx hb d_Mo_want_79 rfl (lv_at hl 2 rfl) ?_
  refine r_l2i hx hb d_Mo_want_80 ?_
  obtain ⟨g1, h⟩ := h
  obtain ⟨g2, h⟩ := h
  refine r_iast (id := 28) (i := x1) (v := x2) hx hb hS 35 rfl g1 g2 (seta_28 ad cA mo _ _ _ _) d_Mo_want_81 (fun H locs hS => ?_)
  refine lv_aload_n hx hb d_Mo_want_82 rfl (lv_at hl 0 rfl) ?_
  refine r_getr (t2 := 36) hx hb hts in_Mo hown hS 30 rfl rfl 9 (by decide) rfl (hts _ tw_643) d_Mo_want_83 ?_
  refine lv_iload_n hx hb d_Mo_want_86 rfl (lv_at hl 1 rfl) ?_
  refine lv_iload hx hb d_Mo_want_87 (lv_at hl 3 rfl) ?_
  refine r_iast (id := 29) (i := x1) (v := x4) hx hb hS 36 rfl g1 g2 (seta_29 ad cA mo _ _ _ _) d_Mo_want_89 (fun H locs hS => ?_)
  refine lv_aload_n hx hb d_Mo_want_90 rfl (lv_at hl 0 rfl) ?_
  refine r_iconst hx hb d_Mo_want_91 ?_
  refine r_putz (j := 15) (v := 0) hx hb hts in_Mo t_Mo to_Mo nm_Mo hown hS 30 rfl rfl 17 (by decide) (hts _ tw_651) rfl (by decide +kernel) (Or.inl rfl) (setf_15 ad cA mo _ _ _) (by decide) d_Mo_want_92 (fun H locs hS => ?_)
  refine r_iconst hx hb d_Mo_want_95 ?_
  exact r_zret (z := 1) hx hb hr hlocks (Or.inr rfl) hS h d_Mo_want_96
set_option maxHeartbeats 4000000 in
set_option maxRecDepth 100000 in
theorem s_Mo_want_b39 (C0 : x_C p s m args meth c c_Mo_want 5 (some .boolean) gT R_Mo) (hA : ∀ q : Nat, s.heap.size ≤ q → A0 q) {mo : Nat} {Q : Int → (Nat → Int) → (Nat → Int → Int) → Prop} (x1 : Int) (x2 : Int) (x4 : Int) (y1 : Int) (F : Nat → Int) (A : Nat → Int → Int) (h : w_Mo_want_b39 mo Q x1 x2 x4 y1 F A) (H : Heap) (locs : List Loc) (ls : Array Slot) (hS : x_S D vCl shU ad cA (NN mo) A0 s F A H locs) (hl : lv_has ls 5 [(0, .ref (ad 30)), (1, .int (iI x1)), (2, .long (lI x2)), (4, .int (iI x4))]) : W p l e ({ frames := 1, cells := 0, slots := 0, locals := 21 } : Room) s m args below meth c H locs 0 0 (MQ below (x_QI D vCl shU ad cA (NN mo) A0 Q) args s 0 0 A0) (F0 m 39 ls [.int (iI y1), .ref (ad 30)]) := by
  obtain ⟨hx, hb, hr, hml, hown, hts, hlocks⟩ := id C0
  refine r_puti (j := 10) (v := y1) hx hb hts in_Mo t_Mo to_Mo nm_Mo hown hS 30 rfl rfl 0 (by decide) (hts _ tw_634) rfl (by decide +kernel) (setf_10 ad cA mo _ _ _) (by decide) d_Mo_want_39 (fun H locs hS => ?_)
  refine lv_aload_n hx hb d_Mo_want_42 rfl (lv_at hl 0 rfl) ?_
  refine r_geti (z := y1) hx hb hts in_Mo hown hS 30 rfl rfl 0 (by decide) rfl (hts _ tw_634) d_Mo_want_43 rfl ?_
  obtain ⟨g3, h⟩ := h
  refine r_if_gt (tgt := 72) hx hb g3 d_Mo_want_46 (by decide) (fun hc => ?_) (fun hc => ?_)
  · replace h := h.1 hc
    refine r_iconst hx hb d_Mo_want_72 ?_
    exact r_zret (z := 0) hx hb hr hlocks (Or.inl rfl) hS h d_Mo_want_73
  · replace h := h.2 hc
    refine lv_aload_n hx hb d_Mo_want_49 rfl (lv_at hl 0 rfl) ?_
    refine r_getr (t2 := 35) hx hb hts in_Mo hown hS 30 rfl rfl 8 (by decide) rfl (hts _ tw_642) d_Mo_want_50 ?_
    refine lv_iload_n hx hb d_Mo_want_53 rfl (lv_at hl 1 rfl) ?_
    obtain ⟨g4, h⟩ := h
    obtain ⟨g5, h⟩ := h
    refine r_iald (id := 28) (i := x1) (z := A 28 x1) hx hb hS 35 rfl g4 g5 d_Mo_want_54 rfl ?_
    obtain ⟨g6, h⟩ := h
    refine r_i2l hx hb g6 d_Mo_want_55 ?_
    refine lv_lload_n hx hb d_Mo_want_56 rfl (lv_at hl 2 rfl) ?_
    obtain ⟨g7, h⟩ := h
    obtain ⟨g8, h⟩ := h
    refine r_lcmp_ne (tgt := 74) hx hb g7 g8 d_Mo_want_57 d_Mo_want_58 (by decide) (fun hc => ?_) (fun hc => ?_)
    · replace h := h.1 hc
      exact s_Mo_want_b74 C0 hA _ _ _ _ _ h _ _ _ hS (lv_sub hl [0, 1, 2, 3] rfl)
    · replace h := h.2 hc
      refine lv_aload_n hx hb d_Mo_want_61 rfl (lv_at hl 0 rfl) ?_
      refine r_getr (t2 := 36) hx hb hts in_Mo hown hS 30 rfl rfl 9 (by decide) rfl (hts _ tw_643) d_Mo_want_62 ?_
      refine lv_iload_n hx hb d_Mo_want_65 rfl (lv_at hl 1 rfl) ?_
      refine r_iald (id := 29) (i := x1) (z := A 29 x1) hx hb hS 36 rfl g4 g5 d_Mo_want_66 rfl ?_
      refine lv_iload hx hb d_Mo_want_67 (lv_at hl 3 rfl) ?_
      obtain ⟨g9, h⟩ := h
      obtain ⟨g10, h⟩ := h
      refine r_icmp_ne (tgt := 74) hx hb g9 g10 d_Mo_want_69 (by decide) (fun hc => ?_) (fun hc => ?_)
      · replace h := h.1 hc
        exact s_Mo_want_b74 C0 hA _ _ _ _ _ h _ _ _ hS (lv_sub hl [0, 1, 2, 3] rfl)
      · replace h := h.2 hc
        refine r_iconst hx hb d_Mo_want_72 ?_
        exact r_zret (z := 0) hx hb hr hlocks (Or.inl rfl) hS h d_Mo_want_73
set_option maxHeartbeats 4000000 in
set_option maxRecDepth 100000 in
theorem s_Mo_want_b34 (C0 : x_C p s m args meth c c_Mo_want 5 (some .boolean) gT R_Mo) (hA : ∀ q : Nat, s.heap.size ≤ q → A0 q) {mo : Nat} {Q : Int → (Nat → Int) → (Nat → Int → Int) → Prop} (x1 : Int) (x2 : Int) (x4 : Int) (F : Nat → Int) (A : Nat → Int → Int) (h : w_Mo_want_b34 mo Q x1 x2 x4 F A) (H : Heap) (locs : List Loc) (ls : Array Slot) (hS : x_S D vCl shU ad cA (NN mo) A0 s F A H locs) (hl : lv_has ls 5 [(0, .ref (ad 30)), (1, .int (iI x1)), (2, .long (lI x2)), (4, .int (iI x4))]) : W p l e ({ frames := 1, cells := 0, slots := 0, locals := 21 } : Room) s m args below meth c H locs 0 0 (MQ below (x_QI D vCl shU ad cA (NN mo) A0 Q) args s 0 0 A0) (F0 m 34 ls [.ref (ad 30)]) := by
  obtain ⟨hx, hb, hr, hml, hown, hts, hlocks⟩ := id C0
  refine r_iconst hx hb d_Mo_want_34 ?_
  refine lv_goto (tgt := 39) hx hb d_Mo_want_35 (by decide) ?_
  exact s_Mo_want_b39 C0 hA _ _ _ _ _ _ h _ _ _ hS (lv_sub hl [0, 1, 2, 3] rfl)
set_option maxHeartbeats 4000000 in
set_option maxRecDepth 100000 in
theorem ct_Mo_want (l : Launch) (D : va_G) (ad : Nat → Nat) (cA : Nat → ClassId) (mo sz : Nat) (F : Nat → Int) (A : Nat → Int → Int) (x1 : Int) (x2 : Int) (x4 : Int) (Q : Int → (Nat → Int) → (Nat → Int → Int) → Prop) (h : w_Mo_want mo F A x1 x2 x4 Q) : Met l y_Mo_want (Cond.code y_Mo_want c_Mo_want 5 (some .boolean) :: gT) ({ frames := 1, cells := 0, slots := 0, locals := 21 } : Room) (va_Pc [.ref (ad 30), .int (iI x1), .long (lI x2), .int (iI x4)] (x_P D vCl shU ad cA (NN mo) sz F A)) (x_QI D vCl shU ad cA (NN mo) (va_A (x_w shU ad cA (NN mo) F A) sz) Q) 0 0 (va_A (x_w shU ad cA (NN mo) F A) sz) := by
  refine Met.ofW (cc := c_Mo_want) (maxL := 5) (ret := some .boolean) (by decide) rfl ?_
  intro p e s m args below meth c s₁ B hml hv
  obtain ⟨rfl, hsz, hP, hK, hD0, hN0⟩ := hv
  have hx := B.exec
  have hb := B.bytes
  have hr := B.returns
  have hts0 := atoms_spec (ws := (Cond.code y_Mo_want c_Mo_want 5 (some .boolean) :: gT)) B.pre
  have hts : ∀ w ∈ gT, w.before _ s = true := fun w h => hts0 w (List.mem_cons_of_mem _ h)
  have hown : s.vm.findClass R_Mo = some m.cls := findClass_of_methodNamed B.named
  have hlocks := B.notSynchronized
  subst hsz
  have hS : x_S D vCl shU ad cA (NN mo) (va_A (x_w shU ad cA (NN mo) F A) s.heap.size) s F A s.heap [] := ⟨hK, hP, hD0.self, va_S.rf, hN0⟩
  have hA : ∀ q : Nat, s.heap.size ≤ q → va_A (x_w shU ad cA (NN mo) F A) s.heap.size q := fun q h => Or.inr h
  have C0 : x_C p s m [.ref (ad 30), .int (iI x1), .long (lI x2), .int (iI x4)].toArray meth c c_Mo_want 5 (some .boolean) gT R_Mo := ⟨hx, hb, hr, hml, hown, hts, hlocks⟩
  generalize va_A (x_w shU ad cA (NN mo) F A) s.heap.size = A0 at hS hA ⊢
  have hl := lv_entry [.ref (ad 30), .int (iI x1), .long (lI x2), .int (iI x4)] (n := 5) (Nat.le_of_ble_eq_true rfl)
  rw [lg_entry_eq]
  generalize (lg_sl [.ref (ad 30), .int (iI x1), .long (lI x2), .int (iI x4)] ++ List.replicate (5 - (lg_sl [.ref (ad 30), .int (iI x1), .long (lI x2), .int (iI x4)]).length) Slot.unset).toArray = ls at hl ⊢
  have hl : lv_has ls 5 [(0, .ref (ad 30)), (1, .int (iI x1)), (2, .long (lI x2)), (4, .int (iI x4))] := hl
  refine lv_aload_n hx hb d_Mo_want_0 rfl (lv_at hl 0 rfl) ?_
  refine lv_aload_n hx hb d_Mo_want_1 rfl (lv_at hl 0 rfl) ?_
  refine lv_iload_n hx hb d_Mo_want_2 rfl (lv_at hl 1 rfl) ?_
  refine r_ci (va_runV (As := [.int (iI x1)]) (rest := [.ref (ad 30)]) ⟨hx, hb, hml, hown, hts⟩ (ct_Mo_isCell l D ad cA mo _ _ _ _ _ h) (cwV 1 hts (gV tw_734 tw_736 tw_s_Mo_isCell tw_8 tw_737) rfl rfl rfl (by decide +kernel) ⟨Nat.le_of_ble_eq_true rfl, Nat.le_of_ble_eq_true rfl⟩) (x_preV hS 30 rfl rfl _) rfl rfl hl.1 rfl (lv_room (Nat.le_of_ble_eq_true rfl)) d_Mo_want_3 ⟨Nat.zero_le _, Nat.zero_le _⟩) hS hA (fun z11 F11 A11 H locs hS h => ?_)
  obtain ⟨rfl, rfl, h⟩ := h
  obtain ⟨g12, h⟩ := h
  refine r_if_eq (tgt := 34) hx hb g12 d_Mo_want_6 (by decide) (fun hc => ?_) (fun hc => ?_)
  · replace h := h.1 hc
    exact s_Mo_want_b34 C0 hA _ _ _ _ _ h _ _ _ hS (lv_sub hl [0, 1, 2, 3] rfl)
  · replace h := h.2 hc
    refine lv_lload_n hx hb d_Mo_want_9 rfl (lv_at hl 2 rfl) ?_
    refine r_lconst hx hb 0 d_Mo_want_10 (by decide +kernel) ?_
    obtain ⟨g13, h⟩ := h
    refine r_lcmp_lt (tgt := 34) hx hb g13 ⟨by omega, by omega⟩ d_Mo_want_11 d_Mo_want_12 (by decide) (fun hc => ?_) (fun hc => ?_)
    · replace h := h.1 hc
      exact s_Mo_want_b34 C0 hA _ _ _ _ _ h _ _ _ hS (lv_sub hl [0, 1, 2, 3] rfl)
    · replace h := h.2 hc
      refine lv_lload_n hx hb d_Mo_want_15 rfl (lv_at hl 2 rfl) ?_
      refine lv_aload_n hx hb d_Mo_want_16 rfl (lv_at hl 0 rfl) ?_
      refine r_geti (z := F 12) hx hb hts in_Mo hown hS 30 rfl rfl 2 (by decide) rfl (hts _ tw_636) d_Mo_want_17 rfl ?_
      obtain ⟨g14, h⟩ := h
      refine r_i2l hx hb g14 d_Mo_want_20 ?_
      obtain ⟨g15, h⟩ := h
      refine r_lcmp_ge (tgt := 34) hx hb g13 g15 d_Mo_want_21 d_Mo_want_22 (by decide) (fun hc => ?_) (fun hc => ?_)
      · replace h := h.1 hc
        exact s_Mo_want_b34 C0 hA _ _ _ _ _ h _ _ _ hS (lv_sub hl [0, 1, 2, 3] rfl)
      · replace h := h.2 hc
        refine lv_aload_n hx hb d_Mo_want_25 rfl (lv_at hl 0 rfl) ?_
        refine lv_iload hx hb d_Mo_want_26 (lv_at hl 3 rfl) ?_
        refine r_ci (va_runV (As := [.int (iI x4)]) (rest := [.ref (ad 30)]) ⟨hx, hb, hml, hown, hts⟩ (ct_Mo_isRow l D ad cA mo _ _ _ _ _ h) (cwV 1 hts (gV tw_738 tw_740 tw_s_Mo_isRow tw_8 tw_741) rfl rfl rfl (by decide +kernel) ⟨Nat.le_of_ble_eq_true rfl, Nat.le_of_ble_eq_true rfl⟩) (x_preV hS 30 rfl rfl _) rfl rfl hl.1 rfl (lv_room (Nat.le_of_ble_eq_true rfl)) d_Mo_want_28 ⟨Nat.zero_le _, Nat.zero_le _⟩) hS hA (fun z16 F16 A16 H locs hS h => ?_)
        obtain ⟨rfl, rfl, h⟩ := h
        obtain ⟨g17, h⟩ := h
        refine r_if_ne (tgt := 38) hx hb g17 d_Mo_want_31 (by decide) (fun hc => ?_) (fun hc => ?_)
        · replace h := h.1 hc
          refine r_iconst hx hb d_Mo_want_38 ?_
          exact s_Mo_want_b39 C0 hA _ _ _ _ _ _ h _ _ _ hS (lv_sub hl [0, 1, 2, 3] rfl)
        · replace h := h.2 hc
          exact s_Mo_want_b34 C0 hA _ _ _ _ _ h _ _ _ hS (lv_sub hl [0, 1, 2, 3] rfl)
/-! Mo_bar -/
def w_Mo_bar_b142 (mo : Nat) (Q : Int → (Nat → Int) → (Nat → Int → Int) → Prop) (x6 : Int) (y1 : Int) (F : Nat → Int) (A : Nat → Int → Int) : Prop := (y1 = 0 ∨ y1 = 1) ∧ (x6 = 0 ∨ x6 = 1) ∧ Q x6 (uf F 15 y1) A
def w_Mo_bar_b141 (mo : Nat) (Q : Int → (Nat → Int) → (Nat → Int → Int) → Prop) (x6 : Int) (F : Nat → Int) (A : Nat → Int → Int) : Prop := w_Mo_bar_b142 mo Q x6 0 F A
def w_Mo_bar_b102 (mo : Nat) (Q : Int → (Nat → Int) → (Nat → Int → Int) → Prop) (I67 : Int → Int → (Nat → Int) → (Nat → Int → Int) → Prop) (x1 : Int) (x4 : Int) (x7 : Int) (y0 : Int) (F : Nat → Int) (A : Nat → Int → Int) : Prop := 0 ≤ ((1000 * x1) + x7) ∧ ((1000 * x1) + x7) < 16000 ∧ I67 y0 (x7 + 1) F (ua A 24 ((1000 * x1) + x7) 1)
def w_Mo_bar_b97 (mo : Nat) (Q : Int → (Nat → Int) → (Nat → Int → Int) → Prop) (I67 : Int → Int → (Nat → Int) → (Nat → Int → Int) → Prop) (x1 : Int) (x4 : Int) (x7 : Int) (F : Nat → Int) (A : Nat → Int → Int) : Prop := w_Mo_bar_b102 mo Q I67 x1 x4 x7 1 F A
def w_Mo_bar_b67 (mo : Nat) (Q : Int → (Nat → Int) → (Nat → Int → Int) → Prop) (x1 : Int) (x4 : Int) (x6 : Int) (x7 : Int) (F : Nat → Int) (A : Nat → Int → Int) : Prop := Lp4 (fun I67 x6 x7 F A => rg x7 ∧ rL x7 ∧ rL x4 ∧ ((x4 ≤ x7 → rg (F 15) ∧ (((F 15) = 0 → w_Mo_bar_b141 mo Q x6 F A) ∧ (¬ (F 15) = 0 → rg x6 ∧ ((¬ x6 = 0 → w_Mo_bar_b141 mo Q x6 F A) ∧ (x6 = 0 → w_Mo_bar_b142 mo Q x6 1 F A))))) ∧ (¬ x4 ≤ x7 → rg x6 ∧ ((¬ x6 = 0 → w_Mo_bar_b97 mo Q I67 x1 x4 x7 F A) ∧ (x6 = 0 → 0 ≤ ((1000 * x1) + x7) ∧ ((1000 * x1) + x7) < 16000 ∧ rg (A 24 ((1000 * x1) + x7)) ∧ ((¬ (A 24 ((1000 * x1) + x7)) = 0 → w_Mo_bar_b102 mo Q I67 x1 x4 x7 0 F A) ∧ ((A 24 ((1000 * x1) + x7)) = 0 → w_Mo_bar_b97 mo Q I67 x1 x4 x7 F A))))))) x6 x7 F A
def w_Mo_bar_b48 (mo : Nat) (Q : Int → (Nat → Int) → (Nat → Int → Int) → Prop) (x1 : Int) (x2 : Int) (x4 : Int) (y1 : Int) (F : Nat → Int) (A : Nat → Int → Int) : Prop := rg y1 ∧ ((y1 ≤ 0 → w_Mo_bar_b67 mo Q x1 x4 0 x2 (uf F 10 y1) A) ∧ (¬ y1 ≤ 0 → Q 0 (uf F 10 y1) A))
def w_Mo_bar_b43 (mo : Nat) (Q : Int → (Nat → Int) → (Nat → Int → Int) → Prop) (x1 : Int) (x2 : Int) (x4 : Int) (F : Nat → Int) (A : Nat → Int → Int) : Prop := w_Mo_bar_b48 mo Q x1 x2 x4 1 F A
def w_Mo_bar (mo : Nat) (F : Nat → Int) (A : Nat → Int → Int) (x1 : Int) (x2 : Int) (x4 : Int) (Q : Int → (Nat → Int) → (Nat → Int → Int) → Prop) : Prop := w_Mo_isRow mo F A x1 (fun z15 => rg z15 ∧ ((z15 = 0 → w_Mo_bar_b43 mo Q x1 x2 x4 F A) ∧ (¬ z15 = 0 → rL x2 ∧ ((x2 < 0 → w_Mo_bar_b43 mo Q x1 x2 x4 F A) ∧ (¬ x2 < 0 → rg (F 12) ∧ rL (F 12) ∧ (((F 12) < x2 → w_Mo_bar_b43 mo Q x1 x2 x4 F A) ∧ (¬ (F 12) < x2 → rL x4 ∧ ((x4 < x2 → w_Mo_bar_b43 mo Q x1 x2 x4 F A) ∧ (¬ x4 < x2 → ((x4 ≤ (F 12) → w_Mo_bar_b48 mo Q x1 x2 x4 0 F A) ∧ (¬ x4 ≤ (F 12) → w_Mo_bar_b43 mo Q x1 x2 x4 F A)))))))))))
set_option maxHeartbeats 4000000 in
set_option maxRecDepth 100000 in
theorem s_Mo_bar_b142 (C0 : x_C p s m args meth c c_Mo_bar 8 (some .boolean) gT R_Mo) (hA : ∀ q : Nat, s.heap.size ≤ q → A0 q) {mo : Nat} {Q : Int → (Nat → Int) → (Nat → Int → Int) → Prop} (x6 : Int) (y1 : Int) (F : Nat → Int) (A : Nat → Int → Int) (h : w_Mo_bar_b142 mo Q x6 y1 F A) (H : Heap) (locs : List Loc) (ls : Array Slot) (hS : x_S D vCl shU ad cA (NN mo) A0 s F A H locs) (hl : lv_has ls 8 [(6, .int (iI x6))]) : W p l e ({ frames := 1, cells := 0, slots := 0, locals := 21 } : Room) s m args below meth c H locs 0 0 (MQ below (x_QI D vCl shU ad cA (NN mo) A0 Q) args s 0 0 A0) (F0 m 142 ls [.int (iI y1), .ref (ad 30)]) := by
  obtain ⟨hx, hb, hr, hml, hown, hts, hlocks⟩ := id C0
  obtain ⟨g1, h⟩ := h
  refine r_putz (j := 15) (v := y1) hx hb hts in_Mo t_Mo to_Mo nm_Mo hown hS 30 rfl rfl 17 (by decide) (hts _ tw_651) rfl (by decide +kernel) g1 (setf_15 ad cA mo _ _ _) (by decide) d_Mo_bar_142 (fun H locs hS => ?_)
  refine lv_iload hx hb d_Mo_bar_145 (lv_at hl 0 rfl) ?_
  obtain ⟨g2, h⟩ := h
  exact r_zret (z := x6) hx hb hr hlocks g2 hS h d_Mo_bar_147
set_option maxHeartbeats 4000000 in
set_option maxRecDepth 100000 in
theorem s_Mo_bar_b141 (C0 : x_C p s m args meth c c_Mo_bar 8 (some .boolean) gT R_Mo) (hA : ∀ q : Nat, s.heap.size ≤ q → A0 q) {mo : Nat} {Q : Int → (Nat → Int) → (Nat → Int → Int) → Prop} (x6 : Int) (F : Nat → Int) (A : Nat → Int → Int) (h : w_Mo_bar_b141 mo Q x6 F A) (H : Heap) (locs : List Loc) (ls : Array Slot) (hS : x_S D vCl shU ad cA (NN mo) A0 s F A H locs) (hl : lv_has ls 8 [(6, .int (iI x6))]) : W p l e ({ frames := 1, cells := 0, slots := 0, locals := 21 } : Room) s m args below meth c H locs 0 0 (MQ below (x_QI D vCl shU ad cA (NN mo) A0 Q) args s 0 0 A0) (F0 m 141 ls [.ref (ad 30)]) := by
  obtain ⟨hx, hb, hr, hml, hown, hts, hlocks⟩ := id C0
  refine r_iconst hx hb d_Mo_bar_141 ?_
  exact s_Mo_bar_b142 C0 hA _ _ _ _ h _ _ _ hS (lv_sub hl [0] rfl)
set_option maxHeartbeats 4000000 in
set_option maxRecDepth 100000 in
theorem s_Mo_bar_b102 (C0 : x_C p s m args meth c c_Mo_bar 8 (some .boolean) gT R_Mo) (hA : ∀ q : Nat, s.heap.size ≤ q → A0 q) {mo : Nat} {Q : Int → (Nat → Int) → (Nat → Int → Int) → Prop} {I67 : Int → Int → (Nat → Int) → (Nat → Int → Int) → Prop} (x1 : Int) (x4 : Int) (x7 : Int) (y0 : Int) (F : Nat → Int) (A : Nat → Int → Int) (hI67 : ∀ (x6 : Int) (x7 : Int) (F : Nat → Int) (A : Nat → Int → Int), I67 x6 x7 F A → ∀ (H : Heap) (locs : List Loc) (ls : Array Slot), x_S D vCl shU ad cA (NN mo) A0 s F A H locs → lv_has ls 8 [(0, .ref (ad 30)), (1, .int (iI x1)), (4, .long (lI x4)), (6, .int (iI x6)), (7, .int (iI x7))] → W p l e ({ frames := 1, cells := 0, slots := 0, locals := 21 } : Room) s m args below meth c H locs 0 0 (MQ below (x_QI D vCl shU ad cA (NN mo) A0 Q) args s 0 0 A0) (F0 m 67 ls [])) (h : w_Mo_bar_b102 mo Q I67 x1 x4 x7 y0 F A) (H : Heap) (locs : List Loc) (ls : Array Slot) (hS : x_S D vCl shU ad cA (NN mo) A0 s F A H locs) (hl : lv_has ls 8 [(0, .ref (ad 30)), (1, .int (iI x1)), (4, .long (lI x4)), (7, .int (iI x7))]) : W p l e ({ frames := 1, cells := 0, slots := 0, locals := 21 } : Room) s m args below meth c H locs 0 0 (MQ below (x_QI D vCl shU ad cA (NN mo) A0 Q) args s 0 0 A0) (F0 m 102 ls [.int (iI y0)]) := by
  obtain ⟨hx, hb, hr, hml, hown, hts, hlocks⟩ := id C0
  refine lv_istore (lv' := [(6, .int (iI y0)), (0, .ref (ad 30)), (1, .int (iI x1)), (4, .long (lI x4)), (7, .int (iI x7))]) hx hb d_Mo_bar_102 hl (by decide) rfl (fun ls hl => ?_)
  refine lv_aload_n hx hb d_Mo_bar_104 rfl (lv_at hl 1 rfl) ?_
  refine r_getr (t2 := 31) hx hb hts in_Mo hown hS 30 rfl rfl 3 (by decide) rfl (hts _ tw_637) d_Mo_bar_105 ?_
  refine r_sipush hx hb d_Mo_bar_108 (by decide +kernel) ?_
  refine lv_iload_n hx hb d_Mo_bar_111 rfl (lv_at hl 2 rfl) ?_
  refine r_imul hx hb d_Mo_bar_112 ?_
  refine lv_iload hx hb d_Mo_bar_113 (lv_at hl 4 rfl) ?_
  refine r_iadd hx hb d_Mo_bar_115 ?_
  refine r_iconst hx hb d_Mo_bar_116 ?_
  obtain ⟨g3, h⟩ := h
  obtain ⟨g4, h⟩ := h
  refine r_zast (id := 24) (i := ((1000 * x1) + x7)) (v := 1) hx hb hS 31 rfl g3 g4 (Or.inr rfl) (seta_24 ad cA mo _ _ _ _) d_Mo_bar_117 (fun H locs hS => ?_)
  refine r_iinc (k := 4) (z := x7) (lv' := [(7, .int (iI (x7 + 1))), (6, .int (iI y0)), (0, .ref (ad 30)), (1, .int (iI x1)), (4, .long (lI x4))]) hx hb d_Mo_bar_118 hl rfl (by decide) rfl (fun ls hl => ?_)
  refine lv_goto (tgt := 67) hx hb d_Mo_bar_121 (by decide) ?_
  exact hI67 _ _ _ _ h _ _ _ hS (lv_sub hl [2, 3, 4, 1, 0] rfl)
set_option maxHeartbeats 4000000 in
set_option maxRecDepth 100000 in
theorem s_Mo_bar_b97 (C0 : x_C p s m args meth c c_Mo_bar 8 (some .boolean) gT R_Mo) (hA : ∀ q : Nat, s.heap.size ≤ q → A0 q) {mo : Nat} {Q : Int → (Nat → Int) → (Nat → Int → Int) → Prop} {I67 : Int → Int → (Nat → Int) → (Nat → Int → Int) → Prop} (x1 : Int) (x4 : Int) (x7 : Int) (F : Nat → Int) (A : Nat → Int → Int) (hI67 : ∀ (x6 : Int) (x7 : Int) (F : Nat → Int) (A : Nat → Int → Int), I67 x6 x7 F A → ∀ (H : Heap) (locs : List Loc) (ls : Array Slot), x_S D vCl shU ad cA (NN mo) A0 s F A H locs → lv_has ls 8 [(0, .ref (ad 30)), (1, .int (iI x1)), (4, .long (lI x4)), (6, .int (iI x6)), (7, .int (iI x7))] → W p l e ({ frames := 1, cells := 0, slots := 0, locals := 21 } : Room) s m args below meth c H locs 0 0 (MQ below (x_QI D vCl shU ad cA (NN mo) A0 Q) args s 0 0 A0) (F0 m 67 ls [])) (h : w_Mo_bar_b97 mo Q I67 x1 x4 x7 F A) (H : Heap) (locs : List Loc) (ls : Array Slot) (hS : x_S D vCl shU ad cA (NN mo) A0 s F A H locs) (hl : lv_has ls 8 [(0, .ref (ad 30)), (1, .int (iI x1)), (4, .long (lI x4)), (7, .int (iI x7))]) : W p l e ({ frames := 1, cells := 0, slots := 0, locals := 21 } : Room) s m args below meth c H locs 0 0 (MQ below (x_QI D vCl shU ad cA (NN mo) A0 Q) args s 0 0 A0) (F0 m 97 ls []) := by
  obtain ⟨hx, hb, hr, hml, hown, hts, hlocks⟩ := id C0
  refine r_iconst hx hb d_Mo_bar_97 ?_
  refine lv_goto (tgt := 102) hx hb d_Mo_bar_98 (by decide) ?_
  exact s_Mo_bar_b102 C0 hA _ _ _ _ _ _ hI67 h _ _ _ hS (lv_sub hl [0, 1, 2, 3] rfl)
set_option maxHeartbeats 4000000 in
set_option maxRecDepth 100000 in
theorem s_Mo_bar_b67 (C0 : x_C p s m args meth c c_Mo_bar 8 (some .boolean) gT R_Mo) (hA : ∀ q : Nat, s.heap.size ≤ q → A0 q) {mo : Nat} {Q : Int → (Nat → Int) → (Nat → Int → Int) → Prop} (x1 : Int) (x4 : Int) (x6 : Int) (x7 : Int) (F : Nat → Int) (A : Nat → Int → Int) (h : w_Mo_bar_b67 mo Q x1 x4 x6 x7 F A) (H : Heap) (locs : List Loc) (ls : Array Slot) (hS : x_S D vCl shU ad cA (NN mo) A0 s F A H locs) (hl : lv_has ls 8 [(0, .ref (ad 30)), (1, .int (iI x1)), (4, .long (lI x4)), (6, .int (iI x6)), (7, .int (iI x7))]) : W p l e ({ frames := 1, cells := 0, slots := 0, locals := 21 } : Room) s m args below meth c H locs 0 0 (MQ below (x_QI D vCl shU ad cA (NN mo) A0 Q) args s 0 0 A0) (F0 m 67 ls []) := by
  obtain ⟨hx, hb, hr, hml, hown, hts, hlocks⟩ := id C0
  refine h (fun x6 x7 F A => ∀ (H : Heap) (locs : List Loc) (ls : Array Slot), x_S D vCl shU ad cA (NN mo) A0 s F A H locs → lv_has ls 8 [(0, .ref (ad 30)), (1, .int (iI x1)), (4, .long (lI x4)), (6, .int (iI x6)), (7, .int (iI x7))] → W p l e ({ frames := 1, cells := 0, slots := 0, locals := 21 } : Room) s m args below meth c H locs 0 0 (MQ below (x_QI D vCl shU ad cA (NN mo) A0 Q) args s 0 0 A0) (F0 m 67 ls [])) ?_ H locs ls hS hl
  intro x6 x7 F A h H locs ls hS hl
  refine lv_iload hx hb d_Mo_bar_67 (lv_at hl 4 rfl) ?_
  obtain ⟨g5, h⟩ := h
  refine r_i2l hx hb g5 d_Mo_bar_69 ?_
  refine lv_lload hx hb d_Mo_bar_70 (lv_at hl 2 rfl) ?_
  obtain ⟨g6, h⟩ := h
  obtain ⟨g7, h⟩ := h
  refine r_lcmp_ge (tgt := 124) hx hb g6 g7 d_Mo_bar_72 d_Mo_bar_73 (by decide) (fun hc => ?_) (fun hc => ?_)
  · replace h := h.1 hc
    refine lv_aload_n hx hb d_Mo_bar_124 rfl (lv_at hl 0 rfl) ?_
    refine lv_aload_n hx hb d_Mo_bar_125 rfl (lv_at hl 0 rfl) ?_
    refine r_geti (z := F 15) hx hb hts in_Mo hown hS 30 rfl rfl 17 (by decide) rfl (hts _ tw_651) d_Mo_bar_126 rfl ?_
    obtain ⟨g8, h⟩ := h
    refine r_if_eq (tgt := 141) hx hb g8 d_Mo_bar_129 (by decide) (fun hc => ?_) (fun hc => ?_)
    · replace h := h.1 hc
      exact s_Mo_bar_b141 C0 hA _ _ _ h _ _ _ hS (lv_sub hl [3] rfl)
    · replace h := h.2 hc
      refine lv_iload hx hb d_Mo_bar_132 (lv_at hl 3 rfl) ?_
      obtain ⟨g9, h⟩ := h
      refine r_if_ne (tgt := 141) hx hb g9 d_Mo_bar_134 (by decide) (fun hc => ?_) (fun hc => ?_)
      · replace h := h.1 hc
        exact s_Mo_bar_b141 C0 hA _ _ _ h _ _ _ hS (lv_sub hl [3] rfl)
      · replace h := h.2 hc
        refine r_iconst hx hb d_Mo_bar_137 ?_
        refine lv_goto (tgt := 142) hx hb d_Mo_bar_138 (by decide) ?_
        exact s_Mo_bar_b142 C0 hA _ _ _ _ h _ _ _ hS (lv_sub hl [3] rfl)
  · replace h := h.2 hc
    refine lv_iload hx hb d_Mo_bar_76 (lv_at hl 3 rfl) ?_
    obtain ⟨g10, h⟩ := h
    refine r_if_ne (tgt := 97) hx hb g10 d_Mo_bar_78 (by decide) (fun hc => ?_) (fun hc => ?_)
    · replace h := h.1 hc
      exact s_Mo_bar_b97 C0 hA _ _ _ _ _ (fun _ _ _ _ h => h) h _ _ _ hS (lv_sub hl [0, 1, 2, 4] rfl)
    · replace h := h.2 hc
      refine lv_aload_n hx hb d_Mo_bar_81 rfl (lv_at hl 0 rfl) ?_
      refine r_getr (t2 := 31) hx hb hts in_Mo hown hS 30 rfl rfl 3 (by decide) rfl (hts _ tw_637) d_Mo_bar_82 ?_
      refine r_sipush hx hb d_Mo_bar_85 (by decide +kernel) ?_
      refine lv_iload_n hx hb d_Mo_bar_88 rfl (lv_at hl 1 rfl) ?_
      refine r_imul hx hb d_Mo_bar_89 ?_
      refine lv_iload hx hb d_Mo_bar_90 (lv_at hl 4 rfl) ?_
      refine r_iadd hx hb d_Mo_bar_92 ?_
      obtain ⟨g11, h⟩ := h
      obtain ⟨g12, h⟩ := h
      refine r_zald (id := 24) (i := ((1000 * x1) + x7)) (z := A 24 ((1000 * x1) + x7)) hx hb hS 31 rfl g11 g12 d_Mo_bar_93 rfl ?_
      obtain ⟨g13, h⟩ := h
      refine r_if_ne (tgt := 101) hx hb g13 d_Mo_bar_94 (by decide) (fun hc => ?_) (fun hc => ?_)
      · replace h := h.1 hc
        refine r_iconst hx hb d_Mo_bar_101 ?_
        exact s_Mo_bar_b102 C0 hA _ _ _ _ _ _ (fun _ _ _ _ h => h) h _ _ _ hS (lv_sub hl [0, 1, 2, 4] rfl)
      · replace h := h.2 hc
        exact s_Mo_bar_b97 C0 hA _ _ _ _ _ (fun _ _ _ _ h => h) h _ _ _ hS (lv_sub hl [0, 1, 2, 4] rfl)
set_option maxHeartbeats 4000000 in
set_option maxRecDepth 100000 in
theorem s_Mo_bar_b48 (C0 : x_C p s m args meth c c_Mo_bar 8 (some .boolean) gT R_Mo) (hA : ∀ q : Nat, s.heap.size ≤ q → A0 q) {mo : Nat} {Q : Int → (Nat → Int) → (Nat → Int → Int) → Prop} (x1 : Int) (x2 : Int) (x4 : Int) (y1 : Int) (F : Nat → Int) (A : Nat → Int → Int) (h : w_Mo_bar_b48 mo Q x1 x2 x4 y1 F A) (H : Heap) (locs : List Loc) (ls : Array Slot) (hS : x_S D vCl shU ad cA (NN mo) A0 s F A H locs) (hl : lv_has ls 8 [(0, .ref (ad 30)), (1, .int (iI x1)), (2, .long (lI x2)), (4, .long (lI x4))]) : W p l e ({ frames := 1, cells := 0, slots := 0, locals := 21 } : Room) s m args below meth c H locs 0 0 (MQ below (x_QI D vCl shU ad cA (NN mo) A0 Q) args s 0 0 A0) (F0 m 48 ls [.int (iI y1), .ref (ad 30)]) := by
  obtain ⟨hx, hb, hr, hml, hown, hts, hlocks⟩ := id C0
  refine r_puti (j := 10) (v := y1) hx hb hts in_Mo t_Mo to_Mo nm_Mo hown hS 30 rfl rfl 0 (by decide) (hts _ tw_634) rfl (by decide +kernel) (setf_10 ad cA mo _ _ _) (by decide) d_Mo_bar_48 (fun H locs hS => ?_)
  refine lv_aload_n hx hb d_Mo_bar_51 rfl (lv_at hl 0 rfl) ?_
  refine r_geti (z := y1) hx hb hts in_Mo hown hS 30 rfl rfl 0 (by decide) rfl (hts _ tw_634) d_Mo_bar_52 rfl ?_
  obtain ⟨g14, h⟩ := h
  refine r_if_le (tgt := 60) hx hb g14 d_Mo_bar_55 (by decide) (fun hc => ?_) (fun hc => ?_)
  · replace h := h.1 hc
    refine r_iconst hx hb d_Mo_bar_60 ?_
    refine lv_istore (lv' := [(6, .int (iI 0)), (0, .ref (ad 30)), (1, .int (iI x1)), (2, .long (lI x2)), (4, .long (lI x4))]) hx hb d_Mo_bar_61 hl (by decide) rfl (fun ls hl => ?_)
    refine lv_lload_n hx hb d_Mo_bar_63 rfl (lv_at hl 3 rfl) ?_
    refine r_l2i hx hb d_Mo_bar_64 ?_
    refine lv_istore (lv' := [(7, .int (iI x2)), (6, .int (iI 0)), (0, .ref (ad 30)), (1, .int (iI x1)), (2, .long (lI x2)), (4, .long (lI x4))]) hx hb d_Mo_bar_65 hl (by decide) rfl (fun ls hl => ?_)
    exact s_Mo_bar_b67 C0 hA _ _ _ _ _ _ h _ _ _ hS (lv_sub hl [2, 3, 5, 1, 0] rfl)
  · replace h := h.2 hc
    refine r_iconst hx hb d_Mo_bar_58 ?_
    exact r_zret (z := 0) hx hb hr hlocks (Or.inl rfl) hS h d_Mo_bar_59
set_option maxHeartbeats 4000000 in
set_option maxRecDepth 100000 in
theorem s_Mo_bar_b43 (C0 : x_C p s m args meth c c_Mo_bar 8 (some .boolean) gT R_Mo) (hA : ∀ q : Nat, s.heap.size ≤ q → A0 q) {mo : Nat} {Q : Int → (Nat → Int) → (Nat → Int → Int) → Prop} (x1 : Int) (x2 : Int) (x4 : Int) (F : Nat → Int) (A : Nat → Int → Int) (h : w_Mo_bar_b43 mo Q x1 x2 x4 F A) (H : Heap) (locs : List Loc) (ls : Array Slot) (hS : x_S D vCl shU ad cA (NN mo) A0 s F A H locs) (hl : lv_has ls 8 [(0, .ref (ad 30)), (1, .int (iI x1)), (2, .long (lI x2)), (4, .long (lI x4))]) : W p l e ({ frames := 1, cells := 0, slots := 0, locals := 21 } : Room) s m args below meth c H locs 0 0 (MQ below (x_QI D vCl shU ad cA (NN mo) A0 Q) args s 0 0 A0) (F0 m 43 ls [.ref (ad 30)]) := by
  obtain ⟨hx, hb, hr, hml, hown, hts, hlocks⟩ := id C0
  refine r_iconst hx hb d_Mo_bar_43 ?_
  refine lv_goto (tgt := 48) hx hb d_Mo_bar_44 (by decide) ?_
  exact s_Mo_bar_b48 C0 hA _ _ _ _ _ _ h _ _ _ hS (lv_sub hl [0, 1, 2, 3] rfl)
set_option maxHeartbeats 4000000 in
set_option maxRecDepth 100000 in
theorem ct_Mo_bar (l : Launch) (D : va_G) (ad : Nat → Nat) (cA : Nat → ClassId) (mo sz : Nat) (F : Nat → Int) (A : Nat → Int → Int) (x1 : Int) (x2 : Int) (x4 : Int) (Q : Int → (Nat → Int) → (Nat → Int → Int) → Prop) (h : w_Mo_bar mo F A x1 x2 x4 Q) : Met l y_Mo_bar (Cond.code y_Mo_bar c_Mo_bar 8 (some .boolean) :: gT) ({ frames := 1, cells := 0, slots := 0, locals := 21 } : Room) (va_Pc [.ref (ad 30), .int (iI x1), .long (lI x2), .long (lI x4)] (x_P D vCl shU ad cA (NN mo) sz F A)) (x_QI D vCl shU ad cA (NN mo) (va_A (x_w shU ad cA (NN mo) F A) sz) Q) 0 0 (va_A (x_w shU ad cA (NN mo) F A) sz) := by
  refine Met.ofW (cc := c_Mo_bar) (maxL := 8) (ret := some .boolean) (by decide) rfl ?_
  intro p e s m args below meth c s₁ B hml hv
  obtain ⟨rfl, hsz, hP, hK, hD0, hN0⟩ := hv
  have hx := B.exec
  have hb := B.bytes
  have hr := B.returns
  have hts0 := atoms_spec (ws := (Cond.code y_Mo_bar c_Mo_bar 8 (some .boolean) :: gT)) B.pre
  have hts : ∀ w ∈ gT, w.before _ s = true := fun w h => hts0 w (List.mem_cons_of_mem _ h)
  have hown : s.vm.findClass R_Mo = some m.cls := findClass_of_methodNamed B.named
  have hlocks := B.notSynchronized
  subst hsz
  have hS : x_S D vCl shU ad cA (NN mo) (va_A (x_w shU ad cA (NN mo) F A) s.heap.size) s F A s.heap [] := ⟨hK, hP, hD0.self, va_S.rf, hN0⟩
  have hA : ∀ q : Nat, s.heap.size ≤ q → va_A (x_w shU ad cA (NN mo) F A) s.heap.size q := fun q h => Or.inr h
  have C0 : x_C p s m [.ref (ad 30), .int (iI x1), .long (lI x2), .long (lI x4)].toArray meth c c_Mo_bar 8 (some .boolean) gT R_Mo := ⟨hx, hb, hr, hml, hown, hts, hlocks⟩
  generalize va_A (x_w shU ad cA (NN mo) F A) s.heap.size = A0 at hS hA ⊢
  have hl := lv_entry [.ref (ad 30), .int (iI x1), .long (lI x2), .long (lI x4)] (n := 8) (Nat.le_of_ble_eq_true rfl)
  rw [lg_entry_eq]
  generalize (lg_sl [.ref (ad 30), .int (iI x1), .long (lI x2), .long (lI x4)] ++ List.replicate (8 - (lg_sl [.ref (ad 30), .int (iI x1), .long (lI x2), .long (lI x4)]).length) Slot.unset).toArray = ls at hl ⊢
  have hl : lv_has ls 8 [(0, .ref (ad 30)), (1, .int (iI x1)), (2, .long (lI x2)), (4, .long (lI x4))] := hl
  refine lv_aload_n hx hb d_Mo_bar_0 rfl (lv_at hl 0 rfl) ?_
  refine lv_aload_n hx hb d_Mo_bar_1 rfl (lv_at hl 0 rfl) ?_
  refine lv_iload_n hx hb d_Mo_bar_2 rfl (lv_at hl 1 rfl) ?_
  refine r_ci (va_runV (As := [.int (iI x1)]) (rest := [.ref (ad 30)]) ⟨hx, hb, hml, hown, hts⟩ (ct_Mo_isRow l D ad cA mo _ _ _ _ _ h) (cwV 1 hts (gV tw_738 tw_740 tw_s_Mo_isRow tw_8 tw_741) rfl rfl rfl (by decide +kernel) ⟨Nat.le_of_ble_eq_true rfl, Nat.le_of_ble_eq_true rfl⟩) (x_preV hS 30 rfl rfl _) rfl rfl hl.1 rfl (lv_room (Nat.le_of_ble_eq_true rfl)) d_Mo_bar_3 ⟨Nat.zero_le _, Nat.zero_le _⟩) hS hA (fun z15 F15 A15 H locs hS h => ?_)
  obtain ⟨rfl, rfl, h⟩ := h
  obtain ⟨g16, h⟩ := h
  refine r_if_eq (tgt := 43) hx hb g16 d_Mo_bar_6 (by decide) (fun hc => ?_) (fun hc => ?_)
  · replace h := h.1 hc
    exact s_Mo_bar_b43 C0 hA _ _ _ _ _ h _ _ _ hS (lv_sub hl [0, 1, 2, 3] rfl)
  · replace h := h.2 hc
    refine lv_lload_n hx hb d_Mo_bar_9 rfl (lv_at hl 2 rfl) ?_
    refine r_lconst hx hb 0 d_Mo_bar_10 (by decide +kernel) ?_
    obtain ⟨g17, h⟩ := h
    refine r_lcmp_lt (tgt := 43) hx hb g17 ⟨by omega, by omega⟩ d_Mo_bar_11 d_Mo_bar_12 (by decide) (fun hc => ?_) (fun hc => ?_)
    · replace h := h.1 hc
      exact s_Mo_bar_b43 C0 hA _ _ _ _ _ h _ _ _ hS (lv_sub hl [0, 1, 2, 3] rfl)
    · replace h := h.2 hc
      refine lv_lload_n hx hb d_Mo_bar_15 rfl (lv_at hl 2 rfl) ?_
      refine lv_aload_n hx hb d_Mo_bar_16 rfl (lv_at hl 0 rfl) ?_
      refine r_geti (z := F 12) hx hb hts in_Mo hown hS 30 rfl rfl 2 (by decide) rfl (hts _ tw_636) d_Mo_bar_17 rfl ?_
      obtain ⟨g18, h⟩ := h
      refine r_i2l hx hb g18 d_Mo_bar_20 ?_
      obtain ⟨g19, h⟩ := h
      refine r_lcmp_gt (tgt := 43) hx hb g17 g19 d_Mo_bar_21 d_Mo_bar_22 (by decide) (fun hc => ?_) (fun hc => ?_)
      · replace h := h.1 hc
        exact s_Mo_bar_b43 C0 hA _ _ _ _ _ h _ _ _ hS (lv_sub hl [0, 1, 2, 3] rfl)
      · replace h := h.2 hc
        refine lv_lload hx hb d_Mo_bar_25 (lv_at hl 3 rfl) ?_
        refine lv_lload_n hx hb d_Mo_bar_27 rfl (lv_at hl 2 rfl) ?_
        obtain ⟨g20, h⟩ := h
        refine r_lcmp_lt (tgt := 43) hx hb g20 g17 d_Mo_bar_28 d_Mo_bar_29 (by decide) (fun hc => ?_) (fun hc => ?_)
        · replace h := h.1 hc
          exact s_Mo_bar_b43 C0 hA _ _ _ _ _ h _ _ _ hS (lv_sub hl [0, 1, 2, 3] rfl)
        · replace h := h.2 hc
          refine lv_lload hx hb d_Mo_bar_32 (lv_at hl 3 rfl) ?_
          refine lv_aload_n hx hb d_Mo_bar_34 rfl (lv_at hl 0 rfl) ?_
          refine r_geti (z := F 12) hx hb hts in_Mo hown hS 30 rfl rfl 2 (by decide) rfl (hts _ tw_636) d_Mo_bar_35 rfl ?_
          refine r_i2l hx hb g18 d_Mo_bar_38 ?_
          refine r_lcmp_le (tgt := 47) hx hb g20 g19 d_Mo_bar_39 d_Mo_bar_40 (by decide) (fun hc => ?_) (fun hc => ?_)
          · replace h := h.1 hc
            refine r_iconst hx hb d_Mo_bar_47 ?_
            exact s_Mo_bar_b48 C0 hA _ _ _ _ _ _ h _ _ _ hS (lv_sub hl [0, 1, 2, 3] rfl)
          · replace h := h.2 hc
            exact s_Mo_bar_b43 C0 hA _ _ _ _ _ h _ _ _ hS (lv_sub hl [0, 1, 2, 3] rfl)
/-! Mo_kind -/
def w_Mo_kind_b64 (mo : Nat) (Q : Int → (Nat → Int) → (Nat → Int → Int) → Prop) (x1 : Int) (x2 : Int) (x3 : Int) (F : Nat → Int) (A : Nat → Int → Int) : Prop := 0 ≤ x1 ∧ x1 < 60 ∧ Q 1 (uf F 15 0) (ua (ua A 26 x1 x2) 27 x1 x3)
def w_Mo_kind_b32 (mo : Nat) (Q : Int → (Nat → Int) → (Nat → Int → Int) → Prop) (x1 : Int) (x2 : Int) (x3 : Int) (y1 : Int) (F : Nat → Int) (A : Nat → Int → Int) : Prop := rg y1 ∧ ((0 < y1 → Q 0 (uf F 10 y1) A) ∧ (¬ 0 < y1 → 0 ≤ x1 ∧ x1 < 60 ∧ rg (A 26 x1) ∧ rg x2 ∧ ((¬ (A 26 x1) = x2 → w_Mo_kind_b64 mo Q x1 x2 x3 (uf F 10 y1) A) ∧ ((A 26 x1) = x2 → rg (A 27 x1) ∧ rg x3 ∧ ((¬ (A 27 x1) = x3 → w_Mo_kind_b64 mo Q x1 x2 x3 (uf F 10 y1) A) ∧ ((A 27 x1) = x3 → Q 0 (uf F 10 y1) A))))))
def w_Mo_kind_b31 (mo : Nat) (Q : Int → (Nat → Int) → (Nat → Int → Int) → Prop) (x1 : Int) (x2 : Int) (x3 : Int) (F : Nat → Int) (A : Nat → Int → Int) : Prop := w_Mo_kind_b32 mo Q x1 x2 x3 2 F A
def w_Mo_kind (mo : Nat) (F : Nat → Int) (A : Nat → Int → Int) (x1 : Int) (x2 : Int) (x3 : Int) (Q : Int → (Nat → Int) → (Nat → Int → Int) → Prop) : Prop := w_Mo_isCell mo F A x1 (fun z10 => rg z10 ∧ ((¬ z10 = 0 → w_Mo_isKind mo F A x2 (fun z12 => rg z12 ∧ ((z12 = 0 → w_Mo_kind_b31 mo Q x1 x2 x3 F A) ∧ (¬ z12 = 0 → w_Mo_isKind mo F A x3 (fun z14 => rg z14 ∧ ((z14 = 0 → w_Mo_kind_b31 mo Q x1 x2 x3 F A) ∧ (¬ z14 = 0 → w_Mo_kind_b32 mo Q x1 x2 x3 0 F A))))))) ∧ (z10 = 0 → w_Mo_kind_b32 mo Q x1 x2 x3 1 F A)))
set_option maxHeartbeats 4000000 in
set_option maxRecDepth 100000 in
theorem s_Mo_kind_b64 (C0 : x_C p s m args meth c c_Mo_kind 4 (some .boolean) gT R_Mo) (hA : ∀ q : Nat, s.heap.size ≤ q → A0 q) {mo : Nat} {Q : Int → (Nat → Int) → (Nat → Int → Int) → Prop} (x1 : Int) (x2 : Int) (x3 : Int) (F : Nat → Int) (A : Nat → Int → Int) (h : w_Mo_kind_b64 mo Q x1 x2 x3 F A) (H : Heap) (locs : List Loc) (ls : Array Slot) (hS : x_S D vCl shU ad cA (NN mo) A0 s F A H locs) (hl : lv_has ls 4 [(0, .ref (ad 30)), (1, .int (iI x1)), (2, .int (iI x2)), (3, .int (iI x3))]) : W p l e ({ frames := 1, cells := 0, slots := 0, locals := 21 } : Room) s m args below meth c H locs 0 0 (MQ below (x_QI D vCl shU ad cA (NN mo) A0 Q) args s 0 0 A0) (F0 m 64 ls []) := by
  obtain ⟨hx, hb, hr, hml, hown, hts, hlocks⟩ := id C0
  refine lv_aload_n hx hb d_Mo_kind_64 rfl (lv_at hl 0 rfl) ?_
  refine r_getr (t2 := 33) hx hb hts in_Mo hown hS 30 rfl rfl 6 (by decide) rfl (hts _ tw_640) d_Mo_kind_65 ?_
  refine lv_iload_n hx hb d_Mo_kind_68 rfl (lv_at hl 1 rfl) ?_
  refine lv_iload_n hx hb d_Mo_kind_69 rfl (lv_at hl 2 rfl) ?_
  obtain ⟨g1, h⟩ := h
  obtain ⟨g2, h⟩ := h
  refine r_iast (id := 26) (i := x1) (v := x2) hx hb hS 33 rfl g1 g2 (seta_26 ad cA mo _ _ _ _) d_Mo_kind_70 (fun H locs hS => ?_)
  refine lv_aload_n hx hb d_Mo_kind_71 rfl (lv_at hl 0 rfl) ?_
  refine r_getr (t2 := 34) hx hb hts in_Mo hown hS 30 rfl rfl 7 (by decide) rfl (hts _ tw_641) d_Mo_kind_72 ?_
  refine lv_iload_n hx hb d_Mo_kind_75 rfl (lv_at hl 1 rfl) ?_
  refine lv_iload_n hx hb d_Mo_kind_76 rfl (lv_at hl 3 rfl) ?_
  refine r_iast (id := 27) (i := x1) (v := x3) hx hb hS 34 rfl g1 g2 (seta_27 ad cA mo _ _ _ _) d_Mo_kind_77 (fun H locs hS => ?_)
  refine lv_aload_n hx hb d_Mo_kind_78 rfl (lv_at hl 0 rfl) ?_
  refine r_iconst hx hb d_Mo_kind_79 ?_
  refine r_putz (j := 15) (v := 0) hx hb hts in_Mo t_Mo to_Mo nm_Mo hown hS 30 rfl rfl 17 (by decide) (hts _ tw_651) rfl (by decide +kernel) (Or.inl rfl) (setf_15 ad cA mo _ _ _) (by decide) d_Mo_kind_80 (fun H locs hS => ?_)
  refine r_iconst hx hb d_Mo_kind_83 ?_
  exact r_zret (z := 1) hx hb hr hlocks (Or.inr rfl) hS h d_Mo_kind_84
set_option maxHeartbeats 4000000 in
set_option maxRecDepth 100000 in
theorem s_Mo_kind_b32 (C0 : x_C p s m args meth c c_Mo_kind 4 (some .boolean) gT R_Mo) (hA : ∀ q : Nat, s.heap.size ≤ q → A0 q) {mo : Nat} {Q : Int → (Nat → Int) → (Nat → Int → Int) → Prop} (x1 : Int) (x2 : Int) (x3 : Int) (y1 : Int) (F : Nat → Int) (A : Nat → Int → Int) (h : w_Mo_kind_b32 mo Q x1 x2 x3 y1 F A) (H : Heap) (locs : List Loc) (ls : Array Slot) (hS : x_S D vCl shU ad cA (NN mo) A0 s F A H locs) (hl : lv_has ls 4 [(0, .ref (ad 30)), (1, .int (iI x1)), (2, .int (iI x2)), (3, .int (iI x3))]) : W p l e ({ frames := 1, cells := 0, slots := 0, locals := 21 } : Room) s m args below meth c H locs 0 0 (MQ below (x_QI D vCl shU ad cA (NN mo) A0 Q) args s 0 0 A0) (F0 m 32 ls [.int (iI y1), .ref (ad 30)]) := by
  obtain ⟨hx, hb, hr, hml, hown, hts, hlocks⟩ := id C0
  refine r_puti (j := 10) (v := y1) hx hb hts in_Mo t_Mo to_Mo nm_Mo hown hS 30 rfl rfl 0 (by decide) (hts _ tw_634) rfl (by decide +kernel) (setf_10 ad cA mo _ _ _) (by decide) d_Mo_kind_32 (fun H locs hS => ?_)
  refine lv_aload_n hx hb d_Mo_kind_35 rfl (lv_at hl 0 rfl) ?_
  refine r_geti (z := y1) hx hb hts in_Mo hown hS 30 rfl rfl 0 (by decide) rfl (hts _ tw_634) d_Mo_kind_36 rfl ?_
  obtain ⟨g3, h⟩ := h
  refine r_if_gt (tgt := 62) hx hb g3 d_Mo_kind_39 (by decide) (fun hc => ?_) (fun hc => ?_)
  · replace h := h.1 hc
    refine r_iconst hx hb d_Mo_kind_62 ?_
    exact r_zret (z := 0) hx hb hr hlocks (Or.inl rfl) hS h d_Mo_kind_63
  · replace h := h.2 hc
    refine lv_aload_n hx hb d_Mo_kind_42 rfl (lv_at hl 0 rfl) ?_
    refine r_getr (t2 := 33) hx hb hts in_Mo hown hS 30 rfl rfl 6 (by decide) rfl (hts _ tw_640) d_Mo_kind_43 ?_
    refine lv_iload_n hx hb d_Mo_kind_46 rfl (lv_at hl 1 rfl) ?_
    obtain ⟨g4, h⟩ := h
    obtain ⟨g5, h⟩ := h
    refine r_iald (id := 26) (i := x1) (z := A 26 x1) hx hb hS 33 rfl g4 g5 d_Mo_kind_47 rfl ?_
    refine lv_iload_n hx hb d_Mo_kind_48 rfl (lv_at hl 2 rfl) ?_
    obtain ⟨g6, h⟩ := h
    obtain ⟨g7, h⟩ := h
    refine r_icmp_ne (tgt := 64) hx hb g6 g7 d_Mo_kind_49 (by decide) (fun hc => ?_) (fun hc => ?_)
    · replace h := h.1 hc
      exact s_Mo_kind_b64 C0 hA _ _ _ _ _ h _ _ _ hS (lv_sub hl [0, 1, 2, 3] rfl)
    · replace h := h.2 hc
      refine lv_aload_n hx hb d_Mo_kind_52 rfl (lv_at hl 0 rfl) ?_
      refine r_getr (t2 := 34) hx hb hts in_Mo hown hS 30 rfl rfl 7 (by decide) rfl (hts _ tw_641) d_Mo_kind_53 ?_
      refine lv_iload_n hx hb d_Mo_kind_56 rfl (lv_at hl 1 rfl) ?_
      refine r_iald (id := 27) (i := x1) (z := A 27 x1) hx hb hS 34 rfl g4 g5 d_Mo_kind_57 rfl ?_
      refine lv_iload_n hx hb d_Mo_kind_58 rfl (lv_at hl 3 rfl) ?_
      obtain ⟨g8, h⟩ := h
      obtain ⟨g9, h⟩ := h
      refine r_icmp_ne (tgt := 64) hx hb g8 g9 d_Mo_kind_59 (by decide) (fun hc => ?_) (fun hc => ?_)
      · replace h := h.1 hc
        exact s_Mo_kind_b64 C0 hA _ _ _ _ _ h _ _ _ hS (lv_sub hl [0, 1, 2, 3] rfl)
      · replace h := h.2 hc
        refine r_iconst hx hb d_Mo_kind_62 ?_
        exact r_zret (z := 0) hx hb hr hlocks (Or.inl rfl) hS h d_Mo_kind_63
set_option maxHeartbeats 4000000 in
set_option maxRecDepth 100000 in
theorem s_Mo_kind_b31 (C0 : x_C p s m args meth c c_Mo_kind 4 (some .boolean) gT R_Mo) (hA : ∀ q : Nat, s.heap.size ≤ q → A0 q) {mo : Nat} {Q : Int → (Nat → Int) → (Nat → Int → Int) → Prop} (x1 : Int) (x2 : Int) (x3 : Int) (F : Nat → Int) (A : Nat → Int → Int) (h : w_Mo_kind_b31 mo Q x1 x2 x3 F A) (H : Heap) (locs : List Loc) (ls : Array Slot) (hS : x_S D vCl shU ad cA (NN mo) A0 s F A H locs) (hl : lv_has ls 4 [(0, .ref (ad 30)), (1, .int (iI x1)), (2, .int (iI x2)), (3, .int (iI x3))]) : W p l e ({ frames := 1, cells := 0, slots := 0, locals := 21 } : Room) s m args below meth c H locs 0 0 (MQ below (x_QI D vCl shU ad cA (NN mo) A0 Q) args s 0 0 A0) (F0 m 31 ls [.ref (ad 30)]) := by
  obtain ⟨hx, hb, hr, hml, hown, hts, hlocks⟩ := id C0
  refine r_iconst hx hb d_Mo_kind_31 ?_
  exact s_Mo_kind_b32 C0 hA _ _ _ _ _ _ h _ _ _ hS (lv_sub hl [0, 1, 2, 3] rfl)
set_option maxHeartbeats 4000000 in
set_option maxRecDepth 100000 in
theorem ct_Mo_kind (l : Launch) (D : va_G) (ad : Nat → Nat) (cA : Nat → ClassId) (mo sz : Nat) (F : Nat → Int) (A : Nat → Int → Int) (x1 : Int) (x2 : Int) (x3 : Int) (Q : Int → (Nat → Int) → (Nat → Int → Int) → Prop) (h : w_Mo_kind mo F A x1 x2 x3 Q) : Met l y_Mo_kind (Cond.code y_Mo_kind c_Mo_kind 4 (some .boolean) :: gT) ({ frames := 1, cells := 0, slots := 0, locals := 21 } : Room) (va_Pc [.ref (ad 30), .int (iI x1), .int (iI x2), .int (iI x3)] (x_P D vCl shU ad cA (NN mo) sz F A)) (x_QI D vCl shU ad cA (NN mo) (va_A (x_w shU ad cA (NN mo) F A) sz) Q) 0 0 (va_A (x_w shU ad cA (NN mo) F A) sz) := by
  refine Met.ofW (cc := c_Mo_kind) (maxL := 4) (ret := some .boolean) (by decide) rfl ?_
  intro p e s m args below meth c s₁ B hml hv
  obtain ⟨rfl, hsz, hP, hK, hD0, hN0⟩ := hv
  have hx := B.exec
  have hb := B.bytes
  have hr := B.returns
  have hts0 := atoms_spec (ws := (Cond.code y_Mo_kind c_Mo_kind 4 (some .boolean) :: gT)) B.pre
  have hts : ∀ w ∈ gT, w.before _ s = true := fun w h => hts0 w (List.mem_cons_of_mem _ h)
  have hown : s.vm.findClass R_Mo = some m.cls := findClass_of_methodNamed B.named
  have hlocks := B.notSynchronized
  subst hsz
  have hS : x_S D vCl shU ad cA (NN mo) (va_A (x_w shU ad cA (NN mo) F A) s.heap.size) s F A s.heap [] := ⟨hK, hP, hD0.self, va_S.rf, hN0⟩
  have hA : ∀ q : Nat, s.heap.size ≤ q → va_A (x_w shU ad cA (NN mo) F A) s.heap.size q := fun q h => Or.inr h
  have C0 : x_C p s m [.ref (ad 30), .int (iI x1), .int (iI x2), .int (iI x3)].toArray meth c c_Mo_kind 4 (some .boolean) gT R_Mo := ⟨hx, hb, hr, hml, hown, hts, hlocks⟩
  generalize va_A (x_w shU ad cA (NN mo) F A) s.heap.size = A0 at hS hA ⊢
  have hl := lv_entry [.ref (ad 30), .int (iI x1), .int (iI x2), .int (iI x3)] (n := 4) (Nat.le_of_ble_eq_true rfl)
  rw [lg_entry_eq]
  generalize (lg_sl [.ref (ad 30), .int (iI x1), .int (iI x2), .int (iI x3)] ++ List.replicate (4 - (lg_sl [.ref (ad 30), .int (iI x1), .int (iI x2), .int (iI x3)]).length) Slot.unset).toArray = ls at hl ⊢
  have hl : lv_has ls 4 [(0, .ref (ad 30)), (1, .int (iI x1)), (2, .int (iI x2)), (3, .int (iI x3))] := hl
  refine lv_aload_n hx hb d_Mo_kind_0 rfl (lv_at hl 0 rfl) ?_
  refine lv_aload_n hx hb d_Mo_kind_1 rfl (lv_at hl 0 rfl) ?_
  refine lv_iload_n hx hb d_Mo_kind_2 rfl (lv_at hl 1 rfl) ?_
  refine r_ci (va_runV (As := [.int (iI x1)]) (rest := [.ref (ad 30)]) ⟨hx, hb, hml, hown, hts⟩ (ct_Mo_isCell l D ad cA mo _ _ _ _ _ h) (cwV 1 hts (gV tw_734 tw_736 tw_s_Mo_isCell tw_8 tw_737) rfl rfl rfl (by decide +kernel) ⟨Nat.le_of_ble_eq_true rfl, Nat.le_of_ble_eq_true rfl⟩) (x_preV hS 30 rfl rfl _) rfl rfl hl.1 rfl (lv_room (Nat.le_of_ble_eq_true rfl)) d_Mo_kind_3 ⟨Nat.zero_le _, Nat.zero_le _⟩) hS hA (fun z10 F10 A10 H locs hS h => ?_)
  obtain ⟨rfl, rfl, h⟩ := h
  obtain ⟨g11, h⟩ := h
  refine r_if_ne (tgt := 13) hx hb g11 d_Mo_kind_6 (by decide) (fun hc => ?_) (fun hc => ?_)
  · replace h := h.1 hc
    refine lv_iload_n hx hb d_Mo_kind_13 rfl (lv_at hl 2 rfl) ?_
    refine r_ci (va_runS (As := [.int (iI x2)]) (rest := [.ref (ad 30)]) ⟨hx, hb, hml, hown, hts⟩ (ct_Mo_isKind l D ad cA mo _ _ _ _ _ h) (cwS 1 hts (gS tw_750 tw_751 tw_8 tw_752) rfl rfl rfl (by decide +kernel) ⟨Nat.le_of_ble_eq_true rfl, Nat.le_of_ble_eq_true rfl⟩) (x_preS hS _) rfl rfl hl.1 rfl (lv_room (Nat.le_of_ble_eq_true rfl)) d_Mo_kind_14 ⟨Nat.zero_le _, Nat.zero_le _⟩) hS hA (fun z12 F12 A12 H locs hS h => ?_)
    obtain ⟨rfl, rfl, h⟩ := h
    obtain ⟨g13, h⟩ := h
    refine r_if_eq (tgt := 31) hx hb g13 d_Mo_kind_17 (by decide) (fun hc => ?_) (fun hc => ?_)
    · replace h := h.1 hc
      exact s_Mo_kind_b31 C0 hA _ _ _ _ _ h _ _ _ hS (lv_sub hl [0, 1, 2, 3] rfl)
    · replace h := h.2 hc
      refine lv_iload_n hx hb d_Mo_kind_20 rfl (lv_at hl 3 rfl) ?_
      refine r_ci (va_runS (As := [.int (iI x3)]) (rest := [.ref (ad 30)]) ⟨hx, hb, hml, hown, hts⟩ (ct_Mo_isKind l D ad cA mo _ _ _ _ _ h) (cwS 1 hts (gS tw_750 tw_751 tw_8 tw_752) rfl rfl rfl (by decide +kernel) ⟨Nat.le_of_ble_eq_true rfl, Nat.le_of_ble_eq_true rfl⟩) (x_preS hS _) rfl rfl hl.1 rfl (lv_room (Nat.le_of_ble_eq_true rfl)) d_Mo_kind_21 ⟨Nat.zero_le _, Nat.zero_le _⟩) hS hA (fun z14 F14 A14 H locs hS h => ?_)
      obtain ⟨rfl, rfl, h⟩ := h
      obtain ⟨g15, h⟩ := h
      refine r_if_eq (tgt := 31) hx hb g15 d_Mo_kind_24 (by decide) (fun hc => ?_) (fun hc => ?_)
      · replace h := h.1 hc
        exact s_Mo_kind_b31 C0 hA _ _ _ _ _ h _ _ _ hS (lv_sub hl [0, 1, 2, 3] rfl)
      · replace h := h.2 hc
        refine r_iconst hx hb d_Mo_kind_27 ?_
        refine lv_goto (tgt := 32) hx hb d_Mo_kind_28 (by decide) ?_
        exact s_Mo_kind_b32 C0 hA _ _ _ _ _ _ h _ _ _ hS (lv_sub hl [0, 1, 2, 3] rfl)
  · replace h := h.2 hc
    refine r_iconst hx hb d_Mo_kind_9 ?_
    refine lv_goto (tgt := 32) hx hb d_Mo_kind_10 (by decide) ?_
    exact s_Mo_kind_b32 C0 hA _ _ _ _ _ _ h _ _ _ hS (lv_sub hl [0, 1, 2, 3] rfl)
/-! Mo_space -/
def w_Mo_space_b34 (mo : Nat) (Q : Int → (Nat → Int) → (Nat → Int → Int) → Prop) (x1 : Int) (x2 : Int) (x3 : Int) (y1 : Int) (F : Nat → Int) (A : Nat → Int → Int) : Prop := rg y1 ∧ ((0 < y1 → Q 0 (uf F 10 y1) A) ∧ (¬ 0 < y1 → 0 ≤ ((4 * x1) + x2) ∧ ((4 * x1) + x2) < 16 ∧ rg (A 30 ((4 * x1) + x2)) ∧ rL (A 30 ((4 * x1) + x2)) ∧ rL x3 ∧ ((¬ (A 30 ((4 * x1) + x2)) = x3 → Q 1 (uf (uf F 10 y1) 15 0) (ua A 30 ((4 * x1) + x2) x3)) ∧ ((A 30 ((4 * x1) + x2)) = x3 → Q 0 (uf F 10 y1) A))))
def w_Mo_space_b29 (mo : Nat) (Q : Int → (Nat → Int) → (Nat → Int → Int) → Prop) (x1 : Int) (x2 : Int) (x3 : Int) (F : Nat → Int) (A : Nat → Int → Int) : Prop := w_Mo_space_b34 mo Q x1 x2 x3 1 F A
def w_Mo_space (mo : Nat) (F : Nat → Int) (A : Nat → Int → Int) (x1 : Int) (x2 : Int) (x3 : Int) (Q : Int → (Nat → Int) → (Nat → Int → Int) → Prop) : Prop := w_Mo_isKind mo F A x1 (fun z7 => rg z7 ∧ ((z7 = 0 → w_Mo_space_b29 mo Q x1 x2 x3 F A) ∧ (¬ z7 = 0 → w_Mo_isKind mo F A x2 (fun z9 => rg z9 ∧ ((z9 = 0 → w_Mo_space_b29 mo Q x1 x2 x3 F A) ∧ (¬ z9 = 0 → rL x3 ∧ ((x3 < 0 → w_Mo_space_b29 mo Q x1 x2 x3 F A) ∧ (¬ x3 < 0 → ((x3 ≤ 20 → w_Mo_space_b34 mo Q x1 x2 x3 0 F A) ∧ (¬ x3 ≤ 20 → w_Mo_space_b29 mo Q x1 x2 x3 F A))))))))))
set_option maxHeartbeats 4000000 in
set_option maxRecDepth 100000 in
theorem s_Mo_space_b34 (C0 : x_C p s m args meth c c_Mo_space 5 (some .boolean) gT R_Mo) (hA : ∀ q : Nat, s.heap.size ≤ q → A0 q) {mo : Nat} {Q : Int → (Nat → Int) → (Nat → Int → Int) → Prop} (x1 : Int) (x2 : Int) (x3 : Int) (y1 : Int) (F : Nat → Int) (A : Nat → Int → Int) (h : w_Mo_space_b34 mo Q x1 x2 x3 y1 F A) (H : Heap) (locs : List Loc) (ls : Array Slot) (hS : x_S D vCl shU ad cA (NN mo) A0 s F A H locs) (hl : lv_has ls 5 [(0, .ref (ad 30)), (1, .int (iI x1)), (2, .int (iI x2)), (3, .long (lI x3))]) : W p l e ({ frames := 1, cells := 0, slots := 0, locals := 20 } : Room) s m args below meth c H locs 0 0 (MQ below (x_QI D vCl shU ad cA (NN mo) A0 Q) args s 0 0 A0) (F0 m 34 ls [.int (iI y1), .ref (ad 30)]) := by
  obtain ⟨hx, hb, hr, hml, hown, hts, hlocks⟩ := id C0
  refine r_puti (j := 10) (v := y1) hx hb hts in_Mo t_Mo to_Mo nm_Mo hown hS 30 rfl rfl 0 (by decide) (hts _ tw_634) rfl (by decide +kernel) (setf_10 ad cA mo _ _ _) (by decide) d_Mo_space_34 (fun H locs hS => ?_)
  refine lv_aload_n hx hb d_Mo_space_37 rfl (lv_at hl 0 rfl) ?_
  refine r_geti (z := y1) hx hb hts in_Mo hown hS 30 rfl rfl 0 (by decide) rfl (hts _ tw_634) d_Mo_space_38 rfl ?_
  obtain ⟨g1, h⟩ := h
  refine r_if_gt (tgt := 60) hx hb g1 d_Mo_space_41 (by decide) (fun hc => ?_) (fun hc => ?_)
  · replace h := h.1 hc
    refine r_iconst hx hb d_Mo_space_60 ?_
    exact r_zret (z := 0) hx hb hr hlocks (Or.inl rfl) hS h d_Mo_space_61
  · replace h := h.2 hc
    refine lv_aload_n hx hb d_Mo_space_44 rfl (lv_at hl 0 rfl) ?_
    refine r_getr (t2 := 37) hx hb hts in_Mo hown hS 30 rfl rfl 10 (by decide) rfl (hts _ tw_644) d_Mo_space_45 ?_
    refine r_iconst hx hb d_Mo_space_48 ?_
    refine lv_iload_n hx hb d_Mo_space_49 rfl (lv_at hl 1 rfl) ?_
    refine r_imul hx hb d_Mo_space_50 ?_
    refine lv_iload_n hx hb d_Mo_space_51 rfl (lv_at hl 2 rfl) ?_
    refine r_iadd hx hb d_Mo_space_52 ?_
    obtain ⟨g2, h⟩ := h
    obtain ⟨g3, h⟩ := h
    refine r_iald (id := 30) (i := ((4 * x1) + x2)) (z := A 30 ((4 * x1) + x2)) hx hb hS 37 rfl g2 g3 d_Mo_space_53 rfl ?_
    obtain ⟨g4, h⟩ := h
    refine r_i2l hx hb g4 d_Mo_space_54 ?_
    refine lv_lload_n hx hb d_Mo_space_55 rfl (lv_at hl 3 rfl) ?_
    obtain ⟨g5, h⟩ := h
    obtain ⟨g6, h⟩ := h
    refine r_lcmp_ne (tgt := 62) hx hb g5 g6 d_Mo_space_56 d_Mo_space_57 (by decide) (fun hc => ?_) (fun hc => ?_)
    · replace h := h.1 hc
      refine lv_aload_n hx hb d_Mo_space_62 rfl (lv_at hl 0 rfl) ?_
      refine r_getr (t2 := 37) hx hb hts in_Mo hown hS 30 rfl rfl 10 (by decide) rfl (hts _ tw_644) d_Mo_space_63 ?_
      refine r_iconst hx hb d_Mo_space_66 ?_
      refine lv_iload_n hx hb d_Mo_space_67 rfl (lv_at hl 1 rfl) ?_
      refine r_imul hx hb d_Mo_space_68 ?_
      refine lv_iload_n hx hb d_Mo_space_69 rfl (lv_at hl 2 rfl) ?_
      refine r_iadd hx hb d_Mo_space_70 ?_
      refine lv_lload_n hx hb d_Mo_space_71 rfl (lv_at hl 3 rfl) ?_
      refine r_l2i hx hb d_Mo_space_72 ?_
      refine r_iast (id := 30) (i := ((4 * x1) + x2)) (v := x3) hx hb hS 37 rfl g2 g3 (seta_30 ad cA mo _ _ _ _) d_Mo_space_73 (fun H locs hS => ?_)
      refine lv_aload_n hx hb d_Mo_space_74 rfl (lv_at hl 0 rfl) ?_
      refine r_iconst hx hb d_Mo_space_75 ?_
      refine r_putz (j := 15) (v := 0) hx hb hts in_Mo t_Mo to_Mo nm_Mo hown hS 30 rfl rfl 17 (by decide) (hts _ tw_651) rfl (by decide +kernel) (Or.inl rfl) (setf_15 ad cA mo _ _ _) (by decide) d_Mo_space_76 (fun H locs hS => ?_)
      refine r_iconst hx hb d_Mo_space_79 ?_
      exact r_zret (z := 1) hx hb hr hlocks (Or.inr rfl) hS h d_Mo_space_80
    · replace h := h.2 hc
      refine r_iconst hx hb d_Mo_space_60 ?_
      exact r_zret (z := 0) hx hb hr hlocks (Or.inl rfl) hS h d_Mo_space_61
set_option maxHeartbeats 4000000 in
set_option maxRecDepth 100000 in
theorem s_Mo_space_b29 (C0 : x_C p s m args meth c c_Mo_space 5 (some .boolean) gT R_Mo) (hA : ∀ q : Nat, s.heap.size ≤ q → A0 q) {mo : Nat} {Q : Int → (Nat → Int) → (Nat → Int → Int) → Prop} (x1 : Int) (x2 : Int) (x3 : Int) (F : Nat → Int) (A : Nat → Int → Int) (h : w_Mo_space_b29 mo Q x1 x2 x3 F A) (H : Heap) (locs : List Loc) (ls : Array Slot) (hS : x_S D vCl shU ad cA (NN mo) A0 s F A H locs) (hl : lv_has ls 5 [(0, .ref (ad 30)), (1, .int (iI x1)), (2, .int (iI x2)), (3, .long (lI x3))]) : W p l e ({ frames := 1, cells := 0, slots := 0, locals := 20 } : Room) s m args below meth c H locs 0 0 (MQ below (x_QI D vCl shU ad cA (NN mo) A0 Q) args s 0 0 A0) (F0 m 29 ls [.ref (ad 30)]) := by
  obtain ⟨hx, hb, hr, hml, hown, hts, hlocks⟩ := id C0
  refine r_iconst hx hb d_Mo_space_29 ?_
  refine lv_goto (tgt := 34) hx hb d_Mo_space_30 (by decide) ?_
  exact s_Mo_space_b34 C0 hA _ _ _ _ _ _ h _ _ _ hS (lv_sub hl [0, 1, 2, 3] rfl)
set_option maxHeartbeats 4000000 in
set_option maxRecDepth 100000 in
theorem ct_Mo_space (l : Launch) (D : va_G) (ad : Nat → Nat) (cA : Nat → ClassId) (mo sz : Nat) (F : Nat → Int) (A : Nat → Int → Int) (x1 : Int) (x2 : Int) (x3 : Int) (Q : Int → (Nat → Int) → (Nat → Int → Int) → Prop) (h : w_Mo_space mo F A x1 x2 x3 Q) : Met l y_Mo_space (Cond.code y_Mo_space c_Mo_space 5 (some .boolean) :: gT) ({ frames := 1, cells := 0, slots := 0, locals := 20 } : Room) (va_Pc [.ref (ad 30), .int (iI x1), .int (iI x2), .long (lI x3)] (x_P D vCl shU ad cA (NN mo) sz F A)) (x_QI D vCl shU ad cA (NN mo) (va_A (x_w shU ad cA (NN mo) F A) sz) Q) 0 0 (va_A (x_w shU ad cA (NN mo) F A) sz) := by
  refine Met.ofW (cc := c_Mo_space) (maxL := 5) (ret := some .boolean) (by decide) rfl ?_
  intro p e s m args below meth c s₁ B hml hv
  obtain ⟨rfl, hsz, hP, hK, hD0, hN0⟩ := hv
  have hx := B.exec
  have hb := B.bytes
  have hr := B.returns
  have hts0 := atoms_spec (ws := (Cond.code y_Mo_space c_Mo_space 5 (some .boolean) :: gT)) B.pre
  have hts : ∀ w ∈ gT, w.before _ s = true := fun w h => hts0 w (List.mem_cons_of_mem _ h)
  have hown : s.vm.findClass R_Mo = some m.cls := findClass_of_methodNamed B.named
  have hlocks := B.notSynchronized
  subst hsz
  have hS : x_S D vCl shU ad cA (NN mo) (va_A (x_w shU ad cA (NN mo) F A) s.heap.size) s F A s.heap [] := ⟨hK, hP, hD0.self, va_S.rf, hN0⟩
  have hA : ∀ q : Nat, s.heap.size ≤ q → va_A (x_w shU ad cA (NN mo) F A) s.heap.size q := fun q h => Or.inr h
  have C0 : x_C p s m [.ref (ad 30), .int (iI x1), .int (iI x2), .long (lI x3)].toArray meth c c_Mo_space 5 (some .boolean) gT R_Mo := ⟨hx, hb, hr, hml, hown, hts, hlocks⟩
  generalize va_A (x_w shU ad cA (NN mo) F A) s.heap.size = A0 at hS hA ⊢
  have hl := lv_entry [.ref (ad 30), .int (iI x1), .int (iI x2), .long (lI x3)] (n := 5) (Nat.le_of_ble_eq_true rfl)
  rw [lg_entry_eq]
  generalize (lg_sl [.ref (ad 30), .int (iI x1), .int (iI x2), .long (lI x3)] ++ List.replicate (5 - (lg_sl [.ref (ad 30), .int (iI x1), .int (iI x2), .long (lI x3)]).length) Slot.unset).toArray = ls at hl ⊢
  have hl : lv_has ls 5 [(0, .ref (ad 30)), (1, .int (iI x1)), (2, .int (iI x2)), (3, .long (lI x3))] := hl
  refine lv_aload_n hx hb d_Mo_space_0 rfl (lv_at hl 0 rfl) ?_
  refine lv_iload_n hx hb d_Mo_space_1 rfl (lv_at hl 1 rfl) ?_
  refine r_ci (va_runS (As := [.int (iI x1)]) (rest := [.ref (ad 30)]) ⟨hx, hb, hml, hown, hts⟩ (ct_Mo_isKind l D ad cA mo _ _ _ _ _ h) (cwS 1 hts (gS tw_750 tw_751 tw_8 tw_752) rfl rfl rfl (by decide +kernel) ⟨Nat.le_of_ble_eq_true rfl, Nat.le_of_ble_eq_true rfl⟩) (x_preS hS _) rfl rfl hl.1 rfl (lv_room (Nat.le_of_ble_eq_true rfl)) d_Mo_space_2 ⟨Nat.zero_le _, Nat.zero_le _⟩) hS hA (fun z7 F7 A7 H locs hS h => ?_)
  obtain ⟨rfl, rfl, h⟩ := h
  obtain ⟨g8, h⟩ := h
  refine r_if_eq (tgt := 29) hx hb g8 d_Mo_space_5 (by decide) (fun hc => ?_) (fun hc => ?_)
  · replace h := h.1 hc
    exact s_Mo_space_b29 C0 hA _ _ _ _ _ h _ _ _ hS (lv_sub hl [0, 1, 2, 3] rfl)
  · replace h := h.2 hc
    refine lv_iload_n hx hb d_Mo_space_8 rfl (lv_at hl 2 rfl) ?_
    refine r_ci (va_runS (As := [.int (iI x2)]) (rest := [.ref (ad 30)]) ⟨hx, hb, hml, hown, hts⟩ (ct_Mo_isKind l D ad cA mo _ _ _ _ _ h) (cwS 1 hts (gS tw_750 tw_751 tw_8 tw_752) rfl rfl rfl (by decide +kernel) ⟨Nat.le_of_ble_eq_true rfl, Nat.le_of_ble_eq_true rfl⟩) (x_preS hS _) rfl rfl hl.1 rfl (lv_room (Nat.le_of_ble_eq_true rfl)) d_Mo_space_9 ⟨Nat.zero_le _, Nat.zero_le _⟩) hS hA (fun z9 F9 A9 H locs hS h => ?_)
    obtain ⟨rfl, rfl, h⟩ := h
    obtain ⟨g10, h⟩ := h
    refine r_if_eq (tgt := 29) hx hb g10 d_Mo_space_12 (by decide) (fun hc => ?_) (fun hc => ?_)
    · replace h := h.1 hc
      exact s_Mo_space_b29 C0 hA _ _ _ _ _ h _ _ _ hS (lv_sub hl [0, 1, 2, 3] rfl)
    · replace h := h.2 hc
      refine lv_lload_n hx hb d_Mo_space_15 rfl (lv_at hl 3 rfl) ?_
      refine r_lconst hx hb 0 d_Mo_space_16 (by decide +kernel) ?_
      obtain ⟨g11, h⟩ := h
      refine r_lcmp_lt (tgt := 29) hx hb g11 ⟨by omega, by omega⟩ d_Mo_space_17 d_Mo_space_18 (by decide) (fun hc => ?_) (fun hc => ?_)
      · replace h := h.1 hc
        exact s_Mo_space_b29 C0 hA _ _ _ _ _ h _ _ _ hS (lv_sub hl [0, 1, 2, 3] rfl)
      · replace h := h.2 hc
        refine lv_lload_n hx hb d_Mo_space_21 rfl (lv_at hl 3 rfl) ?_
        refine r_ldc2 20 hx hb hown (v := 20) (hts _ tw_757) rfl d_Mo_space_22 ?_
        refine r_lcmp_le (tgt := 33) hx hb g11 ⟨by omega, by omega⟩ d_Mo_space_25 d_Mo_space_26 (by decide) (fun hc => ?_) (fun hc => ?_)
        · replace h := h.1 hc
          refine r_iconst hx hb d_Mo_space_33 ?_
          exact s_Mo_space_b34 C0 hA _ _ _ _ _ _ h _ _ _ hS (lv_sub hl [0, 1, 2, 3] rfl)
        · replace h := h.2 hc
          exact s_Mo_space_b29 C0 hA _ _ _ _ _ h _ _ _ hS (lv_sub hl [0, 1, 2, 3] rfl)
/-! Mo_gather -/
def w_Mo_gather_b61 (mo : Nat) (Q : (Nat → Int) → (Nat → Int → Int) → Prop) (I7 : Int → (Nat → Int) → (Nat → Int → Int) → Prop) (x1 : Int) (x2 : Int) (x3 : Int) (F : Nat → Int) (A : Nat → Int → Int) : Prop := I7 (x3 + 1) F A
def w_Mo_gather_b7 (mo : Nat) (Q : (Nat → Int) → (Nat → Int → Int) → Prop) (x1 : Int) (x2 : Int) (x3 : Int) (F : Nat → Int) (A : Nat → Int → Int) : Prop := Lp3 (fun I7 x3 F A => rg x3 ∧ rg (F 19) ∧ (((F 19) ≤ x3 → Q F A) ∧ (¬ (F 19) ≤ x3 → 0 ≤ x3 ∧ x3 < 60 ∧ 0 ≤ (A 38 x3) ∧ (A 38 x3) < 60 ∧ rg (A 35 (A 38 x3)) ∧ rg ((1000 * x1) + x2) ∧ ((¬ (A 35 (A 38 x3)) = ((1000 * x1) + x2) → w_Mo_gather_b61 mo Q I7 x1 x2 x3 F A) ∧ ((A 35 (A 38 x3)) = ((1000 * x1) + x2) → 0 ≤ (F 16) ∧ (F 16) < 61 ∧ w_Mo_gather_b61 mo Q I7 x1 x2 x3 (uf F 16 ((F 16) + 1)) (ua A 36 (F 16) (A 38 x3))))))) x3 F A
def w_Mo_gather (mo : Nat) (F : Nat → Int) (A : Nat → Int → Int) (x1 : Int) (x2 : Int) (Q : (Nat → Int) → (Nat → Int → Int) → Prop) : Prop := w_Mo_gather_b7 mo Q x1 x2 0 (uf F 16 0) A
set_option maxHeartbeats 4000000 in
set_option maxRecDepth 100000 in
theorem s_Mo_gather_b61 (C0 : x_C p s m args meth c c_Mo_gather 5 (none) gT R_Mo) (hA : ∀ q : Nat, s.heap.size ≤ q → A0 q) {mo : Nat} {Q : (Nat → Int) → (Nat → Int → Int) → Prop} {I7 : Int → (Nat → Int) → (Nat → Int → Int) → Prop} (x1 : Int) (x2 : Int) (x3 : Int) (F : Nat → Int) (A : Nat → Int → Int) (hI7 : ∀ (x3 : Int) (F : Nat → Int) (A : Nat → Int → Int), I7 x3 F A → ∀ (H : Heap) (locs : List Loc) (ls : Array Slot), x_S D vCl shU ad cA (NN mo) A0 s F A H locs → lv_has ls 5 [(0, .ref (ad 30)), (1, .int (iI x1)), (2, .int (iI x2)), (3, .int (iI x3))] → W p l e ({ frames := 0, cells := 0, slots := 0, locals := 0 } : Room) s m args below meth c H locs 0 0 (MQ below (x_QV D vCl shU ad cA (NN mo) A0 Q) args s 0 0 A0) (F0 m 7 ls [])) (h : w_Mo_gather_b61 mo Q I7 x1 x2 x3 F A) (H : Heap) (locs : List Loc) (ls : Array Slot) (hS : x_S D vCl shU ad cA (NN mo) A0 s F A H locs) (hl : lv_has ls 5 [(0, .ref (ad 30)), (1, .int (iI x1)), (2, .int (iI x2)), (3, .int (iI x3))]) : W p l e ({ frames := 0, cells := 0, slots := 0, locals := 0 } : Room) s m args below meth c H locs 0 0 (MQ below (x_QV D vCl shU ad cA (NN mo) A0 Q) args s 0 0 A0) (F0 m 61 ls []) := by
  obtain ⟨hx, hb, hr, hml, hown, hts, hlocks⟩ := id C0
  refine r_iinc (k := 3) (z := x3) (lv' := [(3, .int (iI (x3 + 1))), (0, .ref (ad 30)), (1, .int (iI x1)), (2, .int (iI x2))]) hx hb d_Mo_gather_61 hl rfl (by decide) rfl (fun ls hl => ?_)
  refine lv_goto (tgt := 7) hx hb d_Mo_gather_64 (by decide) ?_
  exact hI7 _ _ _ h _ _ _ hS (lv_sub hl [1, 2, 3, 0] rfl)
set_option maxHeartbeats 4000000 in
set_option maxRecDepth 100000 in
theorem s_Mo_gather_b7 (C0 : x_C p s m args meth c c_Mo_gather 5 (none) gT R_Mo) (hA : ∀ q : Nat, s.heap.size ≤ q → A0 q) {mo : Nat} {Q : (Nat → Int) → (Nat → Int → Int) → Prop} (x1 : Int) (x2 : Int) (x3 : Int) (F : Nat → Int) (A : Nat → Int → Int) (h : w_Mo_gather_b7 mo Q x1 x2 x3 F A) (H : Heap) (locs : List Loc) (ls : Array Slot) (hS : x_S D vCl shU ad cA (NN mo) A0 s F A H locs) (hl : lv_has ls 5 [(0, .ref (ad 30)), (1, .int (iI x1)), (2, .int (iI x2)), (3, .int (iI x3))]) : W p l e ({ frames := 0, cells := 0, slots := 0, locals := 0 } : Room) s m args below meth c H locs 0 0 (MQ below (x_QV D vCl shU ad cA (NN mo) A0 Q) args s 0 0 A0) (F0 m 7 ls []) := by
  obtain ⟨hx, hb, hr, hml, hown, hts, hlocks⟩ := id C0
  refine h (fun x3 F A => ∀ (H : Heap) (locs : List Loc) (ls : Array Slot), x_S D vCl shU ad cA (NN mo) A0 s F A H locs → lv_has ls 5 [(0, .ref (ad 30)), (1, .int (iI x1)), (2, .int (iI x2)), (3, .int (iI x3))] → W p l e ({ frames := 0, cells := 0, slots := 0, locals := 0 } : Room) s m args below meth c H locs 0 0 (MQ below (x_QV D vCl shU ad cA (NN mo) A0 Q) args s 0 0 A0) (F0 m 7 ls [])) ?_ H locs ls hS hl
  intro x3 F A h H locs ls hS hl
  refine lv_iload_n hx hb d_Mo_gather_7 rfl (lv_at hl 3 rfl) ?_
  refine lv_aload_n hx hb d_Mo_gather_8 rfl (lv_at hl 0 rfl) ?_
  refine r_geti (z := F 19) hx hb hts in_Mo hown hS 30 rfl rfl 24 (by decide) rfl (hts _ tw_658) d_Mo_gather_9 rfl ?_
  obtain ⟨g1, h⟩ := h
  obtain ⟨g2, h⟩ := h
  refine r_icmp_ge (tgt := 67) hx hb g1 g2 d_Mo_gather_12 (by decide) (fun hc => ?_) (fun hc => ?_)
  · replace h := h.1 hc
    exact r_vret hx hb hr hlocks hS h d_Mo_gather_67
  · replace h := h.2 hc
    refine lv_aload_n hx hb d_Mo_gather_15 rfl (lv_at hl 0 rfl) ?_
    refine r_getr (t2 := 45) hx hb hts in_Mo hown hS 30 rfl rfl 23 (by decide) rfl (hts _ tw_657) d_Mo_gather_16 ?_
    refine lv_iload_n hx hb d_Mo_gather_19 rfl (lv_at hl 3 rfl) ?_
    obtain ⟨g3, h⟩ := h
    obtain ⟨g4, h⟩ := h
    refine r_iald (id := 38) (i := x3) (z := A 38 x3) hx hb hS 45 rfl g3 g4 d_Mo_gather_20 rfl ?_
    refine lv_istore (lv' := [(4, .int (iI (A 38 x3))), (0, .ref (ad 30)), (1, .int (iI x1)), (2, .int (iI x2)), (3, .int (iI x3))]) hx hb d_Mo_gather_21 hl (by decide) rfl (fun ls hl => ?_)
    refine lv_aload_n hx hb d_Mo_gather_23 rfl (lv_at hl 1 rfl) ?_
    refine r_getr (t2 := 42) hx hb hts in_Mo hown hS 30 rfl rfl 16 (by decide) rfl (hts _ tw_650) d_Mo_gather_24 ?_
    refine lv_iload hx hb d_Mo_gather_27 (lv_at hl 0 rfl) ?_
    obtain ⟨g5, h⟩ := h
    obtain ⟨g6, h⟩ := h
    refine r_iald (id := 35) (i := (A 38 x3)) (z := A 35 (A 38 x3)) hx hb hS 42 rfl g5 g6 d_Mo_gather_29 rfl ?_
    refine r_sipush hx hb d_Mo_gather_30 (by decide +kernel) ?_
    refine lv_iload_n hx hb d_Mo_gather_33 rfl (lv_at hl 2 rfl) ?_
    refine r_imul hx hb d_Mo_gather_34 ?_
    refine lv_iload_n hx hb d_Mo_gather_35 rfl (lv_at hl 3 rfl) ?_
    refine r_iadd hx hb d_Mo_gather_36 ?_
    obtain ⟨g7, h⟩ := h
    obtain ⟨g8, h⟩ := h
    refine r_icmp_ne (tgt := 61) hx hb g7 g8 d_Mo_gather_37 (by decide) (fun hc => ?_) (fun hc => ?_)
    · replace h := h.1 hc
      exact s_Mo_gather_b61 C0 hA _ _ _ _ _ (fun _ _ _ h => h) h _ _ _ hS (lv_sub hl [1, 2, 3, 4] rfl)
    · replace h := h.2 hc
      refine lv_aload_n hx hb d_Mo_gather_40 rfl (lv_at hl 1 rfl) ?_
      refine r_getr (t2 := 43) hx hb hts in_Mo hown hS 30 rfl rfl 18 (by decide) rfl (hts _ tw_652) d_Mo_gather_41 ?_
      refine lv_aload_n hx hb d_Mo_gather_44 rfl (lv_at hl 1 rfl) ?_
      refine r_geti (z := F 16) hx hb hts in_Mo hown hS 30 rfl rfl 19 (by decide) rfl (hts _ tw_653) d_Mo_gather_45 rfl ?_
      refine lv_iload hx hb d_Mo_gather_48 (lv_at hl 0 rfl) ?_
      obtain ⟨g9, h⟩ := h
      obtain ⟨g10, h⟩ := h
      refine r_iast (id := 36) (i := (F 16)) (v := (A 38 x3)) hx hb hS 43 rfl g9 g10 (seta_36 ad cA mo _ _ _ _) d_Mo_gather_50 (fun H locs hS => ?_)
      refine lv_aload_n hx hb d_Mo_gather_51 rfl (lv_at hl 1 rfl) ?_
      refine lv_dup hx hb d_Mo_gather_52 rfl ?_
      refine r_geti (z := F 16) hx hb hts in_Mo hown hS 30 rfl rfl 19 (by decide) rfl (hts _ tw_653) d_Mo_gather_53 rfl ?_
      refine r_iconst hx hb d_Mo_gather_56 ?_
      refine r_iadd hx hb d_Mo_gather_57 ?_
      refine r_puti (j := 16) (v := (F 16) + 1) hx hb hts in_Mo t_Mo to_Mo nm_Mo hown hS 30 rfl rfl 19 (by decide) (hts _ tw_653) rfl (by decide +kernel) (setf_16 ad cA mo _ _ _) (by decide) d_Mo_gather_58 (fun H locs hS => ?_)
      exact s_Mo_gather_b61 C0 hA _ _ _ _ _ (fun _ _ _ h => h) h _ _ _ hS (lv_sub hl [1, 2, 3, 4] rfl)
set_option maxHeartbeats 4000000 in
set_option maxRecDepth 100000 in
theorem ct_Mo_gather (l : Launch) (D : va_G) (ad : Nat → Nat) (cA : Nat → ClassId) (mo sz : Nat) (F : Nat → Int) (A : Nat → Int → Int) (x1 : Int) (x2 : Int) (Q : (Nat → Int) → (Nat → Int → Int) → Prop) (h : w_Mo_gather mo F A x1 x2 Q) : Met l y_Mo_gather (Cond.code y_Mo_gather c_Mo_gather 5 (none) :: gT) ({ frames := 0, cells := 0, slots := 0, locals := 0 } : Room) (va_Pc [.ref (ad 30), .int (iI x1), .int (iI x2)] (x_P D vCl shU ad cA (NN mo) sz F A)) (x_QV D vCl shU ad cA (NN mo) (va_A (x_w shU ad cA (NN mo) F A) sz) Q) 0 0 (va_A (x_w shU ad cA (NN mo) F A) sz) := by
  refine Met.ofW (cc := c_Mo_gather) (maxL := 5) (ret := none) (by decide) rfl ?_
  intro p e s m args below meth c s₁ B hml hv
  obtain ⟨rfl, hsz, hP, hK, hD0, hN0⟩ := hv
  have hx := B.exec
  have hb := B.bytes
  have hr := B.returns
  have hts0 := atoms_spec (ws := (Cond.code y_Mo_gather c_Mo_gather 5 (none) :: gT)) B.pre
  have hts : ∀ w ∈ gT, w.before _ s = true := fun w h => hts0 w (List.mem_cons_of_mem _ h)
  have hown : s.vm.findClass R_Mo = some m.cls := findClass_of_methodNamed B.named
  have hlocks := B.notSynchronized
  subst hsz
  have hS : x_S D vCl shU ad cA (NN mo) (va_A (x_w shU ad cA (NN mo) F A) s.heap.size) s F A s.heap [] := ⟨hK, hP, hD0.self, va_S.rf, hN0⟩
  have hA : ∀ q : Nat, s.heap.size ≤ q → va_A (x_w shU ad cA (NN mo) F A) s.heap.size q := fun q h => Or.inr h
  have C0 : x_C p s m [.ref (ad 30), .int (iI x1), .int (iI x2)].toArray meth c c_Mo_gather 5 (none) gT R_Mo := ⟨hx, hb, hr, hml, hown, hts, hlocks⟩
  generalize va_A (x_w shU ad cA (NN mo) F A) s.heap.size = A0 at hS hA ⊢
  have hl := lv_entry [.ref (ad 30), .int (iI x1), .int (iI x2)] (n := 5) (Nat.le_of_ble_eq_true rfl)
  rw [lg_entry_eq]
  generalize (lg_sl [.ref (ad 30), .int (iI x1), .int (iI x2)] ++ List.replicate (5 - (lg_sl [.ref (ad 30), .int (iI x1), .int (iI x2)]).length) Slot.unset).toArray = ls at hl ⊢
  have hl : lv_has ls 5 [(0, .ref (ad 30)), (1, .int (iI x1)), (2, .int (iI x2))] := hl
  refine lv_aload_n hx hb d_Mo_gather_0 rfl (lv_at hl 0 rfl) ?_
  refine r_iconst hx hb d_Mo_gather_1 ?_
  refine r_puti (j := 16) (v := 0) hx hb hts in_Mo t_Mo to_Mo nm_Mo hown hS 30 rfl rfl 19 (by decide) (hts _ tw_653) rfl (by decide +kernel) (setf_16 ad cA mo _ _ _) (by decide) d_Mo_gather_2 (fun H locs hS => ?_)
  refine r_iconst hx hb d_Mo_gather_5 ?_
  refine lv_istore_n (lv' := [(3, .int (iI 0)), (0, .ref (ad 30)), (1, .int (iI x1)), (2, .int (iI x2))]) hx hb d_Mo_gather_6 rfl hl (by decide) rfl (fun ls hl => ?_)
  exact s_Mo_gather_b7 C0 hA _ _ _ _ _ h _ _ _ hS (lv_sub hl [1, 2, 3, 0] rfl)
/-! Mo_far -/
def w_Mo_far (mo : Nat) (F : Nat → Int) (A : Nat → Int → Int) (x0 : Int) (x1 : Int) (Q : Int → Prop) : Prop := rg x0 ∧ rg x1 ∧ ((x0 ≤ x1 → Q (x1 - x0)) ∧ (¬ x0 ≤ x1 → Q (x0 - x1)))
set_option maxHeartbeats 4000000 in
set_option maxRecDepth 100000 in
theorem ct_Mo_far (l : Launch) (D : va_G) (ad : Nat → Nat) (cA : Nat → ClassId) (mo sz : Nat) (F : Nat → Int) (A : Nat → Int → Int) (x0 : Int) (x1 : Int) (Q : Int → Prop) (h : w_Mo_far mo F A x0 x1 Q) : Met l y_Mo_far (Cond.code y_Mo_far c_Mo_far 2 (some .int) :: gT) ({ frames := 0, cells := 0, slots := 0, locals := 0 } : Room) (va_Pc [.int (iI x0), .int (iI x1)] (x_P D vCl shU ad cA (NN mo) sz F A)) (x_QI D vCl shU ad cA (NN mo) (va_A (x_w shU ad cA (NN mo) F A) sz) (fun z F1 A1 => F = F1 ∧ A = A1 ∧ Q z)) 0 0 (va_A (x_w shU ad cA (NN mo) F A) sz) := by
  refine Met.ofW (cc := c_Mo_far) (maxL := 2) (ret := some .int) (by decide) rfl ?_
  intro p e s m args below meth c s₁ B hml hv
  obtain ⟨rfl, hsz, hP, hK, hD0, hN0⟩ := hv
  have hx := B.exec
  have hb := B.bytes
  have hr := B.returns
  have hts0 := atoms_spec (ws := (Cond.code y_Mo_far c_Mo_far 2 (some .int) :: gT)) B.pre
  have hts : ∀ w ∈ gT, w.before _ s = true := fun w h => hts0 w (List.mem_cons_of_mem _ h)
  have hown : s.vm.findClass R_Mo = some m.cls := findClass_of_methodNamed B.named
  have hlocks := B.notSynchronized
  subst hsz
  have hS : x_S D vCl shU ad cA (NN mo) (va_A (x_w shU ad cA (NN mo) F A) s.heap.size) s F A s.heap [] := ⟨hK, hP, hD0.self, va_S.rf, hN0⟩
  have hA : ∀ q : Nat, s.heap.size ≤ q → va_A (x_w shU ad cA (NN mo) F A) s.heap.size q := fun q h => Or.inr h
  have C0 : x_C p s m [.int (iI x0), .int (iI x1)].toArray meth c c_Mo_far 2 (some .int) gT R_Mo := ⟨hx, hb, hr, hml, hown, hts, hlocks⟩
  generalize va_A (x_w shU ad cA (NN mo) F A) s.heap.size = A0 at hS hA ⊢
  have hl := lv_entry [.int (iI x0), .int (iI x1)] (n := 2) (Nat.le_of_ble_eq_true rfl)
  rw [lg_entry_eq]
  generalize (lg_sl [.int (iI x0), .int (iI x1)] ++ List.replicate (2 - (lg_sl [.int (iI x0), .int (iI x1)]).length) Slot.unset).toArray = ls at hl ⊢
  have hl : lv_has ls 2 [(0, .int (iI x0)), (1, .int (iI x1))] := hl
  refine lv_iload_n hx hb d_Mo_far_0 rfl (lv_at hl 0 rfl) ?_
  refine lv_iload_n hx hb d_Mo_far_1 rfl (lv_at hl 1 rfl) ?_
  obtain ⟨g1, h⟩ := h
  obtain ⟨g2, h⟩ := h
  refine r_icmp_le (tgt := 11) hx hb g1 g2 d_Mo_far_2 (by decide) (fun hc => ?_) (fun hc => ?_)
  · replace h := h.1 hc
    refine lv_iload_n hx hb d_Mo_far_11 rfl (lv_at hl 1 rfl) ?_
    refine lv_iload_n hx hb d_Mo_far_12 rfl (lv_at hl 0 rfl) ?_
    refine r_isub hx hb d_Mo_far_13 ?_
    exact r_iret (z := (x1 - x0)) hx hb hr hlocks hS ⟨rfl, rfl, h⟩ d_Mo_far_14
  · replace h := h.2 hc
    refine lv_iload_n hx hb d_Mo_far_5 rfl (lv_at hl 0 rfl) ?_
    refine lv_iload_n hx hb d_Mo_far_6 rfl (lv_at hl 1 rfl) ?_
    refine r_isub hx hb d_Mo_far_7 ?_
    refine lv_goto (tgt := 14) hx hb d_Mo_far_8 (by decide) ?_
    exact r_iret (z := (x0 - x1)) hx hb hr hlocks hS ⟨rfl, rfl, h⟩ d_Mo_far_14
/-! Mo_behind -/
def w_Mo_behind_b46 (mo : Nat) (F : Nat → Int) (A : Nat → Int → Int) (Q : Int → Prop) (x1 : Int) (x2 : Int) (y0 : Int) : Prop := 0 ≤ x1 ∧ x1 < 61 ∧ 0 ≤ (A 36 x1) ∧ (A 36 x1) < 60 ∧ Q ((x2 + (A 25 (A 36 x1))) + y0)
def w_Mo_behind (mo : Nat) (F : Nat → Int) (A : Nat → Int → Int) (x1 : Int) (x2 : Int) (Q : Int → Prop) : Prop := rg (x1 + 1) ∧ rg (F 16) ∧ (((F 16) ≤ (x1 + 1) → w_Mo_behind_b46 mo F A Q x1 x2 0) ∧ (¬ (F 16) ≤ (x1 + 1) → 0 ≤ x1 ∧ x1 < 61 ∧ 0 ≤ (A 36 x1) ∧ (A 36 x1) < 60 ∧ 0 ≤ (x1 + 1) ∧ (x1 + 1) < 61 ∧ 0 ≤ (A 36 (x1 + 1)) ∧ (A 36 (x1 + 1)) < 60 ∧ 0 ≤ ((4 * (A 27 (A 36 x1))) + (A 26 (A 36 (x1 + 1)))) ∧ ((4 * (A 27 (A 36 x1))) + (A 26 (A 36 (x1 + 1)))) < 16 ∧ w_Mo_behind_b46 mo F A Q x1 x2 (A 30 ((4 * (A 27 (A 36 x1))) + (A 26 (A 36 (x1 + 1)))))))
set_option maxHeartbeats 4000000 in
set_option maxRecDepth 100000 in
theorem s_Mo_behind_b46 (C0 : x_C p s m args meth c c_Mo_behind 4 (some .int) gT R_Mo) (hA : ∀ q : Nat, s.heap.size ≤ q → A0 q) {mo : Nat} {F : Nat → Int} {A : Nat → Int → Int} {Q : Int → Prop} (x1 : Int) (x2 : Int) (y0 : Int) (h : w_Mo_behind_b46 mo F A Q x1 x2 y0) (H : Heap) (locs : List Loc) (ls : Array Slot) (hS : x_S D vCl shU ad cA (NN mo) A0 s F A H locs) (hl : lv_has ls 4 [(0, .ref (ad 30)), (1, .int (iI x1)), (2, .int (iI x2))]) : W p l e ({ frames := 0, cells := 0, slots := 0, locals := 0 } : Room) s m args below meth c H locs 0 0 (MQ below (x_QI D vCl shU ad cA (NN mo) A0 (fun z F1 A1 => F = F1 ∧ A = A1 ∧ Q z)) args s 0 0 A0) (F0 m 46 ls [.int (iI y0)]) := by
  obtain ⟨hx, hb, hr, hml, hown, hts, hlocks⟩ := id C0
  refine lv_istore_n (lv' := [(3, .int (iI y0)), (0, .ref (ad 30)), (1, .int (iI x1)), (2, .int (iI x2))]) hx hb d_Mo_behind_46 rfl hl (by decide) rfl (fun ls hl => ?_)
  refine lv_iload_n hx hb d_Mo_behind_47 rfl (lv_at hl 3 rfl) ?_
  refine lv_aload_n hx hb d_Mo_behind_48 rfl (lv_at hl 1 rfl) ?_
  refine r_getr (t2 := 32) hx hb hts in_Mo hown hS 30 rfl rfl 5 (by decide) rfl (hts _ tw_639) d_Mo_behind_49 ?_
  refine lv_aload_n hx hb d_Mo_behind_52 rfl (lv_at hl 1 rfl) ?_
  refine r_getr (t2 := 43) hx hb hts in_Mo hown hS 30 rfl rfl 18 (by decide) rfl (hts _ tw_652) d_Mo_behind_53 ?_
  refine lv_iload_n hx hb d_Mo_behind_56 rfl (lv_at hl 2 rfl) ?_
  obtain ⟨g1, h⟩ := h
  obtain ⟨g2, h⟩ := h
  refine r_iald (id := 36) (i := x1) (z := A 36 x1) hx hb hS 43 rfl g1 g2 d_Mo_behind_57 rfl ?_
  obtain ⟨g3, h⟩ := h
  obtain ⟨g4, h⟩ := h
  refine r_iald (id := 25) (i := (A 36 x1)) (z := A 25 (A 36 x1)) hx hb hS 32 rfl g3 g4 d_Mo_behind_58 rfl ?_
  refine r_iadd hx hb d_Mo_behind_59 ?_
  refine lv_iload_n hx hb d_Mo_behind_60 rfl (lv_at hl 0 rfl) ?_
  refine r_iadd hx hb d_Mo_behind_61 ?_
  exact r_iret (z := ((x2 + (A 25 (A 36 x1))) + y0)) hx hb hr hlocks hS ⟨rfl, rfl, h⟩ d_Mo_behind_62
set_option maxHeartbeats 4000000 in
set_option maxRecDepth 100000 in
theorem ct_Mo_behind (l : Launch) (D : va_G) (ad : Nat → Nat) (cA : Nat → ClassId) (mo sz : Nat) (F : Nat → Int) (A : Nat → Int → Int) (x1 : Int) (x2 : Int) (Q : Int → Prop) (h : w_Mo_behind mo F A x1 x2 Q) : Met l y_Mo_behind (Cond.code y_Mo_behind c_Mo_behind 4 (some .int) :: gT) ({ frames := 0, cells := 0, slots := 0, locals := 0 } : Room) (va_Pc [.ref (ad 30), .int (iI x1), .int (iI x2)] (x_P D vCl shU ad cA (NN mo) sz F A)) (x_QI D vCl shU ad cA (NN mo) (va_A (x_w shU ad cA (NN mo) F A) sz) (fun z F1 A1 => F = F1 ∧ A = A1 ∧ Q z)) 0 0 (va_A (x_w shU ad cA (NN mo) F A) sz) := by
  refine Met.ofW (cc := c_Mo_behind) (maxL := 4) (ret := some .int) (by decide) rfl ?_
  intro p e s m args below meth c s₁ B hml hv
  obtain ⟨rfl, hsz, hP, hK, hD0, hN0⟩ := hv
  have hx := B.exec
  have hb := B.bytes
  have hr := B.returns
  have hts0 := atoms_spec (ws := (Cond.code y_Mo_behind c_Mo_behind 4 (some .int) :: gT)) B.pre
  have hts : ∀ w ∈ gT, w.before _ s = true := fun w h => hts0 w (List.mem_cons_of_mem _ h)
  have hown : s.vm.findClass R_Mo = some m.cls := findClass_of_methodNamed B.named
  have hlocks := B.notSynchronized
  subst hsz
  have hS : x_S D vCl shU ad cA (NN mo) (va_A (x_w shU ad cA (NN mo) F A) s.heap.size) s F A s.heap [] := ⟨hK, hP, hD0.self, va_S.rf, hN0⟩
  have hA : ∀ q : Nat, s.heap.size ≤ q → va_A (x_w shU ad cA (NN mo) F A) s.heap.size q := fun q h => Or.inr h
  have C0 : x_C p s m [.ref (ad 30), .int (iI x1), .int (iI x2)].toArray meth c c_Mo_behind 4 (some .int) gT R_Mo := ⟨hx, hb, hr, hml, hown, hts, hlocks⟩
  generalize va_A (x_w shU ad cA (NN mo) F A) s.heap.size = A0 at hS hA ⊢
  have hl := lv_entry [.ref (ad 30), .int (iI x1), .int (iI x2)] (n := 4) (Nat.le_of_ble_eq_true rfl)
  rw [lg_entry_eq]
  generalize (lg_sl [.ref (ad 30), .int (iI x1), .int (iI x2)] ++ List.replicate (4 - (lg_sl [.ref (ad 30), .int (iI x1), .int (iI x2)]).length) Slot.unset).toArray = ls at hl ⊢
  have hl : lv_has ls 4 [(0, .ref (ad 30)), (1, .int (iI x1)), (2, .int (iI x2))] := hl
  refine lv_iload_n hx hb d_Mo_behind_0 rfl (lv_at hl 1 rfl) ?_
  refine r_iconst hx hb d_Mo_behind_1 ?_
  refine r_iadd hx hb d_Mo_behind_2 ?_
  refine lv_aload_n hx hb d_Mo_behind_3 rfl (lv_at hl 0 rfl) ?_
  refine r_geti (z := F 16) hx hb hts in_Mo hown hS 30 rfl rfl 19 (by decide) rfl (hts _ tw_653) d_Mo_behind_4 rfl ?_
  obtain ⟨g5, h⟩ := h
  obtain ⟨g6, h⟩ := h
  refine r_icmp_ge (tgt := 45) hx hb g5 g6 d_Mo_behind_7 (by decide) (fun hc => ?_) (fun hc => ?_)
  · replace h := h.1 hc
    refine r_iconst hx hb d_Mo_behind_45 ?_
    exact s_Mo_behind_b46 C0 hA _ _ _ h _ _ _ hS (lv_sub hl [0, 1, 2] rfl)
  · replace h := h.2 hc
    refine lv_aload_n hx hb d_Mo_behind_10 rfl (lv_at hl 0 rfl) ?_
    refine r_getr (t2 := 37) hx hb hts in_Mo hown hS 30 rfl rfl 10 (by decide) rfl (hts _ tw_644) d_Mo_behind_11 ?_
    refine r_iconst hx hb d_Mo_behind_14 ?_
    refine lv_aload_n hx hb d_Mo_behind_15 rfl (lv_at hl 0 rfl) ?_
    refine r_getr (t2 := 34) hx hb hts in_Mo hown hS 30 rfl rfl 7 (by decide) rfl (hts _ tw_641) d_Mo_behind_16 ?_
    refine lv_aload_n hx hb d_Mo_behind_19 rfl (lv_at hl 0 rfl) ?_
    refine r_getr (t2 := 43) hx hb hts in_Mo hown hS 30 rfl rfl 18 (by decide) rfl (hts _ tw_652) d_Mo_behind_20 ?_
    refine lv_iload_n hx hb d_Mo_behind_23 rfl (lv_at hl 1 rfl) ?_
    obtain ⟨g7, h⟩ := h
    obtain ⟨g8, h⟩ := h
    refine r_iald (id := 36) (i := x1) (z := A 36 x1) hx hb hS 43 rfl g7 g8 d_Mo_behind_24 rfl ?_
    obtain ⟨g9, h⟩ := h
    obtain ⟨g10, h⟩ := h
    refine r_iald (id := 27) (i := (A 36 x1)) (z := A 27 (A 36 x1)) hx hb hS 34 rfl g9 g10 d_Mo_behind_25 rfl ?_
    refine r_imul hx hb d_Mo_behind_26 ?_
    refine lv_aload_n hx hb d_Mo_behind_27 rfl (lv_at hl 0 rfl) ?_
    refine r_getr (t2 := 33) hx hb hts in_Mo hown hS 30 rfl rfl 6 (by decide) rfl (hts _ tw_640) d_Mo_behind_28 ?_
    refine lv_aload_n hx hb d_Mo_behind_31 rfl (lv_at hl 0 rfl) ?_
    refine r_getr (t2 := 43) hx hb hts in_Mo hown hS 30 rfl rfl 18 (by decide) rfl (hts _ tw_652) d_Mo_behind_32 ?_
    refine lv_iload_n hx hb d_Mo_behind_35 rfl (lv_at hl 1 rfl) ?_
    refine r_iconst hx hb d_Mo_behind_36 ?_
    refine r_iadd hx hb d_Mo_behind_37 ?_
    obtain ⟨g11, h⟩ := h
    obtain ⟨g12, h⟩ := h
    refine r_iald (id := 36) (i := (x1 + 1)) (z := A 36 (x1 + 1)) hx hb hS 43 rfl g11 g12 d_Mo_behind_38 rfl ?_
    obtain ⟨g13, h⟩ := h
    obtain ⟨g14, h⟩ := h
    refine r_iald (id := 26) (i := (A 36 (x1 + 1))) (z := A 26 (A 36 (x1 + 1))) hx hb hS 33 rfl g13 g14 d_Mo_behind_39 rfl ?_
    refine r_iadd hx hb d_Mo_behind_40 ?_
    obtain ⟨g15, h⟩ := h
    obtain ⟨g16, h⟩ := h
    refine r_iald (id := 30) (i := ((4 * (A 27 (A 36 x1))) + (A 26 (A 36 (x1 + 1))))) (z := A 30 ((4 * (A 27 (A 36 x1))) + (A 26 (A 36 (x1 + 1))))) hx hb hS 37 rfl g15 g16 d_Mo_behind_41 rfl ?_
    refine lv_goto (tgt := 46) hx hb d_Mo_behind_42 (by decide) ?_
    exact s_Mo_behind_b46 C0 hA _ _ _ h _ _ _ hS (lv_sub hl [0, 1, 2] rfl)
/-! Mo_costAt -/
def w_Mo_costAt_b75 (mo : Nat) (F : Nat → Int) (A : Nat → Int → Int) (Q : Int → Prop) (x1 : Int) (x2 : Int) (x3 : Int) : Prop := rL x3 ∧ ((x3 < 1000000000 → 0 ≤ x1 ∧ x1 < 61 ∧ 0 ≤ (A 36 x1) ∧ (A 36 x1) < 60 ∧ w_Mo_far mo F A x2 (A 28 (A 36 x1)) (fun z6 => rg z6 ∧ Q (x3 + z6))) ∧ (¬ x3 < 1000000000 → Q 1000000000))
def w_Mo_costAt_b74 (mo : Nat) (F : Nat → Int) (A : Nat → Int → Int) (Q : Int → Prop) (x1 : Int) (x2 : Int) (y0 : Int) : Prop := w_Mo_costAt_b75 mo F A Q x1 x2 y0
def w_Mo_costAt (mo : Nat) (F : Nat → Int) (A : Nat → Int → Int) (x1 : Int) (x2 : Int) (Q : Int → Prop) : Prop := 0 ≤ x1 ∧ x1 < 61 ∧ 0 ≤ (A 36 x1) ∧ (A 36 x1) < 60 ∧ rg (x2 + (A 25 (A 36 x1))) ∧ rg (F 18) ∧ (((x2 + (A 25 (A 36 x1))) ≤ (F 18) → rg (x1 + 1) ∧ rg (F 16) ∧ (((F 16) ≤ (x1 + 1) → w_Mo_costAt_b75 mo F A Q x1 x2 0) ∧ (¬ (F 16) ≤ (x1 + 1) → w_Mo_behind mo F A x1 x2 (fun z16 => rg z16 ∧ ((z16 ≤ (F 18) → 0 ≤ ((1001 * (x1 + 1)) + z16) ∧ ((1001 * (x1 + 1)) + z16) < 62062 ∧ w_Mo_costAt_b74 mo F A Q x1 x2 (A 37 ((1001 * (x1 + 1)) + z16))) ∧ (¬ z16 ≤ (F 18) → w_Mo_costAt_b74 mo F A Q x1 x2 1000000000)))))) ∧ (¬ (x2 + (A 25 (A 36 x1))) ≤ (F 18) → Q 1000000000))
set_option maxHeartbeats 4000000 in
set_option maxRecDepth 100000 in
theorem s_Mo_costAt_b75 (C0 : x_C p s m args meth c c_Mo_costAt 6 (some .long) gT R_Mo) (hA : ∀ q : Nat, s.heap.size ≤ q → A0 q) {mo : Nat} {F : Nat → Int} {A : Nat → Int → Int} {Q : Int → Prop} (x1 : Int) (x2 : Int) (x3 : Int) (h : w_Mo_costAt_b75 mo F A Q x1 x2 x3) (H : Heap) (locs : List Loc) (ls : Array Slot) (hS : x_S D vCl shU ad cA (NN mo) A0 s F A H locs) (hl : lv_has ls 6 [(0, .ref (ad 30)), (1, .int (iI x1)), (2, .int (iI x2)), (3, .long (lI x3))]) : W p l e ({ frames := 1, cells := 0, slots := 0, locals := 23 } : Room) s m args below meth c H locs 0 0 (MQ below (x_QL D vCl shU ad cA (NN mo) A0 (fun z F1 A1 => F = F1 ∧ A = A1 ∧ Q z)) args s 0 0 A0) (F0 m 75 ls []) := by
  obtain ⟨hx, hb, hr, hml, hown, hts, hlocks⟩ := id C0
  refine lv_lload_n hx hb d_Mo_costAt_75 rfl (lv_at hl 3 rfl) ?_
  refine r_ldc2 1000000000 hx hb hown (v := 1000000000) (hts _ tw_770) rfl d_Mo_costAt_76 ?_
  obtain ⟨g1, h⟩ := h
  refine r_lcmp_lt (tgt := 89) hx hb g1 ⟨by omega, by omega⟩ d_Mo_costAt_79 d_Mo_costAt_80 (by decide) (fun hc => ?_) (fun hc => ?_)
  · replace h := h.1 hc
    refine lv_lload_n hx hb d_Mo_costAt_89 rfl (lv_at hl 3 rfl) ?_
    refine lv_iload_n hx hb d_Mo_costAt_90 rfl (lv_at hl 2 rfl) ?_
    refine lv_aload_n hx hb d_Mo_costAt_91 rfl (lv_at hl 0 rfl) ?_
    refine r_getr (t2 := 35) hx hb hts in_Mo hown hS 30 rfl rfl 8 (by decide) rfl (hts _ tw_642) d_Mo_costAt_92 ?_
    refine lv_aload_n hx hb d_Mo_costAt_95 rfl (lv_at hl 0 rfl) ?_
    refine r_getr (t2 := 43) hx hb hts in_Mo hown hS 30 rfl rfl 18 (by decide) rfl (hts _ tw_652) d_Mo_costAt_96 ?_
    refine lv_iload_n hx hb d_Mo_costAt_99 rfl (lv_at hl 1 rfl) ?_
    obtain ⟨g2, h⟩ := h
    obtain ⟨g3, h⟩ := h
    refine r_iald (id := 36) (i := x1) (z := A 36 x1) hx hb hS 43 rfl g2 g3 d_Mo_costAt_100 rfl ?_
    obtain ⟨g4, h⟩ := h
    obtain ⟨g5, h⟩ := h
    refine r_iald (id := 28) (i := (A 36 x1)) (z := A 28 (A 36 x1)) hx hb hS 35 rfl g4 g5 d_Mo_costAt_101 rfl ?_
    refine r_ci (va_runS (As := [.int (iI x2), .int (iI (A 28 (A 36 x1)))]) (rest := [.long (lI x3)]) ⟨hx, hb, hml, hown, hts⟩ (ct_Mo_far l D ad cA mo _ _ _ _ _ _ h) (cwS 2 hts (gS tw_783 tw_784 tw_8 tw_785) rfl rfl rfl (by decide +kernel) ⟨Nat.le_of_ble_eq_true rfl, Nat.le_of_ble_eq_true rfl⟩) (x_preS hS _) rfl rfl hl.1 rfl (lv_room (Nat.le_of_ble_eq_true rfl)) d_Mo_costAt_102 ⟨Nat.zero_le _, Nat.zero_le _⟩) hS hA (fun z6 F6 A6 H locs hS h => ?_)
    obtain ⟨rfl, rfl, h⟩ := h
    obtain ⟨g7, h⟩ := h
    refine r_i2l hx hb g7 d_Mo_costAt_105 ?_
    refine r_ladd hx hb d_Mo_costAt_106 ?_
    exact r_lret (z := (x3 + z6)) hx hb hr hlocks hS ⟨rfl, rfl, h⟩ d_Mo_costAt_107
  · replace h := h.2 hc
    refine r_ldc2 1000000000 hx hb hown (v := 1000000000) (hts _ tw_770) rfl d_Mo_costAt_83 ?_
    refine lv_goto (tgt := 107) hx hb d_Mo_costAt_86 (by decide) ?_
    exact r_lret (z := 1000000000) hx hb hr hlocks hS ⟨rfl, rfl, h⟩ d_Mo_costAt_107
set_option maxHeartbeats 4000000 in
set_option maxRecDepth 100000 in
theorem s_Mo_costAt_b74 (C0 : x_C p s m args meth c c_Mo_costAt 6 (some .long) gT R_Mo) (hA : ∀ q : Nat, s.heap.size ≤ q → A0 q) {mo : Nat} {F : Nat → Int} {A : Nat → Int → Int} {Q : Int → Prop} (x1 : Int) (x2 : Int) (y0 : Int) (h : w_Mo_costAt_b74 mo F A Q x1 x2 y0) (H : Heap) (locs : List Loc) (ls : Array Slot) (hS : x_S D vCl shU ad cA (NN mo) A0 s F A H locs) (hl : lv_has ls 6 [(0, .ref (ad 30)), (1, .int (iI x1)), (2, .int (iI x2))]) : W p l e ({ frames := 1, cells := 0, slots := 0, locals := 23 } : Room) s m args below meth c H locs 0 0 (MQ below (x_QL D vCl shU ad cA (NN mo) A0 (fun z F1 A1 => F = F1 ∧ A = A1 ∧ Q z)) args s 0 0 A0) (F0 m 74 ls [.long (lI y0)]) := by
  obtain ⟨hx, hb, hr, hml, hown, hts, hlocks⟩ := id C0
  refine lv_lstore_n (lv' := [(3, .long (lI y0)), (0, .ref (ad 30)), (1, .int (iI x1)), (2, .int (iI x2))]) hx hb d_Mo_costAt_74 rfl hl (by decide) rfl (fun ls hl => ?_)
  exact s_Mo_costAt_b75 C0 hA _ _ _ h _ _ _ hS (lv_sub hl [1, 2, 3, 0] rfl)
set_option maxHeartbeats 4000000 in
set_option maxRecDepth 100000 in
theorem ct_Mo_costAt (l : Launch) (D : va_G) (ad : Nat → Nat) (cA : Nat → ClassId) (mo sz : Nat) (F : Nat → Int) (A : Nat → Int → Int) (x1 : Int) (x2 : Int) (Q : Int → Prop) (h : w_Mo_costAt mo F A x1 x2 Q) : Met l y_Mo_costAt (Cond.code y_Mo_costAt c_Mo_costAt 6 (some .long) :: gT) ({ frames := 1, cells := 0, slots := 0, locals := 23 } : Room) (va_Pc [.ref (ad 30), .int (iI x1), .int (iI x2)] (x_P D vCl shU ad cA (NN mo) sz F A)) (x_QL D vCl shU ad cA (NN mo) (va_A (x_w shU ad cA (NN mo) F A) sz) (fun z F1 A1 => F = F1 ∧ A = A1 ∧ Q z)) 0 0 (va_A (x_w shU ad cA (NN mo) F A) sz) := by
  refine Met.ofW (cc := c_Mo_costAt) (maxL := 6) (ret := some .long) (by decide) rfl ?_
  intro p e s m args below meth c s₁ B hml hv
  obtain ⟨rfl, hsz, hP, hK, hD0, hN0⟩ := hv
  have hx := B.exec
  have hb := B.bytes
  have hr := B.returns
  have hts0 := atoms_spec (ws := (Cond.code y_Mo_costAt c_Mo_costAt 6 (some .long) :: gT)) B.pre
  have hts : ∀ w ∈ gT, w.before _ s = true := fun w h => hts0 w (List.mem_cons_of_mem _ h)
  have hown : s.vm.findClass R_Mo = some m.cls := findClass_of_methodNamed B.named
  have hlocks := B.notSynchronized
  subst hsz
  have hS : x_S D vCl shU ad cA (NN mo) (va_A (x_w shU ad cA (NN mo) F A) s.heap.size) s F A s.heap [] := ⟨hK, hP, hD0.self, va_S.rf, hN0⟩
  have hA : ∀ q : Nat, s.heap.size ≤ q → va_A (x_w shU ad cA (NN mo) F A) s.heap.size q := fun q h => Or.inr h
  have C0 : x_C p s m [.ref (ad 30), .int (iI x1), .int (iI x2)].toArray meth c c_Mo_costAt 6 (some .long) gT R_Mo := ⟨hx, hb, hr, hml, hown, hts, hlocks⟩
  generalize va_A (x_w shU ad cA (NN mo) F A) s.heap.size = A0 at hS hA ⊢
  have hl := lv_entry [.ref (ad 30), .int (iI x1), .int (iI x2)] (n := 6) (Nat.le_of_ble_eq_true rfl)
  rw [lg_entry_eq]
  generalize (lg_sl [.ref (ad 30), .int (iI x1), .int (iI x2)] ++ List.replicate (6 - (lg_sl [.ref (ad 30), .int (iI x1), .int (iI x2)]).length) Slot.unset).toArray = ls at hl ⊢
  have hl : lv_has ls 6 [(0, .ref (ad 30)), (1, .int (iI x1)), (2, .int (iI x2))] := hl
  refine lv_iload_n hx hb d_Mo_costAt_0 rfl (lv_at hl 2 rfl) ?_
  refine lv_aload_n hx hb d_Mo_costAt_1 rfl (lv_at hl 0 rfl) ?_
  refine r_getr (t2 := 32) hx hb hts in_Mo hown hS 30 rfl rfl 5 (by decide) rfl (hts _ tw_639) d_Mo_costAt_2 ?_
  refine lv_aload_n hx hb d_Mo_costAt_5 rfl (lv_at hl 0 rfl) ?_
  refine r_getr (t2 := 43) hx hb hts in_Mo hown hS 30 rfl rfl 18 (by decide) rfl (hts _ tw_652) d_Mo_costAt_6 ?_
  refine lv_iload_n hx hb d_Mo_costAt_9 rfl (lv_at hl 1 rfl) ?_
  obtain ⟨g8, h⟩ := h
  obtain ⟨g9, h⟩ := h
  refine r_iald (id := 36) (i := x1) (z := A 36 x1) hx hb hS 43 rfl g8 g9 d_Mo_costAt_10 rfl ?_
  obtain ⟨g10, h⟩ := h
  obtain ⟨g11, h⟩ := h
  refine r_iald (id := 25) (i := (A 36 x1)) (z := A 25 (A 36 x1)) hx hb hS 32 rfl g10 g11 d_Mo_costAt_11 rfl ?_
  refine r_iadd hx hb d_Mo_costAt_12 ?_
  refine lv_aload_n hx hb d_Mo_costAt_13 rfl (lv_at hl 0 rfl) ?_
  refine r_geti (z := F 18) hx hb hts in_Mo hown hS 30 rfl rfl 21 (by decide) rfl (hts _ tw_655) d_Mo_costAt_14 rfl ?_
  obtain ⟨g12, h⟩ := h
  obtain ⟨g13, h⟩ := h
  refine r_icmp_le (tgt := 24) hx hb g12 g13 d_Mo_costAt_17 (by decide) (fun hc => ?_) (fun hc => ?_)
  · replace h := h.1 hc
    refine r_lconst hx hb 0 d_Mo_costAt_24 (by decide +kernel) ?_
    refine lv_lstore_n (lv' := [(3, .long (lI 0)), (0, .ref (ad 30)), (1, .int (iI x1)), (2, .int (iI x2))]) hx hb d_Mo_costAt_25 rfl hl (by decide) rfl (fun ls hl => ?_)
    refine lv_iload_n hx hb d_Mo_costAt_26 rfl (lv_at hl 2 rfl) ?_
    refine r_iconst hx hb d_Mo_costAt_27 ?_
    refine r_iadd hx hb d_Mo_costAt_28 ?_
    refine lv_aload_n hx hb d_Mo_costAt_29 rfl (lv_at hl 1 rfl) ?_
    refine r_geti (z := F 16) hx hb hts in_Mo hown hS 30 rfl rfl 19 (by decide) rfl (hts _ tw_653) d_Mo_costAt_30 rfl ?_
    obtain ⟨g14, h⟩ := h
    obtain ⟨g15, h⟩ := h
    refine r_icmp_ge (tgt := 75) hx hb g14 g15 d_Mo_costAt_33 (by decide) (fun hc => ?_) (fun hc => ?_)
    · replace h := h.1 hc
      exact s_Mo_costAt_b75 C0 hA _ _ _ h _ _ _ hS (lv_sub hl [1, 2, 3, 0] rfl)
    · replace h := h.2 hc
      refine lv_aload_n hx hb d_Mo_costAt_36 rfl (lv_at hl 1 rfl) ?_
      refine lv_iload_n hx hb d_Mo_costAt_37 rfl (lv_at hl 2 rfl) ?_
      refine lv_iload_n hx hb d_Mo_costAt_38 rfl (lv_at hl 3 rfl) ?_
      refine r_ci (va_runV (As := [.int (iI x1), .int (iI x2)]) (rest := []) ⟨hx, hb, hml, hown, hts⟩ (ct_Mo_behind l D ad cA mo _ _ _ _ _ _ h) (cwV 2 hts (gV tw_806 tw_808 tw_s_Mo_behind tw_8 tw_809) rfl rfl rfl (by decide +kernel) ⟨Nat.le_of_ble_eq_true rfl, Nat.le_of_ble_eq_true rfl⟩) (x_preV hS 30 rfl rfl _) rfl rfl hl.1 rfl (lv_room (Nat.le_of_ble_eq_true rfl)) d_Mo_costAt_39 ⟨Nat.zero_le _, Nat.zero_le _⟩) hS hA (fun z16 F16 A16 H locs hS h => ?_)
      obtain ⟨rfl, rfl, h⟩ := h
      refine lv_istore (lv' := [(5, .int (iI z16)), (3, .long (lI 0)), (0, .ref (ad 30)), (1, .int (iI x1)), (2, .int (iI x2))]) hx hb d_Mo_costAt_42 hl (by decide) rfl (fun ls hl => ?_)
      refine lv_iload hx hb d_Mo_costAt_44 (lv_at hl 0 rfl) ?_
      refine lv_aload_n hx hb d_Mo_costAt_46 rfl (lv_at hl 2 rfl) ?_
      refine r_geti (z := F 18) hx hb hts in_Mo hown hS 30 rfl rfl 21 (by decide) rfl (hts _ tw_655) d_Mo_costAt_47 rfl ?_
      obtain ⟨g17, h⟩ := h
      refine r_icmp_le (tgt := 59) hx hb g17 g13 d_Mo_costAt_50 (by decide) (fun hc => ?_) (fun hc => ?_)
      · replace h := h.1 hc
        refine lv_aload_n hx hb d_Mo_costAt_59 rfl (lv_at hl 2 rfl) ?_
        refine r_getr (t2 := 44) hx hb hts in_Mo hown hS 30 rfl rfl 22 (by decide) rfl (hts _ tw_656) d_Mo_costAt_60 ?_
        refine r_sipush hx hb d_Mo_costAt_63 (by decide +kernel) ?_
        refine lv_iload_n hx hb d_Mo_costAt_66 rfl (lv_at hl 3 rfl) ?_
        refine r_iconst hx hb d_Mo_costAt_67 ?_
        refine r_iadd hx hb d_Mo_costAt_68 ?_
        refine r_imul hx hb d_Mo_costAt_69 ?_
        refine lv_iload hx hb d_Mo_costAt_70 (lv_at hl 0 rfl) ?_
        refine r_iadd hx hb d_Mo_costAt_72 ?_
        obtain ⟨g18, h⟩ := h
        obtain ⟨g19, h⟩ := h
        refine r_lald (id := 37) (i := ((1001 * (x1 + 1)) + z16)) (z := A 37 ((1001 * (x1 + 1)) + z16)) hx hb hS 44 rfl g18 g19 d_Mo_costAt_73 rfl ?_
        exact s_Mo_costAt_b74 C0 hA _ _ _ h _ _ _ hS (lv_sub hl [2, 3, 4] rfl)
      · replace h := h.2 hc
        refine r_ldc2 1000000000 hx hb hown (v := 1000000000) (hts _ tw_770) rfl d_Mo_costAt_53 ?_
        refine lv_goto (tgt := 74) hx hb d_Mo_costAt_56 (by decide) ?_
        exact s_Mo_costAt_b74 C0 hA _ _ _ h _ _ _ hS (lv_sub hl [2, 3, 4] rfl)
  · replace h := h.2 hc
    refine r_ldc2 1000000000 hx hb hown (v := 1000000000) (hts _ tw_770) rfl d_Mo_costAt_20 ?_
    exact r_lret (z := 1000000000) hx hb hr hlocks hS ⟨rfl, rfl, h⟩ d_Mo_costAt_23
/-! Mo_lay -/
def w_Mo_lay_b52 (mo : Nat) (Q : Int → (Nat → Int) → (Nat → Int → Int) → Prop) (I7 : Int → (Nat → Int) → (Nat → Int → Int) → Prop) (I21 : Int → Int → (Nat → Int) → (Nat → Int → Int) → Prop) (x1 : Int) (x4 : Int) (y0 : Int) (F : Nat → Int) (A : Nat → Int → Int) : Prop := 0 ≤ ((1001 * x1) + x4) ∧ ((1001 * x1) + x4) < 62062 ∧ I21 y0 (x4 + (-1)) F (ua A 37 ((1001 * x1) + x4) y0)
def w_Mo_lay_b21 (mo : Nat) (Q : Int → (Nat → Int) → (Nat → Int → Int) → Prop) (I7 : Int → (Nat → Int) → (Nat → Int → Int) → Prop) (x1 : Int) (x2 : Int) (x4 : Int) (F : Nat → Int) (A : Nat → Int → Int) : Prop := Lp4 (fun I21 x2 x4 F A => rg x4 ∧ rg (F 17) ∧ ((x4 < (F 17) → I7 (x1 + (-1)) F A) ∧ (¬ x4 < (F 17) → w_Mo_costAt mo F A x1 x4 (fun z5 => rL z5 ∧ rL x2 ∧ ((x2 ≤ z5 → w_Mo_lay_b52 mo Q I7 I21 x1 x4 x2 F A) ∧ (¬ x2 ≤ z5 → w_Mo_lay_b52 mo Q I7 I21 x1 x4 z5 F A)))))) x2 x4 F A
def w_Mo_lay_b7 (mo : Nat) (Q : Int → (Nat → Int) → (Nat → Int → Int) → Prop) (x1 : Int) (F : Nat → Int) (A : Nat → Int → Int) : Prop := Lp3 (fun I7 x1 F A => rg x1 ∧ ((x1 < 0 → rg (F 16) ∧ ((¬ (F 16) = 0 → 0 ≤ (F 17) ∧ (F 17) < 62062 ∧ Q (A 37 (F 17)) F A) ∧ ((F 16) = 0 → Q 0 F A))) ∧ (¬ x1 < 0 → w_Mo_lay_b21 mo Q I7 x1 1000000000 (F 18) F A))) x1 F A
def w_Mo_lay (mo : Nat) (F : Nat → Int) (A : Nat → Int → Int)  (Q : Int → (Nat → Int) → (Nat → Int → Int) → Prop) : Prop := w_Mo_lay_b7 mo Q ((F 16) - 1) F A
set_option maxHeartbeats 4000000 in
set_option maxRecDepth 100000 in
theorem s_Mo_lay_b52 (C0 : x_C p s m args meth c c_Mo_lay 7 (some .long) gT R_Mo) (hA : ∀ q : Nat, s.heap.size ≤ q → A0 q) {mo : Nat} {Q : Int → (Nat → Int) → (Nat → Int → Int) → Prop} {I7 : Int → (Nat → Int) → (Nat → Int → Int) → Prop} {I21 : Int → Int → (Nat → Int) → (Nat → Int → Int) → Prop} (x1 : Int) (x4 : Int) (y0 : Int) (F : Nat → Int) (A : Nat → Int → Int) (hI7 : ∀ (x1 : Int) (F : Nat → Int) (A : Nat → Int → Int), I7 x1 F A → ∀ (H : Heap) (locs : List Loc) (ls : Array Slot), x_S D vCl shU ad cA (NN mo) A0 s F A H locs → lv_has ls 7 [(0, .ref (ad 30)), (1, .int (iI x1))] → W p l e ({ frames := 2, cells := 0, slots := 0, locals := 48 } : Room) s m args below meth c H locs 0 0 (MQ below (x_QL D vCl shU ad cA (NN mo) A0 Q) args s 0 0 A0) (F0 m 7 ls [])) (hI21 : ∀ (x2 : Int) (x4 : Int) (F : Nat → Int) (A : Nat → Int → Int), I21 x2 x4 F A → ∀ (H : Heap) (locs : List Loc) (ls : Array Slot), x_S D vCl shU ad cA (NN mo) A0 s F A H locs → lv_has ls 7 [(0, .ref (ad 30)), (1, .int (iI x1)), (2, .long (lI x2)), (4, .int (iI x4))] → W p l e ({ frames := 2, cells := 0, slots := 0, locals := 48 } : Room) s m args below meth c H locs 0 0 (MQ below (x_QL D vCl shU ad cA (NN mo) A0 Q) args s 0 0 A0) (F0 m 21 ls [])) (h : w_Mo_lay_b52 mo Q I7 I21 x1 x4 y0 F A) (H : Heap) (locs : List Loc) (ls : Array Slot) (hS : x_S D vCl shU ad cA (NN mo) A0 s F A H locs) (hl : lv_has ls 7 [(0, .ref (ad 30)), (1, .int (iI x1)), (4, .int (iI x4))]) : W p l e ({ frames := 2, cells := 0, slots := 0, locals := 48 } : Room) s m args below meth c H locs 0 0 (MQ below (x_QL D vCl shU ad cA (NN mo) A0 Q) args s 0 0 A0) (F0 m 52 ls [.long (lI y0)]) := by
  obtain ⟨hx, hb, hr, hml, hown, hts, hlocks⟩ := id C0
  refine lv_lstore_n (lv' := [(2, .long (lI y0)), (0, .ref (ad 30)), (1, .int (iI x1)), (4, .int (iI x4))]) hx hb d_Mo_lay_52 rfl hl (by decide) rfl (fun ls hl => ?_)
  refine lv_aload_n hx hb d_Mo_lay_53 rfl (lv_at hl 1 rfl) ?_
  refine r_getr (t2 := 44) hx hb hts in_Mo hown hS 30 rfl rfl 22 (by decide) rfl (hts _ tw_656) d_Mo_lay_54 ?_
  refine r_sipush hx hb d_Mo_lay_57 (by decide +kernel) ?_
  refine lv_iload_n hx hb d_Mo_lay_60 rfl (lv_at hl 2 rfl) ?_
  refine r_imul hx hb d_Mo_lay_61 ?_
  refine lv_iload hx hb d_Mo_lay_62 (lv_at hl 3 rfl) ?_
  refine r_iadd hx hb d_Mo_lay_64 ?_
  refine lv_lload_n hx hb d_Mo_lay_65 rfl (lv_at hl 0 rfl) ?_
  obtain ⟨g1, h⟩ := h
  obtain ⟨g2, h⟩ := h
  refine r_last (id := 37) (i := ((1001 * x1) + x4)) (v := y0) hx hb hS 44 rfl g1 g2 (seta_37 ad cA mo _ _ _ _) d_Mo_lay_66 (fun H locs hS => ?_)
  refine r_iinc (k := 3) (z := x4) (lv' := [(4, .int (iI (x4 + (-1)))), (2, .long (lI y0)), (0, .ref (ad 30)), (1, .int (iI x1))]) hx hb d_Mo_lay_67 hl rfl (by decide) rfl (fun ls hl => ?_)
  refine lv_goto (tgt := 21) hx hb d_Mo_lay_70 (by decide) ?_
  exact hI21 _ _ _ _ h _ _ _ hS (lv_sub hl [2, 3, 1, 0] rfl)
set_option maxHeartbeats 4000000 in
set_option maxRecDepth 100000 in
theorem s_Mo_lay_b21 (C0 : x_C p s m args meth c c_Mo_lay 7 (some .long) gT R_Mo) (hA : ∀ q : Nat, s.heap.size ≤ q → A0 q) {mo : Nat} {Q : Int → (Nat → Int) → (Nat → Int → Int) → Prop} {I7 : Int → (Nat → Int) → (Nat → Int → Int) → Prop} (x1 : Int) (x2 : Int) (x4 : Int) (F : Nat → Int) (A : Nat → Int → Int) (hI7 : ∀ (x1 : Int) (F : Nat → Int) (A : Nat → Int → Int), I7 x1 F A → ∀ (H : Heap) (locs : List Loc) (ls : Array Slot), x_S D vCl shU ad cA (NN mo) A0 s F A H locs → lv_has ls 7 [(0, .ref (ad 30)), (1, .int (iI x1))] → W p l e ({ frames := 2, cells := 0, slots := 0, locals := 48 } : Room) s m args below meth c H locs 0 0 (MQ below (x_QL D vCl shU ad cA (NN mo) A0 Q) args s 0 0 A0) (F0 m 7 ls [])) (h : w_Mo_lay_b21 mo Q I7 x1 x2 x4 F A) (H : Heap) (locs : List Loc) (ls : Array Slot) (hS : x_S D vCl shU ad cA (NN mo) A0 s F A H locs) (hl : lv_has ls 7 [(0, .ref (ad 30)), (1, .int (iI x1)), (2, .long (lI x2)), (4, .int (iI x4))]) : W p l e ({ frames := 2, cells := 0, slots := 0, locals := 48 } : Room) s m args below meth c H locs 0 0 (MQ below (x_QL D vCl shU ad cA (NN mo) A0 Q) args s 0 0 A0) (F0 m 21 ls []) := by
  obtain ⟨hx, hb, hr, hml, hown, hts, hlocks⟩ := id C0
  refine h (fun x2 x4 F A => ∀ (H : Heap) (locs : List Loc) (ls : Array Slot), x_S D vCl shU ad cA (NN mo) A0 s F A H locs → lv_has ls 7 [(0, .ref (ad 30)), (1, .int (iI x1)), (2, .long (lI x2)), (4, .int (iI x4))] → W p l e ({ frames := 2, cells := 0, slots := 0, locals := 48 } : Room) s m args below meth c H locs 0 0 (MQ below (x_QL D vCl shU ad cA (NN mo) A0 Q) args s 0 0 A0) (F0 m 21 ls [])) ?_ H locs ls hS hl
  intro x2 x4 F A h H locs ls hS hl
  refine lv_iload hx hb d_Mo_lay_21 (lv_at hl 3 rfl) ?_
  refine lv_aload_n hx hb d_Mo_lay_23 rfl (lv_at hl 0 rfl) ?_
  refine r_geti (z := F 17) hx hb hts in_Mo hown hS 30 rfl rfl 20 (by decide) rfl (hts _ tw_654) d_Mo_lay_24 rfl ?_
  obtain ⟨g3, h⟩ := h
  obtain ⟨g4, h⟩ := h
  refine r_icmp_lt (tgt := 73) hx hb g3 g4 d_Mo_lay_27 (by decide) (fun hc => ?_) (fun hc => ?_)
  · replace h := h.1 hc
    refine r_iinc (k := 1) (z := x1) (lv' := [(1, .int (iI (x1 + (-1)))), (0, .ref (ad 30)), (2, .long (lI x2)), (4, .int (iI x4))]) hx hb d_Mo_lay_73 hl rfl (by decide) rfl (fun ls hl => ?_)
    refine lv_goto (tgt := 7) hx hb d_Mo_lay_76 (by decide) ?_
    exact hI7 _ _ _ h _ _ _ hS (lv_sub hl [1, 0] rfl)
  · replace h := h.2 hc
    refine lv_aload_n hx hb d_Mo_lay_30 rfl (lv_at hl 0 rfl) ?_
    refine lv_iload_n hx hb d_Mo_lay_31 rfl (lv_at hl 1 rfl) ?_
    refine lv_iload hx hb d_Mo_lay_32 (lv_at hl 3 rfl) ?_
    refine r_cl (va_runV (As := [.int (iI x1), .int (iI x4)]) (rest := []) ⟨hx, hb, hml, hown, hts⟩ (ct_Mo_costAt l D ad cA mo _ _ _ _ _ _ h) (cwV 2 hts (gV tw_802 tw_804 tw_s_Mo_costAt tw_8 tw_805) rfl rfl rfl (by decide +kernel) ⟨Nat.le_of_ble_eq_true rfl, Nat.le_of_ble_eq_true rfl⟩) (x_preV hS 30 rfl rfl _) rfl rfl hl.1 rfl (lv_room (Nat.le_of_ble_eq_true rfl)) d_Mo_lay_34 ⟨Nat.zero_le _, Nat.zero_le _⟩) hS hA (fun z5 F5 A5 H locs hS h => ?_)
    obtain ⟨rfl, rfl, h⟩ := h
    refine lv_lstore (lv' := [(5, .long (lI z5)), (0, .ref (ad 30)), (1, .int (iI x1)), (2, .long (lI x2)), (4, .int (iI x4))]) hx hb d_Mo_lay_37 hl (by decide) rfl (fun ls hl => ?_)
    refine lv_lload hx hb d_Mo_lay_39 (lv_at hl 0 rfl) ?_
    refine lv_lload_n hx hb d_Mo_lay_41 rfl (lv_at hl 3 rfl) ?_
    obtain ⟨g6, h⟩ := h
    obtain ⟨g7, h⟩ := h
    refine r_lcmp_ge (tgt := 51) hx hb g6 g7 d_Mo_lay_42 d_Mo_lay_43 (by decide) (fun hc => ?_) (fun hc => ?_)
    · replace h := h.1 hc
      refine lv_lload_n hx hb d_Mo_lay_51 rfl (lv_at hl 3 rfl) ?_
      exact s_Mo_lay_b52 C0 hA _ _ _ _ _ hI7 (fun _ _ _ _ h => h) h _ _ _ hS (lv_sub hl [1, 2, 4] rfl)
    · replace h := h.2 hc
      refine lv_lload hx hb d_Mo_lay_46 (lv_at hl 0 rfl) ?_
      refine lv_goto (tgt := 52) hx hb d_Mo_lay_48 (by decide) ?_
      exact s_Mo_lay_b52 C0 hA _ _ _ _ _ hI7 (fun _ _ _ _ h => h) h _ _ _ hS (lv_sub hl [1, 2, 4] rfl)
set_option maxHeartbeats 4000000 in
set_option maxRecDepth 100000 in
theorem s_Mo_lay_b7 (C0 : x_C p s m args meth c c_Mo_lay 7 (some .long) gT R_Mo) (hA : ∀ q : Nat, s.heap.size ≤ q → A0 q) {mo : Nat} {Q : Int → (Nat → Int) → (Nat → Int → Int) → Prop} (x1 : Int) (F : Nat → Int) (A : Nat → Int → Int) (h : w_Mo_lay_b7 mo Q x1 F A) (H : Heap) (locs : List Loc) (ls : Array Slot) (hS : x_S D vCl shU ad cA (NN mo) A0 s F A H locs) (hl : lv_has ls 7 [(0, .ref (ad 30)), (1, .int (iI x1))]) : W p l e ({ frames := 2, cells := 0, slots := 0, locals := 48 } : Room) s m args below meth c H locs 0 0 (MQ below (x_QL D vCl shU ad cA (NN mo) A0 Q) args s 0 0 A0) (F0 m 7 ls []) := by
  obtain ⟨hx, hb, hr, hml, hown, hts, hlocks⟩ := id C0
  refine h (fun x1 F A => ∀ (H : Heap) (locs : List Loc) (ls : Array Slot), x_S D vCl shU ad cA (NN mo) A0 s F A H locs → lv_has ls 7 [(0, .ref (ad 30)), (1, .int (iI x1))] → W p l e ({ frames := 2, cells := 0, slots := 0, locals := 48 } : Room) s m args below meth c H locs 0 0 (MQ below (x_QL D vCl shU ad cA (NN mo) A0 Q) args s 0 0 A0) (F0 m 7 ls [])) ?_ H locs ls hS hl
  intro x1 F A h H locs ls hS hl
  refine lv_iload_n hx hb d_Mo_lay_7 rfl (lv_at hl 1 rfl) ?_
  obtain ⟨g8, h⟩ := h
  refine r_if_lt (tgt := 79) hx hb g8 d_Mo_lay_8 (by decide) (fun hc => ?_) (fun hc => ?_)
  · replace h := h.1 hc
    refine lv_aload_n hx hb d_Mo_lay_79 rfl (lv_at hl 0 rfl) ?_
    refine r_geti (z := F 16) hx hb hts in_Mo hown hS 30 rfl rfl 19 (by decide) rfl (hts _ tw_653) d_Mo_lay_80 rfl ?_
    obtain ⟨g9, h⟩ := h
    refine r_if_ne (tgt := 90) hx hb g9 d_Mo_lay_83 (by decide) (fun hc => ?_) (fun hc => ?_)
    · replace h := h.1 hc
      refine lv_aload_n hx hb d_Mo_lay_90 rfl (lv_at hl 0 rfl) ?_
      refine r_getr (t2 := 44) hx hb hts in_Mo hown hS 30 rfl rfl 22 (by decide) rfl (hts _ tw_656) d_Mo_lay_91 ?_
      refine lv_aload_n hx hb d_Mo_lay_94 rfl (lv_at hl 0 rfl) ?_
      refine r_geti (z := F 17) hx hb hts in_Mo hown hS 30 rfl rfl 20 (by decide) rfl (hts _ tw_654) d_Mo_lay_95 rfl ?_
      obtain ⟨g10, h⟩ := h
      obtain ⟨g11, h⟩ := h
      refine r_lald (id := 37) (i := (F 17)) (z := A 37 (F 17)) hx hb hS 44 rfl g10 g11 d_Mo_lay_98 rfl ?_
      exact r_lret (z := (A 37 (F 17))) hx hb hr hlocks hS h d_Mo_lay_99
    · replace h := h.2 hc
      refine r_lconst hx hb 0 d_Mo_lay_86 (by decide +kernel) ?_
      refine lv_goto (tgt := 99) hx hb d_Mo_lay_87 (by decide) ?_
      exact r_lret (z := 0) hx hb hr hlocks hS h d_Mo_lay_99
  · replace h := h.2 hc
    refine r_ldc2 1000000000 hx hb hown (v := 1000000000) (hts _ tw_770) rfl d_Mo_lay_11 ?_
    refine lv_lstore_n (lv' := [(2, .long (lI 1000000000)), (0, .ref (ad 30)), (1, .int (iI x1))]) hx hb d_Mo_lay_14 rfl hl (by decide) rfl (fun ls hl => ?_)
    refine lv_aload_n hx hb d_Mo_lay_15 rfl (lv_at hl 1 rfl) ?_
    refine r_geti (z := F 18) hx hb hts in_Mo hown hS 30 rfl rfl 21 (by decide) rfl (hts _ tw_655) d_Mo_lay_16 rfl ?_
    refine lv_istore (lv' := [(4, .int (iI (F 18))), (2, .long (lI 1000000000)), (0, .ref (ad 30)), (1, .int (iI x1))]) hx hb d_Mo_lay_19 hl (by decide) rfl (fun ls hl => ?_)
    exact s_Mo_lay_b21 C0 hA _ _ _ _ _ (fun _ _ _ h => h) h _ _ _ hS (lv_sub hl [2, 3, 1, 0] rfl)
set_option maxHeartbeats 4000000 in
set_option maxRecDepth 100000 in
theorem ct_Mo_lay (l : Launch) (D : va_G) (ad : Nat → Nat) (cA : Nat → ClassId) (mo sz : Nat) (F : Nat → Int) (A : Nat → Int → Int)  (Q : Int → (Nat → Int) → (Nat → Int → Int) → Prop) (h : w_Mo_lay mo F A  Q) : Met l y_Mo_lay (Cond.code y_Mo_lay c_Mo_lay 7 (some .long) :: gT) ({ frames := 2, cells := 0, slots := 0, locals := 48 } : Room) (va_Pc [.ref (ad 30)] (x_P D vCl shU ad cA (NN mo) sz F A)) (x_QL D vCl shU ad cA (NN mo) (va_A (x_w shU ad cA (NN mo) F A) sz) Q) 0 0 (va_A (x_w shU ad cA (NN mo) F A) sz) := by
  refine Met.ofW (cc := c_Mo_lay) (maxL := 7) (ret := some .long) (by decide) rfl ?_
  intro p e s m args below meth c s₁ B hml hv
  obtain ⟨rfl, hsz, hP, hK, hD0, hN0⟩ := hv
  have hx := B.exec
  have hb := B.bytes
  have hr := B.returns
  have hts0 := atoms_spec (ws := (Cond.code y_Mo_lay c_Mo_lay 7 (some .long) :: gT)) B.pre
  have hts : ∀ w ∈ gT, w.before _ s = true := fun w h => hts0 w (List.mem_cons_of_mem _ h)
  have hown : s.vm.findClass R_Mo = some m.cls := findClass_of_methodNamed B.named
  have hlocks := B.notSynchronized
  subst hsz
  have hS : x_S D vCl shU ad cA (NN mo) (va_A (x_w shU ad cA (NN mo) F A) s.heap.size) s F A s.heap [] := ⟨hK, hP, hD0.self, va_S.rf, hN0⟩
  have hA : ∀ q : Nat, s.heap.size ≤ q → va_A (x_w shU ad cA (NN mo) F A) s.heap.size q := fun q h => Or.inr h
  have C0 : x_C p s m [.ref (ad 30)].toArray meth c c_Mo_lay 7 (some .long) gT R_Mo := ⟨hx, hb, hr, hml, hown, hts, hlocks⟩
  generalize va_A (x_w shU ad cA (NN mo) F A) s.heap.size = A0 at hS hA ⊢
  have hl := lv_entry [.ref (ad 30)] (n := 7) (Nat.le_of_ble_eq_true rfl)
  rw [lg_entry_eq]
  generalize (lg_sl [.ref (ad 30)] ++ List.replicate (7 - (lg_sl [.ref (ad 30)]).length) Slot.unset).toArray = ls at hl ⊢
  have hl : lv_has ls 7 [(0, .ref (ad 30))] := hl
  refine lv_aload_n hx hb d_Mo_lay_0 rfl (lv_at hl 0 rfl) ?_
  refine r_geti (z := F 16) hx hb hts in_Mo hown hS 30 rfl rfl 19 (by decide) rfl (hts _ tw_653) d_Mo_lay_1 rfl ?_
  refine r_iconst hx hb d_Mo_lay_4 ?_
  refine r_isub hx hb d_Mo_lay_5 ?_
  refine lv_istore_n (lv' := [(1, .int (iI ((F 16) - 1))), (0, .ref (ad 30))]) hx hb d_Mo_lay_6 rfl hl (by decide) rfl (fun ls hl => ?_)
  exact s_Mo_lay_b7 C0 hA _ _ _ h _ _ _ hS (lv_sub hl [1, 0] rfl)
/-! Mo_settle -/
def w_Mo_settle_b34 (mo : Nat) (Q : (Nat → Int) → (Nat → Int → Int) → Prop) (I12 : Int → Int → (Nat → Int) → (Nat → Int → Int) → Prop) (x1 : Int) (x3 : Int) (x4 : Int) (F : Nat → Int) (A : Nat → Int → Int) (x2 : Int) : Prop := Lp1 (fun I34 x2 => w_Mo_costAt mo F A x3 x2 (fun z1 => rL z1 ∧ rL x4 ∧ ((z1 = x4 → 0 ≤ x3 ∧ x3 < 61 ∧ 0 ≤ (A 36 x3) ∧ (A 36 x3) < 60 ∧ w_Mo_behind mo F (ua (ua A 33 (A 36 x3) x2) 34 (A 36 x3) x1) x3 x2 (fun z8 => I12 z8 (x3 + 1) F (ua (ua A 33 (A 36 x3) x2) 34 (A 36 x3) x1))) ∧ (¬ z1 = x4 → I34 (x2 + 1))))) x2
def w_Mo_settle_b12 (mo : Nat) (Q : (Nat → Int) → (Nat → Int → Int) → Prop) (x1 : Int) (x2 : Int) (x3 : Int) (F : Nat → Int) (A : Nat → Int → Int) : Prop := Lp4 (fun I12 x2 x3 F A => rg x3 ∧ rg (F 16) ∧ (((F 16) ≤ x3 → Q F A) ∧ (¬ (F 16) ≤ x3 → 0 ≤ ((1001 * x3) + x2) ∧ ((1001 * x3) + x2) < 62062 ∧ w_Mo_settle_b34 mo Q I12 x1 x3 (A 37 ((1001 * x3) + x2)) F A x2))) x2 x3 F A
def w_Mo_settle (mo : Nat) (F : Nat → Int) (A : Nat → Int → Int) (x1 : Int) (Q : (Nat → Int) → (Nat → Int → Int) → Prop) : Prop := w_Mo_lay mo F A (fun z13 F13 A13 => w_Mo_settle_b12 mo Q x1 (F13 17) 0 F13 A13)
set_option maxHeartbeats 4000000 in
set_option maxRecDepth 100000 in
theorem s_Mo_settle_b34 (C0 : x_C p s m args meth c c_Mo_settle 6 (none) gT R_Mo) (hA : ∀ q : Nat, s.heap.size ≤ q → A0 q) {mo : Nat} {Q : (Nat → Int) → (Nat → Int → Int) → Prop} {I12 : Int → Int → (Nat → Int) → (Nat → Int → Int) → Prop} (x1 : Int) (x3 : Int) (x4 : Int) (F : Nat → Int) (A : Nat → Int → Int) (x2 : Int) (hI12 : ∀ (x2 : Int) (x3 : Int) (F : Nat → Int) (A : Nat → Int → Int), I12 x2 x3 F A → ∀ (H : Heap) (locs : List Loc) (ls : Array Slot), x_S D vCl shU ad cA (NN mo) A0 s F A H locs → lv_has ls 6 [(0, .ref (ad 30)), (1, .int (iI x1)), (2, .int (iI x2)), (3, .int (iI x3))] → W p l e ({ frames := 3, cells := 0, slots := 0, locals := 74 } : Room) s m args below meth c H locs 0 0 (MQ below (x_QV D vCl shU ad cA (NN mo) A0 Q) args s 0 0 A0) (F0 m 12 ls [])) (h : w_Mo_settle_b34 mo Q I12 x1 x3 x4 F A x2) (H : Heap) (locs : List Loc) (ls : Array Slot) (hS : x_S D vCl shU ad cA (NN mo) A0 s F A H locs) (hl : lv_has ls 6 [(0, .ref (ad 30)), (1, .int (iI x1)), (2, .int (iI x2)), (3, .int (iI x3)), (4, .long (lI x4))]) : W p l e ({ frames := 3, cells := 0, slots := 0, locals := 74 } : Room) s m args below meth c H locs 0 0 (MQ below (x_QV D vCl shU ad cA (NN mo) A0 Q) args s 0 0 A0) (F0 m 34 ls []) := by
  obtain ⟨hx, hb, hr, hml, hown, hts, hlocks⟩ := id C0
  refine h (fun x2 => ∀ (H : Heap) (locs : List Loc) (ls : Array Slot), x_S D vCl shU ad cA (NN mo) A0 s F A H locs → lv_has ls 6 [(0, .ref (ad 30)), (1, .int (iI x1)), (2, .int (iI x2)), (3, .int (iI x3)), (4, .long (lI x4))] → W p l e ({ frames := 3, cells := 0, slots := 0, locals := 74 } : Room) s m args below meth c H locs 0 0 (MQ below (x_QV D vCl shU ad cA (NN mo) A0 Q) args s 0 0 A0) (F0 m 34 ls [])) ?_ H locs ls hS hl
  intro x2 h H locs ls hS hl
  refine lv_aload_n hx hb d_Mo_settle_34 rfl (lv_at hl 0 rfl) ?_
  refine lv_iload_n hx hb d_Mo_settle_35 rfl (lv_at hl 3 rfl) ?_
  refine lv_iload_n hx hb d_Mo_settle_36 rfl (lv_at hl 2 rfl) ?_
  refine r_cl (va_runV (As := [.int (iI x3), .int (iI x2)]) (rest := []) ⟨hx, hb, hml, hown, hts⟩ (ct_Mo_costAt l D ad cA mo _ _ _ _ _ _ h) (cwV 2 hts (gV tw_802 tw_804 tw_s_Mo_costAt tw_8 tw_805) rfl rfl rfl (by decide +kernel) ⟨Nat.le_of_ble_eq_true rfl, Nat.le_of_ble_eq_true rfl⟩) (x_preV hS 30 rfl rfl _) rfl rfl hl.1 rfl (lv_room (Nat.le_of_ble_eq_true rfl)) d_Mo_settle_37 ⟨Nat.zero_le _, Nat.zero_le _⟩) hS hA (fun z1 F1 A1 H locs hS h => ?_)
  obtain ⟨rfl, rfl, h⟩ := h
  refine lv_lload hx hb d_Mo_settle_40 (lv_at hl 4 rfl) ?_
  obtain ⟨g2, h⟩ := h
  obtain ⟨g3, h⟩ := h
  refine r_lcmp_eq (tgt := 52) hx hb g2 g3 d_Mo_settle_42 d_Mo_settle_43 (by decide) (fun hc => ?_) (fun hc => ?_)
  · replace h := h.1 hc
    refine lv_aload_n hx hb d_Mo_settle_52 rfl (lv_at hl 0 rfl) ?_
    refine r_getr (t2 := 40) hx hb hts in_Mo hown hS 30 rfl rfl 14 (by decide) rfl (hts _ tw_648) d_Mo_settle_53 ?_
    refine lv_aload_n hx hb d_Mo_settle_56 rfl (lv_at hl 0 rfl) ?_
    refine r_getr (t2 := 43) hx hb hts in_Mo hown hS 30 rfl rfl 18 (by decide) rfl (hts _ tw_652) d_Mo_settle_57 ?_
    refine lv_iload_n hx hb d_Mo_settle_60 rfl (lv_at hl 3 rfl) ?_
    obtain ⟨g4, h⟩ := h
    obtain ⟨g5, h⟩ := h
    refine r_iald (id := 36) (i := x3) (z := A 36 x3) hx hb hS 43 rfl g4 g5 d_Mo_settle_61 rfl ?_
    refine lv_iload_n hx hb d_Mo_settle_62 rfl (lv_at hl 2 rfl) ?_
    obtain ⟨g6, h⟩ := h
    obtain ⟨g7, h⟩ := h
    refine r_iast (id := 33) (i := (A 36 x3)) (v := x2) hx hb hS 40 rfl g6 g7 (seta_33 ad cA mo _ _ _ _) d_Mo_settle_63 (fun H locs hS => ?_)
    refine lv_aload_n hx hb d_Mo_settle_64 rfl (lv_at hl 0 rfl) ?_
    refine r_getr (t2 := 41) hx hb hts in_Mo hown hS 30 rfl rfl 15 (by decide) rfl (hts _ tw_649) d_Mo_settle_65 ?_
    refine lv_aload_n hx hb d_Mo_settle_68 rfl (lv_at hl 0 rfl) ?_
    refine r_getr (t2 := 43) hx hb hts in_Mo hown hS 30 rfl rfl 18 (by decide) rfl (hts _ tw_652) d_Mo_settle_69 ?_
    refine lv_iload_n hx hb d_Mo_settle_72 rfl (lv_at hl 3 rfl) ?_
    refine r_iald (id := 36) (i := x3) (z := A 36 x3) hx hb hS 43 rfl g4 g5 d_Mo_settle_73 rfl ?_
    refine lv_iload_n hx hb d_Mo_settle_74 rfl (lv_at hl 1 rfl) ?_
    refine r_iast (id := 34) (i := (A 36 x3)) (v := x1) hx hb hS 41 rfl g6 g7 (seta_34 ad cA mo _ _ _ _) d_Mo_settle_75 (fun H locs hS => ?_)
    refine lv_aload_n hx hb d_Mo_settle_76 rfl (lv_at hl 0 rfl) ?_
    refine lv_iload_n hx hb d_Mo_settle_77 rfl (lv_at hl 3 rfl) ?_
    refine lv_iload_n hx hb d_Mo_settle_78 rfl (lv_at hl 2 rfl) ?_
    refine r_ci (va_runV (As := [.int (iI x3), .int (iI x2)]) (rest := []) ⟨hx, hb, hml, hown, hts⟩ (ct_Mo_behind l D ad cA mo _ _ _ _ _ _ h) (cwV 2 hts (gV tw_806 tw_808 tw_s_Mo_behind tw_8 tw_809) rfl rfl rfl (by decide +kernel) ⟨Nat.le_of_ble_eq_true rfl, Nat.le_of_ble_eq_true rfl⟩) (x_preV hS 30 rfl rfl _) rfl rfl hl.1 rfl (lv_room (Nat.le_of_ble_eq_true rfl)) d_Mo_settle_79 ⟨Nat.zero_le _, Nat.zero_le _⟩) hS hA (fun z8 F8 A8 H locs hS h => ?_)
    obtain ⟨rfl, rfl, h⟩ := h
    refine lv_istore_n (lv' := [(2, .int (iI z8)), (0, .ref (ad 30)), (1, .int (iI x1)), (3, .int (iI x3)), (4, .long (lI x4))]) hx hb d_Mo_settle_82 rfl hl (by decide) rfl (fun ls hl => ?_)
    refine r_iinc (k := 3) (z := x3) (lv' := [(3, .int (iI (x3 + 1))), (2, .int (iI z8)), (0, .ref (ad 30)), (1, .int (iI x1)), (4, .long (lI x4))]) hx hb d_Mo_settle_83 hl rfl (by decide) rfl (fun ls hl => ?_)
    refine lv_goto (tgt := 12) hx hb d_Mo_settle_86 (by decide) ?_
    exact hI12 _ _ _ _ h _ _ _ hS (lv_sub hl [2, 3, 1, 0] rfl)
  · replace h := h.2 hc
    refine r_iinc (k := 2) (z := x2) (lv' := [(2, .int (iI (x2 + 1))), (0, .ref (ad 30)), (1, .int (iI x1)), (3, .int (iI x3)), (4, .long (lI x4))]) hx hb d_Mo_settle_46 hl rfl (by decide) rfl (fun ls hl => ?_)
    refine lv_goto (tgt := 34) hx hb d_Mo_settle_49 (by decide) ?_
    exact h _ _ _ hS (lv_sub hl [1, 2, 0, 3, 4] rfl)
set_option maxHeartbeats 4000000 in
set_option maxRecDepth 100000 in
theorem s_Mo_settle_b12 (C0 : x_C p s m args meth c c_Mo_settle 6 (none) gT R_Mo) (hA : ∀ q : Nat, s.heap.size ≤ q → A0 q) {mo : Nat} {Q : (Nat → Int) → (Nat → Int → Int) → Prop} (x1 : Int) (x2 : Int) (x3 : Int) (F : Nat → Int) (A : Nat → Int → Int) (h : w_Mo_settle_b12 mo Q x1 x2 x3 F A) (H : Heap) (locs : List Loc) (ls : Array Slot) (hS : x_S D vCl shU ad cA (NN mo) A0 s F A H locs) (hl : lv_has ls 6 [(0, .ref (ad 30)), (1, .int (iI x1)), (2, .int (iI x2)), (3, .int (iI x3))]) : W p l e ({ frames := 3, cells := 0, slots := 0, locals := 74 } : Room) s m args below meth c H locs 0 0 (MQ below (x_QV D vCl shU ad cA (NN mo) A0 Q) args s 0 0 A0) (F0 m 12 ls []) := by
  obtain ⟨hx, hb, hr, hml, hown, hts, hlocks⟩ := id C0
  refine h (fun x2 x3 F A => ∀ (H : Heap) (locs : List Loc) (ls : Array Slot), x_S D vCl shU ad cA (NN mo) A0 s F A H locs → lv_has ls 6 [(0, .ref (ad 30)), (1, .int (iI x1)), (2, .int (iI x2)), (3, .int (iI x3))] → W p l e ({ frames := 3, cells := 0, slots := 0, locals := 74 } : Room) s m args below meth c H locs 0 0 (MQ below (x_QV D vCl shU ad cA (NN mo) A0 Q) args s 0 0 A0) (F0 m 12 ls [])) ?_ H locs ls hS hl
  intro x2 x3 F A h H locs ls hS hl
  refine lv_iload_n hx hb d_Mo_settle_12 rfl (lv_at hl 3 rfl) ?_
  refine lv_aload_n hx hb d_Mo_settle_13 rfl (lv_at hl 0 rfl) ?_
  refine r_geti (z := F 16) hx hb hts in_Mo hown hS 30 rfl rfl 19 (by decide) rfl (hts _ tw_653) d_Mo_settle_14 rfl ?_
  obtain ⟨g9, h⟩ := h
  obtain ⟨g10, h⟩ := h
  refine r_icmp_ge (tgt := 89) hx hb g9 g10 d_Mo_settle_17 (by decide) (fun hc => ?_) (fun hc => ?_)
  · replace h := h.1 hc
    exact r_vret hx hb hr hlocks hS h d_Mo_settle_89
  · replace h := h.2 hc
    refine lv_aload_n hx hb d_Mo_settle_20 rfl (lv_at hl 0 rfl) ?_
    refine r_getr (t2 := 44) hx hb hts in_Mo hown hS 30 rfl rfl 22 (by decide) rfl (hts _ tw_656) d_Mo_settle_21 ?_
    refine r_sipush hx hb d_Mo_settle_24 (by decide +kernel) ?_
    refine lv_iload_n hx hb d_Mo_settle_27 rfl (lv_at hl 3 rfl) ?_
    refine r_imul hx hb d_Mo_settle_28 ?_
    refine lv_iload_n hx hb d_Mo_settle_29 rfl (lv_at hl 2 rfl) ?_
    refine r_iadd hx hb d_Mo_settle_30 ?_
    obtain ⟨g11, h⟩ := h
    obtain ⟨g12, h⟩ := h
    refine r_lald (id := 37) (i := ((1001 * x3) + x2)) (z := A 37 ((1001 * x3) + x2)) hx hb hS 44 rfl g11 g12 d_Mo_settle_31 rfl ?_
    refine lv_lstore (lv' := [(4, .long (lI (A 37 ((1001 * x3) + x2)))), (0, .ref (ad 30)), (1, .int (iI x1)), (2, .int (iI x2)), (3, .int (iI x3))]) hx hb d_Mo_settle_32 hl (by decide) rfl (fun ls hl => ?_)
    exact s_Mo_settle_b34 C0 hA _ _ _ _ _ _ (fun _ _ _ _ h => h) h _ _ _ hS (lv_sub hl [1, 2, 3, 4, 0] rfl)
set_option maxHeartbeats 4000000 in
set_option maxRecDepth 100000 in
theorem ct_Mo_settle (l : Launch) (D : va_G) (ad : Nat → Nat) (cA : Nat → ClassId) (mo sz : Nat) (F : Nat → Int) (A : Nat → Int → Int) (x1 : Int) (Q : (Nat → Int) → (Nat → Int → Int) → Prop) (h : w_Mo_settle mo F A x1 Q) : Met l y_Mo_settle (Cond.code y_Mo_settle c_Mo_settle 6 (none) :: gT) ({ frames := 3, cells := 0, slots := 0, locals := 74 } : Room) (va_Pc [.ref (ad 30), .int (iI x1)] (x_P D vCl shU ad cA (NN mo) sz F A)) (x_QV D vCl shU ad cA (NN mo) (va_A (x_w shU ad cA (NN mo) F A) sz) Q) 0 0 (va_A (x_w shU ad cA (NN mo) F A) sz) := by
  refine Met.ofW (cc := c_Mo_settle) (maxL := 6) (ret := none) (by decide) rfl ?_
  intro p e s m args below meth c s₁ B hml hv
  obtain ⟨rfl, hsz, hP, hK, hD0, hN0⟩ := hv
  have hx := B.exec
  have hb := B.bytes
  have hr := B.returns
  have hts0 := atoms_spec (ws := (Cond.code y_Mo_settle c_Mo_settle 6 (none) :: gT)) B.pre
  have hts : ∀ w ∈ gT, w.before _ s = true := fun w h => hts0 w (List.mem_cons_of_mem _ h)
  have hown : s.vm.findClass R_Mo = some m.cls := findClass_of_methodNamed B.named
  have hlocks := B.notSynchronized
  subst hsz
  have hS : x_S D vCl shU ad cA (NN mo) (va_A (x_w shU ad cA (NN mo) F A) s.heap.size) s F A s.heap [] := ⟨hK, hP, hD0.self, va_S.rf, hN0⟩
  have hA : ∀ q : Nat, s.heap.size ≤ q → va_A (x_w shU ad cA (NN mo) F A) s.heap.size q := fun q h => Or.inr h
  have C0 : x_C p s m [.ref (ad 30), .int (iI x1)].toArray meth c c_Mo_settle 6 (none) gT R_Mo := ⟨hx, hb, hr, hml, hown, hts, hlocks⟩
  generalize va_A (x_w shU ad cA (NN mo) F A) s.heap.size = A0 at hS hA ⊢
  have hl := lv_entry [.ref (ad 30), .int (iI x1)] (n := 6) (Nat.le_of_ble_eq_true rfl)
  rw [lg_entry_eq]
  generalize (lg_sl [.ref (ad 30), .int (iI x1)] ++ List.replicate (6 - (lg_sl [.ref (ad 30), .int (iI x1)]).length) Slot.unset).toArray = ls at hl ⊢
  have hl : lv_has ls 6 [(0, .ref (ad 30)), (1, .int (iI x1))] := hl
  refine lv_aload_n hx hb d_Mo_settle_0 rfl (lv_at hl 0 rfl) ?_
  refine r_cl (va_runV (As := []) (rest := []) ⟨hx, hb, hml, hown, hts⟩ (ct_Mo_lay l D ad cA mo _ _ _ _ h) (cwV 0 hts (gV tw_798 tw_800 tw_s_Mo_lay tw_8 tw_801) rfl rfl rfl (by decide +kernel) ⟨Nat.le_of_ble_eq_true rfl, Nat.le_of_ble_eq_true rfl⟩) (x_preV hS 30 rfl rfl _) rfl rfl hl.1 rfl (lv_room (Nat.le_of_ble_eq_true rfl)) d_Mo_settle_1 ⟨Nat.zero_le _, Nat.zero_le _⟩) hS hA (fun z13 F13 A13 H locs hS h => ?_)
  refine lv_pop2_2 hx hb d_Mo_settle_4 rfl ?_
  refine lv_aload_n hx hb d_Mo_settle_5 rfl (lv_at hl 0 rfl) ?_
  refine r_geti (z := F13 17) hx hb hts in_Mo hown hS 30 rfl rfl 20 (by decide) rfl (hts _ tw_654) d_Mo_settle_6 rfl ?_
  refine lv_istore_n (lv' := [(2, .int (iI (F13 17))), (0, .ref (ad 30)), (1, .int (iI x1))]) hx hb d_Mo_settle_9 rfl hl (by decide) rfl (fun ls hl => ?_)
  refine r_iconst hx hb d_Mo_settle_10 ?_
  refine lv_istore_n (lv' := [(3, .int (iI 0)), (2, .int (iI (F13 17))), (0, .ref (ad 30)), (1, .int (iI x1))]) hx hb d_Mo_settle_11 rfl hl (by decide) rfl (fun ls hl => ?_)
  exact s_Mo_settle_b12 C0 hA _ _ _ _ _ h _ _ _ hS (lv_sub hl [2, 3, 1, 0] rfl)
/-! Mo_sort -/
def w_Mo_sort_b58 (mo : Nat) (Q : (Nat → Int) → (Nat → Int → Int) → Prop) (I2 : Int → (Nat → Int) → (Nat → Int → Int) → Prop) (x1 : Int) (x2 : Int) (F : Nat → Int) (A : Nat → Int → Int) : Prop := 0 ≤ x2 ∧ x2 < 60 ∧ 0 ≤ x1 ∧ x1 < 60 ∧ I2 (x1 + 1) F (ua (ua A 38 x2 x1) 35 x1 (-1))
def w_Mo_sort_b12 (mo : Nat) (Q : (Nat → Int) → (Nat → Int → Int) → Prop) (I2 : Int → (Nat → Int) → (Nat → Int → Int) → Prop) (x1 : Int) (x2 : Int) (F : Nat → Int) (A : Nat → Int → Int) : Prop := Lp3 (fun I12 x2 F A => rg x2 ∧ ((x2 ≤ 0 → w_Mo_sort_b58 mo Q I2 x1 x2 F A) ∧ (¬ x2 ≤ 0 → 0 ≤ (x2 - 1) ∧ (x2 - 1) < 60 ∧ 0 ≤ (A 38 (x2 - 1)) ∧ (A 38 (x2 - 1)) < 60 ∧ 0 ≤ x1 ∧ x1 < 60 ∧ rg (A 28 (A 38 (x2 - 1))) ∧ rg (A 28 x1) ∧ (((A 28 (A 38 (x2 - 1))) ≤ (A 28 x1) → w_Mo_sort_b58 mo Q I2 x1 x2 F A) ∧ (¬ (A 28 (A 38 (x2 - 1))) ≤ (A 28 x1) → 0 ≤ x2 ∧ x2 < 60 ∧ I12 (x2 + (-1)) F (ua A 38 x2 (A 38 (x2 - 1)))))))) x2 F A
def w_Mo_sort_b2 (mo : Nat) (Q : (Nat → Int) → (Nat → Int → Int) → Prop) (x1 : Int) (F : Nat → Int) (A : Nat → Int → Int) : Prop := Lp3 (fun I2 x1 F A => rg x1 ∧ rg (F 13) ∧ (((F 13) ≤ x1 → Q F A) ∧ (¬ (F 13) ≤ x1 → w_Mo_sort_b12 mo Q I2 x1 x1 F A))) x1 F A
def w_Mo_sort (mo : Nat) (F : Nat → Int) (A : Nat → Int → Int)  (Q : (Nat → Int) → (Nat → Int → Int) → Prop) : Prop := w_Mo_sort_b2 mo Q 0 F A
set_option maxHeartbeats 4000000 in
set_option maxRecDepth 100000 in
theorem s_Mo_sort_b58 (C0 : x_C p s m args meth c c_Mo_sort 3 (none) gT R_Mo) (hA : ∀ q : Nat, s.heap.size ≤ q → A0 q) {mo : Nat} {Q : (Nat → Int) → (Nat → Int → Int) → Prop} {I2 : Int → (Nat → Int) → (Nat → Int → Int) → Prop} (x1 : Int) (x2 : Int) (F : Nat → Int) (A : Nat → Int → Int) (hI2 : ∀ (x1 : Int) (F : Nat → Int) (A : Nat → Int → Int), I2 x1 F A → ∀ (H : Heap) (locs : List Loc) (ls : Array Slot), x_S D vCl shU ad cA (NN mo) A0 s F A H locs → lv_has ls 3 [(0, .ref (ad 30)), (1, .int (iI x1))] → W p l e ({ frames := 0, cells := 0, slots := 0, locals := 0 } : Room) s m args below meth c H locs 0 0 (MQ below (x_QV D vCl shU ad cA (NN mo) A0 Q) args s 0 0 A0) (F0 m 2 ls [])) (h : w_Mo_sort_b58 mo Q I2 x1 x2 F A) (H : Heap) (locs : List Loc) (ls : Array Slot) (hS : x_S D vCl shU ad cA (NN mo) A0 s F A H locs) (hl : lv_has ls 3 [(0, .ref (ad 30)), (1, .int (iI x1)), (2, .int (iI x2))]) : W p l e ({ frames := 0, cells := 0, slots := 0, locals := 0 } : Room) s m args below meth c H locs 0 0 (MQ below (x_QV D vCl shU ad cA (NN mo) A0 Q) args s 0 0 A0) (F0 m 58 ls []) := by
  obtain ⟨hx, hb, hr, hml, hown, hts, hlocks⟩ := id C0
  refine lv_aload_n hx hb d_Mo_sort_58 rfl (lv_at hl 0 rfl) ?_
  refine r_getr (t2 := 45) hx hb hts in_Mo hown hS 30 rfl rfl 23 (by decide) rfl (hts _ tw_657) d_Mo_sort_59 ?_
  refine lv_iload_n hx hb d_Mo_sort_62 rfl (lv_at hl 2 rfl) ?_
  refine lv_iload_n hx hb d_Mo_sort_63 rfl (lv_at hl 1 rfl) ?_
  obtain ⟨g1, h⟩ := h
  obtain ⟨g2, h⟩ := h
  refine r_iast (id := 38) (i := x2) (v := x1) hx hb hS 45 rfl g1 g2 (seta_38 ad cA mo _ _ _ _) d_Mo_sort_64 (fun H locs hS => ?_)
  refine lv_aload_n hx hb d_Mo_sort_65 rfl (lv_at hl 0 rfl) ?_
  refine r_getr (t2 := 42) hx hb hts in_Mo hown hS 30 rfl rfl 16 (by decide) rfl (hts _ tw_650) d_Mo_sort_66 ?_
  refine lv_iload_n hx hb d_Mo_sort_69 rfl (lv_at hl 1 rfl) ?_
  refine r_iconst hx hb d_Mo_sort_70 ?_
  obtain ⟨g3, h⟩ := h
  obtain ⟨g4, h⟩ := h
  refine r_iast (id := 35) (i := x1) (v := (-1)) hx hb hS 42 rfl g3 g4 (seta_35 ad cA mo _ _ _ _) d_Mo_sort_71 (fun H locs hS => ?_)
  refine r_iinc (k := 1) (z := x1) (lv' := [(1, .int (iI (x1 + 1))), (0, .ref (ad 30)), (2, .int (iI x2))]) hx hb d_Mo_sort_72 hl rfl (by decide) rfl (fun ls hl => ?_)
  refine lv_goto (tgt := 2) hx hb d_Mo_sort_75 (by decide) ?_
  exact hI2 _ _ _ h _ _ _ hS (lv_sub hl [1, 0] rfl)
set_option maxHeartbeats 4000000 in
set_option maxRecDepth 100000 in
theorem s_Mo_sort_b12 (C0 : x_C p s m args meth c c_Mo_sort 3 (none) gT R_Mo) (hA : ∀ q : Nat, s.heap.size ≤ q → A0 q) {mo : Nat} {Q : (Nat → Int) → (Nat → Int → Int) → Prop} {I2 : Int → (Nat → Int) → (Nat → Int → Int) → Prop} (x1 : Int) (x2 : Int) (F : Nat → Int) (A : Nat → Int → Int) (hI2 : ∀ (x1 : Int) (F : Nat → Int) (A : Nat → Int → Int), I2 x1 F A → ∀ (H : Heap) (locs : List Loc) (ls : Array Slot), x_S D vCl shU ad cA (NN mo) A0 s F A H locs → lv_has ls 3 [(0, .ref (ad 30)), (1, .int (iI x1))] → W p l e ({ frames := 0, cells := 0, slots := 0, locals := 0 } : Room) s m args below meth c H locs 0 0 (MQ below (x_QV D vCl shU ad cA (NN mo) A0 Q) args s 0 0 A0) (F0 m 2 ls [])) (h : w_Mo_sort_b12 mo Q I2 x1 x2 F A) (H : Heap) (locs : List Loc) (ls : Array Slot) (hS : x_S D vCl shU ad cA (NN mo) A0 s F A H locs) (hl : lv_has ls 3 [(0, .ref (ad 30)), (1, .int (iI x1)), (2, .int (iI x2))]) : W p l e ({ frames := 0, cells := 0, slots := 0, locals := 0 } : Room) s m args below meth c H locs 0 0 (MQ below (x_QV D vCl shU ad cA (NN mo) A0 Q) args s 0 0 A0) (F0 m 12 ls []) := by
  obtain ⟨hx, hb, hr, hml, hown, hts, hlocks⟩ := id C0
  refine h (fun x2 F A => ∀ (H : Heap) (locs : List Loc) (ls : Array Slot), x_S D vCl shU ad cA (NN mo) A0 s F A H locs → lv_has ls 3 [(0, .ref (ad 30)), (1, .int (iI x1)), (2, .int (iI x2))] → W p l e ({ frames := 0, cells := 0, slots := 0, locals := 0 } : Room) s m args below meth c H locs 0 0 (MQ below (x_QV D vCl shU ad cA (NN mo) A0 Q) args s 0 0 A0) (F0 m 12 ls [])) ?_ H locs ls hS hl
  intro x2 F A h H locs ls hS hl
  refine lv_iload_n hx hb d_Mo_sort_12 rfl (lv_at hl 2 rfl) ?_
  obtain ⟨g5, h⟩ := h
  refine r_if_le (tgt := 58) hx hb g5 d_Mo_sort_13 (by decide) (fun hc => ?_) (fun hc => ?_)
  · replace h := h.1 hc
    exact s_Mo_sort_b58 C0 hA _ _ _ _ hI2 h _ _ _ hS (lv_sub hl [0, 1, 2] rfl)
  · replace h := h.2 hc
    refine lv_aload_n hx hb d_Mo_sort_16 rfl (lv_at hl 0 rfl) ?_
    refine r_getr (t2 := 35) hx hb hts in_Mo hown hS 30 rfl rfl 8 (by decide) rfl (hts _ tw_642) d_Mo_sort_17 ?_
    refine lv_aload_n hx hb d_Mo_sort_20 rfl (lv_at hl 0 rfl) ?_
    refine r_getr (t2 := 45) hx hb hts in_Mo hown hS 30 rfl rfl 23 (by decide) rfl (hts _ tw_657) d_Mo_sort_21 ?_
    refine lv_iload_n hx hb d_Mo_sort_24 rfl (lv_at hl 2 rfl) ?_
    refine r_iconst hx hb d_Mo_sort_25 ?_
    refine r_isub hx hb d_Mo_sort_26 ?_
    obtain ⟨g6, h⟩ := h
    obtain ⟨g7, h⟩ := h
    refine r_iald (id := 38) (i := (x2 - 1)) (z := A 38 (x2 - 1)) hx hb hS 45 rfl g6 g7 d_Mo_sort_27 rfl ?_
    obtain ⟨g8, h⟩ := h
    obtain ⟨g9, h⟩ := h
    refine r_iald (id := 28) (i := (A 38 (x2 - 1))) (z := A 28 (A 38 (x2 - 1))) hx hb hS 35 rfl g8 g9 d_Mo_sort_28 rfl ?_
    refine lv_aload_n hx hb d_Mo_sort_29 rfl (lv_at hl 0 rfl) ?_
    refine r_getr (t2 := 35) hx hb hts in_Mo hown hS 30 rfl rfl 8 (by decide) rfl (hts _ tw_642) d_Mo_sort_30 ?_
    refine lv_iload_n hx hb d_Mo_sort_33 rfl (lv_at hl 1 rfl) ?_
    obtain ⟨g10, h⟩ := h
    obtain ⟨g11, h⟩ := h
    refine r_iald (id := 28) (i := x1) (z := A 28 x1) hx hb hS 35 rfl g10 g11 d_Mo_sort_34 rfl ?_
    obtain ⟨g12, h⟩ := h
    obtain ⟨g13, h⟩ := h
    refine r_icmp_le (tgt := 58) hx hb g12 g13 d_Mo_sort_35 (by decide) (fun hc => ?_) (fun hc => ?_)
    · replace h := h.1 hc
      exact s_Mo_sort_b58 C0 hA _ _ _ _ hI2 h _ _ _ hS (lv_sub hl [0, 1, 2] rfl)
    · replace h := h.2 hc
      refine lv_aload_n hx hb d_Mo_sort_38 rfl (lv_at hl 0 rfl) ?_
      refine r_getr (t2 := 45) hx hb hts in_Mo hown hS 30 rfl rfl 23 (by decide) rfl (hts _ tw_657) d_Mo_sort_39 ?_
      refine lv_iload_n hx hb d_Mo_sort_42 rfl (lv_at hl 2 rfl) ?_
      refine lv_aload_n hx hb d_Mo_sort_43 rfl (lv_at hl 0 rfl) ?_
      refine r_getr (t2 := 45) hx hb hts in_Mo hown hS 30 rfl rfl 23 (by decide) rfl (hts _ tw_657) d_Mo_sort_44 ?_
      refine lv_iload_n hx hb d_Mo_sort_47 rfl (lv_at hl 2 rfl) ?_
      refine r_iconst hx hb d_Mo_sort_48 ?_
      refine r_isub hx hb d_Mo_sort_49 ?_
      refine r_iald (id := 38) (i := (x2 - 1)) (z := A 38 (x2 - 1)) hx hb hS 45 rfl g6 g7 d_Mo_sort_50 rfl ?_
      obtain ⟨g14, h⟩ := h
      obtain ⟨g15, h⟩ := h
      refine r_iast (id := 38) (i := x2) (v := (A 38 (x2 - 1))) hx hb hS 45 rfl g14 g15 (seta_38 ad cA mo _ _ _ _) d_Mo_sort_51 (fun H locs hS => ?_)
      refine r_iinc (k := 2) (z := x2) (lv' := [(2, .int (iI (x2 + (-1)))), (0, .ref (ad 30)), (1, .int (iI x1))]) hx hb d_Mo_sort_52 hl rfl (by decide) rfl (fun ls hl => ?_)
      refine lv_goto (tgt := 12) hx hb d_Mo_sort_55 (by decide) ?_
      exact h _ _ _ hS (lv_sub hl [1, 2, 0] rfl)
set_option maxHeartbeats 4000000 in
set_option maxRecDepth 100000 in
theorem s_Mo_sort_b2 (C0 : x_C p s m args meth c c_Mo_sort 3 (none) gT R_Mo) (hA : ∀ q : Nat, s.heap.size ≤ q → A0 q) {mo : Nat} {Q : (Nat → Int) → (Nat → Int → Int) → Prop} (x1 : Int) (F : Nat → Int) (A : Nat → Int → Int) (h : w_Mo_sort_b2 mo Q x1 F A) (H : Heap) (locs : List Loc) (ls : Array Slot) (hS : x_S D vCl shU ad cA (NN mo) A0 s F A H locs) (hl : lv_has ls 3 [(0, .ref (ad 30)), (1, .int (iI x1))]) : W p l e ({ frames := 0, cells := 0, slots := 0, locals := 0 } : Room) s m args below meth c H locs 0 0 (MQ below (x_QV D vCl shU ad cA (NN mo) A0 Q) args s 0 0 A0) (F0 m 2 ls []) := by
  obtain ⟨hx, hb, hr, hml, hown, hts, hlocks⟩ := id C0
  refine h (fun x1 F A => ∀ (H : Heap) (locs : List Loc) (ls : Array Slot), x_S D vCl shU ad cA (NN mo) A0 s F A H locs → lv_has ls 3 [(0, .ref (ad 30)), (1, .int (iI x1))] → W p l e ({ frames := 0, cells := 0, slots := 0, locals := 0 } : Room) s m args below meth c H locs 0 0 (MQ below (x_QV D vCl shU ad cA (NN mo) A0 Q) args s 0 0 A0) (F0 m 2 ls [])) ?_ H locs ls hS hl
  intro x1 F A h H locs ls hS hl
  refine lv_iload_n hx hb d_Mo_sort_2 rfl (lv_at hl 1 rfl) ?_
  refine lv_aload_n hx hb d_Mo_sort_3 rfl (lv_at hl 0 rfl) ?_
  refine r_geti (z := F 13) hx hb hts in_Mo hown hS 30 rfl rfl 4 (by decide) rfl (hts _ tw_638) d_Mo_sort_4 rfl ?_
  obtain ⟨g16, h⟩ := h
  obtain ⟨g17, h⟩ := h
  refine r_icmp_ge (tgt := 78) hx hb g16 g17 d_Mo_sort_7 (by decide) (fun hc => ?_) (fun hc => ?_)
  · replace h := h.1 hc
    exact r_vret hx hb hr hlocks hS h d_Mo_sort_78
  · replace h := h.2 hc
    refine lv_iload_n hx hb d_Mo_sort_10 rfl (lv_at hl 1 rfl) ?_
    refine lv_istore_n (lv' := [(2, .int (iI x1)), (0, .ref (ad 30)), (1, .int (iI x1))]) hx hb d_Mo_sort_11 rfl hl (by decide) rfl (fun ls hl => ?_)
    exact s_Mo_sort_b12 C0 hA _ _ _ _ (fun _ _ _ h => h) h _ _ _ hS (lv_sub hl [1, 2, 0] rfl)
set_option maxHeartbeats 4000000 in
set_option maxRecDepth 100000 in
theorem ct_Mo_sort (l : Launch) (D : va_G) (ad : Nat → Nat) (cA : Nat → ClassId) (mo sz : Nat) (F : Nat → Int) (A : Nat → Int → Int)  (Q : (Nat → Int) → (Nat → Int → Int) → Prop) (h : w_Mo_sort mo F A  Q) : Met l y_Mo_sort (Cond.code y_Mo_sort c_Mo_sort 3 (none) :: gT) ({ frames := 0, cells := 0, slots := 0, locals := 0 } : Room) (va_Pc [.ref (ad 30)] (x_P D vCl shU ad cA (NN mo) sz F A)) (x_QV D vCl shU ad cA (NN mo) (va_A (x_w shU ad cA (NN mo) F A) sz) Q) 0 0 (va_A (x_w shU ad cA (NN mo) F A) sz) := by
  refine Met.ofW (cc := c_Mo_sort) (maxL := 3) (ret := none) (by decide) rfl ?_
  intro p e s m args below meth c s₁ B hml hv
  obtain ⟨rfl, hsz, hP, hK, hD0, hN0⟩ := hv
  have hx := B.exec
  have hb := B.bytes
  have hr := B.returns
  have hts0 := atoms_spec (ws := (Cond.code y_Mo_sort c_Mo_sort 3 (none) :: gT)) B.pre
  have hts : ∀ w ∈ gT, w.before _ s = true := fun w h => hts0 w (List.mem_cons_of_mem _ h)
  have hown : s.vm.findClass R_Mo = some m.cls := findClass_of_methodNamed B.named
  have hlocks := B.notSynchronized
  subst hsz
  have hS : x_S D vCl shU ad cA (NN mo) (va_A (x_w shU ad cA (NN mo) F A) s.heap.size) s F A s.heap [] := ⟨hK, hP, hD0.self, va_S.rf, hN0⟩
  have hA : ∀ q : Nat, s.heap.size ≤ q → va_A (x_w shU ad cA (NN mo) F A) s.heap.size q := fun q h => Or.inr h
  have C0 : x_C p s m [.ref (ad 30)].toArray meth c c_Mo_sort 3 (none) gT R_Mo := ⟨hx, hb, hr, hml, hown, hts, hlocks⟩
  generalize va_A (x_w shU ad cA (NN mo) F A) s.heap.size = A0 at hS hA ⊢
  have hl := lv_entry [.ref (ad 30)] (n := 3) (Nat.le_of_ble_eq_true rfl)
  rw [lg_entry_eq]
  generalize (lg_sl [.ref (ad 30)] ++ List.replicate (3 - (lg_sl [.ref (ad 30)]).length) Slot.unset).toArray = ls at hl ⊢
  have hl : lv_has ls 3 [(0, .ref (ad 30))] := hl
  refine r_iconst hx hb d_Mo_sort_0 ?_
  refine lv_istore_n (lv' := [(1, .int (iI 0)), (0, .ref (ad 30))]) hx hb d_Mo_sort_1 rfl hl (by decide) rfl (fun ls hl => ?_)
  exact s_Mo_sort_b2 C0 hA _ _ _ h _ _ _ hS (lv_sub hl [1, 0] rfl)
/-! Mo_endOf -/
def w_Mo_endOf_b2 (mo : Nat) (F : Nat → Int) (A : Nat → Int → Int) (Q : Int → Prop) (x1 : Int) (x3 : Int) : Prop := Lp1 (fun I2 x3 => rg x3 ∧ rg (F 12) ∧ (((F 12) ≤ x3 → Q x3) ∧ (¬ (F 12) ≤ x3 → 0 ≤ ((1000 * x1) + x3) ∧ ((1000 * x1) + x3) < 16000 ∧ rg (A 24 ((1000 * x1) + x3)) ∧ ((¬ (A 24 ((1000 * x1) + x3)) = 0 → Q x3) ∧ ((A 24 ((1000 * x1) + x3)) = 0 → I2 (x3 + 1)))))) x3
def w_Mo_endOf (mo : Nat) (F : Nat → Int) (A : Nat → Int → Int) (x1 : Int) (x2 : Int) (Q : Int → Prop) : Prop := w_Mo_endOf_b2 mo F A Q x1 x2
set_option maxHeartbeats 4000000 in
set_option maxRecDepth 100000 in
theorem s_Mo_endOf_b2 (C0 : x_C p s m args meth c c_Mo_endOf 4 (some .int) gT R_Mo) (hA : ∀ q : Nat, s.heap.size ≤ q → A0 q) {mo : Nat} {F : Nat → Int} {A : Nat → Int → Int} {Q : Int → Prop} (x1 : Int) (x3 : Int) (h : w_Mo_endOf_b2 mo F A Q x1 x3) (H : Heap) (locs : List Loc) (ls : Array Slot) (hS : x_S D vCl shU ad cA (NN mo) A0 s F A H locs) (hl : lv_has ls 4 [(0, .ref (ad 30)), (1, .int (iI x1)), (3, .int (iI x3))]) : W p l e ({ frames := 0, cells := 0, slots := 0, locals := 0 } : Room) s m args below meth c H locs 0 0 (MQ below (x_QI D vCl shU ad cA (NN mo) A0 (fun z F1 A1 => F = F1 ∧ A = A1 ∧ Q z)) args s 0 0 A0) (F0 m 2 ls []) := by
  obtain ⟨hx, hb, hr, hml, hown, hts, hlocks⟩ := id C0
  refine h (fun x3 => ∀ (H : Heap) (locs : List Loc) (ls : Array Slot), x_S D vCl shU ad cA (NN mo) A0 s F A H locs → lv_has ls 4 [(0, .ref (ad 30)), (1, .int (iI x1)), (3, .int (iI x3))] → W p l e ({ frames := 0, cells := 0, slots := 0, locals := 0 } : Room) s m args below meth c H locs 0 0 (MQ below (x_QI D vCl shU ad cA (NN mo) A0 (fun z F1 A1 => F = F1 ∧ A = A1 ∧ Q z)) args s 0 0 A0) (F0 m 2 ls [])) ?_ H locs ls hS hl
  intro x3 h H locs ls hS hl
  refine lv_iload_n hx hb d_Mo_endOf_2 rfl (lv_at hl 2 rfl) ?_
  refine lv_aload_n hx hb d_Mo_endOf_3 rfl (lv_at hl 0 rfl) ?_
  refine r_geti (z := F 12) hx hb hts in_Mo hown hS 30 rfl rfl 2 (by decide) rfl (hts _ tw_636) d_Mo_endOf_4 rfl ?_
  obtain ⟨g1, h⟩ := h
  obtain ⟨g2, h⟩ := h
  refine r_icmp_ge (tgt := 31) hx hb g1 g2 d_Mo_endOf_7 (by decide) (fun hc => ?_) (fun hc => ?_)
  · replace h := h.1 hc
    refine lv_iload_n hx hb d_Mo_endOf_31 rfl (lv_at hl 2 rfl) ?_
    exact r_iret (z := x3) hx hb hr hlocks hS ⟨rfl, rfl, h⟩ d_Mo_endOf_32
  · replace h := h.2 hc
    refine lv_aload_n hx hb d_Mo_endOf_10 rfl (lv_at hl 0 rfl) ?_
    refine r_getr (t2 := 31) hx hb hts in_Mo hown hS 30 rfl rfl 3 (by decide) rfl (hts _ tw_637) d_Mo_endOf_11 ?_
    refine r_sipush hx hb d_Mo_endOf_14 (by decide +kernel) ?_
    refine lv_iload_n hx hb d_Mo_endOf_17 rfl (lv_at hl 1 rfl) ?_
    refine r_imul hx hb d_Mo_endOf_18 ?_
    refine lv_iload_n hx hb d_Mo_endOf_19 rfl (lv_at hl 2 rfl) ?_
    refine r_iadd hx hb d_Mo_endOf_20 ?_
    obtain ⟨g3, h⟩ := h
    obtain ⟨g4, h⟩ := h
    refine r_zald (id := 24) (i := ((1000 * x1) + x3)) (z := A 24 ((1000 * x1) + x3)) hx hb hS 31 rfl g3 g4 d_Mo_endOf_21 rfl ?_
    obtain ⟨g5, h⟩ := h
    refine r_if_ne (tgt := 31) hx hb g5 d_Mo_endOf_22 (by decide) (fun hc => ?_) (fun hc => ?_)
    · replace h := h.1 hc
      refine lv_iload_n hx hb d_Mo_endOf_31 rfl (lv_at hl 2 rfl) ?_
      exact r_iret (z := x3) hx hb hr hlocks hS ⟨rfl, rfl, h⟩ d_Mo_endOf_32
    · replace h := h.2 hc
      refine r_iinc (k := 2) (z := x3) (lv' := [(3, .int (iI (x3 + 1))), (0, .ref (ad 30)), (1, .int (iI x1))]) hx hb d_Mo_endOf_25 hl rfl (by decide) rfl (fun ls hl => ?_)
      refine lv_goto (tgt := 2) hx hb d_Mo_endOf_28 (by decide) ?_
      exact h _ _ _ hS (lv_sub hl [1, 2, 0] rfl)
set_option maxHeartbeats 4000000 in
set_option maxRecDepth 100000 in
theorem ct_Mo_endOf (l : Launch) (D : va_G) (ad : Nat → Nat) (cA : Nat → ClassId) (mo sz : Nat) (F : Nat → Int) (A : Nat → Int → Int) (x1 : Int) (x2 : Int) (Q : Int → Prop) (h : w_Mo_endOf mo F A x1 x2 Q) : Met l y_Mo_endOf (Cond.code y_Mo_endOf c_Mo_endOf 4 (some .int) :: gT) ({ frames := 0, cells := 0, slots := 0, locals := 0 } : Room) (va_Pc [.ref (ad 30), .int (iI x1), .int (iI x2)] (x_P D vCl shU ad cA (NN mo) sz F A)) (x_QI D vCl shU ad cA (NN mo) (va_A (x_w shU ad cA (NN mo) F A) sz) (fun z F1 A1 => F = F1 ∧ A = A1 ∧ Q z)) 0 0 (va_A (x_w shU ad cA (NN mo) F A) sz) := by
  refine Met.ofW (cc := c_Mo_endOf) (maxL := 4) (ret := some .int) (by decide) rfl ?_
  intro p e s m args below meth c s₁ B hml hv
  obtain ⟨rfl, hsz, hP, hK, hD0, hN0⟩ := hv
  have hx := B.exec
  have hb := B.bytes
  have hr := B.returns
  have hts0 := atoms_spec (ws := (Cond.code y_Mo_endOf c_Mo_endOf 4 (some .int) :: gT)) B.pre
  have hts : ∀ w ∈ gT, w.before _ s = true := fun w h => hts0 w (List.mem_cons_of_mem _ h)
  have hown : s.vm.findClass R_Mo = some m.cls := findClass_of_methodNamed B.named
  have hlocks := B.notSynchronized
  subst hsz
  have hS : x_S D vCl shU ad cA (NN mo) (va_A (x_w shU ad cA (NN mo) F A) s.heap.size) s F A s.heap [] := ⟨hK, hP, hD0.self, va_S.rf, hN0⟩
  have hA : ∀ q : Nat, s.heap.size ≤ q → va_A (x_w shU ad cA (NN mo) F A) s.heap.size q := fun q h => Or.inr h
  have C0 : x_C p s m [.ref (ad 30), .int (iI x1), .int (iI x2)].toArray meth c c_Mo_endOf 4 (some .int) gT R_Mo := ⟨hx, hb, hr, hml, hown, hts, hlocks⟩
  generalize va_A (x_w shU ad cA (NN mo) F A) s.heap.size = A0 at hS hA ⊢
  have hl := lv_entry [.ref (ad 30), .int (iI x1), .int (iI x2)] (n := 4) (Nat.le_of_ble_eq_true rfl)
  rw [lg_entry_eq]
  generalize (lg_sl [.ref (ad 30), .int (iI x1), .int (iI x2)] ++ List.replicate (4 - (lg_sl [.ref (ad 30), .int (iI x1), .int (iI x2)]).length) Slot.unset).toArray = ls at hl ⊢
  have hl : lv_has ls 4 [(0, .ref (ad 30)), (1, .int (iI x1)), (2, .int (iI x2))] := hl
  refine lv_iload_n hx hb d_Mo_endOf_0 rfl (lv_at hl 2 rfl) ?_
  refine lv_istore_n (lv' := [(3, .int (iI x2)), (0, .ref (ad 30)), (1, .int (iI x1)), (2, .int (iI x2))]) hx hb d_Mo_endOf_1 rfl hl (by decide) rfl (fun ls hl => ?_)
  exact s_Mo_endOf_b2 C0 hA _ _ h _ _ _ hS (lv_sub hl [1, 2, 0] rfl)
/-! Mo_isBegin -/
def w_Mo_isBegin_b36 (mo : Nat) (F : Nat → Int) (A : Nat → Int → Int) (Q : Int → Prop)  : Prop := Q 1
def w_Mo_isBegin (mo : Nat) (F : Nat → Int) (A : Nat → Int → Int) (x1 : Int) (x2 : Int) (Q : Int → Prop) : Prop := 0 ≤ ((1000 * x1) + x2) ∧ ((1000 * x1) + x2) < 16000 ∧ rg (A 24 ((1000 * x1) + x2)) ∧ ((¬ (A 24 ((1000 * x1) + x2)) = 0 → Q 0) ∧ ((A 24 ((1000 * x1) + x2)) = 0 → rg x2 ∧ ((x2 = 0 → w_Mo_isBegin_b36 mo F A Q) ∧ (¬ x2 = 0 → 0 ≤ (((1000 * x1) + x2) - 1) ∧ (((1000 * x1) + x2) - 1) < 16000 ∧ rg (A 24 (((1000 * x1) + x2) - 1)) ∧ (((A 24 (((1000 * x1) + x2) - 1)) = 0 → Q 0) ∧ (¬ (A 24 (((1000 * x1) + x2) - 1)) = 0 → w_Mo_isBegin_b36 mo F A Q))))))
set_option maxHeartbeats 4000000 in
set_option maxRecDepth 100000 in
theorem s_Mo_isBegin_b36 (C0 : x_C p s m args meth c c_Mo_isBegin 3 (some .boolean) gT R_Mo) (hA : ∀ q : Nat, s.heap.size ≤ q → A0 q) {mo : Nat} {F : Nat → Int} {A : Nat → Int → Int} {Q : Int → Prop}  (h : w_Mo_isBegin_b36 mo F A Q) (H : Heap) (locs : List Loc) (ls : Array Slot) (hS : x_S D vCl shU ad cA (NN mo) A0 s F A H locs) (hl : lv_has ls 3 []) : W p l e ({ frames := 0, cells := 0, slots := 0, locals := 0 } : Room) s m args below meth c H locs 0 0 (MQ below (x_QI D vCl shU ad cA (NN mo) A0 (fun z F1 A1 => F = F1 ∧ A = A1 ∧ Q z)) args s 0 0 A0) (F0 m 36 ls []) := by
  obtain ⟨hx, hb, hr, hml, hown, hts, hlocks⟩ := id C0
  refine r_iconst hx hb d_Mo_isBegin_36 ?_
  refine lv_goto (tgt := 41) hx hb d_Mo_isBegin_37 (by decide) ?_
  exact r_zret (z := 1) hx hb hr hlocks (Or.inr rfl) hS ⟨rfl, rfl, h⟩ d_Mo_isBegin_41
set_option maxHeartbeats 4000000 in
set_option maxRecDepth 100000 in
theorem ct_Mo_isBegin (l : Launch) (D : va_G) (ad : Nat → Nat) (cA : Nat → ClassId) (mo sz : Nat) (F : Nat → Int) (A : Nat → Int → Int) (x1 : Int) (x2 : Int) (Q : Int → Prop) (h : w_Mo_isBegin mo F A x1 x2 Q) : Met l y_Mo_isBegin (Cond.code y_Mo_isBegin c_Mo_isBegin 3 (some .boolean) :: gT) ({ frames := 0, cells := 0, slots := 0, locals := 0 } : Room) (va_Pc [.ref (ad 30), .int (iI x1), .int (iI x2)] (x_P D vCl shU ad cA (NN mo) sz F A)) (x_QI D vCl shU ad cA (NN mo) (va_A (x_w shU ad cA (NN mo) F A) sz) (fun z F1 A1 => F = F1 ∧ A = A1 ∧ Q z)) 0 0 (va_A (x_w shU ad cA (NN mo) F A) sz) := by
  refine Met.ofW (cc := c_Mo_isBegin) (maxL := 3) (ret := some .boolean) (by decide) rfl ?_
  intro p e s m args below meth c s₁ B hml hv
  obtain ⟨rfl, hsz, hP, hK, hD0, hN0⟩ := hv
  have hx := B.exec
  have hb := B.bytes
  have hr := B.returns
  have hts0 := atoms_spec (ws := (Cond.code y_Mo_isBegin c_Mo_isBegin 3 (some .boolean) :: gT)) B.pre
  have hts : ∀ w ∈ gT, w.before _ s = true := fun w h => hts0 w (List.mem_cons_of_mem _ h)
  have hown : s.vm.findClass R_Mo = some m.cls := findClass_of_methodNamed B.named
  have hlocks := B.notSynchronized
  subst hsz
  have hS : x_S D vCl shU ad cA (NN mo) (va_A (x_w shU ad cA (NN mo) F A) s.heap.size) s F A s.heap [] := ⟨hK, hP, hD0.self, va_S.rf, hN0⟩
  have hA : ∀ q : Nat, s.heap.size ≤ q → va_A (x_w shU ad cA (NN mo) F A) s.heap.size q := fun q h => Or.inr h
  have C0 : x_C p s m [.ref (ad 30), .int (iI x1), .int (iI x2)].toArray meth c c_Mo_isBegin 3 (some .boolean) gT R_Mo := ⟨hx, hb, hr, hml, hown, hts, hlocks⟩
  generalize va_A (x_w shU ad cA (NN mo) F A) s.heap.size = A0 at hS hA ⊢
  have hl := lv_entry [.ref (ad 30), .int (iI x1), .int (iI x2)] (n := 3) (Nat.le_of_ble_eq_true rfl)
  rw [lg_entry_eq]
  generalize (lg_sl [.ref (ad 30), .int (iI x1), .int (iI x2)] ++ List.replicate (3 - (lg_sl [.ref (ad 30), .int (iI x1), .int (iI x2)]).length) Slot.unset).toArray = ls at hl ⊢
  have hl : lv_has ls 3 [(0, .ref (ad 30)), (1, .int (iI x1)), (2, .int (iI x2))] := hl
  refine lv_aload_n hx hb d_Mo_isBegin_0 rfl (lv_at hl 0 rfl) ?_
  refine r_getr (t2 := 31) hx hb hts in_Mo hown hS 30 rfl rfl 3 (by decide) rfl (hts _ tw_637) d_Mo_isBegin_1 ?_
  refine r_sipush hx hb d_Mo_isBegin_4 (by decide +kernel) ?_
  refine lv_iload_n hx hb d_Mo_isBegin_7 rfl (lv_at hl 1 rfl) ?_
  refine r_imul hx hb d_Mo_isBegin_8 ?_
  refine lv_iload_n hx hb d_Mo_isBegin_9 rfl (lv_at hl 2 rfl) ?_
  refine r_iadd hx hb d_Mo_isBegin_10 ?_
  obtain ⟨g1, h⟩ := h
  obtain ⟨g2, h⟩ := h
  refine r_zald (id := 24) (i := ((1000 * x1) + x2)) (z := A 24 ((1000 * x1) + x2)) hx hb hS 31 rfl g1 g2 d_Mo_isBegin_11 rfl ?_
  obtain ⟨g3, h⟩ := h
  refine r_if_ne (tgt := 40) hx hb g3 d_Mo_isBegin_12 (by decide) (fun hc => ?_) (fun hc => ?_)
  · replace h := h.1 hc
    refine r_iconst hx hb d_Mo_isBegin_40 ?_
    exact r_zret (z := 0) hx hb hr hlocks (Or.inl rfl) hS ⟨rfl, rfl, h⟩ d_Mo_isBegin_41
  · replace h := h.2 hc
    refine lv_iload_n hx hb d_Mo_isBegin_15 rfl (lv_at hl 2 rfl) ?_
    obtain ⟨g4, h⟩ := h
    refine r_if_eq (tgt := 36) hx hb g4 d_Mo_isBegin_16 (by decide) (fun hc => ?_) (fun hc => ?_)
    · replace h := h.1 hc
      exact s_Mo_isBegin_b36 C0 hA  h _ _ _ hS (lv_sub hl [] rfl)
    · replace h := h.2 hc
      refine lv_aload_n hx hb d_Mo_isBegin_19 rfl (lv_at hl 0 rfl) ?_
      refine r_getr (t2 := 31) hx hb hts in_Mo hown hS 30 rfl rfl 3 (by decide) rfl (hts _ tw_637) d_Mo_isBegin_20 ?_
      refine r_sipush hx hb d_Mo_isBegin_23 (by decide +kernel) ?_
      refine lv_iload_n hx hb d_Mo_isBegin_26 rfl (lv_at hl 1 rfl) ?_
      refine r_imul hx hb d_Mo_isBegin_27 ?_
      refine lv_iload_n hx hb d_Mo_isBegin_28 rfl (lv_at hl 2 rfl) ?_
      refine r_iadd hx hb d_Mo_isBegin_29 ?_
      refine r_iconst hx hb d_Mo_isBegin_30 ?_
      refine r_isub hx hb d_Mo_isBegin_31 ?_
      obtain ⟨g5, h⟩ := h
      obtain ⟨g6, h⟩ := h
      refine r_zald (id := 24) (i := (((1000 * x1) + x2) - 1)) (z := A 24 (((1000 * x1) + x2) - 1)) hx hb hS 31 rfl g5 g6 d_Mo_isBegin_32 rfl ?_
      obtain ⟨g7, h⟩ := h
      refine r_if_eq (tgt := 40) hx hb g7 d_Mo_isBegin_33 (by decide) (fun hc => ?_) (fun hc => ?_)
      · replace h := h.1 hc
        refine r_iconst hx hb d_Mo_isBegin_40 ?_
        exact r_zret (z := 0) hx hb hr hlocks (Or.inl rfl) hS ⟨rfl, rfl, h⟩ d_Mo_isBegin_41
      · replace h := h.2 hc
        exact s_Mo_isBegin_b36 C0 hA  h _ _ _ hS (lv_sub hl [] rfl)
/-! Mo_with -/
def w_Mo_with_b182 (mo : Nat) (Q : Int → (Nat → Int) → (Nat → Int → Int) → Prop) (I65 : Int → Int → (Nat → Int) → (Nat → Int → Int) → Prop) (x1 : Int) (x2 : Int) (x3 : Int) (x4 : Int) (x7 : Int) (y0 : Int) (F : Nat → Int) (A : Nat → Int → Int) : Prop := 0 ≤ (x7 - (F 17)) ∧ (x7 - (F 17)) < 1000 ∧ I65 y0 (x7 + 1) F (ua A 41 (x7 - (F 17)) y0)
def w_Mo_with_b165 (mo : Nat) (Q : Int → (Nat → Int) → (Nat → Int → Int) → Prop) (I65 : Int → Int → (Nat → Int) → (Nat → Int → Int) → Prop) (x1 : Int) (x2 : Int) (x3 : Int) (x4 : Int) (x5 : Int) (x7 : Int) (y0 : Int) (F : Nat → Int) (A : Nat → Int → Int) : Prop := rL y0 ∧ rL x5 ∧ ((x5 ≤ y0 → w_Mo_with_b182 mo Q I65 x1 x2 x3 x4 x7 x5 F A) ∧ (¬ x5 ≤ y0 → w_Mo_with_b182 mo Q I65 x1 x2 x3 x4 x7 y0 F A))
def w_Mo_with_b144 (mo : Nat) (Q : Int → (Nat → Int) → (Nat → Int → Int) → Prop) (I65 : Int → Int → (Nat → Int) → (Nat → Int → Int) → Prop) (x1 : Int) (x2 : Int) (x3 : Int) (x4 : Int) (x5 : Int) (x7 : Int) (F : Nat → Int) (A : Nat → Int → Int) : Prop := w_Mo_with_b165 mo Q I65 x1 x2 x3 x4 x5 x7 1000000000 F A
def w_Mo_with_b117 (mo : Nat) (Q : Int → (Nat → Int) → (Nat → Int → Int) → Prop) (I65 : Int → Int → (Nat → Int) → (Nat → Int → Int) → Prop) (x1 : Int) (x2 : Int) (x3 : Int) (x4 : Int) (x5 : Int) (x7 : Int) (y0 : Int) (F : Nat → Int) (A : Nat → Int → Int) : Prop := 0 ≤ x2 ∧ x2 < 60 ∧ rg (x7 + (A 25 x2)) ∧ rg (F 18) ∧ (((F 18) < (x7 + (A 25 x2)) → w_Mo_with_b144 mo Q I65 x1 x2 x3 x4 x5 x7 F A) ∧ (¬ (F 18) < (x7 + (A 25 x2)) → rL y0 ∧ ((y0 < 1000000000 → w_Mo_far mo F A x7 (A 28 x2) (fun z10 => rg z10 ∧ w_Mo_with_b165 mo Q I65 x1 x2 x3 x4 x5 x7 (y0 + z10) F A)) ∧ (¬ y0 < 1000000000 → w_Mo_with_b144 mo Q I65 x1 x2 x3 x4 x5 x7 F A))))
def w_Mo_with_b65 (mo : Nat) (Q : Int → (Nat → Int) → (Nat → Int → Int) → Prop) (x1 : Int) (x2 : Int) (x3 : Int) (x4 : Int) (x5 : Int) (x7 : Int) (F : Nat → Int) (A : Nat → Int → Int) : Prop := Lp4 (fun I65 x5 x7 F A => rg x7 ∧ rg (F 18) ∧ (((F 18) ≤ x7 → Q x5 F A) ∧ (¬ (F 18) ≤ x7 → rg x3 ∧ ((¬ x3 = (-1) → rg (x7 - x4) ∧ rg (F 17) ∧ (((F 17) ≤ (x7 - x4) → 0 ≤ (((1000 * x1) + x7) - x4) ∧ (((1000 * x1) + x7) - x4) < 16000 ∧ w_Mo_with_b117 mo Q I65 x1 x2 x3 x4 x5 x7 (A 39 (((1000 * x1) + x7) - x4)) F A) ∧ (¬ (F 17) ≤ (x7 - x4) → w_Mo_with_b117 mo Q I65 x1 x2 x3 x4 x5 x7 1000000000 F A))) ∧ (x3 = (-1) → w_Mo_with_b117 mo Q I65 x1 x2 x3 x4 x5 x7 0 F A))))) x5 x7 F A
def w_Mo_with_b52 (mo : Nat) (Q : Int → (Nat → Int) → (Nat → Int → Int) → Prop) (x1 : Int) (x2 : Int) (x3 : Int) (y0 : Int) (F : Nat → Int) (A : Nat → Int → Int) : Prop := w_Mo_with_b65 mo Q x1 x2 x3 y0 1000000000 (F 17) F A
def w_Mo_with (mo : Nat) (F : Nat → Int) (A : Nat → Int → Int) (x1 : Int) (x2 : Int) (Q : Int → (Nat → Int) → (Nat → Int → Int) → Prop) : Prop := 0 ≤ ((1000 * x1) + (F 17)) ∧ ((1000 * x1) + (F 17)) < 16000 ∧ rg (A 40 ((1000 * x1) + (F 17))) ∧ ((¬ (A 40 ((1000 * x1) + (F 17))) = (-1) → 0 ≤ (A 40 ((1000 * x1) + (F 17))) ∧ (A 40 ((1000 * x1) + (F 17))) < 60 ∧ 0 ≤ x2 ∧ x2 < 60 ∧ 0 ≤ ((4 * (A 27 (A 40 ((1000 * x1) + (F 17))))) + (A 26 x2)) ∧ ((4 * (A 27 (A 40 ((1000 * x1) + (F 17))))) + (A 26 x2)) < 16 ∧ w_Mo_with_b52 mo Q x1 x2 (A 40 ((1000 * x1) + (F 17))) ((A 25 (A 40 ((1000 * x1) + (F 17)))) + (A 30 ((4 * (A 27 (A 40 ((1000 * x1) + (F 17))))) + (A 26 x2)))) F A) ∧ ((A 40 ((1000 * x1) + (F 17))) = (-1) → w_Mo_with_b52 mo Q x1 x2 (A 40 ((1000 * x1) + (F 17))) 0 F A))
set_option maxHeartbeats 4000000 in
set_option maxRecDepth 100000 in
theorem s_Mo_with_b182 (C0 : x_C p s m args meth c c_Mo_with 12 (some .long) gT R_Mo) (hA : ∀ q : Nat, s.heap.size ≤ q → A0 q) {mo : Nat} {Q : Int → (Nat → Int) → (Nat → Int → Int) → Prop} {I65 : Int → Int → (Nat → Int) → (Nat → Int → Int) → Prop} (x1 : Int) (x2 : Int) (x3 : Int) (x4 : Int) (x7 : Int) (y0 : Int) (F : Nat → Int) (A : Nat → Int → Int) (hI65 : ∀ (x5 : Int) (x7 : Int) (F : Nat → Int) (A : Nat → Int → Int), I65 x5 x7 F A → ∀ (H : Heap) (locs : List Loc) (ls : Array Slot), x_S D vCl shU ad cA (NN mo) A0 s F A H locs → lv_has ls 12 [(0, .ref (ad 30)), (1, .int (iI x1)), (2, .int (iI x2)), (3, .int (iI x3)), (4, .int (iI x4)), (5, .long (lI x5)), (7, .int (iI x7))] → W p l e ({ frames := 1, cells := 0, slots := 0, locals := 21 } : Room) s m args below meth c H locs 0 0 (MQ below (x_QL D vCl shU ad cA (NN mo) A0 Q) args s 0 0 A0) (F0 m 65 ls [])) (h : w_Mo_with_b182 mo Q I65 x1 x2 x3 x4 x7 y0 F A) (H : Heap) (locs : List Loc) (ls : Array Slot) (hS : x_S D vCl shU ad cA (NN mo) A0 s F A H locs) (hl : lv_has ls 12 [(0, .ref (ad 30)), (1, .int (iI x1)), (2, .int (iI x2)), (3, .int (iI x3)), (4, .int (iI x4)), (7, .int (iI x7))]) : W p l e ({ frames := 1, cells := 0, slots := 0, locals := 21 } : Room) s m args below meth c H locs 0 0 (MQ below (x_QL D vCl shU ad cA (NN mo) A0 Q) args s 0 0 A0) (F0 m 182 ls [.long (lI y0)]) := by
  obtain ⟨hx, hb, hr, hml, hown, hts, hlocks⟩ := id C0
  refine lv_lstore (lv' := [(5, .long (lI y0)), (0, .ref (ad 30)), (1, .int (iI x1)), (2, .int (iI x2)), (3, .int (iI x3)), (4, .int (iI x4)), (7, .int (iI x7))]) hx hb d_Mo_with_182 hl (by decide) rfl (fun ls hl => ?_)
  refine lv_aload_n hx hb d_Mo_with_184 rfl (lv_at hl 1 rfl) ?_
  refine r_getr (t2 := 48) hx hb hts in_Mo hown hS 30 rfl rfl 27 (by decide) rfl (hts _ tw_661) d_Mo_with_185 ?_
  refine lv_iload hx hb d_Mo_with_188 (lv_at hl 6 rfl) ?_
  refine lv_aload_n hx hb d_Mo_with_190 rfl (lv_at hl 1 rfl) ?_
  refine r_geti (z := F 17) hx hb hts in_Mo hown hS 30 rfl rfl 20 (by decide) rfl (hts _ tw_654) d_Mo_with_191 rfl ?_
  refine r_isub hx hb d_Mo_with_194 ?_
  refine lv_lload hx hb d_Mo_with_195 (lv_at hl 0 rfl) ?_
  obtain ⟨g1, h⟩ := h
  obtain ⟨g2, h⟩ := h
  refine r_last (id := 41) (i := (x7 - (F 17))) (v := y0) hx hb hS 48 rfl g1 g2 (seta_41 ad cA mo _ _ _ _) d_Mo_with_197 (fun H locs hS => ?_)
  refine r_iinc (k := 6) (z := x7) (lv' := [(7, .int (iI (x7 + 1))), (5, .long (lI y0)), (0, .ref (ad 30)), (1, .int (iI x1)), (2, .int (iI x2)), (3, .int (iI x3)), (4, .int (iI x4))]) hx hb d_Mo_with_198 hl rfl (by decide) rfl (fun ls hl => ?_)
  refine lv_goto (tgt := 65) hx hb d_Mo_with_201 (by decide) ?_
  exact hI65 _ _ _ _ h _ _ _ hS (lv_sub hl [2, 3, 4, 5, 6, 1, 0] rfl)
set_option maxHeartbeats 4000000 in
set_option maxRecDepth 100000 in
theorem s_Mo_with_b165 (C0 : x_C p s m args meth c c_Mo_with 12 (some .long) gT R_Mo) (hA : ∀ q : Nat, s.heap.size ≤ q → A0 q) {mo : Nat} {Q : Int → (Nat → Int) → (Nat → Int → Int) → Prop} {I65 : Int → Int → (Nat → Int) → (Nat → Int → Int) → Prop} (x1 : Int) (x2 : Int) (x3 : Int) (x4 : Int) (x5 : Int) (x7 : Int) (y0 : Int) (F : Nat → Int) (A : Nat → Int → Int) (hI65 : ∀ (x5 : Int) (x7 : Int) (F : Nat → Int) (A : Nat → Int → Int), I65 x5 x7 F A → ∀ (H : Heap) (locs : List Loc) (ls : Array Slot), x_S D vCl shU ad cA (NN mo) A0 s F A H locs → lv_has ls 12 [(0, .ref (ad 30)), (1, .int (iI x1)), (2, .int (iI x2)), (3, .int (iI x3)), (4, .int (iI x4)), (5, .long (lI x5)), (7, .int (iI x7))] → W p l e ({ frames := 1, cells := 0, slots := 0, locals := 21 } : Room) s m args below meth c H locs 0 0 (MQ below (x_QL D vCl shU ad cA (NN mo) A0 Q) args s 0 0 A0) (F0 m 65 ls [])) (h : w_Mo_with_b165 mo Q I65 x1 x2 x3 x4 x5 x7 y0 F A) (H : Heap) (locs : List Loc) (ls : Array Slot) (hS : x_S D vCl shU ad cA (NN mo) A0 s F A H locs) (hl : lv_has ls 12 [(0, .ref (ad 30)), (1, .int (iI x1)), (2, .int (iI x2)), (3, .int (iI x3)), (4, .int (iI x4)), (5, .long (lI x5)), (7, .int (iI x7))]) : W p l e ({ frames := 1, cells := 0, slots := 0, locals := 21 } : Room) s m args below meth c H locs 0 0 (MQ below (x_QL D vCl shU ad cA (NN mo) A0 Q) args s 0 0 A0) (F0 m 165 ls [.long (lI y0)]) := by
  obtain ⟨hx, hb, hr, hml, hown, hts, hlocks⟩ := id C0
  refine lv_lstore (lv' := [(10, .long (lI y0)), (0, .ref (ad 30)), (1, .int (iI x1)), (2, .int (iI x2)), (3, .int (iI x3)), (4, .int (iI x4)), (5, .long (lI x5)), (7, .int (iI x7))]) hx hb d_Mo_with_165 hl (by decide) rfl (fun ls hl => ?_)
  refine lv_lload hx hb d_Mo_with_167 (lv_at hl 0 rfl) ?_
  refine lv_lload hx hb d_Mo_with_169 (lv_at hl 6 rfl) ?_
  obtain ⟨g3, h⟩ := h
  obtain ⟨g4, h⟩ := h
  refine r_lcmp_ge (tgt := 180) hx hb g3 g4 d_Mo_with_171 d_Mo_with_172 (by decide) (fun hc => ?_) (fun hc => ?_)
  · replace h := h.1 hc
    refine lv_lload hx hb d_Mo_with_180 (lv_at hl 6 rfl) ?_
    exact s_Mo_with_b182 C0 hA _ _ _ _ _ _ _ _ hI65 h _ _ _ hS (lv_sub hl [1, 2, 3, 4, 5, 7] rfl)
  · replace h := h.2 hc
    refine lv_lload hx hb d_Mo_with_175 (lv_at hl 0 rfl) ?_
    refine lv_goto (tgt := 182) hx hb d_Mo_with_177 (by decide) ?_
    exact s_Mo_with_b182 C0 hA _ _ _ _ _ _ _ _ hI65 h _ _ _ hS (lv_sub hl [1, 2, 3, 4, 5, 7] rfl)
set_option maxHeartbeats 4000000 in
set_option maxRecDepth 100000 in
theorem s_Mo_with_b144 (C0 : x_C p s m args meth c c_Mo_with 12 (some .long) gT R_Mo) (hA : ∀ q : Nat, s.heap.size ≤ q → A0 q) {mo : Nat} {Q : Int → (Nat → Int) → (Nat → Int → Int) → Prop} {I65 : Int → Int → (Nat → Int) → (Nat → Int → Int) → Prop} (x1 : Int) (x2 : Int) (x3 : Int) (x4 : Int) (x5 : Int) (x7 : Int) (F : Nat → Int) (A : Nat → Int → Int) (hI65 : ∀ (x5 : Int) (x7 : Int) (F : Nat → Int) (A : Nat → Int → Int), I65 x5 x7 F A → ∀ (H : Heap) (locs : List Loc) (ls : Array Slot), x_S D vCl shU ad cA (NN mo) A0 s F A H locs → lv_has ls 12 [(0, .ref (ad 30)), (1, .int (iI x1)), (2, .int (iI x2)), (3, .int (iI x3)), (4, .int (iI x4)), (5, .long (lI x5)), (7, .int (iI x7))] → W p l e ({ frames := 1, cells := 0, slots := 0, locals := 21 } : Room) s m args below meth c H locs 0 0 (MQ below (x_QL D vCl shU ad cA (NN mo) A0 Q) args s 0 0 A0) (F0 m 65 ls [])) (h : w_Mo_with_b144 mo Q I65 x1 x2 x3 x4 x5 x7 F A) (H : Heap) (locs : List Loc) (ls : Array Slot) (hS : x_S D vCl shU ad cA (NN mo) A0 s F A H locs) (hl : lv_has ls 12 [(0, .ref (ad 30)), (1, .int (iI x1)), (2, .int (iI x2)), (3, .int (iI x3)), (4, .int (iI x4)), (5, .long (lI x5)), (7, .int (iI x7))]) : W p l e ({ frames := 1, cells := 0, slots := 0, locals := 21 } : Room) s m args below meth c H locs 0 0 (MQ below (x_QL D vCl shU ad cA (NN mo) A0 Q) args s 0 0 A0) (F0 m 144 ls []) := by
  obtain ⟨hx, hb, hr, hml, hown, hts, hlocks⟩ := id C0
  refine r_ldc2 1000000000 hx hb hown (v := 1000000000) (hts _ tw_770) rfl d_Mo_with_144 ?_
  refine lv_goto (tgt := 165) hx hb d_Mo_with_147 (by decide) ?_
  exact s_Mo_with_b165 C0 hA _ _ _ _ _ _ _ _ _ hI65 h _ _ _ hS (lv_sub hl [0, 1, 2, 3, 4, 5, 6] rfl)
set_option maxHeartbeats 4000000 in
set_option maxRecDepth 100000 in
theorem s_Mo_with_b117 (C0 : x_C p s m args meth c c_Mo_with 12 (some .long) gT R_Mo) (hA : ∀ q : Nat, s.heap.size ≤ q → A0 q) {mo : Nat} {Q : Int → (Nat → Int) → (Nat → Int → Int) → Prop} {I65 : Int → Int → (Nat → Int) → (Nat → Int → Int) → Prop} (x1 : Int) (x2 : Int) (x3 : Int) (x4 : Int) (x5 : Int) (x7 : Int) (y0 : Int) (F : Nat → Int) (A : Nat → Int → Int) (hI65 : ∀ (x5 : Int) (x7 : Int) (F : Nat → Int) (A : Nat → Int → Int), I65 x5 x7 F A → ∀ (H : Heap) (locs : List Loc) (ls : Array Slot), x_S D vCl shU ad cA (NN mo) A0 s F A H locs → lv_has ls 12 [(0, .ref (ad 30)), (1, .int (iI x1)), (2, .int (iI x2)), (3, .int (iI x3)), (4, .int (iI x4)), (5, .long (lI x5)), (7, .int (iI x7))] → W p l e ({ frames := 1, cells := 0, slots := 0, locals := 21 } : Room) s m args below meth c H locs 0 0 (MQ below (x_QL D vCl shU ad cA (NN mo) A0 Q) args s 0 0 A0) (F0 m 65 ls [])) (h : w_Mo_with_b117 mo Q I65 x1 x2 x3 x4 x5 x7 y0 F A) (H : Heap) (locs : List Loc) (ls : Array Slot) (hS : x_S D vCl shU ad cA (NN mo) A0 s F A H locs) (hl : lv_has ls 12 [(0, .ref (ad 30)), (1, .int (iI x1)), (2, .int (iI x2)), (3, .int (iI x3)), (4, .int (iI x4)), (5, .long (lI x5)), (7, .int (iI x7))]) : W p l e ({ frames := 1, cells := 0, slots := 0, locals := 21 } : Room) s m args below meth c H locs 0 0 (MQ below (x_QL D vCl shU ad cA (NN mo) A0 Q) args s 0 0 A0) (F0 m 117 ls [.long (lI y0)]) := by
  obtain ⟨hx, hb, hr, hml, hown, hts, hlocks⟩ := id C0
  refine lv_lstore (lv' := [(8, .long (lI y0)), (0, .ref (ad 30)), (1, .int (iI x1)), (2, .int (iI x2)), (3, .int (iI x3)), (4, .int (iI x4)), (5, .long (lI x5)), (7, .int (iI x7))]) hx hb d_Mo_with_117 hl (by decide) rfl (fun ls hl => ?_)
  refine lv_iload hx hb d_Mo_with_119 (lv_at hl 7 rfl) ?_
  refine lv_aload_n hx hb d_Mo_with_121 rfl (lv_at hl 1 rfl) ?_
  refine r_getr (t2 := 32) hx hb hts in_Mo hown hS 30 rfl rfl 5 (by decide) rfl (hts _ tw_639) d_Mo_with_122 ?_
  refine lv_iload_n hx hb d_Mo_with_125 rfl (lv_at hl 3 rfl) ?_
  obtain ⟨g5, h⟩ := h
  obtain ⟨g6, h⟩ := h
  refine r_iald (id := 25) (i := x2) (z := A 25 x2) hx hb hS 32 rfl g5 g6 d_Mo_with_126 rfl ?_
  refine r_iadd hx hb d_Mo_with_127 ?_
  refine lv_aload_n hx hb d_Mo_with_128 rfl (lv_at hl 1 rfl) ?_
  refine r_geti (z := F 18) hx hb hts in_Mo hown hS 30 rfl rfl 21 (by decide) rfl (hts _ tw_655) d_Mo_with_129 rfl ?_
  obtain ⟨g7, h⟩ := h
  obtain ⟨g8, h⟩ := h
  refine r_icmp_gt (tgt := 144) hx hb g7 g8 d_Mo_with_132 (by decide) (fun hc => ?_) (fun hc => ?_)
  · replace h := h.1 hc
    exact s_Mo_with_b144 C0 hA _ _ _ _ _ _ _ _ hI65 h _ _ _ hS (lv_sub hl [1, 2, 3, 4, 5, 6, 7] rfl)
  · replace h := h.2 hc
    refine lv_lload hx hb d_Mo_with_135 (lv_at hl 0 rfl) ?_
    refine r_ldc2 1000000000 hx hb hown (v := 1000000000) (hts _ tw_770) rfl d_Mo_with_137 ?_
    obtain ⟨g9, h⟩ := h
    refine r_lcmp_lt (tgt := 150) hx hb g9 ⟨by omega, by omega⟩ d_Mo_with_140 d_Mo_with_141 (by decide) (fun hc => ?_) (fun hc => ?_)
    · replace h := h.1 hc
      refine lv_lload hx hb d_Mo_with_150 (lv_at hl 0 rfl) ?_
      refine lv_iload hx hb d_Mo_with_152 (lv_at hl 7 rfl) ?_
      refine lv_aload_n hx hb d_Mo_with_154 rfl (lv_at hl 1 rfl) ?_
      refine r_getr (t2 := 35) hx hb hts in_Mo hown hS 30 rfl rfl 8 (by decide) rfl (hts _ tw_642) d_Mo_with_155 ?_
      refine lv_iload_n hx hb d_Mo_with_158 rfl (lv_at hl 3 rfl) ?_
      refine r_iald (id := 28) (i := x2) (z := A 28 x2) hx hb hS 35 rfl g5 g6 d_Mo_with_159 rfl ?_
      refine r_ci (va_runS (As := [.int (iI x7), .int (iI (A 28 x2))]) (rest := [.long (lI y0)]) ⟨hx, hb, hml, hown, hts⟩ (ct_Mo_far l D ad cA mo _ _ _ _ _ _ h) (cwS 2 hts (gS tw_783 tw_784 tw_8 tw_785) rfl rfl rfl (by decide +kernel) ⟨Nat.le_of_ble_eq_true rfl, Nat.le_of_ble_eq_true rfl⟩) (x_preS hS _) rfl rfl hl.1 rfl (lv_room (Nat.le_of_ble_eq_true rfl)) d_Mo_with_160 ⟨Nat.zero_le _, Nat.zero_le _⟩) hS hA (fun z10 F10 A10 H locs hS h => ?_)
      obtain ⟨rfl, rfl, h⟩ := h
      obtain ⟨g11, h⟩ := h
      refine r_i2l hx hb g11 d_Mo_with_163 ?_
      refine r_ladd hx hb d_Mo_with_164 ?_
      exact s_Mo_with_b165 C0 hA _ _ _ _ _ _ _ _ _ hI65 h _ _ _ hS (lv_sub hl [1, 2, 3, 4, 5, 6, 7] rfl)
    · replace h := h.2 hc
      exact s_Mo_with_b144 C0 hA _ _ _ _ _ _ _ _ hI65 h _ _ _ hS (lv_sub hl [1, 2, 3, 4, 5, 6, 7] rfl)
set_option maxHeartbeats 4000000 in
set_option maxRecDepth 100000 in
theorem s_Mo_with_b65 (C0 : x_C p s m args meth c c_Mo_with 12 (some .long) gT R_Mo) (hA : ∀ q : Nat, s.heap.size ≤ q → A0 q) {mo : Nat} {Q : Int → (Nat → Int) → (Nat → Int → Int) → Prop} (x1 : Int) (x2 : Int) (x3 : Int) (x4 : Int) (x5 : Int) (x7 : Int) (F : Nat → Int) (A : Nat → Int → Int) (h : w_Mo_with_b65 mo Q x1 x2 x3 x4 x5 x7 F A) (H : Heap) (locs : List Loc) (ls : Array Slot) (hS : x_S D vCl shU ad cA (NN mo) A0 s F A H locs) (hl : lv_has ls 12 [(0, .ref (ad 30)), (1, .int (iI x1)), (2, .int (iI x2)), (3, .int (iI x3)), (4, .int (iI x4)), (5, .long (lI x5)), (7, .int (iI x7))]) : W p l e ({ frames := 1, cells := 0, slots := 0, locals := 21 } : Room) s m args below meth c H locs 0 0 (MQ below (x_QL D vCl shU ad cA (NN mo) A0 Q) args s 0 0 A0) (F0 m 65 ls []) := by
  obtain ⟨hx, hb, hr, hml, hown, hts, hlocks⟩ := id C0
  refine h (fun x5 x7 F A => ∀ (H : Heap) (locs : List Loc) (ls : Array Slot), x_S D vCl shU ad cA (NN mo) A0 s F A H locs → lv_has ls 12 [(0, .ref (ad 30)), (1, .int (iI x1)), (2, .int (iI x2)), (3, .int (iI x3)), (4, .int (iI x4)), (5, .long (lI x5)), (7, .int (iI x7))] → W p l e ({ frames := 1, cells := 0, slots := 0, locals := 21 } : Room) s m args below meth c H locs 0 0 (MQ below (x_QL D vCl shU ad cA (NN mo) A0 Q) args s 0 0 A0) (F0 m 65 ls [])) ?_ H locs ls hS hl
  intro x5 x7 F A h H locs ls hS hl
  refine lv_iload hx hb d_Mo_with_65 (lv_at hl 6 rfl) ?_
  refine lv_aload_n hx hb d_Mo_with_67 rfl (lv_at hl 0 rfl) ?_
  refine r_geti (z := F 18) hx hb hts in_Mo hown hS 30 rfl rfl 21 (by decide) rfl (hts _ tw_655) d_Mo_with_68 rfl ?_
  obtain ⟨g12, h⟩ := h
  obtain ⟨g13, h⟩ := h
  refine r_icmp_ge (tgt := 204) hx hb g12 g13 d_Mo_with_71 (by decide) (fun hc => ?_) (fun hc => ?_)
  · replace h := h.1 hc
    refine lv_lload hx hb d_Mo_with_204 (lv_at hl 5 rfl) ?_
    exact r_lret (z := x5) hx hb hr hlocks hS h d_Mo_with_206
  · replace h := h.2 hc
    refine lv_iload_n hx hb d_Mo_with_74 rfl (lv_at hl 3 rfl) ?_
    refine r_iconst hx hb d_Mo_with_75 ?_
    obtain ⟨g14, h⟩ := h
    refine r_icmp_ne (tgt := 83) hx hb g14 ⟨by omega, by omega⟩ d_Mo_with_76 (by decide) (fun hc => ?_) (fun hc => ?_)
    · replace h := h.1 hc
      refine lv_iload hx hb d_Mo_with_83 (lv_at hl 6 rfl) ?_
      refine lv_iload hx hb d_Mo_with_85 (lv_at hl 4 rfl) ?_
      refine r_isub hx hb d_Mo_with_87 ?_
      refine lv_aload_n hx hb d_Mo_with_88 rfl (lv_at hl 0 rfl) ?_
      refine r_geti (z := F 17) hx hb hts in_Mo hown hS 30 rfl rfl 20 (by decide) rfl (hts _ tw_654) d_Mo_with_89 rfl ?_
      obtain ⟨g15, h⟩ := h
      obtain ⟨g16, h⟩ := h
      refine r_icmp_ge (tgt := 101) hx hb g15 g16 d_Mo_with_92 (by decide) (fun hc => ?_) (fun hc => ?_)
      · replace h := h.1 hc
        refine lv_aload_n hx hb d_Mo_with_101 rfl (lv_at hl 0 rfl) ?_
        refine r_getr (t2 := 46) hx hb hts in_Mo hown hS 30 rfl rfl 25 (by decide) rfl (hts _ tw_659) d_Mo_with_102 ?_
        refine r_sipush hx hb d_Mo_with_105 (by decide +kernel) ?_
        refine lv_iload_n hx hb d_Mo_with_108 rfl (lv_at hl 1 rfl) ?_
        refine r_imul hx hb d_Mo_with_109 ?_
        refine lv_iload hx hb d_Mo_with_110 (lv_at hl 6 rfl) ?_
        refine r_iadd hx hb d_Mo_with_112 ?_
        refine lv_iload hx hb d_Mo_with_113 (lv_at hl 4 rfl) ?_
        refine r_isub hx hb d_Mo_with_115 ?_
        obtain ⟨g17, h⟩ := h
        obtain ⟨g18, h⟩ := h
        refine r_lald (id := 39) (i := (((1000 * x1) + x7) - x4)) (z := A 39 (((1000 * x1) + x7) - x4)) hx hb hS 46 rfl g17 g18 d_Mo_with_116 rfl ?_
        exact s_Mo_with_b117 C0 hA _ _ _ _ _ _ _ _ _ (fun _ _ _ _ h => h) h _ _ _ hS (lv_sub hl [0, 1, 2, 3, 4, 5, 6] rfl)
      · replace h := h.2 hc
        refine r_ldc2 1000000000 hx hb hown (v := 1000000000) (hts _ tw_770) rfl d_Mo_with_95 ?_
        refine lv_goto (tgt := 117) hx hb d_Mo_with_98 (by decide) ?_
        exact s_Mo_with_b117 C0 hA _ _ _ _ _ _ _ _ _ (fun _ _ _ _ h => h) h _ _ _ hS (lv_sub hl [0, 1, 2, 3, 4, 5, 6] rfl)
    · replace h := h.2 hc
      refine r_lconst hx hb 0 d_Mo_with_79 (by decide +kernel) ?_
      refine lv_goto (tgt := 117) hx hb d_Mo_with_80 (by decide) ?_
      exact s_Mo_with_b117 C0 hA _ _ _ _ _ _ _ _ _ (fun _ _ _ _ h => h) h _ _ _ hS (lv_sub hl [0, 1, 2, 3, 4, 5, 6] rfl)
set_option maxHeartbeats 4000000 in
set_option maxRecDepth 100000 in
theorem s_Mo_with_b52 (C0 : x_C p s m args meth c c_Mo_with 12 (some .long) gT R_Mo) (hA : ∀ q : Nat, s.heap.size ≤ q → A0 q) {mo : Nat} {Q : Int → (Nat → Int) → (Nat → Int → Int) → Prop} (x1 : Int) (x2 : Int) (x3 : Int) (y0 : Int) (F : Nat → Int) (A : Nat → Int → Int) (h : w_Mo_with_b52 mo Q x1 x2 x3 y0 F A) (H : Heap) (locs : List Loc) (ls : Array Slot) (hS : x_S D vCl shU ad cA (NN mo) A0 s F A H locs) (hl : lv_has ls 12 [(0, .ref (ad 30)), (1, .int (iI x1)), (2, .int (iI x2)), (3, .int (iI x3))]) : W p l e ({ frames := 1, cells := 0, slots := 0, locals := 21 } : Room) s m args below meth c H locs 0 0 (MQ below (x_QL D vCl shU ad cA (NN mo) A0 Q) args s 0 0 A0) (F0 m 52 ls [.int (iI y0)]) := by
  obtain ⟨hx, hb, hr, hml, hown, hts, hlocks⟩ := id C0
  refine lv_istore (lv' := [(4, .int (iI y0)), (0, .ref (ad 30)), (1, .int (iI x1)), (2, .int (iI x2)), (3, .int (iI x3))]) hx hb d_Mo_with_52 hl (by decide) rfl (fun ls hl => ?_)
  refine r_ldc2 1000000000 hx hb hown (v := 1000000000) (hts _ tw_770) rfl d_Mo_with_54 ?_
  refine lv_lstore (lv' := [(5, .long (lI 1000000000)), (4, .int (iI y0)), (0, .ref (ad 30)), (1, .int (iI x1)), (2, .int (iI x2)), (3, .int (iI x3))]) hx hb d_Mo_with_57 hl (by decide) rfl (fun ls hl => ?_)
  refine lv_aload_n hx hb d_Mo_with_59 rfl (lv_at hl 2 rfl) ?_
  refine r_geti (z := F 17) hx hb hts in_Mo hown hS 30 rfl rfl 20 (by decide) rfl (hts _ tw_654) d_Mo_with_60 rfl ?_
  refine lv_istore (lv' := [(7, .int (iI (F 17))), (5, .long (lI 1000000000)), (4, .int (iI y0)), (0, .ref (ad 30)), (1, .int (iI x1)), (2, .int (iI x2)), (3, .int (iI x3))]) hx hb d_Mo_with_63 hl (by decide) rfl (fun ls hl => ?_)
  exact s_Mo_with_b65 C0 hA _ _ _ _ _ _ _ _ h _ _ _ hS (lv_sub hl [3, 4, 5, 6, 2, 1, 0] rfl)
set_option maxHeartbeats 4000000 in
set_option maxRecDepth 100000 in
theorem ct_Mo_with (l : Launch) (D : va_G) (ad : Nat → Nat) (cA : Nat → ClassId) (mo sz : Nat) (F : Nat → Int) (A : Nat → Int → Int) (x1 : Int) (x2 : Int) (Q : Int → (Nat → Int) → (Nat → Int → Int) → Prop) (h : w_Mo_with mo F A x1 x2 Q) : Met l y_Mo_with (Cond.code y_Mo_with c_Mo_with 12 (some .long) :: gT) ({ frames := 1, cells := 0, slots := 0, locals := 21 } : Room) (va_Pc [.ref (ad 30), .int (iI x1), .int (iI x2)] (x_P D vCl shU ad cA (NN mo) sz F A)) (x_QL D vCl shU ad cA (NN mo) (va_A (x_w shU ad cA (NN mo) F A) sz) Q) 0 0 (va_A (x_w shU ad cA (NN mo) F A) sz) := by
  refine Met.ofW (cc := c_Mo_with) (maxL := 12) (ret := some .long) (by decide) rfl ?_
  intro p e s m args below meth c s₁ B hml hv
  obtain ⟨rfl, hsz, hP, hK, hD0, hN0⟩ := hv
  have hx := B.exec
  have hb := B.bytes
  have hr := B.returns
  have hts0 := atoms_spec (ws := (Cond.code y_Mo_with c_Mo_with 12 (some .long) :: gT)) B.pre
  have hts : ∀ w ∈ gT, w.before _ s = true := fun w h => hts0 w (List.mem_cons_of_mem _ h)
  have hown : s.vm.findClass R_Mo = some m.cls := findClass_of_methodNamed B.named
  have hlocks := B.notSynchronized
  subst hsz
  have hS : x_S D vCl shU ad cA (NN mo) (va_A (x_w shU ad cA (NN mo) F A) s.heap.size) s F A s.heap [] := ⟨hK, hP, hD0.self, va_S.rf, hN0⟩
  have hA : ∀ q : Nat, s.heap.size ≤ q → va_A (x_w shU ad cA (NN mo) F A) s.heap.size q := fun q h => Or.inr h
  have C0 : x_C p s m [.ref (ad 30), .int (iI x1), .int (iI x2)].toArray meth c c_Mo_with 12 (some .long) gT R_Mo := ⟨hx, hb, hr, hml, hown, hts, hlocks⟩
  generalize va_A (x_w shU ad cA (NN mo) F A) s.heap.size = A0 at hS hA ⊢
  have hl := lv_entry [.ref (ad 30), .int (iI x1), .int (iI x2)] (n := 12) (Nat.le_of_ble_eq_true rfl)
  rw [lg_entry_eq]
  generalize (lg_sl [.ref (ad 30), .int (iI x1), .int (iI x2)] ++ List.replicate (12 - (lg_sl [.ref (ad 30), .int (iI x1), .int (iI x2)]).length) Slot.unset).toArray = ls at hl ⊢
  have hl : lv_has ls 12 [(0, .ref (ad 30)), (1, .int (iI x1)), (2, .int (iI x2))] := hl
  refine lv_aload_n hx hb d_Mo_with_0 rfl (lv_at hl 0 rfl) ?_
  refine r_getr (t2 := 47) hx hb hts in_Mo hown hS 30 rfl rfl 26 (by decide) rfl (hts _ tw_660) d_Mo_with_1 ?_
  refine r_sipush hx hb d_Mo_with_4 (by decide +kernel) ?_
  refine lv_iload_n hx hb d_Mo_with_7 rfl (lv_at hl 1 rfl) ?_
  refine r_imul hx hb d_Mo_with_8 ?_
  refine lv_aload_n hx hb d_Mo_with_9 rfl (lv_at hl 0 rfl) ?_
  refine r_geti (z := F 17) hx hb hts in_Mo hown hS 30 rfl rfl 20 (by decide) rfl (hts _ tw_654) d_Mo_with_10 rfl ?_
  refine r_iadd hx hb d_Mo_with_13 ?_
  obtain ⟨g19, h⟩ := h
  obtain ⟨g20, h⟩ := h
  refine r_iald (id := 40) (i := ((1000 * x1) + (F 17))) (z := A 40 ((1000 * x1) + (F 17))) hx hb hS 47 rfl g19 g20 d_Mo_with_14 rfl ?_
  refine lv_istore_n (lv' := [(3, .int (iI (A 40 ((1000 * x1) + (F 17))))), (0, .ref (ad 30)), (1, .int (iI x1)), (2, .int (iI x2))]) hx hb d_Mo_with_15 rfl hl (by decide) rfl (fun ls hl => ?_)
  refine lv_iload_n hx hb d_Mo_with_16 rfl (lv_at hl 0 rfl) ?_
  refine r_iconst hx hb d_Mo_with_17 ?_
  obtain ⟨g21, h⟩ := h
  refine r_icmp_ne (tgt := 25) hx hb g21 ⟨by omega, by omega⟩ d_Mo_with_18 (by decide) (fun hc => ?_) (fun hc => ?_)
  · replace h := h.1 hc
    refine lv_aload_n hx hb d_Mo_with_25 rfl (lv_at hl 1 rfl) ?_
    refine r_getr (t2 := 32) hx hb hts in_Mo hown hS 30 rfl rfl 5 (by decide) rfl (hts _ tw_639) d_Mo_with_26 ?_
    refine lv_iload_n hx hb d_Mo_with_29 rfl (lv_at hl 0 rfl) ?_
    obtain ⟨g22, h⟩ := h
    obtain ⟨g23, h⟩ := h
    refine r_iald (id := 25) (i := (A 40 ((1000 * x1) + (F 17)))) (z := A 25 (A 40 ((1000 * x1) + (F 17)))) hx hb hS 32 rfl g22 g23 d_Mo_with_30 rfl ?_
    refine lv_aload_n hx hb d_Mo_with_31 rfl (lv_at hl 1 rfl) ?_
    refine r_getr (t2 := 37) hx hb hts in_Mo hown hS 30 rfl rfl 10 (by decide) rfl (hts _ tw_644) d_Mo_with_32 ?_
    refine r_iconst hx hb d_Mo_with_35 ?_
    refine lv_aload_n hx hb d_Mo_with_36 rfl (lv_at hl 1 rfl) ?_
    refine r_getr (t2 := 34) hx hb hts in_Mo hown hS 30 rfl rfl 7 (by decide) rfl (hts _ tw_641) d_Mo_with_37 ?_
    refine lv_iload_n hx hb d_Mo_with_40 rfl (lv_at hl 0 rfl) ?_
    refine r_iald (id := 27) (i := (A 40 ((1000 * x1) + (F 17)))) (z := A 27 (A 40 ((1000 * x1) + (F 17)))) hx hb hS 34 rfl g22 g23 d_Mo_with_41 rfl ?_
    refine r_imul hx hb d_Mo_with_42 ?_
    refine lv_aload_n hx hb d_Mo_with_43 rfl (lv_at hl 1 rfl) ?_
    refine r_getr (t2 := 33) hx hb hts in_Mo hown hS 30 rfl rfl 6 (by decide) rfl (hts _ tw_640) d_Mo_with_44 ?_
    refine lv_iload_n hx hb d_Mo_with_47 rfl (lv_at hl 3 rfl) ?_
    obtain ⟨g24, h⟩ := h
    obtain ⟨g25, h⟩ := h
    refine r_iald (id := 26) (i := x2) (z := A 26 x2) hx hb hS 33 rfl g24 g25 d_Mo_with_48 rfl ?_
    refine r_iadd hx hb d_Mo_with_49 ?_
    obtain ⟨g26, h⟩ := h
    obtain ⟨g27, h⟩ := h
    refine r_iald (id := 30) (i := ((4 * (A 27 (A 40 ((1000 * x1) + (F 17))))) + (A 26 x2))) (z := A 30 ((4 * (A 27 (A 40 ((1000 * x1) + (F 17))))) + (A 26 x2))) hx hb hS 37 rfl g26 g27 d_Mo_with_50 rfl ?_
    refine r_iadd hx hb d_Mo_with_51 ?_
    exact s_Mo_with_b52 C0 hA _ _ _ _ _ _ h _ _ _ hS (lv_sub hl [1, 2, 3, 0] rfl)
  · replace h := h.2 hc
    refine r_iconst hx hb d_Mo_with_21 ?_
    refine lv_goto (tgt := 52) hx hb d_Mo_with_22 (by decide) ?_
    exact s_Mo_with_b52 C0 hA _ _ _ _ _ _ h _ _ _ hS (lv_sub hl [1, 2, 3, 0] rfl)
/-! Mo_without -/
def w_Mo_without (mo : Nat) (F : Nat → Int) (A : Nat → Int → Int) (x1 : Int) (Q : Int → Prop) : Prop := 0 ≤ ((1000 * x1) + (F 17)) ∧ ((1000 * x1) + (F 17)) < 16000 ∧ rg (A 40 ((1000 * x1) + (F 17))) ∧ ((¬ (A 40 ((1000 * x1) + (F 17))) = (-1) → 0 ≤ (((1000 * x1) + (F 18)) - 1) ∧ (((1000 * x1) + (F 18)) - 1) < 16000 ∧ Q (A 39 (((1000 * x1) + (F 18)) - 1))) ∧ ((A 40 ((1000 * x1) + (F 17))) = (-1) → Q 0))
set_option maxHeartbeats 4000000 in
set_option maxRecDepth 100000 in
theorem ct_Mo_without (l : Launch) (D : va_G) (ad : Nat → Nat) (cA : Nat → ClassId) (mo sz : Nat) (F : Nat → Int) (A : Nat → Int → Int) (x1 : Int) (Q : Int → Prop) (h : w_Mo_without mo F A x1 Q) : Met l y_Mo_without (Cond.code y_Mo_without c_Mo_without 2 (some .long) :: gT) ({ frames := 0, cells := 0, slots := 0, locals := 0 } : Room) (va_Pc [.ref (ad 30), .int (iI x1)] (x_P D vCl shU ad cA (NN mo) sz F A)) (x_QL D vCl shU ad cA (NN mo) (va_A (x_w shU ad cA (NN mo) F A) sz) (fun z F1 A1 => F = F1 ∧ A = A1 ∧ Q z)) 0 0 (va_A (x_w shU ad cA (NN mo) F A) sz) := by
  refine Met.ofW (cc := c_Mo_without) (maxL := 2) (ret := some .long) (by decide) rfl ?_
  intro p e s m args below meth c s₁ B hml hv
  obtain ⟨rfl, hsz, hP, hK, hD0, hN0⟩ := hv
  have hx := B.exec
  have hb := B.bytes
  have hr := B.returns
  have hts0 := atoms_spec (ws := (Cond.code y_Mo_without c_Mo_without 2 (some .long) :: gT)) B.pre
  have hts : ∀ w ∈ gT, w.before _ s = true := fun w h => hts0 w (List.mem_cons_of_mem _ h)
  have hown : s.vm.findClass R_Mo = some m.cls := findClass_of_methodNamed B.named
  have hlocks := B.notSynchronized
  subst hsz
  have hS : x_S D vCl shU ad cA (NN mo) (va_A (x_w shU ad cA (NN mo) F A) s.heap.size) s F A s.heap [] := ⟨hK, hP, hD0.self, va_S.rf, hN0⟩
  have hA : ∀ q : Nat, s.heap.size ≤ q → va_A (x_w shU ad cA (NN mo) F A) s.heap.size q := fun q h => Or.inr h
  have C0 : x_C p s m [.ref (ad 30), .int (iI x1)].toArray meth c c_Mo_without 2 (some .long) gT R_Mo := ⟨hx, hb, hr, hml, hown, hts, hlocks⟩
  generalize va_A (x_w shU ad cA (NN mo) F A) s.heap.size = A0 at hS hA ⊢
  have hl := lv_entry [.ref (ad 30), .int (iI x1)] (n := 2) (Nat.le_of_ble_eq_true rfl)
  rw [lg_entry_eq]
  generalize (lg_sl [.ref (ad 30), .int (iI x1)] ++ List.replicate (2 - (lg_sl [.ref (ad 30), .int (iI x1)]).length) Slot.unset).toArray = ls at hl ⊢
  have hl : lv_has ls 2 [(0, .ref (ad 30)), (1, .int (iI x1))] := hl
  refine lv_aload_n hx hb d_Mo_without_0 rfl (lv_at hl 0 rfl) ?_
  refine r_getr (t2 := 47) hx hb hts in_Mo hown hS 30 rfl rfl 26 (by decide) rfl (hts _ tw_660) d_Mo_without_1 ?_
  refine r_sipush hx hb d_Mo_without_4 (by decide +kernel) ?_
  refine lv_iload_n hx hb d_Mo_without_7 rfl (lv_at hl 1 rfl) ?_
  refine r_imul hx hb d_Mo_without_8 ?_
  refine lv_aload_n hx hb d_Mo_without_9 rfl (lv_at hl 0 rfl) ?_
  refine r_geti (z := F 17) hx hb hts in_Mo hown hS 30 rfl rfl 20 (by decide) rfl (hts _ tw_654) d_Mo_without_10 rfl ?_
  refine r_iadd hx hb d_Mo_without_13 ?_
  obtain ⟨g1, h⟩ := h
  obtain ⟨g2, h⟩ := h
  refine r_iald (id := 40) (i := ((1000 * x1) + (F 17))) (z := A 40 ((1000 * x1) + (F 17))) hx hb hS 47 rfl g1 g2 d_Mo_without_14 rfl ?_
  refine r_iconst hx hb d_Mo_without_15 ?_
  obtain ⟨g3, h⟩ := h
  refine r_icmp_ne (tgt := 23) hx hb g3 ⟨by omega, by omega⟩ d_Mo_without_16 (by decide) (fun hc => ?_) (fun hc => ?_)
  · replace h := h.1 hc
    refine lv_aload_n hx hb d_Mo_without_23 rfl (lv_at hl 0 rfl) ?_
    refine r_getr (t2 := 46) hx hb hts in_Mo hown hS 30 rfl rfl 25 (by decide) rfl (hts _ tw_659) d_Mo_without_24 ?_
    refine r_sipush hx hb d_Mo_without_27 (by decide +kernel) ?_
    refine lv_iload_n hx hb d_Mo_without_30 rfl (lv_at hl 1 rfl) ?_
    refine r_imul hx hb d_Mo_without_31 ?_
    refine lv_aload_n hx hb d_Mo_without_32 rfl (lv_at hl 0 rfl) ?_
    refine r_geti (z := F 18) hx hb hts in_Mo hown hS 30 rfl rfl 21 (by decide) rfl (hts _ tw_655) d_Mo_without_33 rfl ?_
    refine r_iadd hx hb d_Mo_without_36 ?_
    refine r_iconst hx hb d_Mo_without_37 ?_
    refine r_isub hx hb d_Mo_without_38 ?_
    obtain ⟨g4, h⟩ := h
    obtain ⟨g5, h⟩ := h
    refine r_lald (id := 39) (i := (((1000 * x1) + (F 18)) - 1)) (z := A 39 (((1000 * x1) + (F 18)) - 1)) hx hb hS 46 rfl g4 g5 d_Mo_without_39 rfl ?_
    exact r_lret (z := (A 39 (((1000 * x1) + (F 18)) - 1))) hx hb hr hlocks hS ⟨rfl, rfl, h⟩ d_Mo_without_40
  · replace h := h.2 hc
    refine r_lconst hx hb 0 d_Mo_without_19 (by decide +kernel) ?_
    refine lv_goto (tgt := 40) hx hb d_Mo_without_20 (by decide) ?_
    exact r_lret (z := 0) hx hb hr hlocks hS ⟨rfl, rfl, h⟩ d_Mo_without_40
/-! Mo_isTaken -/
def w_Mo_isTaken_b204 (mo : Nat) (Q : Int → (Nat → Int) → (Nat → Int → Int) → Prop) (x1 : Int) (x4 : Int) (x5 : Int) (F : Nat → Int) (A : Nat → Int → Int) : Prop := Lp3 (fun I204 x5 F A => rg x5 ∧ rg (F 18) ∧ (((F 18) ≤ x5 → 0 ≤ x4 ∧ x4 < 16000 ∧ Q 1 F (ua A 40 x4 x1)) ∧ (¬ (F 18) ≤ x5 → 0 ≤ x4 ∧ x4 < 2147483648 ∧ 0 ≤ (x5 - (F 17)) ∧ (x5 - (F 17)) < 1000 ∧ 0 ≤ ((1000 * (x4 / 1000)) + x5) ∧ ((1000 * (x4 / 1000)) + x5) < 16000 ∧ I204 (x5 + 1) F (ua A 39 ((1000 * (x4 / 1000)) + x5) (A 41 (x5 - (F 17))))))) x5 F A
def w_Mo_isTaken_b130 (mo : Nat) (Q : Int → (Nat → Int) → (Nat → Int → Int) → Prop) (I10 : Int → Int → Int → (Nat → Int) → (Nat → Int → Int) → Prop) (I22 : Int → Int → Int → (Nat → Int) → (Nat → Int → Int) → Prop) (x1 : Int) (x2 : Int) (x4 : Int) (x5 : Int) (x6 : Int) (F : Nat → Int) (A : Nat → Int → Int) : Prop := I22 x2 x4 (x6 + 1) F A
def w_Mo_isTaken_b22 (mo : Nat) (Q : Int → (Nat → Int) → (Nat → Int → Int) → Prop) (I10 : Int → Int → Int → (Nat → Int) → (Nat → Int → Int) → Prop) (x1 : Int) (x5 : Int) (x2 : Int) (x4 : Int) (x6 : Int) (F : Nat → Int) (A : Nat → Int → Int) : Prop := Lp5 (fun I22 x2 x4 x6 F A => rg x6 ∧ rg (F 12) ∧ (((F 12) ≤ x6 → I10 x2 x4 (x5 + 1) F A) ∧ (¬ (F 12) ≤ x6 → w_Mo_isBegin mo F A x5 x6 (fun z13 => rg z13 ∧ ((¬ z13 = 0 → w_Mo_endOf mo (uf F 17 x6) A x5 x6 (fun z15 => w_Mo_with mo (uf (uf F 17 x6) 18 z15) A x5 x1 (fun z16 F16 A16 => w_Mo_without mo F16 A16 x5 (fun z17 => 0 ≤ x1 ∧ x1 < 60 ∧ w_Mo_far mo F16 A16 x5 (A16 29 x1) (fun z20 => rg z20 ∧ rL z16 ∧ ((1000000000 ≤ z16 → w_Mo_isTaken_b130 mo Q I10 I22 x1 x2 x4 x5 x6 F16 A16) ∧ (¬ 1000000000 ≤ z16 → rL ((z16 - z17) + (20 * z20)) ∧ rL x2 ∧ ((x2 ≤ ((z16 - z17) + (20 * z20)) → w_Mo_isTaken_b130 mo Q I10 I22 x1 x2 x4 x5 x6 F16 A16) ∧ (¬ x2 ≤ ((z16 - z17) + (20 * z20)) → w_Mo_isTaken_b130 mo Q I10 I22 x1 ((z16 - z17) + (20 * z20)) ((1000 * x5) + x6) x5 x6 F16 A16))))))))) ∧ (z13 = 0 → w_Mo_isTaken_b130 mo Q I10 I22 x1 x2 x4 x5 x6 F A)))))) x2 x4 x6 F A
def w_Mo_isTaken_b10 (mo : Nat) (Q : Int → (Nat → Int) → (Nat → Int → Int) → Prop) (x1 : Int) (x2 : Int) (x4 : Int) (x5 : Int) (F : Nat → Int) (A : Nat → Int → Int) : Prop := Lp5 (fun I10 x2 x4 x5 F A => rg x5 ∧ rg (F 11) ∧ (((F 11) ≤ x5 → 0 ≤ x1 ∧ x1 < 60 ∧ rg x4 ∧ ((¬ x4 = (-1) → 0 ≤ x4 ∧ x4 < 2147483648 ∧ w_Mo_endOf mo (uf F 17 (x4 % 1000)) (ua A 35 x1 x4) (x4 / 1000) (x4 % 1000) (fun z32 => w_Mo_with mo (uf (uf F 17 (x4 % 1000)) 18 z32) (ua A 35 x1 x4) (x4 / 1000) x1 (fun z33 F33 A33 => w_Mo_isTaken_b204 mo Q x1 x4 (F33 17) F33 A33))) ∧ (x4 = (-1) → Q 0 F (ua A 35 x1 x4)))) ∧ (¬ (F 11) ≤ x5 → w_Mo_isTaken_b22 mo Q I10 x1 x5 x2 x4 0 F A))) x2 x4 x5 F A
def w_Mo_isTaken (mo : Nat) (F : Nat → Int) (A : Nat → Int → Int) (x1 : Int) (Q : Int → (Nat → Int) → (Nat → Int → Int) → Prop) : Prop := w_Mo_isTaken_b10 mo Q x1 1000000000 (-1) 0 F A
set_option maxHeartbeats 4000000 in
set_option maxRecDepth 100000 in
theorem s_Mo_isTaken_b204 (C0 : x_C p s m args meth c c_Mo_isTaken 11 (some .boolean) gT R_Mo) (hA : ∀ q : Nat, s.heap.size ≤ q → A0 q) {mo : Nat} {Q : Int → (Nat → Int) → (Nat → Int → Int) → Prop} (x1 : Int) (x4 : Int) (x5 : Int) (F : Nat → Int) (A : Nat → Int → Int) (h : w_Mo_isTaken_b204 mo Q x1 x4 x5 F A) (H : Heap) (locs : List Loc) (ls : Array Slot) (hS : x_S D vCl shU ad cA (NN mo) A0 s F A H locs) (hl : lv_has ls 11 [(0, .ref (ad 30)), (1, .int (iI x1)), (4, .int (iI x4)), (5, .int (iI x5))]) : W p l e ({ frames := 2, cells := 0, slots := 0, locals := 52 } : Room) s m args below meth c H locs 0 0 (MQ below (x_QI D vCl shU ad cA (NN mo) A0 Q) args s 0 0 A0) (F0 m 204 ls []) := by
  obtain ⟨hx, hb, hr, hml, hown, hts, hlocks⟩ := id C0
  refine h (fun x5 F A => ∀ (H : Heap) (locs : List Loc) (ls : Array Slot), x_S D vCl shU ad cA (NN mo) A0 s F A H locs → lv_has ls 11 [(0, .ref (ad 30)), (1, .int (iI x1)), (4, .int (iI x4)), (5, .int (iI x5))] → W p l e ({ frames := 2, cells := 0, slots := 0, locals := 52 } : Room) s m args below meth c H locs 0 0 (MQ below (x_QI D vCl shU ad cA (NN mo) A0 Q) args s 0 0 A0) (F0 m 204 ls [])) ?_ H locs ls hS hl
  intro x5 F A h H locs ls hS hl
  refine lv_iload hx hb d_Mo_isTaken_204 (lv_at hl 3 rfl) ?_
  refine lv_aload_n hx hb d_Mo_isTaken_206 rfl (lv_at hl 0 rfl) ?_
  refine r_geti (z := F 18) hx hb hts in_Mo hown hS 30 rfl rfl 21 (by decide) rfl (hts _ tw_655) d_Mo_isTaken_207 rfl ?_
  obtain ⟨g1, h⟩ := h
  obtain ⟨g2, h⟩ := h
  refine r_icmp_ge (tgt := 249) hx hb g1 g2 d_Mo_isTaken_210 (by decide) (fun hc => ?_) (fun hc => ?_)
  · replace h := h.1 hc
    refine lv_aload_n hx hb d_Mo_isTaken_249 rfl (lv_at hl 0 rfl) ?_
    refine r_getr (t2 := 47) hx hb hts in_Mo hown hS 30 rfl rfl 26 (by decide) rfl (hts _ tw_660) d_Mo_isTaken_250 ?_
    refine lv_iload hx hb d_Mo_isTaken_253 (lv_at hl 2 rfl) ?_
    refine lv_iload_n hx hb d_Mo_isTaken_255 rfl (lv_at hl 1 rfl) ?_
    obtain ⟨g3, h⟩ := h
    obtain ⟨g4, h⟩ := h
    refine r_iast (id := 40) (i := x4) (v := x1) hx hb hS 47 rfl g3 g4 (seta_40 ad cA mo _ _ _ _) d_Mo_isTaken_256 (fun H locs hS => ?_)
    refine r_iconst hx hb d_Mo_isTaken_257 ?_
    exact r_zret (z := 1) hx hb hr hlocks (Or.inr rfl) hS h d_Mo_isTaken_258
  · replace h := h.2 hc
    refine lv_aload_n hx hb d_Mo_isTaken_213 rfl (lv_at hl 0 rfl) ?_
    refine r_getr (t2 := 46) hx hb hts in_Mo hown hS 30 rfl rfl 25 (by decide) rfl (hts _ tw_659) d_Mo_isTaken_214 ?_
    refine r_sipush hx hb d_Mo_isTaken_217 (by decide +kernel) ?_
    refine lv_iload hx hb d_Mo_isTaken_220 (lv_at hl 2 rfl) ?_
    refine r_sipush hx hb d_Mo_isTaken_222 (by decide +kernel) ?_
    obtain ⟨g5, h⟩ := h
    obtain ⟨g6, h⟩ := h
    refine r_idiv hx hb 1000 g5 g6 (by decide) (by decide) d_Mo_isTaken_225 ?_
    refine r_imul hx hb d_Mo_isTaken_226 ?_
    refine lv_iload hx hb d_Mo_isTaken_227 (lv_at hl 3 rfl) ?_
    refine r_iadd hx hb d_Mo_isTaken_229 ?_
    refine lv_aload_n hx hb d_Mo_isTaken_230 rfl (lv_at hl 0 rfl) ?_
    refine r_getr (t2 := 48) hx hb hts in_Mo hown hS 30 rfl rfl 27 (by decide) rfl (hts _ tw_661) d_Mo_isTaken_231 ?_
    refine lv_iload hx hb d_Mo_isTaken_234 (lv_at hl 3 rfl) ?_
    refine lv_aload_n hx hb d_Mo_isTaken_236 rfl (lv_at hl 0 rfl) ?_
    refine r_geti (z := F 17) hx hb hts in_Mo hown hS 30 rfl rfl 20 (by decide) rfl (hts _ tw_654) d_Mo_isTaken_237 rfl ?_
    refine r_isub hx hb d_Mo_isTaken_240 ?_
    obtain ⟨g7, h⟩ := h
    obtain ⟨g8, h⟩ := h
    refine r_lald (id := 41) (i := (x5 - (F 17))) (z := A 41 (x5 - (F 17))) hx hb hS 48 rfl g7 g8 d_Mo_isTaken_241 rfl ?_
    obtain ⟨g9, h⟩ := h
    obtain ⟨g10, h⟩ := h
    refine r_last (id := 39) (i := ((1000 * (x4 / 1000)) + x5)) (v := (A 41 (x5 - (F 17)))) hx hb hS 46 rfl g9 g10 (seta_39 ad cA mo _ _ _ _) d_Mo_isTaken_242 (fun H locs hS => ?_)
    refine r_iinc (k := 3) (z := x5) (lv' := [(5, .int (iI (x5 + 1))), (0, .ref (ad 30)), (1, .int (iI x1)), (4, .int (iI x4))]) hx hb d_Mo_isTaken_243 hl rfl (by decide) rfl (fun ls hl => ?_)
    refine lv_goto (tgt := 204) hx hb d_Mo_isTaken_246 (by decide) ?_
    exact h _ _ _ hS (lv_sub hl [1, 2, 3, 0] rfl)
set_option maxHeartbeats 4000000 in
set_option maxRecDepth 100000 in
theorem s_Mo_isTaken_b130 (C0 : x_C p s m args meth c c_Mo_isTaken 11 (some .boolean) gT R_Mo) (hA : ∀ q : Nat, s.heap.size ≤ q → A0 q) {mo : Nat} {Q : Int → (Nat → Int) → (Nat → Int → Int) → Prop} {I10 : Int → Int → Int → (Nat → Int) → (Nat → Int → Int) → Prop} {I22 : Int → Int → Int → (Nat → Int) → (Nat → Int → Int) → Prop} (x1 : Int) (x2 : Int) (x4 : Int) (x5 : Int) (x6 : Int) (F : Nat → Int) (A : Nat → Int → Int) (hI10 : ∀ (x2 : Int) (x4 : Int) (x5 : Int) (F : Nat → Int) (A : Nat → Int → Int), I10 x2 x4 x5 F A → ∀ (H : Heap) (locs : List Loc) (ls : Array Slot), x_S D vCl shU ad cA (NN mo) A0 s F A H locs → lv_has ls 11 [(0, .ref (ad 30)), (1, .int (iI x1)), (2, .long (lI x2)), (4, .int (iI x4)), (5, .int (iI x5))] → W p l e ({ frames := 2, cells := 0, slots := 0, locals := 52 } : Room) s m args below meth c H locs 0 0 (MQ below (x_QI D vCl shU ad cA (NN mo) A0 Q) args s 0 0 A0) (F0 m 10 ls [])) (hI22 : ∀ (x2 : Int) (x4 : Int) (x6 : Int) (F : Nat → Int) (A : Nat → Int → Int), I22 x2 x4 x6 F A → ∀ (H : Heap) (locs : List Loc) (ls : Array Slot), x_S D vCl shU ad cA (NN mo) A0 s F A H locs → lv_has ls 11 [(0, .ref (ad 30)), (1, .int (iI x1)), (2, .long (lI x2)), (4, .int (iI x4)), (5, .int (iI x5)), (6, .int (iI x6))] → W p l e ({ frames := 2, cells := 0, slots := 0, locals := 52 } : Room) s m args below meth c H locs 0 0 (MQ below (x_QI D vCl shU ad cA (NN mo) A0 Q) args s 0 0 A0) (F0 m 22 ls [])) (h : w_Mo_isTaken_b130 mo Q I10 I22 x1 x2 x4 x5 x6 F A) (H : Heap) (locs : List Loc) (ls : Array Slot) (hS : x_S D vCl shU ad cA (NN mo) A0 s F A H locs) (hl : lv_has ls 11 [(0, .ref (ad 30)), (1, .int (iI x1)), (2, .long (lI x2)), (4, .int (iI x4)), (5, .int (iI x5)), (6, .int (iI x6))]) : W p l e ({ frames := 2, cells := 0, slots := 0, locals := 52 } : Room) s m args below meth c H locs 0 0 (MQ below (x_QI D vCl shU ad cA (NN mo) A0 Q) args s 0 0 A0) (F0 m 130 ls []) := by
  obtain ⟨hx, hb, hr, hml, hown, hts, hlocks⟩ := id C0
  refine r_iinc (k := 5) (z := x6) (lv' := [(6, .int (iI (x6 + 1))), (0, .ref (ad 30)), (1, .int (iI x1)), (2, .long (lI x2)), (4, .int (iI x4)), (5, .int (iI x5))]) hx hb d_Mo_isTaken_130 hl rfl (by decide) rfl (fun ls hl => ?_)
  refine lv_goto (tgt := 22) hx hb d_Mo_isTaken_133 (by decide) ?_
  exact hI22 _ _ _ _ _ h _ _ _ hS (lv_sub hl [1, 2, 3, 4, 5, 0] rfl)
set_option maxHeartbeats 4000000 in
set_option maxRecDepth 100000 in
theorem s_Mo_isTaken_b22 (C0 : x_C p s m args meth c c_Mo_isTaken 11 (some .boolean) gT R_Mo) (hA : ∀ q : Nat, s.heap.size ≤ q → A0 q) {mo : Nat} {Q : Int → (Nat → Int) → (Nat → Int → Int) → Prop} {I10 : Int → Int → Int → (Nat → Int) → (Nat → Int → Int) → Prop} (x1 : Int) (x5 : Int) (x2 : Int) (x4 : Int) (x6 : Int) (F : Nat → Int) (A : Nat → Int → Int) (hI10 : ∀ (x2 : Int) (x4 : Int) (x5 : Int) (F : Nat → Int) (A : Nat → Int → Int), I10 x2 x4 x5 F A → ∀ (H : Heap) (locs : List Loc) (ls : Array Slot), x_S D vCl shU ad cA (NN mo) A0 s F A H locs → lv_has ls 11 [(0, .ref (ad 30)), (1, .int (iI x1)), (2, .long (lI x2)), (4, .int (iI x4)), (5, .int (iI x5))] → W p l e ({ frames := 2, cells := 0, slots := 0, locals := 52 } : Room) s m args below meth c H locs 0 0 (MQ below (x_QI D vCl shU ad cA (NN mo) A0 Q) args s 0 0 A0) (F0 m 10 ls [])) (h : w_Mo_isTaken_b22 mo Q I10 x1 x5 x2 x4 x6 F A) (H : Heap) (locs : List Loc) (ls : Array Slot) (hS : x_S D vCl shU ad cA (NN mo) A0 s F A H locs) (hl : lv_has ls 11 [(0, .ref (ad 30)), (1, .int (iI x1)), (2, .long (lI x2)), (4, .int (iI x4)), (5, .int (iI x5)), (6, .int (iI x6))]) : W p l e ({ frames := 2, cells := 0, slots := 0, locals := 52 } : Room) s m args below meth c H locs 0 0 (MQ below (x_QI D vCl shU ad cA (NN mo) A0 Q) args s 0 0 A0) (F0 m 22 ls []) := by
  obtain ⟨hx, hb, hr, hml, hown, hts, hlocks⟩ := id C0
  refine h (fun x2 x4 x6 F A => ∀ (H : Heap) (locs : List Loc) (ls : Array Slot), x_S D vCl shU ad cA (NN mo) A0 s F A H locs → lv_has ls 11 [(0, .ref (ad 30)), (1, .int (iI x1)), (2, .long (lI x2)), (4, .int (iI x4)), (5, .int (iI x5)), (6, .int (iI x6))] → W p l e ({ frames := 2, cells := 0, slots := 0, locals := 52 } : Room) s m args below meth c H locs 0 0 (MQ below (x_QI D vCl shU ad cA (NN mo) A0 Q) args s 0 0 A0) (F0 m 22 ls [])) ?_ H locs ls hS hl
  intro x2 x4 x6 F A h H locs ls hS hl
  refine lv_iload hx hb d_Mo_isTaken_22 (lv_at hl 5 rfl) ?_
  refine lv_aload_n hx hb d_Mo_isTaken_24 rfl (lv_at hl 0 rfl) ?_
  refine r_geti (z := F 12) hx hb hts in_Mo hown hS 30 rfl rfl 2 (by decide) rfl (hts _ tw_636) d_Mo_isTaken_25 rfl ?_
  obtain ⟨g11, h⟩ := h
  obtain ⟨g12, h⟩ := h
  refine r_icmp_ge (tgt := 136) hx hb g11 g12 d_Mo_isTaken_28 (by decide) (fun hc => ?_) (fun hc => ?_)
  · replace h := h.1 hc
    refine r_iinc (k := 4) (z := x5) (lv' := [(5, .int (iI (x5 + 1))), (0, .ref (ad 30)), (1, .int (iI x1)), (2, .long (lI x2)), (4, .int (iI x4)), (6, .int (iI x6))]) hx hb d_Mo_isTaken_136 hl rfl (by decide) rfl (fun ls hl => ?_)
    refine lv_goto (tgt := 10) hx hb d_Mo_isTaken_139 (by decide) ?_
    exact hI10 _ _ _ _ _ h _ _ _ hS (lv_sub hl [1, 2, 3, 4, 0] rfl)
  · replace h := h.2 hc
    refine lv_aload_n hx hb d_Mo_isTaken_31 rfl (lv_at hl 0 rfl) ?_
    refine lv_iload hx hb d_Mo_isTaken_32 (lv_at hl 4 rfl) ?_
    refine lv_iload hx hb d_Mo_isTaken_34 (lv_at hl 5 rfl) ?_
    refine r_ci (va_runV (As := [.int (iI x5), .int (iI x6)]) (rest := []) ⟨hx, hb, hml, hown, hts⟩ (ct_Mo_isBegin l D ad cA mo _ _ _ _ _ _ h) (cwV 2 hts (gV tw_771 tw_773 tw_s_Mo_isBegin tw_8 tw_774) rfl rfl rfl (by decide +kernel) ⟨Nat.le_of_ble_eq_true rfl, Nat.le_of_ble_eq_true rfl⟩) (x_preV hS 30 rfl rfl _) rfl rfl hl.1 rfl (lv_room (Nat.le_of_ble_eq_true rfl)) d_Mo_isTaken_36 ⟨Nat.zero_le _, Nat.zero_le _⟩) hS hA (fun z13 F13 A13 H locs hS h => ?_)
    obtain ⟨rfl, rfl, h⟩ := h
    obtain ⟨g14, h⟩ := h
    refine r_if_ne (tgt := 45) hx hb g14 d_Mo_isTaken_39 (by decide) (fun hc => ?_) (fun hc => ?_)
    · replace h := h.1 hc
      refine lv_aload_n hx hb d_Mo_isTaken_45 rfl (lv_at hl 0 rfl) ?_
      refine lv_iload hx hb d_Mo_isTaken_46 (lv_at hl 5 rfl) ?_
      refine r_puti (j := 17) (v := x6) hx hb hts in_Mo t_Mo to_Mo nm_Mo hown hS 30 rfl rfl 20 (by decide) (hts _ tw_654) rfl (by decide +kernel) (setf_17 ad cA mo _ _ _) (by decide) d_Mo_isTaken_48 (fun H locs hS => ?_)
      refine lv_aload_n hx hb d_Mo_isTaken_51 rfl (lv_at hl 0 rfl) ?_
      refine lv_aload_n hx hb d_Mo_isTaken_52 rfl (lv_at hl 0 rfl) ?_
      refine lv_iload hx hb d_Mo_isTaken_53 (lv_at hl 4 rfl) ?_
      refine lv_iload hx hb d_Mo_isTaken_55 (lv_at hl 5 rfl) ?_
      refine r_ci (va_runV (As := [.int (iI x5), .int (iI x6)]) (rest := [.ref (ad 30)]) ⟨hx, hb, hml, hown, hts⟩ (ct_Mo_endOf l D ad cA mo _ _ _ _ _ _ h) (cwV 2 hts (gV tw_775 tw_777 tw_s_Mo_endOf tw_8 tw_778) rfl rfl rfl (by decide +kernel) ⟨Nat.le_of_ble_eq_true rfl, Nat.le_of_ble_eq_true rfl⟩) (x_preV hS 30 rfl rfl _) rfl rfl hl.1 rfl (lv_room (Nat.le_of_ble_eq_true rfl)) d_Mo_isTaken_57 ⟨Nat.zero_le _, Nat.zero_le _⟩) hS hA (fun z15 F15 A15 H locs hS h => ?_)
      obtain ⟨rfl, rfl, h⟩ := h
      refine r_puti (j := 18) (v := z15) hx hb hts in_Mo t_Mo to_Mo nm_Mo hown hS 30 rfl rfl 21 (by decide) (hts _ tw_655) rfl (by decide +kernel) (setf_18 ad cA mo _ _ _) (by decide) d_Mo_isTaken_60 (fun H locs hS => ?_)
      refine lv_aload_n hx hb d_Mo_isTaken_63 rfl (lv_at hl 0 rfl) ?_
      refine lv_iload hx hb d_Mo_isTaken_64 (lv_at hl 4 rfl) ?_
      refine lv_iload_n hx hb d_Mo_isTaken_66 rfl (lv_at hl 1 rfl) ?_
      refine r_cl (va_runV (As := [.int (iI x5), .int (iI x1)]) (rest := []) ⟨hx, hb, hml, hown, hts⟩ (ct_Mo_with l D ad cA mo _ _ _ _ _ _ h) (cwV 2 hts (gV tw_779 tw_781 tw_s_Mo_with tw_8 tw_782) rfl rfl rfl (by decide +kernel) ⟨Nat.le_of_ble_eq_true rfl, Nat.le_of_ble_eq_true rfl⟩) (x_preV hS 30 rfl rfl _) rfl rfl hl.1 rfl (lv_room (Nat.le_of_ble_eq_true rfl)) d_Mo_isTaken_67 ⟨Nat.zero_le _, Nat.zero_le _⟩) hS hA (fun z16 F16 A16 H locs hS h => ?_)
      refine lv_lstore (lv' := [(7, .long (lI z16)), (0, .ref (ad 30)), (1, .int (iI x1)), (2, .long (lI x2)), (4, .int (iI x4)), (5, .int (iI x5)), (6, .int (iI x6))]) hx hb d_Mo_isTaken_70 hl (by decide) rfl (fun ls hl => ?_)
      refine lv_lload hx hb d_Mo_isTaken_72 (lv_at hl 0 rfl) ?_
      refine lv_aload_n hx hb d_Mo_isTaken_74 rfl (lv_at hl 1 rfl) ?_
      refine lv_iload hx hb d_Mo_isTaken_75 (lv_at hl 5 rfl) ?_
      refine r_cl (va_runV (As := [.int (iI x5)]) (rest := [.long (lI z16)]) ⟨hx, hb, hml, hown, hts⟩ (ct_Mo_without l D ad cA mo _ _ _ _ _ h) (cwV 1 hts (gV tw_786 tw_788 tw_s_Mo_without tw_8 tw_789) rfl rfl rfl (by decide +kernel) ⟨Nat.le_of_ble_eq_true rfl, Nat.le_of_ble_eq_true rfl⟩) (x_preV hS 30 rfl rfl _) rfl rfl hl.1 rfl (lv_room (Nat.le_of_ble_eq_true rfl)) d_Mo_isTaken_77 ⟨Nat.zero_le _, Nat.zero_le _⟩) hS hA (fun z17 F17 A17 H locs hS h => ?_)
      obtain ⟨rfl, rfl, h⟩ := h
      refine r_lsub hx hb d_Mo_isTaken_80 ?_
      refine r_ldc2 20 hx hb hown (v := 20) (hts _ tw_757) rfl d_Mo_isTaken_81 ?_
      refine lv_iload hx hb d_Mo_isTaken_84 (lv_at hl 5 rfl) ?_
      refine lv_aload_n hx hb d_Mo_isTaken_86 rfl (lv_at hl 1 rfl) ?_
      refine r_getr (t2 := 36) hx hb hts in_Mo hown hS 30 rfl rfl 9 (by decide) rfl (hts _ tw_643) d_Mo_isTaken_87 ?_
      refine lv_iload_n hx hb d_Mo_isTaken_90 rfl (lv_at hl 2 rfl) ?_
      obtain ⟨g18, h⟩ := h
      obtain ⟨g19, h⟩ := h
      refine r_iald (id := 29) (i := x1) (z := A16 29 x1) hx hb hS 36 rfl g18 g19 d_Mo_isTaken_91 rfl ?_
      refine r_ci (va_runS (As := [.int (iI x5), .int (iI (A16 29 x1))]) (rest := [.long (lI 20), .long (lI (z16 - z17))]) ⟨hx, hb, hml, hown, hts⟩ (ct_Mo_far l D ad cA mo _ _ _ _ _ _ h) (cwS 2 hts (gS tw_783 tw_784 tw_8 tw_785) rfl rfl rfl (by decide +kernel) ⟨Nat.le_of_ble_eq_true rfl, Nat.le_of_ble_eq_true rfl⟩) (x_preS hS _) rfl rfl hl.1 rfl (lv_room (Nat.le_of_ble_eq_true rfl)) d_Mo_isTaken_92 ⟨Nat.zero_le _, Nat.zero_le _⟩) hS hA (fun z20 F20 A20 H locs hS h => ?_)
      obtain ⟨rfl, rfl, h⟩ := h
      obtain ⟨g21, h⟩ := h
      refine r_i2l hx hb g21 d_Mo_isTaken_95 ?_
      refine r_lmul hx hb d_Mo_isTaken_96 ?_
      refine r_ladd hx hb d_Mo_isTaken_97 ?_
      refine lv_lstore (lv' := [(9, .long (lI ((z16 - z17) + (20 * z20)))), (7, .long (lI z16)), (0, .ref (ad 30)), (1, .int (iI x1)), (2, .long (lI x2)), (4, .int (iI x4)), (5, .int (iI x5)), (6, .int (iI x6))]) hx hb d_Mo_isTaken_98 hl (by decide) rfl (fun ls hl => ?_)
      refine lv_lload hx hb d_Mo_isTaken_100 (lv_at hl 1 rfl) ?_
      refine r_ldc2 1000000000 hx hb hown (v := 1000000000) (hts _ tw_770) rfl d_Mo_isTaken_102 ?_
      obtain ⟨g22, h⟩ := h
      refine r_lcmp_ge (tgt := 130) hx hb g22 ⟨by omega, by omega⟩ d_Mo_isTaken_105 d_Mo_isTaken_106 (by decide) (fun hc => ?_) (fun hc => ?_)
      · replace h := h.1 hc
        exact s_Mo_isTaken_b130 C0 hA _ _ _ _ _ _ _ hI10 (fun _ _ _ _ _ h => h) h _ _ _ hS (lv_sub hl [2, 3, 4, 5, 6, 7] rfl)
      · replace h := h.2 hc
        refine lv_lload hx hb d_Mo_isTaken_109 (lv_at hl 0 rfl) ?_
        refine lv_lload_n hx hb d_Mo_isTaken_111 rfl (lv_at hl 4 rfl) ?_
        obtain ⟨g23, h⟩ := h
        obtain ⟨g24, h⟩ := h
        refine r_lcmp_ge (tgt := 130) hx hb g23 g24 d_Mo_isTaken_112 d_Mo_isTaken_113 (by decide) (fun hc => ?_) (fun hc => ?_)
        · replace h := h.1 hc
          exact s_Mo_isTaken_b130 C0 hA _ _ _ _ _ _ _ hI10 (fun _ _ _ _ _ h => h) h _ _ _ hS (lv_sub hl [2, 3, 4, 5, 6, 7] rfl)
        · replace h := h.2 hc
          refine lv_lload hx hb d_Mo_isTaken_116 (lv_at hl 0 rfl) ?_
          refine lv_lstore_n (lv' := [(2, .long (lI ((z16 - z17) + (20 * z20)))), (9, .long (lI ((z16 - z17) + (20 * z20)))), (7, .long (lI z16)), (0, .ref (ad 30)), (1, .int (iI x1)), (4, .int (iI x4)), (5, .int (iI x5)), (6, .int (iI x6))]) hx hb d_Mo_isTaken_118 rfl hl (by decide) rfl (fun ls hl => ?_)
          refine r_sipush hx hb d_Mo_isTaken_119 (by decide +kernel) ?_
          refine lv_iload hx hb d_Mo_isTaken_122 (lv_at hl 6 rfl) ?_
          refine r_imul hx hb d_Mo_isTaken_124 ?_
          refine lv_iload hx hb d_Mo_isTaken_125 (lv_at hl 7 rfl) ?_
          refine r_iadd hx hb d_Mo_isTaken_127 ?_
          refine lv_istore (lv' := [(4, .int (iI ((1000 * x5) + x6))), (2, .long (lI ((z16 - z17) + (20 * z20)))), (9, .long (lI ((z16 - z17) + (20 * z20)))), (7, .long (lI z16)), (0, .ref (ad 30)), (1, .int (iI x1)), (5, .int (iI x5)), (6, .int (iI x6))]) hx hb d_Mo_isTaken_128 hl (by decide) rfl (fun ls hl => ?_)
          exact s_Mo_isTaken_b130 C0 hA _ _ _ _ _ _ _ hI10 (fun _ _ _ _ _ h => h) h _ _ _ hS (lv_sub hl [4, 5, 1, 0, 6, 7] rfl)
    · replace h := h.2 hc
      refine lv_goto (tgt := 130) hx hb d_Mo_isTaken_42 (by decide) ?_
      exact s_Mo_isTaken_b130 C0 hA _ _ _ _ _ _ _ hI10 (fun _ _ _ _ _ h => h) h _ _ _ hS (lv_sub hl [0, 1, 2, 3, 4, 5] rfl)
set_option maxHeartbeats 4000000 in
set_option maxRecDepth 100000 in
theorem s_Mo_isTaken_b10 (C0 : x_C p s m args meth c c_Mo_isTaken 11 (some .boolean) gT R_Mo) (hA : ∀ q : Nat, s.heap.size ≤ q → A0 q) {mo : Nat} {Q : Int → (Nat → Int) → (Nat → Int → Int) → Prop} (x1 : Int) (x2 : Int) (x4 : Int) (x5 : Int) (F : Nat → Int) (A : Nat → Int → Int) (h : w_Mo_isTaken_b10 mo Q x1 x2 x4 x5 F A) (H : Heap) (locs : List Loc) (ls : Array Slot) (hS : x_S D vCl shU ad cA (NN mo) A0 s F A H locs) (hl : lv_has ls 11 [(0, .ref (ad 30)), (1, .int (iI x1)), (2, .long (lI x2)), (4, .int (iI x4)), (5, .int (iI x5))]) : W p l e ({ frames := 2, cells := 0, slots := 0, locals := 52 } : Room) s m args below meth c H locs 0 0 (MQ below (x_QI D vCl shU ad cA (NN mo) A0 Q) args s 0 0 A0) (F0 m 10 ls []) := by
  obtain ⟨hx, hb, hr, hml, hown, hts, hlocks⟩ := id C0
  refine h (fun x2 x4 x5 F A => ∀ (H : Heap) (locs : List Loc) (ls : Array Slot), x_S D vCl shU ad cA (NN mo) A0 s F A H locs → lv_has ls 11 [(0, .ref (ad 30)), (1, .int (iI x1)), (2, .long (lI x2)), (4, .int (iI x4)), (5, .int (iI x5))] → W p l e ({ frames := 2, cells := 0, slots := 0, locals := 52 } : Room) s m args below meth c H locs 0 0 (MQ below (x_QI D vCl shU ad cA (NN mo) A0 Q) args s 0 0 A0) (F0 m 10 ls [])) ?_ H locs ls hS hl
  intro x2 x4 x5 F A h H locs ls hS hl
  refine lv_iload hx hb d_Mo_isTaken_10 (lv_at hl 4 rfl) ?_
  refine lv_aload_n hx hb d_Mo_isTaken_12 rfl (lv_at hl 0 rfl) ?_
  refine r_geti (z := F 11) hx hb hts in_Mo hown hS 30 rfl rfl 1 (by decide) rfl (hts _ tw_635) d_Mo_isTaken_13 rfl ?_
  obtain ⟨g25, h⟩ := h
  obtain ⟨g26, h⟩ := h
  refine r_icmp_ge (tgt := 142) hx hb g25 g26 d_Mo_isTaken_16 (by decide) (fun hc => ?_) (fun hc => ?_)
  · replace h := h.1 hc
    refine lv_aload_n hx hb d_Mo_isTaken_142 rfl (lv_at hl 0 rfl) ?_
    refine r_getr (t2 := 42) hx hb hts in_Mo hown hS 30 rfl rfl 16 (by decide) rfl (hts _ tw_650) d_Mo_isTaken_143 ?_
    refine lv_iload_n hx hb d_Mo_isTaken_146 rfl (lv_at hl 1 rfl) ?_
    refine lv_iload hx hb d_Mo_isTaken_147 (lv_at hl 3 rfl) ?_
    obtain ⟨g27, h⟩ := h
    obtain ⟨g28, h⟩ := h
    refine r_iast (id := 35) (i := x1) (v := x4) hx hb hS 42 rfl g27 g28 (seta_35 ad cA mo _ _ _ _) d_Mo_isTaken_149 (fun H locs hS => ?_)
    refine lv_iload hx hb d_Mo_isTaken_150 (lv_at hl 3 rfl) ?_
    refine r_iconst hx hb d_Mo_isTaken_152 ?_
    obtain ⟨g29, h⟩ := h
    refine r_icmp_ne (tgt := 158) hx hb g29 ⟨by omega, by omega⟩ d_Mo_isTaken_153 (by decide) (fun hc => ?_) (fun hc => ?_)
    · replace h := h.1 hc
      refine lv_aload_n hx hb d_Mo_isTaken_158 rfl (lv_at hl 0 rfl) ?_
      refine lv_iload hx hb d_Mo_isTaken_159 (lv_at hl 3 rfl) ?_
      refine r_sipush hx hb d_Mo_isTaken_161 (by decide +kernel) ?_
      obtain ⟨g30, h⟩ := h
      obtain ⟨g31, h⟩ := h
      refine r_irem hx hb 1000 g30 g31 (by decide) (by decide) d_Mo_isTaken_164 ?_
      refine r_puti (j := 17) (v := x4 % 1000) hx hb hts in_Mo t_Mo to_Mo nm_Mo hown hS 30 rfl rfl 20 (by decide) (hts _ tw_654) rfl (by decide +kernel) (setf_17 ad cA mo _ _ _) (by decide) d_Mo_isTaken_165 (fun H locs hS => ?_)
      refine lv_aload_n hx hb d_Mo_isTaken_168 rfl (lv_at hl 0 rfl) ?_
      refine lv_aload_n hx hb d_Mo_isTaken_169 rfl (lv_at hl 0 rfl) ?_
      refine lv_iload hx hb d_Mo_isTaken_170 (lv_at hl 3 rfl) ?_
      refine r_sipush hx hb d_Mo_isTaken_172 (by decide +kernel) ?_
      refine r_idiv hx hb 1000 g30 g31 (by decide) (by decide) d_Mo_isTaken_175 ?_
      refine lv_aload_n hx hb d_Mo_isTaken_176 rfl (lv_at hl 0 rfl) ?_
      refine r_geti (z := x4 % 1000) hx hb hts in_Mo hown hS 30 rfl rfl 20 (by decide) rfl (hts _ tw_654) d_Mo_isTaken_177 rfl ?_
      refine r_ci (va_runV (As := [.int (iI (x4 / 1000)), .int (iI (x4 % 1000))]) (rest := [.ref (ad 30)]) ⟨hx, hb, hml, hown, hts⟩ (ct_Mo_endOf l D ad cA mo _ _ _ _ _ _ h) (cwV 2 hts (gV tw_775 tw_777 tw_s_Mo_endOf tw_8 tw_778) rfl rfl rfl (by decide +kernel) ⟨Nat.le_of_ble_eq_true rfl, Nat.le_of_ble_eq_true rfl⟩) (x_preV hS 30 rfl rfl _) rfl rfl hl.1 rfl (lv_room (Nat.le_of_ble_eq_true rfl)) d_Mo_isTaken_180 ⟨Nat.zero_le _, Nat.zero_le _⟩) hS hA (fun z32 F32 A32 H locs hS h => ?_)
      obtain ⟨rfl, rfl, h⟩ := h
      refine r_puti (j := 18) (v := z32) hx hb hts in_Mo t_Mo to_Mo nm_Mo hown hS 30 rfl rfl 21 (by decide) (hts _ tw_655) rfl (by decide +kernel) (setf_18 ad cA mo _ _ _) (by decide) d_Mo_isTaken_183 (fun H locs hS => ?_)
      refine lv_aload_n hx hb d_Mo_isTaken_186 rfl (lv_at hl 0 rfl) ?_
      refine lv_iload hx hb d_Mo_isTaken_187 (lv_at hl 3 rfl) ?_
      refine r_sipush hx hb d_Mo_isTaken_189 (by decide +kernel) ?_
      refine r_idiv hx hb 1000 g30 g31 (by decide) (by decide) d_Mo_isTaken_192 ?_
      refine lv_iload_n hx hb d_Mo_isTaken_193 rfl (lv_at hl 1 rfl) ?_
      refine r_cl (va_runV (As := [.int (iI (x4 / 1000)), .int (iI x1)]) (rest := []) ⟨hx, hb, hml, hown, hts⟩ (ct_Mo_with l D ad cA mo _ _ _ _ _ _ h) (cwV 2 hts (gV tw_779 tw_781 tw_s_Mo_with tw_8 tw_782) rfl rfl rfl (by decide +kernel) ⟨Nat.le_of_ble_eq_true rfl, Nat.le_of_ble_eq_true rfl⟩) (x_preV hS 30 rfl rfl _) rfl rfl hl.1 rfl (lv_room (Nat.le_of_ble_eq_true rfl)) d_Mo_isTaken_194 ⟨Nat.zero_le _, Nat.zero_le _⟩) hS hA (fun z33 F33 A33 H locs hS h => ?_)
      refine lv_pop2_2 hx hb d_Mo_isTaken_197 rfl ?_
      refine lv_aload_n hx hb d_Mo_isTaken_198 rfl (lv_at hl 0 rfl) ?_
      refine r_geti (z := F33 17) hx hb hts in_Mo hown hS 30 rfl rfl 20 (by decide) rfl (hts _ tw_654) d_Mo_isTaken_199 rfl ?_
      refine lv_istore (lv' := [(5, .int (iI (F33 17))), (0, .ref (ad 30)), (1, .int (iI x1)), (2, .long (lI x2)), (4, .int (iI x4))]) hx hb d_Mo_isTaken_202 hl (by decide) rfl (fun ls hl => ?_)
      exact s_Mo_isTaken_b204 C0 hA _ _ _ _ _ h _ _ _ hS (lv_sub hl [1, 2, 4, 0] rfl)
    · replace h := h.2 hc
      refine r_iconst hx hb d_Mo_isTaken_156 ?_
      exact r_zret (z := 0) hx hb hr hlocks (Or.inl rfl) hS h d_Mo_isTaken_157
  · replace h := h.2 hc
    refine r_iconst hx hb d_Mo_isTaken_19 ?_
    refine lv_istore (lv' := [(6, .int (iI 0)), (0, .ref (ad 30)), (1, .int (iI x1)), (2, .long (lI x2)), (4, .int (iI x4)), (5, .int (iI x5))]) hx hb d_Mo_isTaken_20 hl (by decide) rfl (fun ls hl => ?_)
    exact s_Mo_isTaken_b22 C0 hA _ _ _ _ _ _ _ (fun _ _ _ _ _ h => h) h _ _ _ hS (lv_sub hl [1, 2, 3, 4, 5, 0] rfl)
set_option maxHeartbeats 4000000 in
set_option maxRecDepth 100000 in
theorem ct_Mo_isTaken (l : Launch) (D : va_G) (ad : Nat → Nat) (cA : Nat → ClassId) (mo sz : Nat) (F : Nat → Int) (A : Nat → Int → Int) (x1 : Int) (Q : Int → (Nat → Int) → (Nat → Int → Int) → Prop) (h : w_Mo_isTaken mo F A x1 Q) : Met l y_Mo_isTaken (Cond.code y_Mo_isTaken c_Mo_isTaken 11 (some .boolean) :: gT) ({ frames := 2, cells := 0, slots := 0, locals := 52 } : Room) (va_Pc [.ref (ad 30), .int (iI x1)] (x_P D vCl shU ad cA (NN mo) sz F A)) (x_QI D vCl shU ad cA (NN mo) (va_A (x_w shU ad cA (NN mo) F A) sz) Q) 0 0 (va_A (x_w shU ad cA (NN mo) F A) sz) := by
  refine Met.ofW (cc := c_Mo_isTaken) (maxL := 11) (ret := some .boolean) (by decide) rfl ?_
  intro p e s m args below meth c s₁ B hml hv
  obtain ⟨rfl, hsz, hP, hK, hD0, hN0⟩ := hv
  have hx := B.exec
  have hb := B.bytes
  have hr := B.returns
  have hts0 := atoms_spec (ws := (Cond.code y_Mo_isTaken c_Mo_isTaken 11 (some .boolean) :: gT)) B.pre
  have hts : ∀ w ∈ gT, w.before _ s = true := fun w h => hts0 w (List.mem_cons_of_mem _ h)
  have hown : s.vm.findClass R_Mo = some m.cls := findClass_of_methodNamed B.named
  have hlocks := B.notSynchronized
  subst hsz
  have hS : x_S D vCl shU ad cA (NN mo) (va_A (x_w shU ad cA (NN mo) F A) s.heap.size) s F A s.heap [] := ⟨hK, hP, hD0.self, va_S.rf, hN0⟩
  have hA : ∀ q : Nat, s.heap.size ≤ q → va_A (x_w shU ad cA (NN mo) F A) s.heap.size q := fun q h => Or.inr h
  have C0 : x_C p s m [.ref (ad 30), .int (iI x1)].toArray meth c c_Mo_isTaken 11 (some .boolean) gT R_Mo := ⟨hx, hb, hr, hml, hown, hts, hlocks⟩
  generalize va_A (x_w shU ad cA (NN mo) F A) s.heap.size = A0 at hS hA ⊢
  have hl := lv_entry [.ref (ad 30), .int (iI x1)] (n := 11) (Nat.le_of_ble_eq_true rfl)
  rw [lg_entry_eq]
  generalize (lg_sl [.ref (ad 30), .int (iI x1)] ++ List.replicate (11 - (lg_sl [.ref (ad 30), .int (iI x1)]).length) Slot.unset).toArray = ls at hl ⊢
  have hl : lv_has ls 11 [(0, .ref (ad 30)), (1, .int (iI x1))] := hl
  refine r_ldc2 1000000000 hx hb hown (v := 1000000000) (hts _ tw_770) rfl d_Mo_isTaken_0 ?_
  refine lv_lstore_n (lv' := [(2, .long (lI 1000000000)), (0, .ref (ad 30)), (1, .int (iI x1))]) hx hb d_Mo_isTaken_3 rfl hl (by decide) rfl (fun ls hl => ?_)
  refine r_iconst hx hb d_Mo_isTaken_4 ?_
  refine lv_istore (lv' := [(4, .int (iI (-1))), (2, .long (lI 1000000000)), (0, .ref (ad 30)), (1, .int (iI x1))]) hx hb d_Mo_isTaken_5 hl (by decide) rfl (fun ls hl => ?_)
  refine r_iconst hx hb d_Mo_isTaken_7 ?_
  refine lv_istore (lv' := [(5, .int (iI 0)), (4, .int (iI (-1))), (2, .long (lI 1000000000)), (0, .ref (ad 30)), (1, .int (iI x1))]) hx hb d_Mo_isTaken_8 hl (by decide) rfl (fun ls hl => ?_)
  exact s_Mo_isTaken_b10 C0 hA _ _ _ _ _ _ h _ _ _ hS (lv_sub hl [3, 4, 2, 1, 0] rfl)
/-! Mo_run -/
def w_Mo_run_b148 (mo : Nat) (Q : Int → (Nat → Int) → (Nat → Int → Int) → Prop) (I95 : Int → (Nat → Int) → (Nat → Int → Int) → Prop) (I105 : Int → (Nat → Int) → (Nat → Int → Int) → Prop) (x1 : Int) (x2 : Int) (F : Nat → Int) (A : Nat → Int → Int) : Prop := I105 (x2 + 1) F A
def w_Mo_run_b105 (mo : Nat) (Q : Int → (Nat → Int) → (Nat → Int → Int) → Prop) (I95 : Int → (Nat → Int) → (Nat → Int → Int) → Prop) (x1 : Int) (x2 : Int) (F : Nat → Int) (A : Nat → Int → Int) : Prop := Lp3 (fun I105 x2 F A => rg x2 ∧ rg (F 12) ∧ (((F 12) ≤ x2 → I95 (x1 + 1) F A) ∧ (¬ (F 12) ≤ x2 → w_Mo_isBegin mo F A x1 x2 (fun z3 => rg z3 ∧ ((z3 = 0 → w_Mo_run_b148 mo Q I95 I105 x1 x2 F A) ∧ (¬ z3 = 0 → w_Mo_endOf mo (uf F 17 x2) A x1 x2 (fun z5 => w_Mo_gather mo (uf (uf F 17 x2) 18 z5) A x1 x2 (fun F6 A6 => w_Mo_settle mo F6 A6 x1 (fun F7 A7 => w_Mo_run_b148 mo Q I95 I105 x1 x2 F7 A7))))))))) x2 F A
def w_Mo_run_b95 (mo : Nat) (Q : Int → (Nat → Int) → (Nat → Int → Int) → Prop) (x1 : Int) (F : Nat → Int) (A : Nat → Int → Int) : Prop := Lp3 (fun I95 x1 F A => rg x1 ∧ rg (F 11) ∧ (((F 11) ≤ x1 → Q 0 (uf F 15 1) A) ∧ (¬ (F 11) ≤ x1 → w_Mo_run_b105 mo Q I95 x1 0 F A))) x1 F A
def w_Mo_run_b41 (mo : Nat) (Q : Int → (Nat → Int) → (Nat → Int → Int) → Prop) (F : Nat → Int) (A : Nat → Int → Int) : Prop := Lp2 (fun I41 F A => rg (F 19) ∧ rg (F 13) ∧ (((F 13) ≤ (F 19) → w_Mo_run_b95 mo Q 0 F A) ∧ (¬ (F 13) ≤ (F 19) → 0 ≤ (F 19) ∧ (F 19) < 60 ∧ w_Mo_isTaken mo F A (A 38 (F 19)) (fun z14 F14 A14 => rg z14 ∧ ((¬ z14 = 0 → I41 (uf F14 19 ((F14 19) + 1)) A14) ∧ (z14 = 0 → 0 ≤ (F14 19) ∧ (F14 19) < 60 ∧ Q (1 + (A14 38 (F14 19))) F14 A14)))))) F A
def w_Mo_run_b16 (mo : Nat) (Q : Int → (Nat → Int) → (Nat → Int → Int) → Prop) (x1 : Int) (F : Nat → Int) (A : Nat → Int → Int) : Prop := Lp3 (fun I16 x1 F A => rg x1 ∧ ((16000 ≤ x1 → w_Mo_run_b41 mo Q (uf F 19 0) A) ∧ (¬ 16000 ≤ x1 → 0 ≤ x1 ∧ x1 < 16000 ∧ I16 (x1 + 1) F (ua A 40 x1 (-1))))) x1 F A
def w_Mo_run (mo : Nat) (F : Nat → Int) (A : Nat → Int → Int)  (Q : Int → (Nat → Int) → (Nat → Int → Int) → Prop) : Prop := w_Mo_sort mo (uf (uf F 10 0) 15 0) A (fun F21 A21 => w_Mo_run_b16 mo Q 0 F21 A21)
set_option maxHeartbeats 4000000 in
set_option maxRecDepth 100000 in
theorem s_Mo_run_b148 (C0 : x_C p s m args meth c c_Mo_run 3 (some .int) gT R_Mo) (hA : ∀ q : Nat, s.heap.size ≤ q → A0 q) {mo : Nat} {Q : Int → (Nat → Int) → (Nat → Int → Int) → Prop} {I95 : Int → (Nat → Int) → (Nat → Int → Int) → Prop} {I105 : Int → (Nat → Int) → (Nat → Int → Int) → Prop} (x1 : Int) (x2 : Int) (F : Nat → Int) (A : Nat → Int → Int) (hI95 : ∀ (x1 : Int) (F : Nat → Int) (A : Nat → Int → Int), I95 x1 F A → ∀ (H : Heap) (locs : List Loc) (ls : Array Slot), x_S D vCl shU ad cA (NN mo) A0 s F A H locs → lv_has ls 3 [(0, .ref (ad 30)), (1, .int (iI x1))] → W p l e ({ frames := 4, cells := 0, slots := 0, locals := 99 } : Room) s m args below meth c H locs 0 0 (MQ below (x_QI D vCl shU ad cA (NN mo) A0 Q) args s 0 0 A0) (F0 m 95 ls [])) (hI105 : ∀ (x2 : Int) (F : Nat → Int) (A : Nat → Int → Int), I105 x2 F A → ∀ (H : Heap) (locs : List Loc) (ls : Array Slot), x_S D vCl shU ad cA (NN mo) A0 s F A H locs → lv_has ls 3 [(0, .ref (ad 30)), (1, .int (iI x1)), (2, .int (iI x2))] → W p l e ({ frames := 4, cells := 0, slots := 0, locals := 99 } : Room) s m args below meth c H locs 0 0 (MQ below (x_QI D vCl shU ad cA (NN mo) A0 Q) args s 0 0 A0) (F0 m 105 ls [])) (h : w_Mo_run_b148 mo Q I95 I105 x1 x2 F A) (H : Heap) (locs : List Loc) (ls : Array Slot) (hS : x_S D vCl shU ad cA (NN mo) A0 s F A H locs) (hl : lv_has ls 3 [(0, .ref (ad 30)), (1, .int (iI x1)), (2, .int (iI x2))]) : W p l e ({ frames := 4, cells := 0, slots := 0, locals := 99 } : Room) s m args below meth c H locs 0 0 (MQ below (x_QI D vCl shU ad cA (NN mo) A0 Q) args s 0 0 A0) (F0 m 148 ls []) := by
  obtain ⟨hx, hb, hr, hml, hown, hts, hlocks⟩ := id C0
  refine r_iinc (k := 2) (z := x2) (lv' := [(2, .int (iI (x2 + 1))), (0, .ref (ad 30)), (1, .int (iI x1))]) hx hb d_Mo_run_148 hl rfl (by decide) rfl (fun ls hl => ?_)
  refine lv_goto (tgt := 105) hx hb d_Mo_run_151 (by decide) ?_
  exact hI105 _ _ _ h _ _ _ hS (lv_sub hl [1, 2, 0] rfl)
set_option maxHeartbeats 4000000 in
set_option maxRecDepth 100000 in
theorem s_Mo_run_b105 (C0 : x_C p s m args meth c c_Mo_run 3 (some .int) gT R_Mo) (hA : ∀ q : Nat, s.heap.size ≤ q → A0 q) {mo : Nat} {Q : Int → (Nat → Int) → (Nat → Int → Int) → Prop} {I95 : Int → (Nat → Int) → (Nat → Int → Int) → Prop} (x1 : Int) (x2 : Int) (F : Nat → Int) (A : Nat → Int → Int) (hI95 : ∀ (x1 : Int) (F : Nat → Int) (A : Nat → Int → Int), I95 x1 F A → ∀ (H : Heap) (locs : List Loc) (ls : Array Slot), x_S D vCl shU ad cA (NN mo) A0 s F A H locs → lv_has ls 3 [(0, .ref (ad 30)), (1, .int (iI x1))] → W p l e ({ frames := 4, cells := 0, slots := 0, locals := 99 } : Room) s m args below meth c H locs 0 0 (MQ below (x_QI D vCl shU ad cA (NN mo) A0 Q) args s 0 0 A0) (F0 m 95 ls [])) (h : w_Mo_run_b105 mo Q I95 x1 x2 F A) (H : Heap) (locs : List Loc) (ls : Array Slot) (hS : x_S D vCl shU ad cA (NN mo) A0 s F A H locs) (hl : lv_has ls 3 [(0, .ref (ad 30)), (1, .int (iI x1)), (2, .int (iI x2))]) : W p l e ({ frames := 4, cells := 0, slots := 0, locals := 99 } : Room) s m args below meth c H locs 0 0 (MQ below (x_QI D vCl shU ad cA (NN mo) A0 Q) args s 0 0 A0) (F0 m 105 ls []) := by
  obtain ⟨hx, hb, hr, hml, hown, hts, hlocks⟩ := id C0
  refine h (fun x2 F A => ∀ (H : Heap) (locs : List Loc) (ls : Array Slot), x_S D vCl shU ad cA (NN mo) A0 s F A H locs → lv_has ls 3 [(0, .ref (ad 30)), (1, .int (iI x1)), (2, .int (iI x2))] → W p l e ({ frames := 4, cells := 0, slots := 0, locals := 99 } : Room) s m args below meth c H locs 0 0 (MQ below (x_QI D vCl shU ad cA (NN mo) A0 Q) args s 0 0 A0) (F0 m 105 ls [])) ?_ H locs ls hS hl
  intro x2 F A h H locs ls hS hl
  refine lv_iload_n hx hb d_Mo_run_105 rfl (lv_at hl 2 rfl) ?_
  refine lv_aload_n hx hb d_Mo_run_106 rfl (lv_at hl 0 rfl) ?_
  refine r_geti (z := F 12) hx hb hts in_Mo hown hS 30 rfl rfl 2 (by decide) rfl (hts _ tw_636) d_Mo_run_107 rfl ?_
  obtain ⟨g1, h⟩ := h
  obtain ⟨g2, h⟩ := h
  refine r_icmp_ge (tgt := 154) hx hb g1 g2 d_Mo_run_110 (by decide) (fun hc => ?_) (fun hc => ?_)
  · replace h := h.1 hc
    refine r_iinc (k := 1) (z := x1) (lv' := [(1, .int (iI (x1 + 1))), (0, .ref (ad 30)), (2, .int (iI x2))]) hx hb d_Mo_run_154 hl rfl (by decide) rfl (fun ls hl => ?_)
    refine lv_goto (tgt := 95) hx hb d_Mo_run_157 (by decide) ?_
    exact hI95 _ _ _ h _ _ _ hS (lv_sub hl [1, 0] rfl)
  · replace h := h.2 hc
    refine lv_aload_n hx hb d_Mo_run_113 rfl (lv_at hl 0 rfl) ?_
    refine lv_iload_n hx hb d_Mo_run_114 rfl (lv_at hl 1 rfl) ?_
    refine lv_iload_n hx hb d_Mo_run_115 rfl (lv_at hl 2 rfl) ?_
    refine r_ci (va_runV (As := [.int (iI x1), .int (iI x2)]) (rest := []) ⟨hx, hb, hml, hown, hts⟩ (ct_Mo_isBegin l D ad cA mo _ _ _ _ _ _ h) (cwV 2 hts (gV tw_771 tw_773 tw_s_Mo_isBegin tw_8 tw_774) rfl rfl rfl (by decide +kernel) ⟨Nat.le_of_ble_eq_true rfl, Nat.le_of_ble_eq_true rfl⟩) (x_preV hS 30 rfl rfl _) rfl rfl hl.1 rfl (lv_room (Nat.le_of_ble_eq_true rfl)) d_Mo_run_116 ⟨Nat.zero_le _, Nat.zero_le _⟩) hS hA (fun z3 F3 A3 H locs hS h => ?_)
    obtain ⟨rfl, rfl, h⟩ := h
    obtain ⟨g4, h⟩ := h
    refine r_if_eq (tgt := 148) hx hb g4 d_Mo_run_119 (by decide) (fun hc => ?_) (fun hc => ?_)
    · replace h := h.1 hc
      exact s_Mo_run_b148 C0 hA _ _ _ _ hI95 (fun _ _ _ h => h) h _ _ _ hS (lv_sub hl [0, 1, 2] rfl)
    · replace h := h.2 hc
      refine lv_aload_n hx hb d_Mo_run_122 rfl (lv_at hl 0 rfl) ?_
      refine lv_iload_n hx hb d_Mo_run_123 rfl (lv_at hl 2 rfl) ?_
      refine r_puti (j := 17) (v := x2) hx hb hts in_Mo t_Mo to_Mo nm_Mo hown hS 30 rfl rfl 20 (by decide) (hts _ tw_654) rfl (by decide +kernel) (setf_17 ad cA mo _ _ _) (by decide) d_Mo_run_124 (fun H locs hS => ?_)
      refine lv_aload_n hx hb d_Mo_run_127 rfl (lv_at hl 0 rfl) ?_
      refine lv_aload_n hx hb d_Mo_run_128 rfl (lv_at hl 0 rfl) ?_
      refine lv_iload_n hx hb d_Mo_run_129 rfl (lv_at hl 1 rfl) ?_
      refine lv_iload_n hx hb d_Mo_run_130 rfl (lv_at hl 2 rfl) ?_
      refine r_ci (va_runV (As := [.int (iI x1), .int (iI x2)]) (rest := [.ref (ad 30)]) ⟨hx, hb, hml, hown, hts⟩ (ct_Mo_endOf l D ad cA mo _ _ _ _ _ _ h) (cwV 2 hts (gV tw_775 tw_777 tw_s_Mo_endOf tw_8 tw_778) rfl rfl rfl (by decide +kernel) ⟨Nat.le_of_ble_eq_true rfl, Nat.le_of_ble_eq_true rfl⟩) (x_preV hS 30 rfl rfl _) rfl rfl hl.1 rfl (lv_room (Nat.le_of_ble_eq_true rfl)) d_Mo_run_131 ⟨Nat.zero_le _, Nat.zero_le _⟩) hS hA (fun z5 F5 A5 H locs hS h => ?_)
      obtain ⟨rfl, rfl, h⟩ := h
      refine r_puti (j := 18) (v := z5) hx hb hts in_Mo t_Mo to_Mo nm_Mo hown hS 30 rfl rfl 21 (by decide) (hts _ tw_655) rfl (by decide +kernel) (setf_18 ad cA mo _ _ _) (by decide) d_Mo_run_134 (fun H locs hS => ?_)
      refine lv_aload_n hx hb d_Mo_run_137 rfl (lv_at hl 0 rfl) ?_
      refine lv_iload_n hx hb d_Mo_run_138 rfl (lv_at hl 1 rfl) ?_
      refine lv_iload_n hx hb d_Mo_run_139 rfl (lv_at hl 2 rfl) ?_
      refine r_cv (va_runV (As := [.int (iI x1), .int (iI x2)]) (rest := []) ⟨hx, hb, hml, hown, hts⟩ (ct_Mo_gather l D ad cA mo _ _ _ _ _ _ h) (cwV 2 hts (gV tw_790 tw_792 tw_s_Mo_gather tw_8 tw_793) rfl rfl rfl (by decide +kernel) ⟨Nat.le_of_ble_eq_true rfl, Nat.le_of_ble_eq_true rfl⟩) (x_preV hS 30 rfl rfl _) rfl rfl hl.1 rfl (lv_room (Nat.le_of_ble_eq_true rfl)) d_Mo_run_140 ⟨Nat.zero_le _, Nat.zero_le _⟩) hS hA (fun F6 A6 H locs hS h => ?_)
      refine lv_aload_n hx hb d_Mo_run_143 rfl (lv_at hl 0 rfl) ?_
      refine lv_iload_n hx hb d_Mo_run_144 rfl (lv_at hl 1 rfl) ?_
      refine r_cv (va_runV (As := [.int (iI x1)]) (rest := []) ⟨hx, hb, hml, hown, hts⟩ (ct_Mo_settle l D ad cA mo _ _ _ _ _ h) (cwV 1 hts (gV tw_794 tw_796 tw_s_Mo_settle tw_8 tw_797) rfl rfl rfl (by decide +kernel) ⟨Nat.le_of_ble_eq_true rfl, Nat.le_of_ble_eq_true rfl⟩) (x_preV hS 30 rfl rfl _) rfl rfl hl.1 rfl (lv_room (Nat.le_of_ble_eq_true rfl)) d_Mo_run_145 ⟨Nat.zero_le _, Nat.zero_le _⟩) hS hA (fun F7 A7 H locs hS h => ?_)
      exact s_Mo_run_b148 C0 hA _ _ _ _ hI95 (fun _ _ _ h => h) h _ _ _ hS (lv_sub hl [0, 1, 2] rfl)
set_option maxHeartbeats 4000000 in
set_option maxRecDepth 100000 in
theorem s_Mo_run_b95 (C0 : x_C p s m args meth c c_Mo_run 3 (some .int) gT R_Mo) (hA : ∀ q : Nat, s.heap.size ≤ q → A0 q) {mo : Nat} {Q : Int → (Nat → Int) → (Nat → Int → Int) → Prop} (x1 : Int) (F : Nat → Int) (A : Nat → Int → Int) (h : w_Mo_run_b95 mo Q x1 F A) (H : Heap) (locs : List Loc) (ls : Array Slot) (hS : x_S D vCl shU ad cA (NN mo) A0 s F A H locs) (hl : lv_has ls 3 [(0, .ref (ad 30)), (1, .int (iI x1))]) : W p l e ({ frames := 4, cells := 0, slots := 0, locals := 99 } : Room) s m args below meth c H locs 0 0 (MQ below (x_QI D vCl shU ad cA (NN mo) A0 Q) args s 0 0 A0) (F0 m 95 ls []) := by
  obtain ⟨hx, hb, hr, hml, hown, hts, hlocks⟩ := id C0
  refine h (fun x1 F A => ∀ (H : Heap) (locs : List Loc) (ls : Array Slot), x_S D vCl shU ad cA (NN mo) A0 s F A H locs → lv_has ls 3 [(0, .ref (ad 30)), (1, .int (iI x1))] → W p l e ({ frames := 4, cells := 0, slots := 0, locals := 99 } : Room) s m args below meth c H locs 0 0 (MQ below (x_QI D vCl shU ad cA (NN mo) A0 Q) args s 0 0 A0) (F0 m 95 ls [])) ?_ H locs ls hS hl
  intro x1 F A h H locs ls hS hl
  refine lv_iload_n hx hb d_Mo_run_95 rfl (lv_at hl 1 rfl) ?_
  refine lv_aload_n hx hb d_Mo_run_96 rfl (lv_at hl 0 rfl) ?_
  refine r_geti (z := F 11) hx hb hts in_Mo hown hS 30 rfl rfl 1 (by decide) rfl (hts _ tw_635) d_Mo_run_97 rfl ?_
  obtain ⟨g8, h⟩ := h
  obtain ⟨g9, h⟩ := h
  refine r_icmp_ge (tgt := 160) hx hb g8 g9 d_Mo_run_100 (by decide) (fun hc => ?_) (fun hc => ?_)
  · replace h := h.1 hc
    refine lv_aload_n hx hb d_Mo_run_160 rfl (lv_at hl 0 rfl) ?_
    refine r_iconst hx hb d_Mo_run_161 ?_
    refine r_putz (j := 15) (v := 1) hx hb hts in_Mo t_Mo to_Mo nm_Mo hown hS 30 rfl rfl 17 (by decide) (hts _ tw_651) rfl (by decide +kernel) (Or.inr rfl) (setf_15 ad cA mo _ _ _) (by decide) d_Mo_run_162 (fun H locs hS => ?_)
    refine r_iconst hx hb d_Mo_run_165 ?_
    exact r_iret (z := 0) hx hb hr hlocks hS h d_Mo_run_166
  · replace h := h.2 hc
    refine r_iconst hx hb d_Mo_run_103 ?_
    refine lv_istore_n (lv' := [(2, .int (iI 0)), (0, .ref (ad 30)), (1, .int (iI x1))]) hx hb d_Mo_run_104 rfl hl (by decide) rfl (fun ls hl => ?_)
    exact s_Mo_run_b105 C0 hA _ _ _ _ (fun _ _ _ h => h) h _ _ _ hS (lv_sub hl [1, 2, 0] rfl)
set_option maxHeartbeats 4000000 in
set_option maxRecDepth 100000 in
theorem s_Mo_run_b41 (C0 : x_C p s m args meth c c_Mo_run 3 (some .int) gT R_Mo) (hA : ∀ q : Nat, s.heap.size ≤ q → A0 q) {mo : Nat} {Q : Int → (Nat → Int) → (Nat → Int → Int) → Prop} (F : Nat → Int) (A : Nat → Int → Int) (h : w_Mo_run_b41 mo Q F A) (H : Heap) (locs : List Loc) (ls : Array Slot) (hS : x_S D vCl shU ad cA (NN mo) A0 s F A H locs) (hl : lv_has ls 3 [(0, .ref (ad 30))]) : W p l e ({ frames := 4, cells := 0, slots := 0, locals := 99 } : Room) s m args below meth c H locs 0 0 (MQ below (x_QI D vCl shU ad cA (NN mo) A0 Q) args s 0 0 A0) (F0 m 41 ls []) := by
  obtain ⟨hx, hb, hr, hml, hown, hts, hlocks⟩ := id C0
  refine h (fun F A => ∀ (H : Heap) (locs : List Loc) (ls : Array Slot), x_S D vCl shU ad cA (NN mo) A0 s F A H locs → lv_has ls 3 [(0, .ref (ad 30))] → W p l e ({ frames := 4, cells := 0, slots := 0, locals := 99 } : Room) s m args below meth c H locs 0 0 (MQ below (x_QI D vCl shU ad cA (NN mo) A0 Q) args s 0 0 A0) (F0 m 41 ls [])) ?_ H locs ls hS hl
  intro F A h H locs ls hS hl
  refine lv_aload_n hx hb d_Mo_run_41 rfl (lv_at hl 0 rfl) ?_
  refine r_geti (z := F 19) hx hb hts in_Mo hown hS 30 rfl rfl 24 (by decide) rfl (hts _ tw_658) d_Mo_run_42 rfl ?_
  refine lv_aload_n hx hb d_Mo_run_45 rfl (lv_at hl 0 rfl) ?_
  refine r_geti (z := F 13) hx hb hts in_Mo hown hS 30 rfl rfl 4 (by decide) rfl (hts _ tw_638) d_Mo_run_46 rfl ?_
  obtain ⟨g10, h⟩ := h
  obtain ⟨g11, h⟩ := h
  refine r_icmp_ge (tgt := 93) hx hb g10 g11 d_Mo_run_49 (by decide) (fun hc => ?_) (fun hc => ?_)
  · replace h := h.1 hc
    refine r_iconst hx hb d_Mo_run_93 ?_
    refine lv_istore_n (lv' := [(1, .int (iI 0)), (0, .ref (ad 30))]) hx hb d_Mo_run_94 rfl hl (by decide) rfl (fun ls hl => ?_)
    exact s_Mo_run_b95 C0 hA _ _ _ h _ _ _ hS (lv_sub hl [1, 0] rfl)
  · replace h := h.2 hc
    refine lv_aload_n hx hb d_Mo_run_52 rfl (lv_at hl 0 rfl) ?_
    refine lv_aload_n hx hb d_Mo_run_53 rfl (lv_at hl 0 rfl) ?_
    refine r_getr (t2 := 45) hx hb hts in_Mo hown hS 30 rfl rfl 23 (by decide) rfl (hts _ tw_657) d_Mo_run_54 ?_
    refine lv_aload_n hx hb d_Mo_run_57 rfl (lv_at hl 0 rfl) ?_
    refine r_geti (z := F 19) hx hb hts in_Mo hown hS 30 rfl rfl 24 (by decide) rfl (hts _ tw_658) d_Mo_run_58 rfl ?_
    obtain ⟨g12, h⟩ := h
    obtain ⟨g13, h⟩ := h
    refine r_iald (id := 38) (i := (F 19)) (z := A 38 (F 19)) hx hb hS 45 rfl g12 g13 d_Mo_run_61 rfl ?_
    refine r_ci (va_runV (As := [.int (iI (A 38 (F 19)))]) (rest := []) ⟨hx, hb, hml, hown, hts⟩ (ct_Mo_isTaken l D ad cA mo _ _ _ _ _ h) (cwV 1 hts (gV tw_766 tw_768 tw_s_Mo_isTaken tw_8 tw_769) rfl rfl rfl (by decide +kernel) ⟨Nat.le_of_ble_eq_true rfl, Nat.le_of_ble_eq_true rfl⟩) (x_preV hS 30 rfl rfl _) rfl rfl hl.1 rfl (lv_room (Nat.le_of_ble_eq_true rfl)) d_Mo_run_62 ⟨Nat.zero_le _, Nat.zero_le _⟩) hS hA (fun z14 F14 A14 H locs hS h => ?_)
    obtain ⟨g15, h⟩ := h
    refine r_if_ne (tgt := 80) hx hb g15 d_Mo_run_65 (by decide) (fun hc => ?_) (fun hc => ?_)
    · replace h := h.1 hc
      refine lv_aload_n hx hb d_Mo_run_80 rfl (lv_at hl 0 rfl) ?_
      refine lv_dup hx hb d_Mo_run_81 rfl ?_
      refine r_geti (z := F14 19) hx hb hts in_Mo hown hS 30 rfl rfl 24 (by decide) rfl (hts _ tw_658) d_Mo_run_82 rfl ?_
      refine r_iconst hx hb d_Mo_run_85 ?_
      refine r_iadd hx hb d_Mo_run_86 ?_
      refine r_puti (j := 19) (v := (F14 19) + 1) hx hb hts in_Mo t_Mo to_Mo nm_Mo hown hS 30 rfl rfl 24 (by decide) (hts _ tw_658) rfl (by decide +kernel) (setf_19 ad cA mo _ _ _) (by decide) d_Mo_run_87 (fun H locs hS => ?_)
      refine lv_goto (tgt := 41) hx hb d_Mo_run_90 (by decide) ?_
      exact h _ _ _ hS (lv_sub hl [0] rfl)
    · replace h := h.2 hc
      refine r_iconst hx hb d_Mo_run_68 ?_
      refine lv_aload_n hx hb d_Mo_run_69 rfl (lv_at hl 0 rfl) ?_
      refine r_getr (t2 := 45) hx hb hts in_Mo hown hS 30 rfl rfl 23 (by decide) rfl (hts _ tw_657) d_Mo_run_70 ?_
      refine lv_aload_n hx hb d_Mo_run_73 rfl (lv_at hl 0 rfl) ?_
      refine r_geti (z := F14 19) hx hb hts in_Mo hown hS 30 rfl rfl 24 (by decide) rfl (hts _ tw_658) d_Mo_run_74 rfl ?_
      obtain ⟨g16, h⟩ := h
      obtain ⟨g17, h⟩ := h
      refine r_iald (id := 38) (i := (F14 19)) (z := A14 38 (F14 19)) hx hb hS 45 rfl g16 g17 d_Mo_run_77 rfl ?_
      refine r_iadd hx hb d_Mo_run_78 ?_
      exact r_iret (z := (1 + (A14 38 (F14 19)))) hx hb hr hlocks hS h d_Mo_run_79
set_option maxHeartbeats 4000000 in
set_option maxRecDepth 100000 in
theorem s_Mo_run_b16 (C0 : x_C p s m args meth c c_Mo_run 3 (some .int) gT R_Mo) (hA : ∀ q : Nat, s.heap.size ≤ q → A0 q) {mo : Nat} {Q : Int → (Nat → Int) → (Nat → Int → Int) → Prop} (x1 : Int) (F : Nat → Int) (A : Nat → Int → Int) (h : w_Mo_run_b16 mo Q x1 F A) (H : Heap) (locs : List Loc) (ls : Array Slot) (hS : x_S D vCl shU ad cA (NN mo) A0 s F A H locs) (hl : lv_has ls 3 [(0, .ref (ad 30)), (1, .int (iI x1))]) : W p l e ({ frames := 4, cells := 0, slots := 0, locals := 99 } : Room) s m args below meth c H locs 0 0 (MQ below (x_QI D vCl shU ad cA (NN mo) A0 Q) args s 0 0 A0) (F0 m 16 ls []) := by
  obtain ⟨hx, hb, hr, hml, hown, hts, hlocks⟩ := id C0
  refine h (fun x1 F A => ∀ (H : Heap) (locs : List Loc) (ls : Array Slot), x_S D vCl shU ad cA (NN mo) A0 s F A H locs → lv_has ls 3 [(0, .ref (ad 30)), (1, .int (iI x1))] → W p l e ({ frames := 4, cells := 0, slots := 0, locals := 99 } : Room) s m args below meth c H locs 0 0 (MQ below (x_QI D vCl shU ad cA (NN mo) A0 Q) args s 0 0 A0) (F0 m 16 ls [])) ?_ H locs ls hS hl
  intro x1 F A h H locs ls hS hl
  refine lv_iload_n hx hb d_Mo_run_16 rfl (lv_at hl 1 rfl) ?_
  refine r_sipush hx hb d_Mo_run_17 (by decide +kernel) ?_
  obtain ⟨g18, h⟩ := h
  refine r_icmp_ge (tgt := 36) hx hb g18 ⟨by omega, by omega⟩ d_Mo_run_20 (by decide) (fun hc => ?_) (fun hc => ?_)
  · replace h := h.1 hc
    refine lv_aload_n hx hb d_Mo_run_36 rfl (lv_at hl 0 rfl) ?_
    refine r_iconst hx hb d_Mo_run_37 ?_
    refine r_puti (j := 19) (v := 0) hx hb hts in_Mo t_Mo to_Mo nm_Mo hown hS 30 rfl rfl 24 (by decide) (hts _ tw_658) rfl (by decide +kernel) (setf_19 ad cA mo _ _ _) (by decide) d_Mo_run_38 (fun H locs hS => ?_)
    exact s_Mo_run_b41 C0 hA _ _ h _ _ _ hS (lv_sub hl [0] rfl)
  · replace h := h.2 hc
    refine lv_aload_n hx hb d_Mo_run_23 rfl (lv_at hl 0 rfl) ?_
    refine r_getr (t2 := 47) hx hb hts in_Mo hown hS 30 rfl rfl 26 (by decide) rfl (hts _ tw_660) d_Mo_run_24 ?_
    refine lv_iload_n hx hb d_Mo_run_27 rfl (lv_at hl 1 rfl) ?_
    refine r_iconst hx hb d_Mo_run_28 ?_
    obtain ⟨g19, h⟩ := h
    obtain ⟨g20, h⟩ := h
    refine r_iast (id := 40) (i := x1) (v := (-1)) hx hb hS 47 rfl g19 g20 (seta_40 ad cA mo _ _ _ _) d_Mo_run_29 (fun H locs hS => ?_)
    refine r_iinc (k := 1) (z := x1) (lv' := [(1, .int (iI (x1 + 1))), (0, .ref (ad 30))]) hx hb d_Mo_run_30 hl rfl (by decide) rfl (fun ls hl => ?_)
    refine lv_goto (tgt := 16) hx hb d_Mo_run_33 (by decide) ?_
    exact h _ _ _ hS (lv_sub hl [1, 0] rfl)
set_option maxHeartbeats 4000000 in
set_option maxRecDepth 100000 in
theorem ct_Mo_run (l : Launch) (D : va_G) (ad : Nat → Nat) (cA : Nat → ClassId) (mo sz : Nat) (F : Nat → Int) (A : Nat → Int → Int)  (Q : Int → (Nat → Int) → (Nat → Int → Int) → Prop) (h : w_Mo_run mo F A  Q) : Met l y_Mo_run (Cond.code y_Mo_run c_Mo_run 3 (some .int) :: gT) ({ frames := 4, cells := 0, slots := 0, locals := 99 } : Room) (va_Pc [.ref (ad 30)] (x_P D vCl shU ad cA (NN mo) sz F A)) (x_QI D vCl shU ad cA (NN mo) (va_A (x_w shU ad cA (NN mo) F A) sz) Q) 0 0 (va_A (x_w shU ad cA (NN mo) F A) sz) := by
  refine Met.ofW (cc := c_Mo_run) (maxL := 3) (ret := some .int) (by decide) rfl ?_
  intro p e s m args below meth c s₁ B hml hv
  obtain ⟨rfl, hsz, hP, hK, hD0, hN0⟩ := hv
  have hx := B.exec
  have hb := B.bytes
  have hr := B.returns
  have hts0 := atoms_spec (ws := (Cond.code y_Mo_run c_Mo_run 3 (some .int) :: gT)) B.pre
  have hts : ∀ w ∈ gT, w.before _ s = true := fun w h => hts0 w (List.mem_cons_of_mem _ h)
  have hown : s.vm.findClass R_Mo = some m.cls := findClass_of_methodNamed B.named
  have hlocks := B.notSynchronized
  subst hsz
  have hS : x_S D vCl shU ad cA (NN mo) (va_A (x_w shU ad cA (NN mo) F A) s.heap.size) s F A s.heap [] := ⟨hK, hP, hD0.self, va_S.rf, hN0⟩
  have hA : ∀ q : Nat, s.heap.size ≤ q → va_A (x_w shU ad cA (NN mo) F A) s.heap.size q := fun q h => Or.inr h
  have C0 : x_C p s m [.ref (ad 30)].toArray meth c c_Mo_run 3 (some .int) gT R_Mo := ⟨hx, hb, hr, hml, hown, hts, hlocks⟩
  generalize va_A (x_w shU ad cA (NN mo) F A) s.heap.size = A0 at hS hA ⊢
  have hl := lv_entry [.ref (ad 30)] (n := 3) (Nat.le_of_ble_eq_true rfl)
  rw [lg_entry_eq]
  generalize (lg_sl [.ref (ad 30)] ++ List.replicate (3 - (lg_sl [.ref (ad 30)]).length) Slot.unset).toArray = ls at hl ⊢
  have hl : lv_has ls 3 [(0, .ref (ad 30))] := hl
  refine lv_aload_n hx hb d_Mo_run_0 rfl (lv_at hl 0 rfl) ?_
  refine r_iconst hx hb d_Mo_run_1 ?_
  refine r_puti (j := 10) (v := 0) hx hb hts in_Mo t_Mo to_Mo nm_Mo hown hS 30 rfl rfl 0 (by decide) (hts _ tw_634) rfl (by decide +kernel) (setf_10 ad cA mo _ _ _) (by decide) d_Mo_run_2 (fun H locs hS => ?_)
  refine lv_aload_n hx hb d_Mo_run_5 rfl (lv_at hl 0 rfl) ?_
  refine r_iconst hx hb d_Mo_run_6 ?_
  refine r_putz (j := 15) (v := 0) hx hb hts in_Mo t_Mo to_Mo nm_Mo hown hS 30 rfl rfl 17 (by decide) (hts _ tw_651) rfl (by decide +kernel) (Or.inl rfl) (setf_15 ad cA mo _ _ _) (by decide) d_Mo_run_7 (fun H locs hS => ?_)
  refine lv_aload_n hx hb d_Mo_run_10 rfl (lv_at hl 0 rfl) ?_
  refine r_cv (va_runV (As := []) (rest := []) ⟨hx, hb, hml, hown, hts⟩ (ct_Mo_sort l D ad cA mo _ _ _ _ h) (cwV 0 hts (gV tw_762 tw_764 tw_s_Mo_sort tw_8 tw_765) rfl rfl rfl (by decide +kernel) ⟨Nat.le_of_ble_eq_true rfl, Nat.le_of_ble_eq_true rfl⟩) (x_preV hS 30 rfl rfl _) rfl rfl hl.1 rfl (lv_room (Nat.le_of_ble_eq_true rfl)) d_Mo_run_11 ⟨Nat.zero_le _, Nat.zero_le _⟩) hS hA (fun F21 A21 H locs hS h => ?_)
  refine r_iconst hx hb d_Mo_run_14 ?_
  refine lv_istore_n (lv' := [(1, .int (iI 0)), (0, .ref (ad 30))]) hx hb d_Mo_run_15 rfl hl (by decide) rfl (fun ls hl => ?_)
  exact s_Mo_run_b16 C0 hA _ _ _ h _ _ _ hS (lv_sub hl [1, 0] rfl)
/-! Mo_faultOf -/
def w_Mo_faultOf (mo : Nat) (F : Nat → Int) (A : Nat → Int → Int) (x1 : Int) (Q : Int → Prop) : Prop := w_Mo_isCell mo F A x1 (fun z1 => rg z1 ∧ ((¬ z1 = 0 → rg (F 15) ∧ (((F 15) = 0 → Q 2) ∧ (¬ (F 15) = 0 → Q 0))) ∧ (z1 = 0 → Q 1)))
set_option maxHeartbeats 4000000 in
set_option maxRecDepth 100000 in
theorem ct_Mo_faultOf (l : Launch) (D : va_G) (ad : Nat → Nat) (cA : Nat → ClassId) (mo sz : Nat) (F : Nat → Int) (A : Nat → Int → Int) (x1 : Int) (Q : Int → Prop) (h : w_Mo_faultOf mo F A x1 Q) : Met l y_Mo_faultOf (Cond.code y_Mo_faultOf c_Mo_faultOf 2 (some .int) :: gT) ({ frames := 1, cells := 0, slots := 0, locals := 21 } : Room) (va_Pc [.ref (ad 30), .int (iI x1)] (x_P D vCl shU ad cA (NN mo) sz F A)) (x_QI D vCl shU ad cA (NN mo) (va_A (x_w shU ad cA (NN mo) F A) sz) (fun z F1 A1 => F = F1 ∧ A = A1 ∧ Q z)) 0 0 (va_A (x_w shU ad cA (NN mo) F A) sz) := by
  refine Met.ofW (cc := c_Mo_faultOf) (maxL := 2) (ret := some .int) (by decide) rfl ?_
  intro p e s m args below meth c s₁ B hml hv
  obtain ⟨rfl, hsz, hP, hK, hD0, hN0⟩ := hv
  have hx := B.exec
  have hb := B.bytes
  have hr := B.returns
  have hts0 := atoms_spec (ws := (Cond.code y_Mo_faultOf c_Mo_faultOf 2 (some .int) :: gT)) B.pre
  have hts : ∀ w ∈ gT, w.before _ s = true := fun w h => hts0 w (List.mem_cons_of_mem _ h)
  have hown : s.vm.findClass R_Mo = some m.cls := findClass_of_methodNamed B.named
  have hlocks := B.notSynchronized
  subst hsz
  have hS : x_S D vCl shU ad cA (NN mo) (va_A (x_w shU ad cA (NN mo) F A) s.heap.size) s F A s.heap [] := ⟨hK, hP, hD0.self, va_S.rf, hN0⟩
  have hA : ∀ q : Nat, s.heap.size ≤ q → va_A (x_w shU ad cA (NN mo) F A) s.heap.size q := fun q h => Or.inr h
  have C0 : x_C p s m [.ref (ad 30), .int (iI x1)].toArray meth c c_Mo_faultOf 2 (some .int) gT R_Mo := ⟨hx, hb, hr, hml, hown, hts, hlocks⟩
  generalize va_A (x_w shU ad cA (NN mo) F A) s.heap.size = A0 at hS hA ⊢
  have hl := lv_entry [.ref (ad 30), .int (iI x1)] (n := 2) (Nat.le_of_ble_eq_true rfl)
  rw [lg_entry_eq]
  generalize (lg_sl [.ref (ad 30), .int (iI x1)] ++ List.replicate (2 - (lg_sl [.ref (ad 30), .int (iI x1)]).length) Slot.unset).toArray = ls at hl ⊢
  have hl : lv_has ls 2 [(0, .ref (ad 30)), (1, .int (iI x1))] := hl
  refine lv_aload_n hx hb d_Mo_faultOf_0 rfl (lv_at hl 0 rfl) ?_
  refine lv_iload_n hx hb d_Mo_faultOf_1 rfl (lv_at hl 1 rfl) ?_
  refine r_ci (va_runV (As := [.int (iI x1)]) (rest := []) ⟨hx, hb, hml, hown, hts⟩ (ct_Mo_isCell l D ad cA mo _ _ _ _ _ h) (cwV 1 hts (gV tw_734 tw_736 tw_s_Mo_isCell tw_8 tw_737) rfl rfl rfl (by decide +kernel) ⟨Nat.le_of_ble_eq_true rfl, Nat.le_of_ble_eq_true rfl⟩) (x_preV hS 30 rfl rfl _) rfl rfl hl.1 rfl (lv_room (Nat.le_of_ble_eq_true rfl)) d_Mo_faultOf_2 ⟨Nat.zero_le _, Nat.zero_le _⟩) hS hA (fun z1 F1 A1 H locs hS h => ?_)
  obtain ⟨rfl, rfl, h⟩ := h
  obtain ⟨g2, h⟩ := h
  refine r_if_ne (tgt := 12) hx hb g2 d_Mo_faultOf_5 (by decide) (fun hc => ?_) (fun hc => ?_)
  · replace h := h.1 hc
    refine lv_aload_n hx hb d_Mo_faultOf_12 rfl (lv_at hl 0 rfl) ?_
    refine r_geti (z := F 15) hx hb hts in_Mo hown hS 30 rfl rfl 17 (by decide) rfl (hts _ tw_651) d_Mo_faultOf_13 rfl ?_
    obtain ⟨g3, h⟩ := h
    refine r_if_eq (tgt := 23) hx hb g3 d_Mo_faultOf_16 (by decide) (fun hc => ?_) (fun hc => ?_)
    · replace h := h.1 hc
      refine r_iconst hx hb d_Mo_faultOf_23 ?_
      exact r_iret (z := 2) hx hb hr hlocks hS ⟨rfl, rfl, h⟩ d_Mo_faultOf_24
    · replace h := h.2 hc
      refine r_iconst hx hb d_Mo_faultOf_19 ?_
      refine lv_goto (tgt := 24) hx hb d_Mo_faultOf_20 (by decide) ?_
      exact r_iret (z := 0) hx hb hr hlocks hS ⟨rfl, rfl, h⟩ d_Mo_faultOf_24
  · replace h := h.2 hc
    refine r_iconst hx hb d_Mo_faultOf_8 ?_
    refine lv_goto (tgt := 24) hx hb d_Mo_faultOf_9 (by decide) ?_
    exact r_iret (z := 1) hx hb hr hlocks hS ⟨rfl, rfl, h⟩ d_Mo_faultOf_24
/-! Mo_at -/
def w_Mo_at (mo : Nat) (F : Nat → Int) (A : Nat → Int → Int) (x1 : Int) (Q : Int → (Nat → Int) → (Nat → Int → Int) → Prop) : Prop := w_Mo_faultOf mo F A x1 (fun z1 => rg z1 ∧ ((z1 ≤ 0 → 0 ≤ x1 ∧ x1 < 60 ∧ rg (A 33 x1) ∧ Q (A 33 x1) (uf F 10 z1) A) ∧ (¬ z1 ≤ 0 → Q 0 (uf F 10 z1) A)))
set_option maxHeartbeats 4000000 in
set_option maxRecDepth 100000 in
theorem ct_Mo_at (l : Launch) (D : va_G) (ad : Nat → Nat) (cA : Nat → ClassId) (mo sz : Nat) (F : Nat → Int) (A : Nat → Int → Int) (x1 : Int) (Q : Int → (Nat → Int) → (Nat → Int → Int) → Prop) (h : w_Mo_at mo F A x1 Q) : Met l y_Mo_at (Cond.code y_Mo_at c_Mo_at 2 (some .long) :: gT) ({ frames := 2, cells := 0, slots := 0, locals := 42 } : Room) (va_Pc [.ref (ad 30), .int (iI x1)] (x_P D vCl shU ad cA (NN mo) sz F A)) (x_QL D vCl shU ad cA (NN mo) (va_A (x_w shU ad cA (NN mo) F A) sz) Q) 0 0 (va_A (x_w shU ad cA (NN mo) F A) sz) := by
  refine Met.ofW (cc := c_Mo_at) (maxL := 2) (ret := some .long) (by decide) rfl ?_
  intro p e s m args below meth c s₁ B hml hv
  obtain ⟨rfl, hsz, hP, hK, hD0, hN0⟩ := hv
  have hx := B.exec
  have hb := B.bytes
  have hr := B.returns
  have hts0 := atoms_spec (ws := (Cond.code y_Mo_at c_Mo_at 2 (some .long) :: gT)) B.pre
  have hts : ∀ w ∈ gT, w.before _ s = true := fun w h => hts0 w (List.mem_cons_of_mem _ h)
  have hown : s.vm.findClass R_Mo = some m.cls := findClass_of_methodNamed B.named
  have hlocks := B.notSynchronized
  subst hsz
  have hS : x_S D vCl shU ad cA (NN mo) (va_A (x_w shU ad cA (NN mo) F A) s.heap.size) s F A s.heap [] := ⟨hK, hP, hD0.self, va_S.rf, hN0⟩
  have hA : ∀ q : Nat, s.heap.size ≤ q → va_A (x_w shU ad cA (NN mo) F A) s.heap.size q := fun q h => Or.inr h
  have C0 : x_C p s m [.ref (ad 30), .int (iI x1)].toArray meth c c_Mo_at 2 (some .long) gT R_Mo := ⟨hx, hb, hr, hml, hown, hts, hlocks⟩
  generalize va_A (x_w shU ad cA (NN mo) F A) s.heap.size = A0 at hS hA ⊢
  have hl := lv_entry [.ref (ad 30), .int (iI x1)] (n := 2) (Nat.le_of_ble_eq_true rfl)
  rw [lg_entry_eq]
  generalize (lg_sl [.ref (ad 30), .int (iI x1)] ++ List.replicate (2 - (lg_sl [.ref (ad 30), .int (iI x1)]).length) Slot.unset).toArray = ls at hl ⊢
  have hl : lv_has ls 2 [(0, .ref (ad 30)), (1, .int (iI x1))] := hl
  refine lv_aload_n hx hb d_Mo_at_0 rfl (lv_at hl 0 rfl) ?_
  refine lv_aload_n hx hb d_Mo_at_1 rfl (lv_at hl 0 rfl) ?_
  refine lv_iload_n hx hb d_Mo_at_2 rfl (lv_at hl 1 rfl) ?_
  refine r_ci (va_runV (As := [.int (iI x1)]) (rest := [.ref (ad 30)]) ⟨hx, hb, hml, hown, hts⟩ (ct_Mo_faultOf l D ad cA mo _ _ _ _ _ h) (cwV 1 hts (gV tw_814 tw_816 tw_s_Mo_faultOf tw_8 tw_817) rfl rfl rfl (by decide +kernel) ⟨Nat.le_of_ble_eq_true rfl, Nat.le_of_ble_eq_true rfl⟩) (x_preV hS 30 rfl rfl _) rfl rfl hl.1 rfl (lv_room (Nat.le_of_ble_eq_true rfl)) d_Mo_at_3 ⟨Nat.zero_le _, Nat.zero_le _⟩) hS hA (fun z1 F1 A1 H locs hS h => ?_)
  obtain ⟨rfl, rfl, h⟩ := h
  refine r_puti (j := 10) (v := z1) hx hb hts in_Mo t_Mo to_Mo nm_Mo hown hS 30 rfl rfl 0 (by decide) (hts _ tw_634) rfl (by decide +kernel) (setf_10 ad cA mo _ _ _) (by decide) d_Mo_at_6 (fun H locs hS => ?_)
  refine lv_aload_n hx hb d_Mo_at_9 rfl (lv_at hl 0 rfl) ?_
  refine r_geti (z := z1) hx hb hts in_Mo hown hS 30 rfl rfl 0 (by decide) rfl (hts _ tw_634) d_Mo_at_10 rfl ?_
  obtain ⟨g2, h⟩ := h
  refine r_if_le (tgt := 20) hx hb g2 d_Mo_at_13 (by decide) (fun hc => ?_) (fun hc => ?_)
  · replace h := h.1 hc
    refine lv_aload_n hx hb d_Mo_at_20 rfl (lv_at hl 0 rfl) ?_
    refine r_getr (t2 := 40) hx hb hts in_Mo hown hS 30 rfl rfl 14 (by decide) rfl (hts _ tw_648) d_Mo_at_21 ?_
    refine lv_iload_n hx hb d_Mo_at_24 rfl (lv_at hl 1 rfl) ?_
    obtain ⟨g3, h⟩ := h
    obtain ⟨g4, h⟩ := h
    refine r_iald (id := 33) (i := x1) (z := A 33 x1) hx hb hS 40 rfl g3 g4 d_Mo_at_25 rfl ?_
    obtain ⟨g5, h⟩ := h
    refine r_i2l hx hb g5 d_Mo_at_26 ?_
    exact r_lret (z := (A 33 x1)) hx hb hr hlocks hS h d_Mo_at_27
  · replace h := h.2 hc
    refine r_lconst hx hb 0 d_Mo_at_16 (by decide +kernel) ?_
    refine lv_goto (tgt := 27) hx hb d_Mo_at_17 (by decide) ?_
    exact r_lret (z := 0) hx hb hr hlocks hS h d_Mo_at_27
/-! Mo_rowOf -/
def w_Mo_rowOf (mo : Nat) (F : Nat → Int) (A : Nat → Int → Int) (x1 : Int) (Q : Int → (Nat → Int) → (Nat → Int → Int) → Prop) : Prop := w_Mo_faultOf mo F A x1 (fun z1 => rg z1 ∧ ((z1 ≤ 0 → 0 ≤ x1 ∧ x1 < 60 ∧ Q (A 34 x1) (uf F 10 z1) A) ∧ (¬ z1 ≤ 0 → Q 0 (uf F 10 z1) A)))
set_option maxHeartbeats 4000000 in
set_option maxRecDepth 100000 in
theorem ct_Mo_rowOf (l : Launch) (D : va_G) (ad : Nat → Nat) (cA : Nat → ClassId) (mo sz : Nat) (F : Nat → Int) (A : Nat → Int → Int) (x1 : Int) (Q : Int → (Nat → Int) → (Nat → Int → Int) → Prop) (h : w_Mo_rowOf mo F A x1 Q) : Met l y_Mo_rowOf (Cond.code y_Mo_rowOf c_Mo_rowOf 2 (some .int) :: gT) ({ frames := 2, cells := 0, slots := 0, locals := 42 } : Room) (va_Pc [.ref (ad 30), .int (iI x1)] (x_P D vCl shU ad cA (NN mo) sz F A)) (x_QI D vCl shU ad cA (NN mo) (va_A (x_w shU ad cA (NN mo) F A) sz) Q) 0 0 (va_A (x_w shU ad cA (NN mo) F A) sz) := by
  refine Met.ofW (cc := c_Mo_rowOf) (maxL := 2) (ret := some .int) (by decide) rfl ?_
  intro p e s m args below meth c s₁ B hml hv
  obtain ⟨rfl, hsz, hP, hK, hD0, hN0⟩ := hv
  have hx := B.exec
  have hb := B.bytes
  have hr := B.returns
  have hts0 := atoms_spec (ws := (Cond.code y_Mo_rowOf c_Mo_rowOf 2 (some .int) :: gT)) B.pre
  have hts : ∀ w ∈ gT, w.before _ s = true := fun w h => hts0 w (List.mem_cons_of_mem _ h)
  have hown : s.vm.findClass R_Mo = some m.cls := findClass_of_methodNamed B.named
  have hlocks := B.notSynchronized
  subst hsz
  have hS : x_S D vCl shU ad cA (NN mo) (va_A (x_w shU ad cA (NN mo) F A) s.heap.size) s F A s.heap [] := ⟨hK, hP, hD0.self, va_S.rf, hN0⟩
  have hA : ∀ q : Nat, s.heap.size ≤ q → va_A (x_w shU ad cA (NN mo) F A) s.heap.size q := fun q h => Or.inr h
  have C0 : x_C p s m [.ref (ad 30), .int (iI x1)].toArray meth c c_Mo_rowOf 2 (some .int) gT R_Mo := ⟨hx, hb, hr, hml, hown, hts, hlocks⟩
  generalize va_A (x_w shU ad cA (NN mo) F A) s.heap.size = A0 at hS hA ⊢
  have hl := lv_entry [.ref (ad 30), .int (iI x1)] (n := 2) (Nat.le_of_ble_eq_true rfl)
  rw [lg_entry_eq]
  generalize (lg_sl [.ref (ad 30), .int (iI x1)] ++ List.replicate (2 - (lg_sl [.ref (ad 30), .int (iI x1)]).length) Slot.unset).toArray = ls at hl ⊢
  have hl : lv_has ls 2 [(0, .ref (ad 30)), (1, .int (iI x1))] := hl
  refine lv_aload_n hx hb d_Mo_rowOf_0 rfl (lv_at hl 0 rfl) ?_
  refine lv_aload_n hx hb d_Mo_rowOf_1 rfl (lv_at hl 0 rfl) ?_
  refine lv_iload_n hx hb d_Mo_rowOf_2 rfl (lv_at hl 1 rfl) ?_
  refine r_ci (va_runV (As := [.int (iI x1)]) (rest := [.ref (ad 30)]) ⟨hx, hb, hml, hown, hts⟩ (ct_Mo_faultOf l D ad cA mo _ _ _ _ _ h) (cwV 1 hts (gV tw_814 tw_816 tw_s_Mo_faultOf tw_8 tw_817) rfl rfl rfl (by decide +kernel) ⟨Nat.le_of_ble_eq_true rfl, Nat.le_of_ble_eq_true rfl⟩) (x_preV hS 30 rfl rfl _) rfl rfl hl.1 rfl (lv_room (Nat.le_of_ble_eq_true rfl)) d_Mo_rowOf_3 ⟨Nat.zero_le _, Nat.zero_le _⟩) hS hA (fun z1 F1 A1 H locs hS h => ?_)
  obtain ⟨rfl, rfl, h⟩ := h
  refine r_puti (j := 10) (v := z1) hx hb hts in_Mo t_Mo to_Mo nm_Mo hown hS 30 rfl rfl 0 (by decide) (hts _ tw_634) rfl (by decide +kernel) (setf_10 ad cA mo _ _ _) (by decide) d_Mo_rowOf_6 (fun H locs hS => ?_)
  refine lv_aload_n hx hb d_Mo_rowOf_9 rfl (lv_at hl 0 rfl) ?_
  refine r_geti (z := z1) hx hb hts in_Mo hown hS 30 rfl rfl 0 (by decide) rfl (hts _ tw_634) d_Mo_rowOf_10 rfl ?_
  obtain ⟨g2, h⟩ := h
  refine r_if_le (tgt := 20) hx hb g2 d_Mo_rowOf_13 (by decide) (fun hc => ?_) (fun hc => ?_)
  · replace h := h.1 hc
    refine lv_aload_n hx hb d_Mo_rowOf_20 rfl (lv_at hl 0 rfl) ?_
    refine r_getr (t2 := 41) hx hb hts in_Mo hown hS 30 rfl rfl 15 (by decide) rfl (hts _ tw_649) d_Mo_rowOf_21 ?_
    refine lv_iload_n hx hb d_Mo_rowOf_24 rfl (lv_at hl 1 rfl) ?_
    obtain ⟨g3, h⟩ := h
    obtain ⟨g4, h⟩ := h
    refine r_iald (id := 34) (i := x1) (z := A 34 x1) hx hb hS 41 rfl g3 g4 d_Mo_rowOf_25 rfl ?_
    exact r_iret (z := (A 34 x1)) hx hb hr hlocks hS h d_Mo_rowOf_26
  · replace h := h.2 hc
    refine r_iconst hx hb d_Mo_rowOf_16 ?_
    refine lv_goto (tgt := 26) hx hb d_Mo_rowOf_17 (by decide) ?_
    exact r_iret (z := 0) hx hb hr hlocks hS h d_Mo_rowOf_26
/-! Mo_mirrored -/
def w_Mo_mirrored (mo : Nat) (F : Nat → Int) (A : Nat → Int → Int) (x1 : Int) (Q : Int → (Nat → Int) → (Nat → Int → Int) → Prop) : Prop := w_Mo_faultOf mo F A x1 (fun z1 => rg z1 ∧ ((¬ z1 = 0 → Q 0 (uf F 10 z1) A) ∧ (z1 = 0 → 0 ≤ x1 ∧ x1 < 60 ∧ 0 ≤ (A 34 x1) ∧ (A 34 x1) < 2147483648 ∧ rg ((A 34 x1) % 2) ∧ ((¬ ((A 34 x1) % 2) = 1 → Q 0 (uf F 10 z1) A) ∧ (((A 34 x1) % 2) = 1 → Q 1 (uf F 10 z1) A)))))
set_option maxHeartbeats 4000000 in
set_option maxRecDepth 100000 in
theorem ct_Mo_mirrored (l : Launch) (D : va_G) (ad : Nat → Nat) (cA : Nat → ClassId) (mo sz : Nat) (F : Nat → Int) (A : Nat → Int → Int) (x1 : Int) (Q : Int → (Nat → Int) → (Nat → Int → Int) → Prop) (h : w_Mo_mirrored mo F A x1 Q) : Met l y_Mo_mirrored (Cond.code y_Mo_mirrored c_Mo_mirrored 2 (some .boolean) :: gT) ({ frames := 2, cells := 0, slots := 0, locals := 42 } : Room) (va_Pc [.ref (ad 30), .int (iI x1)] (x_P D vCl shU ad cA (NN mo) sz F A)) (x_QI D vCl shU ad cA (NN mo) (va_A (x_w shU ad cA (NN mo) F A) sz) Q) 0 0 (va_A (x_w shU ad cA (NN mo) F A) sz) := by
  refine Met.ofW (cc := c_Mo_mirrored) (maxL := 2) (ret := some .boolean) (by decide) rfl ?_
  intro p e s m args below meth c s₁ B hml hv
  obtain ⟨rfl, hsz, hP, hK, hD0, hN0⟩ := hv
  have hx := B.exec
  have hb := B.bytes
  have hr := B.returns
  have hts0 := atoms_spec (ws := (Cond.code y_Mo_mirrored c_Mo_mirrored 2 (some .boolean) :: gT)) B.pre
  have hts : ∀ w ∈ gT, w.before _ s = true := fun w h => hts0 w (List.mem_cons_of_mem _ h)
  have hown : s.vm.findClass R_Mo = some m.cls := findClass_of_methodNamed B.named
  have hlocks := B.notSynchronized
  subst hsz
  have hS : x_S D vCl shU ad cA (NN mo) (va_A (x_w shU ad cA (NN mo) F A) s.heap.size) s F A s.heap [] := ⟨hK, hP, hD0.self, va_S.rf, hN0⟩
  have hA : ∀ q : Nat, s.heap.size ≤ q → va_A (x_w shU ad cA (NN mo) F A) s.heap.size q := fun q h => Or.inr h
  have C0 : x_C p s m [.ref (ad 30), .int (iI x1)].toArray meth c c_Mo_mirrored 2 (some .boolean) gT R_Mo := ⟨hx, hb, hr, hml, hown, hts, hlocks⟩
  generalize va_A (x_w shU ad cA (NN mo) F A) s.heap.size = A0 at hS hA ⊢
  have hl := lv_entry [.ref (ad 30), .int (iI x1)] (n := 2) (Nat.le_of_ble_eq_true rfl)
  rw [lg_entry_eq]
  generalize (lg_sl [.ref (ad 30), .int (iI x1)] ++ List.replicate (2 - (lg_sl [.ref (ad 30), .int (iI x1)]).length) Slot.unset).toArray = ls at hl ⊢
  have hl : lv_has ls 2 [(0, .ref (ad 30)), (1, .int (iI x1))] := hl
  refine lv_aload_n hx hb d_Mo_mirrored_0 rfl (lv_at hl 0 rfl) ?_
  refine lv_aload_n hx hb d_Mo_mirrored_1 rfl (lv_at hl 0 rfl) ?_
  refine lv_iload_n hx hb d_Mo_mirrored_2 rfl (lv_at hl 1 rfl) ?_
  refine r_ci (va_runV (As := [.int (iI x1)]) (rest := [.ref (ad 30)]) ⟨hx, hb, hml, hown, hts⟩ (ct_Mo_faultOf l D ad cA mo _ _ _ _ _ h) (cwV 1 hts (gV tw_814 tw_816 tw_s_Mo_faultOf tw_8 tw_817) rfl rfl rfl (by decide +kernel) ⟨Nat.le_of_ble_eq_true rfl, Nat.le_of_ble_eq_true rfl⟩) (x_preV hS 30 rfl rfl _) rfl rfl hl.1 rfl (lv_room (Nat.le_of_ble_eq_true rfl)) d_Mo_mirrored_3 ⟨Nat.zero_le _, Nat.zero_le _⟩) hS hA (fun z1 F1 A1 H locs hS h => ?_)
  obtain ⟨rfl, rfl, h⟩ := h
  refine r_puti (j := 10) (v := z1) hx hb hts in_Mo t_Mo to_Mo nm_Mo hown hS 30 rfl rfl 0 (by decide) (hts _ tw_634) rfl (by decide +kernel) (setf_10 ad cA mo _ _ _) (by decide) d_Mo_mirrored_6 (fun H locs hS => ?_)
  refine lv_aload_n hx hb d_Mo_mirrored_9 rfl (lv_at hl 0 rfl) ?_
  refine r_geti (z := z1) hx hb hts in_Mo hown hS 30 rfl rfl 0 (by decide) rfl (hts _ tw_634) d_Mo_mirrored_10 rfl ?_
  obtain ⟨g2, h⟩ := h
  refine r_if_ne (tgt := 32) hx hb g2 d_Mo_mirrored_13 (by decide) (fun hc => ?_) (fun hc => ?_)
  · replace h := h.1 hc
    refine r_iconst hx hb d_Mo_mirrored_32 ?_
    exact r_zret (z := 0) hx hb hr hlocks (Or.inl rfl) hS h d_Mo_mirrored_33
  · replace h := h.2 hc
    refine lv_aload_n hx hb d_Mo_mirrored_16 rfl (lv_at hl 0 rfl) ?_
    refine r_getr (t2 := 41) hx hb hts in_Mo hown hS 30 rfl rfl 15 (by decide) rfl (hts _ tw_649) d_Mo_mirrored_17 ?_
    refine lv_iload_n hx hb d_Mo_mirrored_20 rfl (lv_at hl 1 rfl) ?_
    obtain ⟨g3, h⟩ := h
    obtain ⟨g4, h⟩ := h
    refine r_iald (id := 34) (i := x1) (z := A 34 x1) hx hb hS 41 rfl g3 g4 d_Mo_mirrored_21 rfl ?_
    refine r_iconst hx hb d_Mo_mirrored_22 ?_
    obtain ⟨g5, h⟩ := h
    obtain ⟨g6, h⟩ := h
    refine r_irem hx hb 2 g5 g6 (by decide) (by decide) d_Mo_mirrored_23 ?_
    refine r_iconst hx hb d_Mo_mirrored_24 ?_
    obtain ⟨g7, h⟩ := h
    refine r_icmp_ne (tgt := 32) hx hb g7 ⟨by omega, by omega⟩ d_Mo_mirrored_25 (by decide) (fun hc => ?_) (fun hc => ?_)
    · replace h := h.1 hc
      refine r_iconst hx hb d_Mo_mirrored_32 ?_
      exact r_zret (z := 0) hx hb hr hlocks (Or.inl rfl) hS h d_Mo_mirrored_33
    · replace h := h.2 hc
      refine r_iconst hx hb d_Mo_mirrored_28 ?_
      refine lv_goto (tgt := 33) hx hb d_Mo_mirrored_29 (by decide) ?_
      exact r_zret (z := 1) hx hb hr hlocks (Or.inr rfl) hS h d_Mo_mirrored_33
/-! Mo_moved -/
def w_Mo_moved_b20 (mo : Nat) (Q : Int → (Nat → Int) → (Nat → Int → Int) → Prop) (F : Nat → Int) (A : Nat → Int → Int) (x1 : Int) (x3 : Int) : Prop := Lp2 (fun I20 x1 x3 => rg x3 ∧ rg (F 13) ∧ (((F 13) ≤ x3 → Q x1 F A) ∧ (¬ (F 13) ≤ x3 → rg (F 10) ∧ ((¬ (F 10) = 0 → Q x1 F A) ∧ ((F 10) = 0 → 0 ≤ x3 ∧ x3 < 60 ∧ w_Mo_far mo F A (A 33 x3) (A 28 x3) (fun z6 => rg z6 ∧ w_Mo_far mo F A (A 34 x3) (A 29 x3) (fun z8 => rg z8 ∧ I20 (x1 + (z6 + (20 * z8))) (x3 + 1)))))))) x1 x3
def w_Mo_moved_b13 (mo : Nat) (Q : Int → (Nat → Int) → (Nat → Int → Int) → Prop) (y1 : Int) (F : Nat → Int) (A : Nat → Int → Int) : Prop := w_Mo_moved_b20 mo Q (uf F 10 y1) A 0 0
def w_Mo_moved (mo : Nat) (F : Nat → Int) (A : Nat → Int → Int)  (Q : Int → (Nat → Int) → (Nat → Int → Int) → Prop) : Prop := rg (F 15) ∧ (((F 15) = 0 → w_Mo_moved_b13 mo Q 1 F A) ∧ (¬ (F 15) = 0 → w_Mo_moved_b13 mo Q 0 F A))
set_option maxHeartbeats 4000000 in
set_option maxRecDepth 100000 in
theorem s_Mo_moved_b20 (C0 : x_C p s m args meth c c_Mo_moved 4 (some .long) gT R_Mo) (hA : ∀ q : Nat, s.heap.size ≤ q → A0 q) {mo : Nat} {Q : Int → (Nat → Int) → (Nat → Int → Int) → Prop} (F : Nat → Int) (A : Nat → Int → Int) (x1 : Int) (x3 : Int) (h : w_Mo_moved_b20 mo Q F A x1 x3) (H : Heap) (locs : List Loc) (ls : Array Slot) (hS : x_S D vCl shU ad cA (NN mo) A0 s F A H locs) (hl : lv_has ls 4 [(0, .ref (ad 30)), (1, .long (lI x1)), (3, .int (iI x3))]) : W p l e ({ frames := 1, cells := 0, slots := 0, locals := 21 } : Room) s m args below meth c H locs 0 0 (MQ below (x_QL D vCl shU ad cA (NN mo) A0 Q) args s 0 0 A0) (F0 m 20 ls []) := by
  obtain ⟨hx, hb, hr, hml, hown, hts, hlocks⟩ := id C0
  refine h (fun x1 x3 => ∀ (H : Heap) (locs : List Loc) (ls : Array Slot), x_S D vCl shU ad cA (NN mo) A0 s F A H locs → lv_has ls 4 [(0, .ref (ad 30)), (1, .long (lI x1)), (3, .int (iI x3))] → W p l e ({ frames := 1, cells := 0, slots := 0, locals := 21 } : Room) s m args below meth c H locs 0 0 (MQ below (x_QL D vCl shU ad cA (NN mo) A0 Q) args s 0 0 A0) (F0 m 20 ls [])) ?_ H locs ls hS hl
  intro x1 x3 h H locs ls hS hl
  refine lv_iload_n hx hb d_Mo_moved_20 rfl (lv_at hl 2 rfl) ?_
  refine lv_aload_n hx hb d_Mo_moved_21 rfl (lv_at hl 0 rfl) ?_
  refine r_geti (z := F 13) hx hb hts in_Mo hown hS 30 rfl rfl 4 (by decide) rfl (hts _ tw_638) d_Mo_moved_22 rfl ?_
  obtain ⟨g1, h⟩ := h
  obtain ⟨g2, h⟩ := h
  refine r_icmp_ge (tgt := 81) hx hb g1 g2 d_Mo_moved_25 (by decide) (fun hc => ?_) (fun hc => ?_)
  · replace h := h.1 hc
    refine lv_lload_n hx hb d_Mo_moved_81 rfl (lv_at hl 1 rfl) ?_
    exact r_lret (z := x1) hx hb hr hlocks hS h d_Mo_moved_82
  · replace h := h.2 hc
    refine lv_aload_n hx hb d_Mo_moved_28 rfl (lv_at hl 0 rfl) ?_
    refine r_geti (z := F 10) hx hb hts in_Mo hown hS 30 rfl rfl 0 (by decide) rfl (hts _ tw_634) d_Mo_moved_29 rfl ?_
    obtain ⟨g3, h⟩ := h
    refine r_if_ne (tgt := 81) hx hb g3 d_Mo_moved_32 (by decide) (fun hc => ?_) (fun hc => ?_)
    · replace h := h.1 hc
      refine lv_lload_n hx hb d_Mo_moved_81 rfl (lv_at hl 1 rfl) ?_
      exact r_lret (z := x1) hx hb hr hlocks hS h d_Mo_moved_82
    · replace h := h.2 hc
      refine lv_lload_n hx hb d_Mo_moved_35 rfl (lv_at hl 1 rfl) ?_
      refine lv_aload_n hx hb d_Mo_moved_36 rfl (lv_at hl 0 rfl) ?_
      refine r_getr (t2 := 40) hx hb hts in_Mo hown hS 30 rfl rfl 14 (by decide) rfl (hts _ tw_648) d_Mo_moved_37 ?_
      refine lv_iload_n hx hb d_Mo_moved_40 rfl (lv_at hl 2 rfl) ?_
      obtain ⟨g4, h⟩ := h
      obtain ⟨g5, h⟩ := h
      refine r_iald (id := 33) (i := x3) (z := A 33 x3) hx hb hS 40 rfl g4 g5 d_Mo_moved_41 rfl ?_
      refine lv_aload_n hx hb d_Mo_moved_42 rfl (lv_at hl 0 rfl) ?_
      refine r_getr (t2 := 35) hx hb hts in_Mo hown hS 30 rfl rfl 8 (by decide) rfl (hts _ tw_642) d_Mo_moved_43 ?_
      refine lv_iload_n hx hb d_Mo_moved_46 rfl (lv_at hl 2 rfl) ?_
      refine r_iald (id := 28) (i := x3) (z := A 28 x3) hx hb hS 35 rfl g4 g5 d_Mo_moved_47 rfl ?_
      refine r_ci (va_runS (As := [.int (iI (A 33 x3)), .int (iI (A 28 x3))]) (rest := [.long (lI x1)]) ⟨hx, hb, hml, hown, hts⟩ (ct_Mo_far l D ad cA mo _ _ _ _ _ _ h) (cwS 2 hts (gS tw_783 tw_784 tw_8 tw_785) rfl rfl rfl (by decide +kernel) ⟨Nat.le_of_ble_eq_true rfl, Nat.le_of_ble_eq_true rfl⟩) (x_preS hS _) rfl rfl hl.1 rfl (lv_room (Nat.le_of_ble_eq_true rfl)) d_Mo_moved_48 ⟨Nat.zero_le _, Nat.zero_le _⟩) hS hA (fun z6 F6 A6 H locs hS h => ?_)
      obtain ⟨rfl, rfl, h⟩ := h
      obtain ⟨g7, h⟩ := h
      refine r_i2l hx hb g7 d_Mo_moved_51 ?_
      refine r_ldc2 20 hx hb hown (v := 20) (hts _ tw_757) rfl d_Mo_moved_52 ?_
      refine lv_aload_n hx hb d_Mo_moved_55 rfl (lv_at hl 0 rfl) ?_
      refine r_getr (t2 := 41) hx hb hts in_Mo hown hS 30 rfl rfl 15 (by decide) rfl (hts _ tw_649) d_Mo_moved_56 ?_
      refine lv_iload_n hx hb d_Mo_moved_59 rfl (lv_at hl 2 rfl) ?_
      refine r_iald (id := 34) (i := x3) (z := A 34 x3) hx hb hS 41 rfl g4 g5 d_Mo_moved_60 rfl ?_
      refine lv_aload_n hx hb d_Mo_moved_61 rfl (lv_at hl 0 rfl) ?_
      refine r_getr (t2 := 36) hx hb hts in_Mo hown hS 30 rfl rfl 9 (by decide) rfl (hts _ tw_643) d_Mo_moved_62 ?_
      refine lv_iload_n hx hb d_Mo_moved_65 rfl (lv_at hl 2 rfl) ?_
      refine r_iald (id := 29) (i := x3) (z := A 29 x3) hx hb hS 36 rfl g4 g5 d_Mo_moved_66 rfl ?_
      refine r_ci (va_runS (As := [.int (iI (A 34 x3)), .int (iI (A 29 x3))]) (rest := [.long (lI 20), .long (lI z6), .long (lI x1)]) ⟨hx, hb, hml, hown, hts⟩ (ct_Mo_far l D ad cA mo _ _ _ _ _ _ h) (cwS 2 hts (gS tw_783 tw_784 tw_8 tw_785) rfl rfl rfl (by decide +kernel) ⟨Nat.le_of_ble_eq_true rfl, Nat.le_of_ble_eq_true rfl⟩) (x_preS hS _) rfl rfl hl.1 rfl (lv_room (Nat.le_of_ble_eq_true rfl)) d_Mo_moved_67 ⟨Nat.zero_le _, Nat.zero_le _⟩) hS hA (fun z8 F8 A8 H locs hS h => ?_)
      obtain ⟨rfl, rfl, h⟩ := h
      obtain ⟨g9, h⟩ := h
      refine r_i2l hx hb g9 d_Mo_moved_70 ?_
      refine r_lmul hx hb d_Mo_moved_71 ?_
      refine r_ladd hx hb d_Mo_moved_72 ?_
      refine r_ladd hx hb d_Mo_moved_73 ?_
      refine lv_lstore_n (lv' := [(1, .long (lI (x1 + (z6 + (20 * z8))))), (0, .ref (ad 30)), (3, .int (iI x3))]) hx hb d_Mo_moved_74 rfl hl (by decide) rfl (fun ls hl => ?_)
      refine r_iinc (k := 2) (z := x3) (lv' := [(3, .int (iI (x3 + 1))), (1, .long (lI (x1 + (z6 + (20 * z8))))), (0, .ref (ad 30))]) hx hb d_Mo_moved_75 hl rfl (by decide) rfl (fun ls hl => ?_)
      refine lv_goto (tgt := 20) hx hb d_Mo_moved_78 (by decide) ?_
      exact h _ _ _ hS (lv_sub hl [2, 1, 0] rfl)
set_option maxHeartbeats 4000000 in
set_option maxRecDepth 100000 in
theorem s_Mo_moved_b13 (C0 : x_C p s m args meth c c_Mo_moved 4 (some .long) gT R_Mo) (hA : ∀ q : Nat, s.heap.size ≤ q → A0 q) {mo : Nat} {Q : Int → (Nat → Int) → (Nat → Int → Int) → Prop} (y1 : Int) (F : Nat → Int) (A : Nat → Int → Int) (h : w_Mo_moved_b13 mo Q y1 F A) (H : Heap) (locs : List Loc) (ls : Array Slot) (hS : x_S D vCl shU ad cA (NN mo) A0 s F A H locs) (hl : lv_has ls 4 [(0, .ref (ad 30))]) : W p l e ({ frames := 1, cells := 0, slots := 0, locals := 21 } : Room) s m args below meth c H locs 0 0 (MQ below (x_QL D vCl shU ad cA (NN mo) A0 Q) args s 0 0 A0) (F0 m 13 ls [.int (iI y1), .ref (ad 30)]) := by
  obtain ⟨hx, hb, hr, hml, hown, hts, hlocks⟩ := id C0
  refine r_puti (j := 10) (v := y1) hx hb hts in_Mo t_Mo to_Mo nm_Mo hown hS 30 rfl rfl 0 (by decide) (hts _ tw_634) rfl (by decide +kernel) (setf_10 ad cA mo _ _ _) (by decide) d_Mo_moved_13 (fun H locs hS => ?_)
  refine r_lconst hx hb 0 d_Mo_moved_16 (by decide +kernel) ?_
  refine lv_lstore_n (lv' := [(1, .long (lI 0)), (0, .ref (ad 30))]) hx hb d_Mo_moved_17 rfl hl (by decide) rfl (fun ls hl => ?_)
  refine r_iconst hx hb d_Mo_moved_18 ?_
  refine lv_istore_n (lv' := [(3, .int (iI 0)), (1, .long (lI 0)), (0, .ref (ad 30))]) hx hb d_Mo_moved_19 rfl hl (by decide) rfl (fun ls hl => ?_)
  exact s_Mo_moved_b20 C0 hA _ _ _ _ h _ _ _ hS (lv_sub hl [2, 1, 0] rfl)
set_option maxHeartbeats 4000000 in
set_option maxRecDepth 100000 in
theorem ct_Mo_moved (l : Launch) (D : va_G) (ad : Nat → Nat) (cA : Nat → ClassId) (mo sz : Nat) (F : Nat → Int) (A : Nat → Int → Int)  (Q : Int → (Nat → Int) → (Nat → Int → Int) → Prop) (h : w_Mo_moved mo F A  Q) : Met l y_Mo_moved (Cond.code y_Mo_moved c_Mo_moved 4 (some .long) :: gT) ({ frames := 1, cells := 0, slots := 0, locals := 21 } : Room) (va_Pc [.ref (ad 30)] (x_P D vCl shU ad cA (NN mo) sz F A)) (x_QL D vCl shU ad cA (NN mo) (va_A (x_w shU ad cA (NN mo) F A) sz) Q) 0 0 (va_A (x_w shU ad cA (NN mo) F A) sz) := by
  refine Met.ofW (cc := c_Mo_moved) (maxL := 4) (ret := some .long) (by decide) rfl ?_
  intro p e s m args below meth c s₁ B hml hv
  obtain ⟨rfl, hsz, hP, hK, hD0, hN0⟩ := hv
  have hx := B.exec
  have hb := B.bytes
  have hr := B.returns
  have hts0 := atoms_spec (ws := (Cond.code y_Mo_moved c_Mo_moved 4 (some .long) :: gT)) B.pre
  have hts : ∀ w ∈ gT, w.before _ s = true := fun w h => hts0 w (List.mem_cons_of_mem _ h)
  have hown : s.vm.findClass R_Mo = some m.cls := findClass_of_methodNamed B.named
  have hlocks := B.notSynchronized
  subst hsz
  have hS : x_S D vCl shU ad cA (NN mo) (va_A (x_w shU ad cA (NN mo) F A) s.heap.size) s F A s.heap [] := ⟨hK, hP, hD0.self, va_S.rf, hN0⟩
  have hA : ∀ q : Nat, s.heap.size ≤ q → va_A (x_w shU ad cA (NN mo) F A) s.heap.size q := fun q h => Or.inr h
  have C0 : x_C p s m [.ref (ad 30)].toArray meth c c_Mo_moved 4 (some .long) gT R_Mo := ⟨hx, hb, hr, hml, hown, hts, hlocks⟩
  generalize va_A (x_w shU ad cA (NN mo) F A) s.heap.size = A0 at hS hA ⊢
  have hl := lv_entry [.ref (ad 30)] (n := 4) (Nat.le_of_ble_eq_true rfl)
  rw [lg_entry_eq]
  generalize (lg_sl [.ref (ad 30)] ++ List.replicate (4 - (lg_sl [.ref (ad 30)]).length) Slot.unset).toArray = ls at hl ⊢
  have hl : lv_has ls 4 [(0, .ref (ad 30))] := hl
  refine lv_aload_n hx hb d_Mo_moved_0 rfl (lv_at hl 0 rfl) ?_
  refine lv_aload_n hx hb d_Mo_moved_1 rfl (lv_at hl 0 rfl) ?_
  refine r_geti (z := F 15) hx hb hts in_Mo hown hS 30 rfl rfl 17 (by decide) rfl (hts _ tw_651) d_Mo_moved_2 rfl ?_
  obtain ⟨g10, h⟩ := h
  refine r_if_eq (tgt := 12) hx hb g10 d_Mo_moved_5 (by decide) (fun hc => ?_) (fun hc => ?_)
  · replace h := h.1 hc
    refine r_iconst hx hb d_Mo_moved_12 ?_
    exact s_Mo_moved_b13 C0 hA _ _ _ h _ _ _ hS (lv_sub hl [0] rfl)
  · replace h := h.2 hc
    refine r_iconst hx hb d_Mo_moved_8 ?_
    refine lv_goto (tgt := 13) hx hb d_Mo_moved_9 (by decide) ?_
    exact s_Mo_moved_b13 C0 hA _ _ _ h _ _ _ hS (lv_sub hl [0] rfl)
/-! Mo_wireOf -/
def w_Mo_wireOf_b4 (mo : Nat) (F : Nat → Int) (A : Nat → Int → Int) (Q : Int → Prop) (x1 : Int) (x3 : Int) : Prop := Lp2 (fun I4 x1 x3 => rg x3 ∧ rg (F 14) ∧ (((F 14) ≤ x3 → Q x1) ∧ (¬ (F 14) ≤ x3 → 0 ≤ x3 ∧ x3 < 80 ∧ 0 ≤ (A 31 x3) ∧ (A 31 x3) < 60 ∧ 0 ≤ (A 32 x3) ∧ (A 32 x3) < 60 ∧ w_Mo_far mo F A ((2 * (A 33 (A 31 x3))) + (A 25 (A 31 x3))) ((2 * (A 33 (A 32 x3))) + (A 25 (A 32 x3))) (fun z9 => rg z9 ∧ w_Mo_far mo F A (A 34 (A 31 x3)) (A 34 (A 32 x3)) (fun z11 => rg z11 ∧ I4 (x1 + (z9 + (40 * z11))) (x3 + 1)))))) x1 x3
def w_Mo_wireOf (mo : Nat) (F : Nat → Int) (A : Nat → Int → Int)  (Q : Int → Prop) : Prop := w_Mo_wireOf_b4 mo F A Q 0 0
set_option maxHeartbeats 4000000 in
set_option maxRecDepth 100000 in
theorem s_Mo_wireOf_b4 (C0 : x_C p s m args meth c c_Mo_wireOf 6 (some .long) gT R_Mo) (hA : ∀ q : Nat, s.heap.size ≤ q → A0 q) {mo : Nat} {F : Nat → Int} {A : Nat → Int → Int} {Q : Int → Prop} (x1 : Int) (x3 : Int) (h : w_Mo_wireOf_b4 mo F A Q x1 x3) (H : Heap) (locs : List Loc) (ls : Array Slot) (hS : x_S D vCl shU ad cA (NN mo) A0 s F A H locs) (hl : lv_has ls 6 [(0, .ref (ad 30)), (1, .long (lI x1)), (3, .int (iI x3))]) : W p l e ({ frames := 1, cells := 0, slots := 0, locals := 21 } : Room) s m args below meth c H locs 0 0 (MQ below (x_QL D vCl shU ad cA (NN mo) A0 (fun z F1 A1 => F = F1 ∧ A = A1 ∧ Q z)) args s 0 0 A0) (F0 m 4 ls []) := by
  obtain ⟨hx, hb, hr, hml, hown, hts, hlocks⟩ := id C0
  refine h (fun x1 x3 => ∀ (H : Heap) (locs : List Loc) (ls : Array Slot), x_S D vCl shU ad cA (NN mo) A0 s F A H locs → lv_has ls 6 [(0, .ref (ad 30)), (1, .long (lI x1)), (3, .int (iI x3))] → W p l e ({ frames := 1, cells := 0, slots := 0, locals := 21 } : Room) s m args below meth c H locs 0 0 (MQ below (x_QL D vCl shU ad cA (NN mo) A0 (fun z F1 A1 => F = F1 ∧ A = A1 ∧ Q z)) args s 0 0 A0) (F0 m 4 ls [])) ?_ H locs ls hS hl
  intro x1 x3 h H locs ls hS hl
  refine lv_iload_n hx hb d_Mo_wireOf_4 rfl (lv_at hl 2 rfl) ?_
  refine lv_aload_n hx hb d_Mo_wireOf_5 rfl (lv_at hl 0 rfl) ?_
  refine r_geti (z := F 14) hx hb hts in_Mo hown hS 30 rfl rfl 13 (by decide) rfl (hts _ tw_647) d_Mo_wireOf_6 rfl ?_
  obtain ⟨g1, h⟩ := h
  obtain ⟨g2, h⟩ := h
  refine r_icmp_ge (tgt := 98) hx hb g1 g2 d_Mo_wireOf_9 (by decide) (fun hc => ?_) (fun hc => ?_)
  · replace h := h.1 hc
    refine lv_lload_n hx hb d_Mo_wireOf_98 rfl (lv_at hl 1 rfl) ?_
    exact r_lret (z := x1) hx hb hr hlocks hS ⟨rfl, rfl, h⟩ d_Mo_wireOf_99
  · replace h := h.2 hc
    refine lv_aload_n hx hb d_Mo_wireOf_12 rfl (lv_at hl 0 rfl) ?_
    refine r_getr (t2 := 38) hx hb hts in_Mo hown hS 30 rfl rfl 11 (by decide) rfl (hts _ tw_645) d_Mo_wireOf_13 ?_
    refine lv_iload_n hx hb d_Mo_wireOf_16 rfl (lv_at hl 2 rfl) ?_
    obtain ⟨g3, h⟩ := h
    obtain ⟨g4, h⟩ := h
    refine r_iald (id := 31) (i := x3) (z := A 31 x3) hx hb hS 38 rfl g3 g4 d_Mo_wireOf_17 rfl ?_
    refine lv_istore (lv' := [(4, .int (iI (A 31 x3))), (0, .ref (ad 30)), (1, .long (lI x1)), (3, .int (iI x3))]) hx hb d_Mo_wireOf_18 hl (by decide) rfl (fun ls hl => ?_)
    refine lv_aload_n hx hb d_Mo_wireOf_20 rfl (lv_at hl 1 rfl) ?_
    refine r_getr (t2 := 39) hx hb hts in_Mo hown hS 30 rfl rfl 12 (by decide) rfl (hts _ tw_646) d_Mo_wireOf_21 ?_
    refine lv_iload_n hx hb d_Mo_wireOf_24 rfl (lv_at hl 3 rfl) ?_
    refine r_iald (id := 32) (i := x3) (z := A 32 x3) hx hb hS 39 rfl g3 g4 d_Mo_wireOf_25 rfl ?_
    refine lv_istore (lv' := [(5, .int (iI (A 32 x3))), (4, .int (iI (A 31 x3))), (0, .ref (ad 30)), (1, .long (lI x1)), (3, .int (iI x3))]) hx hb d_Mo_wireOf_26 hl (by decide) rfl (fun ls hl => ?_)
    refine lv_lload_n hx hb d_Mo_wireOf_28 rfl (lv_at hl 3 rfl) ?_
    refine r_iconst hx hb d_Mo_wireOf_29 ?_
    refine lv_aload_n hx hb d_Mo_wireOf_30 rfl (lv_at hl 2 rfl) ?_
    refine r_getr (t2 := 40) hx hb hts in_Mo hown hS 30 rfl rfl 14 (by decide) rfl (hts _ tw_648) d_Mo_wireOf_31 ?_
    refine lv_iload hx hb d_Mo_wireOf_34 (lv_at hl 1 rfl) ?_
    obtain ⟨g5, h⟩ := h
    obtain ⟨g6, h⟩ := h
    refine r_iald (id := 33) (i := (A 31 x3)) (z := A 33 (A 31 x3)) hx hb hS 40 rfl g5 g6 d_Mo_wireOf_36 rfl ?_
    refine r_imul hx hb d_Mo_wireOf_37 ?_
    refine lv_aload_n hx hb d_Mo_wireOf_38 rfl (lv_at hl 2 rfl) ?_
    refine r_getr (t2 := 32) hx hb hts in_Mo hown hS 30 rfl rfl 5 (by decide) rfl (hts _ tw_639) d_Mo_wireOf_39 ?_
    refine lv_iload hx hb d_Mo_wireOf_42 (lv_at hl 1 rfl) ?_
    refine r_iald (id := 25) (i := (A 31 x3)) (z := A 25 (A 31 x3)) hx hb hS 32 rfl g5 g6 d_Mo_wireOf_44 rfl ?_
    refine r_iadd hx hb d_Mo_wireOf_45 ?_
    refine r_iconst hx hb d_Mo_wireOf_46 ?_
    refine lv_aload_n hx hb d_Mo_wireOf_47 rfl (lv_at hl 2 rfl) ?_
    refine r_getr (t2 := 40) hx hb hts in_Mo hown hS 30 rfl rfl 14 (by decide) rfl (hts _ tw_648) d_Mo_wireOf_48 ?_
    refine lv_iload hx hb d_Mo_wireOf_51 (lv_at hl 0 rfl) ?_
    obtain ⟨g7, h⟩ := h
    obtain ⟨g8, h⟩ := h
    refine r_iald (id := 33) (i := (A 32 x3)) (z := A 33 (A 32 x3)) hx hb hS 40 rfl g7 g8 d_Mo_wireOf_53 rfl ?_
    refine r_imul hx hb d_Mo_wireOf_54 ?_
    refine lv_aload_n hx hb d_Mo_wireOf_55 rfl (lv_at hl 2 rfl) ?_
    refine r_getr (t2 := 32) hx hb hts in_Mo hown hS 30 rfl rfl 5 (by decide) rfl (hts _ tw_639) d_Mo_wireOf_56 ?_
    refine lv_iload hx hb d_Mo_wireOf_59 (lv_at hl 0 rfl) ?_
    refine r_iald (id := 25) (i := (A 32 x3)) (z := A 25 (A 32 x3)) hx hb hS 32 rfl g7 g8 d_Mo_wireOf_61 rfl ?_
    refine r_iadd hx hb d_Mo_wireOf_62 ?_
    refine r_ci (va_runS (As := [.int (iI ((2 * (A 33 (A 31 x3))) + (A 25 (A 31 x3)))), .int (iI ((2 * (A 33 (A 32 x3))) + (A 25 (A 32 x3))))]) (rest := [.long (lI x1)]) ⟨hx, hb, hml, hown, hts⟩ (ct_Mo_far l D ad cA mo _ _ _ _ _ _ h) (cwS 2 hts (gS tw_783 tw_784 tw_8 tw_785) rfl rfl rfl (by decide +kernel) ⟨Nat.le_of_ble_eq_true rfl, Nat.le_of_ble_eq_true rfl⟩) (x_preS hS _) rfl rfl hl.1 rfl (lv_room (Nat.le_of_ble_eq_true rfl)) d_Mo_wireOf_63 ⟨Nat.zero_le _, Nat.zero_le _⟩) hS hA (fun z9 F9 A9 H locs hS h => ?_)
    obtain ⟨rfl, rfl, h⟩ := h
    obtain ⟨g10, h⟩ := h
    refine r_i2l hx hb g10 d_Mo_wireOf_66 ?_
    refine r_ldc2 40 hx hb hown (v := 40) (hts _ tw_729) rfl d_Mo_wireOf_67 ?_
    refine lv_aload_n hx hb d_Mo_wireOf_70 rfl (lv_at hl 2 rfl) ?_
    refine r_getr (t2 := 41) hx hb hts in_Mo hown hS 30 rfl rfl 15 (by decide) rfl (hts _ tw_649) d_Mo_wireOf_71 ?_
    refine lv_iload hx hb d_Mo_wireOf_74 (lv_at hl 1 rfl) ?_
    refine r_iald (id := 34) (i := (A 31 x3)) (z := A 34 (A 31 x3)) hx hb hS 41 rfl g5 g6 d_Mo_wireOf_76 rfl ?_
    refine lv_aload_n hx hb d_Mo_wireOf_77 rfl (lv_at hl 2 rfl) ?_
    refine r_getr (t2 := 41) hx hb hts in_Mo hown hS 30 rfl rfl 15 (by decide) rfl (hts _ tw_649) d_Mo_wireOf_78 ?_
    refine lv_iload hx hb d_Mo_wireOf_81 (lv_at hl 0 rfl) ?_
    refine r_iald (id := 34) (i := (A 32 x3)) (z := A 34 (A 32 x3)) hx hb hS 41 rfl g7 g8 d_Mo_wireOf_83 rfl ?_
    refine r_ci (va_runS (As := [.int (iI (A 34 (A 31 x3))), .int (iI (A 34 (A 32 x3)))]) (rest := [.long (lI 40), .long (lI z9), .long (lI x1)]) ⟨hx, hb, hml, hown, hts⟩ (ct_Mo_far l D ad cA mo _ _ _ _ _ _ h) (cwS 2 hts (gS tw_783 tw_784 tw_8 tw_785) rfl rfl rfl (by decide +kernel) ⟨Nat.le_of_ble_eq_true rfl, Nat.le_of_ble_eq_true rfl⟩) (x_preS hS _) rfl rfl hl.1 rfl (lv_room (Nat.le_of_ble_eq_true rfl)) d_Mo_wireOf_84 ⟨Nat.zero_le _, Nat.zero_le _⟩) hS hA (fun z11 F11 A11 H locs hS h => ?_)
    obtain ⟨rfl, rfl, h⟩ := h
    obtain ⟨g12, h⟩ := h
    refine r_i2l hx hb g12 d_Mo_wireOf_87 ?_
    refine r_lmul hx hb d_Mo_wireOf_88 ?_
    refine r_ladd hx hb d_Mo_wireOf_89 ?_
    refine r_ladd hx hb d_Mo_wireOf_90 ?_
    refine lv_lstore_n (lv' := [(1, .long (lI (x1 + (z9 + (40 * z11))))), (5, .int (iI (A 32 x3))), (4, .int (iI (A 31 x3))), (0, .ref (ad 30)), (3, .int (iI x3))]) hx hb d_Mo_wireOf_91 rfl hl (by decide) rfl (fun ls hl => ?_)
    refine r_iinc (k := 4) (z := x3) (lv' := [(3, .int (iI (x3 + 1))), (1, .long (lI (x1 + (z9 + (40 * z11))))), (5, .int (iI (A 32 x3))), (4, .int (iI (A 31 x3))), (0, .ref (ad 30))]) hx hb d_Mo_wireOf_92 hl rfl (by decide) rfl (fun ls hl => ?_)
    refine lv_goto (tgt := 4) hx hb d_Mo_wireOf_95 (by decide) ?_
    exact h _ _ _ hS (lv_sub hl [4, 1, 0] rfl)
set_option maxHeartbeats 4000000 in
set_option maxRecDepth 100000 in
theorem ct_Mo_wireOf (l : Launch) (D : va_G) (ad : Nat → Nat) (cA : Nat → ClassId) (mo sz : Nat) (F : Nat → Int) (A : Nat → Int → Int)  (Q : Int → Prop) (h : w_Mo_wireOf mo F A  Q) : Met l y_Mo_wireOf (Cond.code y_Mo_wireOf c_Mo_wireOf 6 (some .long) :: gT) ({ frames := 1, cells := 0, slots := 0, locals := 21 } : Room) (va_Pc [.ref (ad 30)] (x_P D vCl shU ad cA (NN mo) sz F A)) (x_QL D vCl shU ad cA (NN mo) (va_A (x_w shU ad cA (NN mo) F A) sz) (fun z F1 A1 => F = F1 ∧ A = A1 ∧ Q z)) 0 0 (va_A (x_w shU ad cA (NN mo) F A) sz) := by
  refine Met.ofW (cc := c_Mo_wireOf) (maxL := 6) (ret := some .long) (by decide) rfl ?_
  intro p e s m args below meth c s₁ B hml hv
  obtain ⟨rfl, hsz, hP, hK, hD0, hN0⟩ := hv
  have hx := B.exec
  have hb := B.bytes
  have hr := B.returns
  have hts0 := atoms_spec (ws := (Cond.code y_Mo_wireOf c_Mo_wireOf 6 (some .long) :: gT)) B.pre
  have hts : ∀ w ∈ gT, w.before _ s = true := fun w h => hts0 w (List.mem_cons_of_mem _ h)
  have hown : s.vm.findClass R_Mo = some m.cls := findClass_of_methodNamed B.named
  have hlocks := B.notSynchronized
  subst hsz
  have hS : x_S D vCl shU ad cA (NN mo) (va_A (x_w shU ad cA (NN mo) F A) s.heap.size) s F A s.heap [] := ⟨hK, hP, hD0.self, va_S.rf, hN0⟩
  have hA : ∀ q : Nat, s.heap.size ≤ q → va_A (x_w shU ad cA (NN mo) F A) s.heap.size q := fun q h => Or.inr h
  have C0 : x_C p s m [.ref (ad 30)].toArray meth c c_Mo_wireOf 6 (some .long) gT R_Mo := ⟨hx, hb, hr, hml, hown, hts, hlocks⟩
  generalize va_A (x_w shU ad cA (NN mo) F A) s.heap.size = A0 at hS hA ⊢
  have hl := lv_entry [.ref (ad 30)] (n := 6) (Nat.le_of_ble_eq_true rfl)
  rw [lg_entry_eq]
  generalize (lg_sl [.ref (ad 30)] ++ List.replicate (6 - (lg_sl [.ref (ad 30)]).length) Slot.unset).toArray = ls at hl ⊢
  have hl : lv_has ls 6 [(0, .ref (ad 30))] := hl
  refine r_lconst hx hb 0 d_Mo_wireOf_0 (by decide +kernel) ?_
  refine lv_lstore_n (lv' := [(1, .long (lI 0)), (0, .ref (ad 30))]) hx hb d_Mo_wireOf_1 rfl hl (by decide) rfl (fun ls hl => ?_)
  refine r_iconst hx hb d_Mo_wireOf_2 ?_
  refine lv_istore_n (lv' := [(3, .int (iI 0)), (1, .long (lI 0)), (0, .ref (ad 30))]) hx hb d_Mo_wireOf_3 rfl hl (by decide) rfl (fun ls hl => ?_)
  exact s_Mo_wireOf_b4 C0 hA _ _ h _ _ _ hS (lv_sub hl [2, 1, 0] rfl)
/-! Mo_exchange -/
def w_Mo_exchange (mo : Nat) (F : Nat → Int) (A : Nat → Int → Int) (x1 : Int) (x2 : Int) (Q : (Nat → Int) → (Nat → Int → Int) → Prop) : Prop := 0 ≤ x1 ∧ x1 < 60 ∧ 0 ≤ x2 ∧ x2 < 60 ∧ Q F (ua (ua (ua (ua A 33 x1 (A 33 x2)) 34 x1 (A 34 x2)) 33 x2 (A 33 x1)) 34 x2 (A 34 x1))
set_option maxHeartbeats 4000000 in
set_option maxRecDepth 100000 in
theorem ct_Mo_exchange (l : Launch) (D : va_G) (ad : Nat → Nat) (cA : Nat → ClassId) (mo sz : Nat) (F : Nat → Int) (A : Nat → Int → Int) (x1 : Int) (x2 : Int) (Q : (Nat → Int) → (Nat → Int → Int) → Prop) (h : w_Mo_exchange mo F A x1 x2 Q) : Met l y_Mo_exchange (Cond.code y_Mo_exchange c_Mo_exchange 5 (none) :: gT) ({ frames := 0, cells := 0, slots := 0, locals := 0 } : Room) (va_Pc [.ref (ad 30), .int (iI x1), .int (iI x2)] (x_P D vCl shU ad cA (NN mo) sz F A)) (x_QV D vCl shU ad cA (NN mo) (va_A (x_w shU ad cA (NN mo) F A) sz) Q) 0 0 (va_A (x_w shU ad cA (NN mo) F A) sz) := by
  refine Met.ofW (cc := c_Mo_exchange) (maxL := 5) (ret := none) (by decide) rfl ?_
  intro p e s m args below meth c s₁ B hml hv
  obtain ⟨rfl, hsz, hP, hK, hD0, hN0⟩ := hv
  have hx := B.exec
  have hb := B.bytes
  have hr := B.returns
  have hts0 := atoms_spec (ws := (Cond.code y_Mo_exchange c_Mo_exchange 5 (none) :: gT)) B.pre
  have hts : ∀ w ∈ gT, w.before _ s = true := fun w h => hts0 w (List.mem_cons_of_mem _ h)
  have hown : s.vm.findClass R_Mo = some m.cls := findClass_of_methodNamed B.named
  have hlocks := B.notSynchronized
  subst hsz
  have hS : x_S D vCl shU ad cA (NN mo) (va_A (x_w shU ad cA (NN mo) F A) s.heap.size) s F A s.heap [] := ⟨hK, hP, hD0.self, va_S.rf, hN0⟩
  have hA : ∀ q : Nat, s.heap.size ≤ q → va_A (x_w shU ad cA (NN mo) F A) s.heap.size q := fun q h => Or.inr h
  have C0 : x_C p s m [.ref (ad 30), .int (iI x1), .int (iI x2)].toArray meth c c_Mo_exchange 5 (none) gT R_Mo := ⟨hx, hb, hr, hml, hown, hts, hlocks⟩
  generalize va_A (x_w shU ad cA (NN mo) F A) s.heap.size = A0 at hS hA ⊢
  have hl := lv_entry [.ref (ad 30), .int (iI x1), .int (iI x2)] (n := 5) (Nat.le_of_ble_eq_true rfl)
  rw [lg_entry_eq]
  generalize (lg_sl [.ref (ad 30), .int (iI x1), .int (iI x2)] ++ List.replicate (5 - (lg_sl [.ref (ad 30), .int (iI x1), .int (iI x2)]).length) Slot.unset).toArray = ls at hl ⊢
  have hl : lv_has ls 5 [(0, .ref (ad 30)), (1, .int (iI x1)), (2, .int (iI x2))] := hl
  refine lv_aload_n hx hb d_Mo_exchange_0 rfl (lv_at hl 0 rfl) ?_
  refine r_getr (t2 := 40) hx hb hts in_Mo hown hS 30 rfl rfl 14 (by decide) rfl (hts _ tw_648) d_Mo_exchange_1 ?_
  refine lv_iload_n hx hb d_Mo_exchange_4 rfl (lv_at hl 1 rfl) ?_
  obtain ⟨g1, h⟩ := h
  obtain ⟨g2, h⟩ := h
  refine r_iald (id := 33) (i := x1) (z := A 33 x1) hx hb hS 40 rfl g1 g2 d_Mo_exchange_5 rfl ?_
  refine lv_istore_n (lv' := [(3, .int (iI (A 33 x1))), (0, .ref (ad 30)), (1, .int (iI x1)), (2, .int (iI x2))]) hx hb d_Mo_exchange_6 rfl hl (by decide) rfl (fun ls hl => ?_)
  refine lv_aload_n hx hb d_Mo_exchange_7 rfl (lv_at hl 1 rfl) ?_
  refine r_getr (t2 := 41) hx hb hts in_Mo hown hS 30 rfl rfl 15 (by decide) rfl (hts _ tw_649) d_Mo_exchange_8 ?_
  refine lv_iload_n hx hb d_Mo_exchange_11 rfl (lv_at hl 2 rfl) ?_
  refine r_iald (id := 34) (i := x1) (z := A 34 x1) hx hb hS 41 rfl g1 g2 d_Mo_exchange_12 rfl ?_
  refine lv_istore (lv' := [(4, .int (iI (A 34 x1))), (3, .int (iI (A 33 x1))), (0, .ref (ad 30)), (1, .int (iI x1)), (2, .int (iI x2))]) hx hb d_Mo_exchange_13 hl (by decide) rfl (fun ls hl => ?_)
  refine lv_aload_n hx hb d_Mo_exchange_15 rfl (lv_at hl 2 rfl) ?_
  refine r_getr (t2 := 40) hx hb hts in_Mo hown hS 30 rfl rfl 14 (by decide) rfl (hts _ tw_648) d_Mo_exchange_16 ?_
  refine lv_iload_n hx hb d_Mo_exchange_19 rfl (lv_at hl 3 rfl) ?_
  refine lv_aload_n hx hb d_Mo_exchange_20 rfl (lv_at hl 2 rfl) ?_
  refine r_getr (t2 := 40) hx hb hts in_Mo hown hS 30 rfl rfl 14 (by decide) rfl (hts _ tw_648) d_Mo_exchange_21 ?_
  refine lv_iload_n hx hb d_Mo_exchange_24 rfl (lv_at hl 4 rfl) ?_
  obtain ⟨g3, h⟩ := h
  obtain ⟨g4, h⟩ := h
  refine r_iald (id := 33) (i := x2) (z := A 33 x2) hx hb hS 40 rfl g3 g4 d_Mo_exchange_25 rfl ?_
  refine r_iast (id := 33) (i := x1) (v := (A 33 x2)) hx hb hS 40 rfl g1 g2 (seta_33 ad cA mo _ _ _ _) d_Mo_exchange_26 (fun H locs hS => ?_)
  refine lv_aload_n hx hb d_Mo_exchange_27 rfl (lv_at hl 2 rfl) ?_
  refine r_getr (t2 := 41) hx hb hts in_Mo hown hS 30 rfl rfl 15 (by decide) rfl (hts _ tw_649) d_Mo_exchange_28 ?_
  refine lv_iload_n hx hb d_Mo_exchange_31 rfl (lv_at hl 3 rfl) ?_
  refine lv_aload_n hx hb d_Mo_exchange_32 rfl (lv_at hl 2 rfl) ?_
  refine r_getr (t2 := 41) hx hb hts in_Mo hown hS 30 rfl rfl 15 (by decide) rfl (hts _ tw_649) d_Mo_exchange_33 ?_
  refine lv_iload_n hx hb d_Mo_exchange_36 rfl (lv_at hl 4 rfl) ?_
  refine r_iald (id := 34) (i := x2) (z := A 34 x2) hx hb hS 41 rfl g3 g4 d_Mo_exchange_37 rfl ?_
  refine r_iast (id := 34) (i := x1) (v := (A 34 x2)) hx hb hS 41 rfl g1 g2 (seta_34 ad cA mo _ _ _ _) d_Mo_exchange_38 (fun H locs hS => ?_)
  refine lv_aload_n hx hb d_Mo_exchange_39 rfl (lv_at hl 2 rfl) ?_
  refine r_getr (t2 := 40) hx hb hts in_Mo hown hS 30 rfl rfl 14 (by decide) rfl (hts _ tw_648) d_Mo_exchange_40 ?_
  refine lv_iload_n hx hb d_Mo_exchange_43 rfl (lv_at hl 4 rfl) ?_
  refine lv_iload_n hx hb d_Mo_exchange_44 rfl (lv_at hl 1 rfl) ?_
  refine r_iast (id := 33) (i := x2) (v := (A 33 x1)) hx hb hS 40 rfl g3 g4 (seta_33 ad cA mo _ _ _ _) d_Mo_exchange_45 (fun H locs hS => ?_)
  refine lv_aload_n hx hb d_Mo_exchange_46 rfl (lv_at hl 2 rfl) ?_
  refine r_getr (t2 := 41) hx hb hts in_Mo hown hS 30 rfl rfl 15 (by decide) rfl (hts _ tw_649) d_Mo_exchange_47 ?_
  refine lv_iload_n hx hb d_Mo_exchange_50 rfl (lv_at hl 4 rfl) ?_
  refine lv_iload hx hb d_Mo_exchange_51 (lv_at hl 0 rfl) ?_
  refine r_iast (id := 34) (i := x2) (v := (A 34 x1)) hx hb hS 41 rfl g3 g4 (seta_34 ad cA mo _ _ _ _) d_Mo_exchange_53 (fun H locs hS => ?_)
  exact r_vret hx hb hr hlocks hS h d_Mo_exchange_54
/-! Mo_isExchanged -/
def w_Mo_isExchanged_b105 (mo : Nat) (Q : Int → (Nat → Int) → (Nat → Int → Int) → Prop) (I7 : Int → (Nat → Int) → (Nat → Int → Int) → Prop) (I20 : Int → (Nat → Int) → (Nat → Int → Int) → Prop) (x1 : Int) (x3 : Int) (x4 : Int) (F : Nat → Int) (A : Nat → Int → Int) : Prop := I20 (x4 + 1) F A
def w_Mo_isExchanged_b20 (mo : Nat) (Q : Int → (Nat → Int) → (Nat → Int → Int) → Prop) (I7 : Int → (Nat → Int) → (Nat → Int → Int) → Prop) (x1 : Int) (x3 : Int) (x4 : Int) (F : Nat → Int) (A : Nat → Int → Int) : Prop := Lp3 (fun I20 x4 F A => rg x4 ∧ rg (F 13) ∧ (((F 13) ≤ x4 → I7 (x3 + 1) F A) ∧ (¬ (F 13) ≤ x4 → 0 ≤ x3 ∧ x3 < 60 ∧ 0 ≤ x4 ∧ x4 < 60 ∧ rg (A 25 x3) ∧ rg (A 25 x4) ∧ ((¬ (A 25 x3) = (A 25 x4) → w_Mo_isExchanged_b105 mo Q I7 I20 x1 x3 x4 F A) ∧ ((A 25 x3) = (A 25 x4) → rg (A 26 x3) ∧ rg (A 26 x4) ∧ ((¬ (A 26 x3) = (A 26 x4) → w_Mo_isExchanged_b105 mo Q I7 I20 x1 x3 x4 F A) ∧ ((A 26 x3) = (A 26 x4) → rg (A 27 x3) ∧ rg (A 27 x4) ∧ (((A 27 x3) = (A 27 x4) → w_Mo_exchange mo F A x3 x4 (fun F13 A13 => w_Mo_wireOf mo F13 A13 (fun z14 => rL z14 ∧ rL x1 ∧ ((x1 ≤ z14 → w_Mo_exchange mo F13 A13 x3 x4 (fun F17 A17 => w_Mo_isExchanged_b105 mo Q I7 I20 x1 x3 x4 F17 A17)) ∧ (¬ x1 ≤ z14 → Q 1 F13 A13))))) ∧ (¬ (A 27 x3) = (A 27 x4) → w_Mo_isExchanged_b105 mo Q I7 I20 x1 x3 x4 F A))))))))) x4 F A
def w_Mo_isExchanged_b7 (mo : Nat) (Q : Int → (Nat → Int) → (Nat → Int → Int) → Prop) (x1 : Int) (x3 : Int) (F : Nat → Int) (A : Nat → Int → Int) : Prop := Lp3 (fun I7 x3 F A => rg x3 ∧ rg (F 13) ∧ (((F 13) ≤ x3 → Q 0 F A) ∧ (¬ (F 13) ≤ x3 → w_Mo_isExchanged_b20 mo Q I7 x1 x3 (x3 + 1) F A))) x3 F A
def w_Mo_isExchanged (mo : Nat) (F : Nat → Int) (A : Nat → Int → Int)  (Q : Int → (Nat → Int) → (Nat → Int → Int) → Prop) : Prop := w_Mo_wireOf mo F A (fun z20 => w_Mo_isExchanged_b7 mo Q z20 0 F A)
set_option maxHeartbeats 4000000 in
set_option maxRecDepth 100000 in
theorem s_Mo_isExchanged_b105 (C0 : x_C p s m args meth c c_Mo_isExchanged 5 (some .boolean) gT R_Mo) (hA : ∀ q : Nat, s.heap.size ≤ q → A0 q) {mo : Nat} {Q : Int → (Nat → Int) → (Nat → Int → Int) → Prop} {I7 : Int → (Nat → Int) → (Nat → Int → Int) → Prop} {I20 : Int → (Nat → Int) → (Nat → Int → Int) → Prop} (x1 : Int) (x3 : Int) (x4 : Int) (F : Nat → Int) (A : Nat → Int → Int) (hI7 : ∀ (x3 : Int) (F : Nat → Int) (A : Nat → Int → Int), I7 x3 F A → ∀ (H : Heap) (locs : List Loc) (ls : Array Slot), x_S D vCl shU ad cA (NN mo) A0 s F A H locs → lv_has ls 5 [(0, .ref (ad 30)), (1, .long (lI x1)), (3, .int (iI x3))] → W p l e ({ frames := 2, cells := 0, slots := 0, locals := 46 } : Room) s m args below meth c H locs 0 0 (MQ below (x_QI D vCl shU ad cA (NN mo) A0 Q) args s 0 0 A0) (F0 m 7 ls [])) (hI20 : ∀ (x4 : Int) (F : Nat → Int) (A : Nat → Int → Int), I20 x4 F A → ∀ (H : Heap) (locs : List Loc) (ls : Array Slot), x_S D vCl shU ad cA (NN mo) A0 s F A H locs → lv_has ls 5 [(0, .ref (ad 30)), (1, .long (lI x1)), (3, .int (iI x3)), (4, .int (iI x4))] → W p l e ({ frames := 2, cells := 0, slots := 0, locals := 46 } : Room) s m args below meth c H locs 0 0 (MQ below (x_QI D vCl shU ad cA (NN mo) A0 Q) args s 0 0 A0) (F0 m 20 ls [])) (h : w_Mo_isExchanged_b105 mo Q I7 I20 x1 x3 x4 F A) (H : Heap) (locs : List Loc) (ls : Array Slot) (hS : x_S D vCl shU ad cA (NN mo) A0 s F A H locs) (hl : lv_has ls 5 [(0, .ref (ad 30)), (1, .long (lI x1)), (3, .int (iI x3)), (4, .int (iI x4))]) : W p l e ({ frames := 2, cells := 0, slots := 0, locals := 46 } : Room) s m args below meth c H locs 0 0 (MQ below (x_QI D vCl shU ad cA (NN mo) A0 Q) args s 0 0 A0) (F0 m 105 ls []) := by
  obtain ⟨hx, hb, hr, hml, hown, hts, hlocks⟩ := id C0
  refine r_iinc (k := 3) (z := x4) (lv' := [(4, .int (iI (x4 + 1))), (0, .ref (ad 30)), (1, .long (lI x1)), (3, .int (iI x3))]) hx hb d_Mo_isExchanged_105 hl rfl (by decide) rfl (fun ls hl => ?_)
  refine lv_goto (tgt := 20) hx hb d_Mo_isExchanged_108 (by decide) ?_
  exact hI20 _ _ _ h _ _ _ hS (lv_sub hl [1, 2, 3, 0] rfl)
set_option maxHeartbeats 4000000 in
set_option maxRecDepth 100000 in
theorem s_Mo_isExchanged_b20 (C0 : x_C p s m args meth c c_Mo_isExchanged 5 (some .boolean) gT R_Mo) (hA : ∀ q : Nat, s.heap.size ≤ q → A0 q) {mo : Nat} {Q : Int → (Nat → Int) → (Nat → Int → Int) → Prop} {I7 : Int → (Nat → Int) → (Nat → Int → Int) → Prop} (x1 : Int) (x3 : Int) (x4 : Int) (F : Nat → Int) (A : Nat → Int → Int) (hI7 : ∀ (x3 : Int) (F : Nat → Int) (A : Nat → Int → Int), I7 x3 F A → ∀ (H : Heap) (locs : List Loc) (ls : Array Slot), x_S D vCl shU ad cA (NN mo) A0 s F A H locs → lv_has ls 5 [(0, .ref (ad 30)), (1, .long (lI x1)), (3, .int (iI x3))] → W p l e ({ frames := 2, cells := 0, slots := 0, locals := 46 } : Room) s m args below meth c H locs 0 0 (MQ below (x_QI D vCl shU ad cA (NN mo) A0 Q) args s 0 0 A0) (F0 m 7 ls [])) (h : w_Mo_isExchanged_b20 mo Q I7 x1 x3 x4 F A) (H : Heap) (locs : List Loc) (ls : Array Slot) (hS : x_S D vCl shU ad cA (NN mo) A0 s F A H locs) (hl : lv_has ls 5 [(0, .ref (ad 30)), (1, .long (lI x1)), (3, .int (iI x3)), (4, .int (iI x4))]) : W p l e ({ frames := 2, cells := 0, slots := 0, locals := 46 } : Room) s m args below meth c H locs 0 0 (MQ below (x_QI D vCl shU ad cA (NN mo) A0 Q) args s 0 0 A0) (F0 m 20 ls []) := by
  obtain ⟨hx, hb, hr, hml, hown, hts, hlocks⟩ := id C0
  refine h (fun x4 F A => ∀ (H : Heap) (locs : List Loc) (ls : Array Slot), x_S D vCl shU ad cA (NN mo) A0 s F A H locs → lv_has ls 5 [(0, .ref (ad 30)), (1, .long (lI x1)), (3, .int (iI x3)), (4, .int (iI x4))] → W p l e ({ frames := 2, cells := 0, slots := 0, locals := 46 } : Room) s m args below meth c H locs 0 0 (MQ below (x_QI D vCl shU ad cA (NN mo) A0 Q) args s 0 0 A0) (F0 m 20 ls [])) ?_ H locs ls hS hl
  intro x4 F A h H locs ls hS hl
  refine lv_iload hx hb d_Mo_isExchanged_20 (lv_at hl 3 rfl) ?_
  refine lv_aload_n hx hb d_Mo_isExchanged_22 rfl (lv_at hl 0 rfl) ?_
  refine r_geti (z := F 13) hx hb hts in_Mo hown hS 30 rfl rfl 4 (by decide) rfl (hts _ tw_638) d_Mo_isExchanged_23 rfl ?_
  obtain ⟨g1, h⟩ := h
  obtain ⟨g2, h⟩ := h
  refine r_icmp_ge (tgt := 111) hx hb g1 g2 d_Mo_isExchanged_26 (by decide) (fun hc => ?_) (fun hc => ?_)
  · replace h := h.1 hc
    refine r_iinc (k := 2) (z := x3) (lv' := [(3, .int (iI (x3 + 1))), (0, .ref (ad 30)), (1, .long (lI x1)), (4, .int (iI x4))]) hx hb d_Mo_isExchanged_111 hl rfl (by decide) rfl (fun ls hl => ?_)
    refine lv_goto (tgt := 7) hx hb d_Mo_isExchanged_114 (by decide) ?_
    exact hI7 _ _ _ h _ _ _ hS (lv_sub hl [1, 2, 0] rfl)
  · replace h := h.2 hc
    refine lv_aload_n hx hb d_Mo_isExchanged_29 rfl (lv_at hl 0 rfl) ?_
    refine r_getr (t2 := 32) hx hb hts in_Mo hown hS 30 rfl rfl 5 (by decide) rfl (hts _ tw_639) d_Mo_isExchanged_30 ?_
    refine lv_iload_n hx hb d_Mo_isExchanged_33 rfl (lv_at hl 2 rfl) ?_
    obtain ⟨g3, h⟩ := h
    obtain ⟨g4, h⟩ := h
    refine r_iald (id := 25) (i := x3) (z := A 25 x3) hx hb hS 32 rfl g3 g4 d_Mo_isExchanged_34 rfl ?_
    refine lv_aload_n hx hb d_Mo_isExchanged_35 rfl (lv_at hl 0 rfl) ?_
    refine r_getr (t2 := 32) hx hb hts in_Mo hown hS 30 rfl rfl 5 (by decide) rfl (hts _ tw_639) d_Mo_isExchanged_36 ?_
    refine lv_iload hx hb d_Mo_isExchanged_39 (lv_at hl 3 rfl) ?_
    obtain ⟨g5, h⟩ := h
    obtain ⟨g6, h⟩ := h
    refine r_iald (id := 25) (i := x4) (z := A 25 x4) hx hb hS 32 rfl g5 g6 d_Mo_isExchanged_41 rfl ?_
    obtain ⟨g7, h⟩ := h
    obtain ⟨g8, h⟩ := h
    refine r_icmp_ne (tgt := 105) hx hb g7 g8 d_Mo_isExchanged_42 (by decide) (fun hc => ?_) (fun hc => ?_)
    · replace h := h.1 hc
      exact s_Mo_isExchanged_b105 C0 hA _ _ _ _ _ hI7 (fun _ _ _ h => h) h _ _ _ hS (lv_sub hl [0, 1, 2, 3] rfl)
    · replace h := h.2 hc
      refine lv_aload_n hx hb d_Mo_isExchanged_45 rfl (lv_at hl 0 rfl) ?_
      refine r_getr (t2 := 33) hx hb hts in_Mo hown hS 30 rfl rfl 6 (by decide) rfl (hts _ tw_640) d_Mo_isExchanged_46 ?_
      refine lv_iload_n hx hb d_Mo_isExchanged_49 rfl (lv_at hl 2 rfl) ?_
      refine r_iald (id := 26) (i := x3) (z := A 26 x3) hx hb hS 33 rfl g3 g4 d_Mo_isExchanged_50 rfl ?_
      refine lv_aload_n hx hb d_Mo_isExchanged_51 rfl (lv_at hl 0 rfl) ?_
      refine r_getr (t2 := 33) hx hb hts in_Mo hown hS 30 rfl rfl 6 (by decide) rfl (hts _ tw_640) d_Mo_isExchanged_52 ?_
      refine lv_iload hx hb d_Mo_isExchanged_55 (lv_at hl 3 rfl) ?_
      refine r_iald (id := 26) (i := x4) (z := A 26 x4) hx hb hS 33 rfl g5 g6 d_Mo_isExchanged_57 rfl ?_
      obtain ⟨g9, h⟩ := h
      obtain ⟨g10, h⟩ := h
      refine r_icmp_ne (tgt := 105) hx hb g9 g10 d_Mo_isExchanged_58 (by decide) (fun hc => ?_) (fun hc => ?_)
      · replace h := h.1 hc
        exact s_Mo_isExchanged_b105 C0 hA _ _ _ _ _ hI7 (fun _ _ _ h => h) h _ _ _ hS (lv_sub hl [0, 1, 2, 3] rfl)
      · replace h := h.2 hc
        refine lv_aload_n hx hb d_Mo_isExchanged_61 rfl (lv_at hl 0 rfl) ?_
        refine r_getr (t2 := 34) hx hb hts in_Mo hown hS 30 rfl rfl 7 (by decide) rfl (hts _ tw_641) d_Mo_isExchanged_62 ?_
        refine lv_iload_n hx hb d_Mo_isExchanged_65 rfl (lv_at hl 2 rfl) ?_
        refine r_iald (id := 27) (i := x3) (z := A 27 x3) hx hb hS 34 rfl g3 g4 d_Mo_isExchanged_66 rfl ?_
        refine lv_aload_n hx hb d_Mo_isExchanged_67 rfl (lv_at hl 0 rfl) ?_
        refine r_getr (t2 := 34) hx hb hts in_Mo hown hS 30 rfl rfl 7 (by decide) rfl (hts _ tw_641) d_Mo_isExchanged_68 ?_
        refine lv_iload hx hb d_Mo_isExchanged_71 (lv_at hl 3 rfl) ?_
        refine r_iald (id := 27) (i := x4) (z := A 27 x4) hx hb hS 34 rfl g5 g6 d_Mo_isExchanged_73 rfl ?_
        obtain ⟨g11, h⟩ := h
        obtain ⟨g12, h⟩ := h
        refine r_icmp_eq (tgt := 80) hx hb g11 g12 d_Mo_isExchanged_74 (by decide) (fun hc => ?_) (fun hc => ?_)
        · replace h := h.1 hc
          refine lv_aload_n hx hb d_Mo_isExchanged_80 rfl (lv_at hl 0 rfl) ?_
          refine lv_iload_n hx hb d_Mo_isExchanged_81 rfl (lv_at hl 2 rfl) ?_
          refine lv_iload hx hb d_Mo_isExchanged_82 (lv_at hl 3 rfl) ?_
          refine r_cv (va_runV (As := [.int (iI x3), .int (iI x4)]) (rest := []) ⟨hx, hb, hml, hown, hts⟩ (ct_Mo_exchange l D ad cA mo _ _ _ _ _ _ h) (cwV 2 hts (gV tw_842 tw_844 tw_s_Mo_exchange tw_8 tw_845) rfl rfl rfl (by decide +kernel) ⟨Nat.le_of_ble_eq_true rfl, Nat.le_of_ble_eq_true rfl⟩) (x_preV hS 30 rfl rfl _) rfl rfl hl.1 rfl (lv_room (Nat.le_of_ble_eq_true rfl)) d_Mo_isExchanged_84 ⟨Nat.zero_le _, Nat.zero_le _⟩) hS hA (fun F13 A13 H locs hS h => ?_)
          refine lv_aload_n hx hb d_Mo_isExchanged_87 rfl (lv_at hl 0 rfl) ?_
          refine r_cl (va_runV (As := []) (rest := []) ⟨hx, hb, hml, hown, hts⟩ (ct_Mo_wireOf l D ad cA mo _ _ _ _ h) (cwV 0 hts (gV tw_838 tw_840 tw_s_Mo_wireOf tw_8 tw_841) rfl rfl rfl (by decide +kernel) ⟨Nat.le_of_ble_eq_true rfl, Nat.le_of_ble_eq_true rfl⟩) (x_preV hS 30 rfl rfl _) rfl rfl hl.1 rfl (lv_room (Nat.le_of_ble_eq_true rfl)) d_Mo_isExchanged_88 ⟨Nat.zero_le _, Nat.zero_le _⟩) hS hA (fun z14 F14 A14 H locs hS h => ?_)
          obtain ⟨rfl, rfl, h⟩ := h
          refine lv_lload_n hx hb d_Mo_isExchanged_91 rfl (lv_at hl 1 rfl) ?_
          obtain ⟨g15, h⟩ := h
          obtain ⟨g16, h⟩ := h
          refine r_lcmp_ge (tgt := 98) hx hb g15 g16 d_Mo_isExchanged_92 d_Mo_isExchanged_93 (by decide) (fun hc => ?_) (fun hc => ?_)
          · replace h := h.1 hc
            refine lv_aload_n hx hb d_Mo_isExchanged_98 rfl (lv_at hl 0 rfl) ?_
            refine lv_iload_n hx hb d_Mo_isExchanged_99 rfl (lv_at hl 2 rfl) ?_
            refine lv_iload hx hb d_Mo_isExchanged_100 (lv_at hl 3 rfl) ?_
            refine r_cv (va_runV (As := [.int (iI x3), .int (iI x4)]) (rest := []) ⟨hx, hb, hml, hown, hts⟩ (ct_Mo_exchange l D ad cA mo _ _ _ _ _ _ h) (cwV 2 hts (gV tw_842 tw_844 tw_s_Mo_exchange tw_8 tw_845) rfl rfl rfl (by decide +kernel) ⟨Nat.le_of_ble_eq_true rfl, Nat.le_of_ble_eq_true rfl⟩) (x_preV hS 30 rfl rfl _) rfl rfl hl.1 rfl (lv_room (Nat.le_of_ble_eq_true rfl)) d_Mo_isExchanged_102 ⟨Nat.zero_le _, Nat.zero_le _⟩) hS hA (fun F17 A17 H locs hS h => ?_)
            exact s_Mo_isExchanged_b105 C0 hA _ _ _ _ _ hI7 (fun _ _ _ h => h) h _ _ _ hS (lv_sub hl [0, 1, 2, 3] rfl)
          · replace h := h.2 hc
            refine r_iconst hx hb d_Mo_isExchanged_96 ?_
            exact r_zret (z := 1) hx hb hr hlocks (Or.inr rfl) hS h d_Mo_isExchanged_97
        · replace h := h.2 hc
          refine lv_goto (tgt := 105) hx hb d_Mo_isExchanged_77 (by decide) ?_
          exact s_Mo_isExchanged_b105 C0 hA _ _ _ _ _ hI7 (fun _ _ _ h => h) h _ _ _ hS (lv_sub hl [0, 1, 2, 3] rfl)
set_option maxHeartbeats 4000000 in
set_option maxRecDepth 100000 in
theorem s_Mo_isExchanged_b7 (C0 : x_C p s m args meth c c_Mo_isExchanged 5 (some .boolean) gT R_Mo) (hA : ∀ q : Nat, s.heap.size ≤ q → A0 q) {mo : Nat} {Q : Int → (Nat → Int) → (Nat → Int → Int) → Prop} (x1 : Int) (x3 : Int) (F : Nat → Int) (A : Nat → Int → Int) (h : w_Mo_isExchanged_b7 mo Q x1 x3 F A) (H : Heap) (locs : List Loc) (ls : Array Slot) (hS : x_S D vCl shU ad cA (NN mo) A0 s F A H locs) (hl : lv_has ls 5 [(0, .ref (ad 30)), (1, .long (lI x1)), (3, .int (iI x3))]) : W p l e ({ frames := 2, cells := 0, slots := 0, locals := 46 } : Room) s m args below meth c H locs 0 0 (MQ below (x_QI D vCl shU ad cA (NN mo) A0 Q) args s 0 0 A0) (F0 m 7 ls []) := by
  obtain ⟨hx, hb, hr, hml, hown, hts, hlocks⟩ := id C0
  refine h (fun x3 F A => ∀ (H : Heap) (locs : List Loc) (ls : Array Slot), x_S D vCl shU ad cA (NN mo) A0 s F A H locs → lv_has ls 5 [(0, .ref (ad 30)), (1, .long (lI x1)), (3, .int (iI x3))] → W p l e ({ frames := 2, cells := 0, slots := 0, locals := 46 } : Room) s m args below meth c H locs 0 0 (MQ below (x_QI D vCl shU ad cA (NN mo) A0 Q) args s 0 0 A0) (F0 m 7 ls [])) ?_ H locs ls hS hl
  intro x3 F A h H locs ls hS hl
  refine lv_iload_n hx hb d_Mo_isExchanged_7 rfl (lv_at hl 2 rfl) ?_
  refine lv_aload_n hx hb d_Mo_isExchanged_8 rfl (lv_at hl 0 rfl) ?_
  refine r_geti (z := F 13) hx hb hts in_Mo hown hS 30 rfl rfl 4 (by decide) rfl (hts _ tw_638) d_Mo_isExchanged_9 rfl ?_
  obtain ⟨g18, h⟩ := h
  obtain ⟨g19, h⟩ := h
  refine r_icmp_ge (tgt := 117) hx hb g18 g19 d_Mo_isExchanged_12 (by decide) (fun hc => ?_) (fun hc => ?_)
  · replace h := h.1 hc
    refine r_iconst hx hb d_Mo_isExchanged_117 ?_
    exact r_zret (z := 0) hx hb hr hlocks (Or.inl rfl) hS h d_Mo_isExchanged_118
  · replace h := h.2 hc
    refine lv_iload_n hx hb d_Mo_isExchanged_15 rfl (lv_at hl 2 rfl) ?_
    refine r_iconst hx hb d_Mo_isExchanged_16 ?_
    refine r_iadd hx hb d_Mo_isExchanged_17 ?_
    refine lv_istore (lv' := [(4, .int (iI (x3 + 1))), (0, .ref (ad 30)), (1, .long (lI x1)), (3, .int (iI x3))]) hx hb d_Mo_isExchanged_18 hl (by decide) rfl (fun ls hl => ?_)
    exact s_Mo_isExchanged_b20 C0 hA _ _ _ _ _ (fun _ _ _ h => h) h _ _ _ hS (lv_sub hl [1, 2, 3, 0] rfl)
set_option maxHeartbeats 4000000 in
set_option maxRecDepth 100000 in
theorem ct_Mo_isExchanged (l : Launch) (D : va_G) (ad : Nat → Nat) (cA : Nat → ClassId) (mo sz : Nat) (F : Nat → Int) (A : Nat → Int → Int)  (Q : Int → (Nat → Int) → (Nat → Int → Int) → Prop) (h : w_Mo_isExchanged mo F A  Q) : Met l y_Mo_isExchanged (Cond.code y_Mo_isExchanged c_Mo_isExchanged 5 (some .boolean) :: gT) ({ frames := 2, cells := 0, slots := 0, locals := 46 } : Room) (va_Pc [.ref (ad 30)] (x_P D vCl shU ad cA (NN mo) sz F A)) (x_QI D vCl shU ad cA (NN mo) (va_A (x_w shU ad cA (NN mo) F A) sz) Q) 0 0 (va_A (x_w shU ad cA (NN mo) F A) sz) := by
  refine Met.ofW (cc := c_Mo_isExchanged) (maxL := 5) (ret := some .boolean) (by decide) rfl ?_
  intro p e s m args below meth c s₁ B hml hv
  obtain ⟨rfl, hsz, hP, hK, hD0, hN0⟩ := hv
  have hx := B.exec
  have hb := B.bytes
  have hr := B.returns
  have hts0 := atoms_spec (ws := (Cond.code y_Mo_isExchanged c_Mo_isExchanged 5 (some .boolean) :: gT)) B.pre
  have hts : ∀ w ∈ gT, w.before _ s = true := fun w h => hts0 w (List.mem_cons_of_mem _ h)
  have hown : s.vm.findClass R_Mo = some m.cls := findClass_of_methodNamed B.named
  have hlocks := B.notSynchronized
  subst hsz
  have hS : x_S D vCl shU ad cA (NN mo) (va_A (x_w shU ad cA (NN mo) F A) s.heap.size) s F A s.heap [] := ⟨hK, hP, hD0.self, va_S.rf, hN0⟩
  have hA : ∀ q : Nat, s.heap.size ≤ q → va_A (x_w shU ad cA (NN mo) F A) s.heap.size q := fun q h => Or.inr h
  have C0 : x_C p s m [.ref (ad 30)].toArray meth c c_Mo_isExchanged 5 (some .boolean) gT R_Mo := ⟨hx, hb, hr, hml, hown, hts, hlocks⟩
  generalize va_A (x_w shU ad cA (NN mo) F A) s.heap.size = A0 at hS hA ⊢
  have hl := lv_entry [.ref (ad 30)] (n := 5) (Nat.le_of_ble_eq_true rfl)
  rw [lg_entry_eq]
  generalize (lg_sl [.ref (ad 30)] ++ List.replicate (5 - (lg_sl [.ref (ad 30)]).length) Slot.unset).toArray = ls at hl ⊢
  have hl : lv_has ls 5 [(0, .ref (ad 30))] := hl
  refine lv_aload_n hx hb d_Mo_isExchanged_0 rfl (lv_at hl 0 rfl) ?_
  refine r_cl (va_runV (As := []) (rest := []) ⟨hx, hb, hml, hown, hts⟩ (ct_Mo_wireOf l D ad cA mo _ _ _ _ h) (cwV 0 hts (gV tw_838 tw_840 tw_s_Mo_wireOf tw_8 tw_841) rfl rfl rfl (by decide +kernel) ⟨Nat.le_of_ble_eq_true rfl, Nat.le_of_ble_eq_true rfl⟩) (x_preV hS 30 rfl rfl _) rfl rfl hl.1 rfl (lv_room (Nat.le_of_ble_eq_true rfl)) d_Mo_isExchanged_1 ⟨Nat.zero_le _, Nat.zero_le _⟩) hS hA (fun z20 F20 A20 H locs hS h => ?_)
  obtain ⟨rfl, rfl, h⟩ := h
  refine lv_lstore_n (lv' := [(1, .long (lI z20)), (0, .ref (ad 30))]) hx hb d_Mo_isExchanged_4 rfl hl (by decide) rfl (fun ls hl => ?_)
  refine r_iconst hx hb d_Mo_isExchanged_5 ?_
  refine lv_istore_n (lv' := [(3, .int (iI 0)), (1, .long (lI z20)), (0, .ref (ad 30))]) hx hb d_Mo_isExchanged_6 rfl hl (by decide) rfl (fun ls hl => ?_)
  exact s_Mo_isExchanged_b7 C0 hA _ _ _ _ h _ _ _ hS (lv_sub hl [2, 1, 0] rfl)
/-! Mo_improve -/
def w_Mo_improve_b26 (mo : Nat) (Q : Int → (Nat → Int) → (Nat → Int → Int) → Prop) (x1 : Int) (x2 : Int) (F : Nat → Int) (A : Nat → Int → Int) : Prop := Lp3 (fun I26 x2 F A => rg (F 10) ∧ ((¬ (F 10) = 0 → Q x2 F A) ∧ ((F 10) = 0 → rg x2 ∧ rg x1 ∧ ((x1 ≤ x2 → Q x2 F A) ∧ (¬ x1 ≤ x2 → w_Mo_isExchanged mo F A (fun z4 F4 A4 => rg z4 ∧ ((z4 = 0 → Q x2 F4 A4) ∧ (¬ z4 = 0 → I26 (x2 + 1) F4 A4)))))))) x2 F A
def w_Mo_improve_b21 (mo : Nat) (Q : Int → (Nat → Int) → (Nat → Int → Int) → Prop) (x1 : Int) (y1 : Int) (F : Nat → Int) (A : Nat → Int → Int) : Prop := w_Mo_improve_b26 mo Q x1 0 (uf F 10 y1) A
def w_Mo_improve (mo : Nat) (F : Nat → Int) (A : Nat → Int → Int) (x1 : Int) (Q : Int → (Nat → Int) → (Nat → Int → Int) → Prop) : Prop := rg (F 15) ∧ ((¬ (F 15) = 0 → rg x1 ∧ ((0 ≤ x1 → w_Mo_improve_b21 mo Q x1 0 F A) ∧ (¬ 0 ≤ x1 → w_Mo_improve_b21 mo Q x1 2 F A))) ∧ ((F 15) = 0 → w_Mo_improve_b21 mo Q x1 1 F A))
set_option maxHeartbeats 4000000 in
set_option maxRecDepth 100000 in
theorem s_Mo_improve_b26 (C0 : x_C p s m args meth c c_Mo_improve 3 (some .int) gT R_Mo) (hA : ∀ q : Nat, s.heap.size ≤ q → A0 q) {mo : Nat} {Q : Int → (Nat → Int) → (Nat → Int → Int) → Prop} (x1 : Int) (x2 : Int) (F : Nat → Int) (A : Nat → Int → Int) (h : w_Mo_improve_b26 mo Q x1 x2 F A) (H : Heap) (locs : List Loc) (ls : Array Slot) (hS : x_S D vCl shU ad cA (NN mo) A0 s F A H locs) (hl : lv_has ls 3 [(0, .ref (ad 30)), (1, .int (iI x1)), (2, .int (iI x2))]) : W p l e ({ frames := 3, cells := 0, slots := 0, locals := 70 } : Room) s m args below meth c H locs 0 0 (MQ below (x_QI D vCl shU ad cA (NN mo) A0 Q) args s 0 0 A0) (F0 m 26 ls []) := by
  obtain ⟨hx, hb, hr, hml, hown, hts, hlocks⟩ := id C0
  refine h (fun x2 F A => ∀ (H : Heap) (locs : List Loc) (ls : Array Slot), x_S D vCl shU ad cA (NN mo) A0 s F A H locs → lv_has ls 3 [(0, .ref (ad 30)), (1, .int (iI x1)), (2, .int (iI x2))] → W p l e ({ frames := 3, cells := 0, slots := 0, locals := 70 } : Room) s m args below meth c H locs 0 0 (MQ below (x_QI D vCl shU ad cA (NN mo) A0 Q) args s 0 0 A0) (F0 m 26 ls [])) ?_ H locs ls hS hl
  intro x2 F A h H locs ls hS hl
  refine lv_aload_n hx hb d_Mo_improve_26 rfl (lv_at hl 0 rfl) ?_
  refine r_geti (z := F 10) hx hb hts in_Mo hown hS 30 rfl rfl 0 (by decide) rfl (hts _ tw_634) d_Mo_improve_27 rfl ?_
  obtain ⟨g1, h⟩ := h
  refine r_if_ne (tgt := 51) hx hb g1 d_Mo_improve_30 (by decide) (fun hc => ?_) (fun hc => ?_)
  · replace h := h.1 hc
    refine lv_iload_n hx hb d_Mo_improve_51 rfl (lv_at hl 2 rfl) ?_
    exact r_iret (z := x2) hx hb hr hlocks hS h d_Mo_improve_52
  · replace h := h.2 hc
    refine lv_iload_n hx hb d_Mo_improve_33 rfl (lv_at hl 2 rfl) ?_
    refine lv_iload_n hx hb d_Mo_improve_34 rfl (lv_at hl 1 rfl) ?_
    obtain ⟨g2, h⟩ := h
    obtain ⟨g3, h⟩ := h
    refine r_icmp_ge (tgt := 51) hx hb g2 g3 d_Mo_improve_35 (by decide) (fun hc => ?_) (fun hc => ?_)
    · replace h := h.1 hc
      refine lv_iload_n hx hb d_Mo_improve_51 rfl (lv_at hl 2 rfl) ?_
      exact r_iret (z := x2) hx hb hr hlocks hS h d_Mo_improve_52
    · replace h := h.2 hc
      refine lv_aload_n hx hb d_Mo_improve_38 rfl (lv_at hl 0 rfl) ?_
      refine r_ci (va_runV (As := []) (rest := []) ⟨hx, hb, hml, hown, hts⟩ (ct_Mo_isExchanged l D ad cA mo _ _ _ _ h) (cwV 0 hts (gV tw_834 tw_836 tw_s_Mo_isExchanged tw_8 tw_837) rfl rfl rfl (by decide +kernel) ⟨Nat.le_of_ble_eq_true rfl, Nat.le_of_ble_eq_true rfl⟩) (x_preV hS 30 rfl rfl _) rfl rfl hl.1 rfl (lv_room (Nat.le_of_ble_eq_true rfl)) d_Mo_improve_39 ⟨Nat.zero_le _, Nat.zero_le _⟩) hS hA (fun z4 F4 A4 H locs hS h => ?_)
      obtain ⟨g5, h⟩ := h
      refine r_if_eq (tgt := 51) hx hb g5 d_Mo_improve_42 (by decide) (fun hc => ?_) (fun hc => ?_)
      · replace h := h.1 hc
        refine lv_iload_n hx hb d_Mo_improve_51 rfl (lv_at hl 2 rfl) ?_
        exact r_iret (z := x2) hx hb hr hlocks hS h d_Mo_improve_52
      · replace h := h.2 hc
        refine r_iinc (k := 2) (z := x2) (lv' := [(2, .int (iI (x2 + 1))), (0, .ref (ad 30)), (1, .int (iI x1))]) hx hb d_Mo_improve_45 hl rfl (by decide) rfl (fun ls hl => ?_)
        refine lv_goto (tgt := 26) hx hb d_Mo_improve_48 (by decide) ?_
        exact h _ _ _ hS (lv_sub hl [1, 2, 0] rfl)
set_option maxHeartbeats 4000000 in
set_option maxRecDepth 100000 in
theorem s_Mo_improve_b21 (C0 : x_C p s m args meth c c_Mo_improve 3 (some .int) gT R_Mo) (hA : ∀ q : Nat, s.heap.size ≤ q → A0 q) {mo : Nat} {Q : Int → (Nat → Int) → (Nat → Int → Int) → Prop} (x1 : Int) (y1 : Int) (F : Nat → Int) (A : Nat → Int → Int) (h : w_Mo_improve_b21 mo Q x1 y1 F A) (H : Heap) (locs : List Loc) (ls : Array Slot) (hS : x_S D vCl shU ad cA (NN mo) A0 s F A H locs) (hl : lv_has ls 3 [(0, .ref (ad 30)), (1, .int (iI x1))]) : W p l e ({ frames := 3, cells := 0, slots := 0, locals := 70 } : Room) s m args below meth c H locs 0 0 (MQ below (x_QI D vCl shU ad cA (NN mo) A0 Q) args s 0 0 A0) (F0 m 21 ls [.int (iI y1), .ref (ad 30)]) := by
  obtain ⟨hx, hb, hr, hml, hown, hts, hlocks⟩ := id C0
  refine r_puti (j := 10) (v := y1) hx hb hts in_Mo t_Mo to_Mo nm_Mo hown hS 30 rfl rfl 0 (by decide) (hts _ tw_634) rfl (by decide +kernel) (setf_10 ad cA mo _ _ _) (by decide) d_Mo_improve_21 (fun H locs hS => ?_)
  refine r_iconst hx hb d_Mo_improve_24 ?_
  refine lv_istore_n (lv' := [(2, .int (iI 0)), (0, .ref (ad 30)), (1, .int (iI x1))]) hx hb d_Mo_improve_25 rfl hl (by decide) rfl (fun ls hl => ?_)
  exact s_Mo_improve_b26 C0 hA _ _ _ _ h _ _ _ hS (lv_sub hl [1, 2, 0] rfl)
set_option maxHeartbeats 4000000 in
set_option maxRecDepth 100000 in
theorem ct_Mo_improve (l : Launch) (D : va_G) (ad : Nat → Nat) (cA : Nat → ClassId) (mo sz : Nat) (F : Nat → Int) (A : Nat → Int → Int) (x1 : Int) (Q : Int → (Nat → Int) → (Nat → Int → Int) → Prop) (h : w_Mo_improve mo F A x1 Q) : Met l y_Mo_improve (Cond.code y_Mo_improve c_Mo_improve 3 (some .int) :: gT) ({ frames := 3, cells := 0, slots := 0, locals := 70 } : Room) (va_Pc [.ref (ad 30), .int (iI x1)] (x_P D vCl shU ad cA (NN mo) sz F A)) (x_QI D vCl shU ad cA (NN mo) (va_A (x_w shU ad cA (NN mo) F A) sz) Q) 0 0 (va_A (x_w shU ad cA (NN mo) F A) sz) := by
  refine Met.ofW (cc := c_Mo_improve) (maxL := 3) (ret := some .int) (by decide) rfl ?_
  intro p e s m args below meth c s₁ B hml hv
  obtain ⟨rfl, hsz, hP, hK, hD0, hN0⟩ := hv
  have hx := B.exec
  have hb := B.bytes
  have hr := B.returns
  have hts0 := atoms_spec (ws := (Cond.code y_Mo_improve c_Mo_improve 3 (some .int) :: gT)) B.pre
  have hts : ∀ w ∈ gT, w.before _ s = true := fun w h => hts0 w (List.mem_cons_of_mem _ h)
  have hown : s.vm.findClass R_Mo = some m.cls := findClass_of_methodNamed B.named
  have hlocks := B.notSynchronized
  subst hsz
  have hS : x_S D vCl shU ad cA (NN mo) (va_A (x_w shU ad cA (NN mo) F A) s.heap.size) s F A s.heap [] := ⟨hK, hP, hD0.self, va_S.rf, hN0⟩
  have hA : ∀ q : Nat, s.heap.size ≤ q → va_A (x_w shU ad cA (NN mo) F A) s.heap.size q := fun q h => Or.inr h
  have C0 : x_C p s m [.ref (ad 30), .int (iI x1)].toArray meth c c_Mo_improve 3 (some .int) gT R_Mo := ⟨hx, hb, hr, hml, hown, hts, hlocks⟩
  generalize va_A (x_w shU ad cA (NN mo) F A) s.heap.size = A0 at hS hA ⊢
  have hl := lv_entry [.ref (ad 30), .int (iI x1)] (n := 3) (Nat.le_of_ble_eq_true rfl)
  rw [lg_entry_eq]
  generalize (lg_sl [.ref (ad 30), .int (iI x1)] ++ List.replicate (3 - (lg_sl [.ref (ad 30), .int (iI x1)]).length) Slot.unset).toArray = ls at hl ⊢
  have hl : lv_has ls 3 [(0, .ref (ad 30)), (1, .int (iI x1))] := hl
  refine lv_aload_n hx hb d_Mo_improve_0 rfl (lv_at hl 0 rfl) ?_
  refine lv_aload_n hx hb d_Mo_improve_1 rfl (lv_at hl 0 rfl) ?_
  refine r_geti (z := F 15) hx hb hts in_Mo hown hS 30 rfl rfl 17 (by decide) rfl (hts _ tw_651) d_Mo_improve_2 rfl ?_
  obtain ⟨g6, h⟩ := h
  refine r_if_ne (tgt := 12) hx hb g6 d_Mo_improve_5 (by decide) (fun hc => ?_) (fun hc => ?_)
  · replace h := h.1 hc
    refine lv_iload_n hx hb d_Mo_improve_12 rfl (lv_at hl 1 rfl) ?_
    obtain ⟨g7, h⟩ := h
    refine r_if_ge (tgt := 20) hx hb g7 d_Mo_improve_13 (by decide) (fun hc => ?_) (fun hc => ?_)
    · replace h := h.1 hc
      refine r_iconst hx hb d_Mo_improve_20 ?_
      exact s_Mo_improve_b21 C0 hA _ _ _ _ h _ _ _ hS (lv_sub hl [0, 1] rfl)
    · replace h := h.2 hc
      refine r_iconst hx hb d_Mo_improve_16 ?_
      refine lv_goto (tgt := 21) hx hb d_Mo_improve_17 (by decide) ?_
      exact s_Mo_improve_b21 C0 hA _ _ _ _ h _ _ _ hS (lv_sub hl [0, 1] rfl)
  · replace h := h.2 hc
    refine r_iconst hx hb d_Mo_improve_8 ?_
    refine lv_goto (tgt := 21) hx hb d_Mo_improve_9 (by decide) ?_
    exact s_Mo_improve_b21 C0 hA _ _ _ _ h _ _ _ hS (lv_sub hl [0, 1] rfl)
/-! Mo_net -/
def w_Mo_net_b44 (mo : Nat) (Q : Int → (Nat → Int) → (Nat → Int → Int) → Prop) (x1 : Int) (x2 : Int) (y1 : Int) (F : Nat → Int) (A : Nat → Int → Int) : Prop := rg y1 ∧ ((y1 ≤ 0 → 0 ≤ (F 14) ∧ (F 14) < 80 ∧ Q (((F 14) + 1) - 1) (uf (uf F 10 y1) 14 ((F 14) + 1)) (ua (ua A 31 (F 14) x1) 32 (F 14) x2)) ∧ (¬ y1 ≤ 0 → Q 0 (uf F 10 y1) A))
def w_Mo_net_b17 (mo : Nat) (Q : Int → (Nat → Int) → (Nat → Int → Int) → Prop) (x1 : Int) (x2 : Int) (F : Nat → Int) (A : Nat → Int → Int) : Prop := w_Mo_net_b44 mo Q x1 x2 1 F A
def w_Mo_net (mo : Nat) (F : Nat → Int) (A : Nat → Int → Int) (x1 : Int) (x2 : Int) (Q : Int → (Nat → Int) → (Nat → Int → Int) → Prop) : Prop := w_Mo_isCell mo F A x1 (fun z4 => rg z4 ∧ ((z4 = 0 → w_Mo_net_b17 mo Q x1 x2 F A) ∧ (¬ z4 = 0 → w_Mo_isCell mo F A x2 (fun z6 => rg z6 ∧ ((¬ z6 = 0 → rg (F 14) ∧ ((¬ (F 14) = 80 → rg x1 ∧ rg x2 ∧ ((¬ x1 = x2 → w_Mo_net_b44 mo Q x1 x2 0 F A) ∧ (x1 = x2 → w_Mo_net_b44 mo Q x1 x2 3 F A))) ∧ ((F 14) = 80 → w_Mo_net_b44 mo Q x1 x2 2 F A))) ∧ (z6 = 0 → w_Mo_net_b17 mo Q x1 x2 F A))))))
set_option maxHeartbeats 4000000 in
set_option maxRecDepth 100000 in
theorem s_Mo_net_b44 (C0 : x_C p s m args meth c c_Mo_net 3 (some .int) gT R_Mo) (hA : ∀ q : Nat, s.heap.size ≤ q → A0 q) {mo : Nat} {Q : Int → (Nat → Int) → (Nat → Int → Int) → Prop} (x1 : Int) (x2 : Int) (y1 : Int) (F : Nat → Int) (A : Nat → Int → Int) (h : w_Mo_net_b44 mo Q x1 x2 y1 F A) (H : Heap) (locs : List Loc) (ls : Array Slot) (hS : x_S D vCl shU ad cA (NN mo) A0 s F A H locs) (hl : lv_has ls 3 [(0, .ref (ad 30)), (1, .int (iI x1)), (2, .int (iI x2))]) : W p l e ({ frames := 1, cells := 0, slots := 0, locals := 21 } : Room) s m args below meth c H locs 0 0 (MQ below (x_QI D vCl shU ad cA (NN mo) A0 Q) args s 0 0 A0) (F0 m 44 ls [.int (iI y1), .ref (ad 30)]) := by
  obtain ⟨hx, hb, hr, hml, hown, hts, hlocks⟩ := id C0
  refine r_puti (j := 10) (v := y1) hx hb hts in_Mo t_Mo to_Mo nm_Mo hown hS 30 rfl rfl 0 (by decide) (hts _ tw_634) rfl (by decide +kernel) (setf_10 ad cA mo _ _ _) (by decide) d_Mo_net_44 (fun H locs hS => ?_)
  refine lv_aload_n hx hb d_Mo_net_47 rfl (lv_at hl 0 rfl) ?_
  refine r_geti (z := y1) hx hb hts in_Mo hown hS 30 rfl rfl 0 (by decide) rfl (hts _ tw_634) d_Mo_net_48 rfl ?_
  obtain ⟨g1, h⟩ := h
  refine r_if_le (tgt := 56) hx hb g1 d_Mo_net_51 (by decide) (fun hc => ?_) (fun hc => ?_)
  · replace h := h.1 hc
    refine lv_aload_n hx hb d_Mo_net_56 rfl (lv_at hl 0 rfl) ?_
    refine r_getr (t2 := 38) hx hb hts in_Mo hown hS 30 rfl rfl 11 (by decide) rfl (hts _ tw_645) d_Mo_net_57 ?_
    refine lv_aload_n hx hb d_Mo_net_60 rfl (lv_at hl 0 rfl) ?_
    refine r_geti (z := F 14) hx hb hts in_Mo hown hS 30 rfl rfl 13 (by decide) rfl (hts _ tw_647) d_Mo_net_61 rfl ?_
    refine lv_iload_n hx hb d_Mo_net_64 rfl (lv_at hl 1 rfl) ?_
    obtain ⟨g2, h⟩ := h
    obtain ⟨g3, h⟩ := h
    refine r_iast (id := 31) (i := (F 14)) (v := x1) hx hb hS 38 rfl g2 g3 (seta_31 ad cA mo _ _ _ _) d_Mo_net_65 (fun H locs hS => ?_)
    refine lv_aload_n hx hb d_Mo_net_66 rfl (lv_at hl 0 rfl) ?_
    refine r_getr (t2 := 39) hx hb hts in_Mo hown hS 30 rfl rfl 12 (by decide) rfl (hts _ tw_646) d_Mo_net_67 ?_
    refine lv_aload_n hx hb d_Mo_net_70 rfl (lv_at hl 0 rfl) ?_
    refine r_geti (z := F 14) hx hb hts in_Mo hown hS 30 rfl rfl 13 (by decide) rfl (hts _ tw_647) d_Mo_net_71 rfl ?_
    refine lv_iload_n hx hb d_Mo_net_74 rfl (lv_at hl 2 rfl) ?_
    refine r_iast (id := 32) (i := (F 14)) (v := x2) hx hb hS 39 rfl g2 g3 (seta_32 ad cA mo _ _ _ _) d_Mo_net_75 (fun H locs hS => ?_)
    refine lv_aload_n hx hb d_Mo_net_76 rfl (lv_at hl 0 rfl) ?_
    refine lv_dup hx hb d_Mo_net_77 rfl ?_
    refine r_geti (z := F 14) hx hb hts in_Mo hown hS 30 rfl rfl 13 (by decide) rfl (hts _ tw_647) d_Mo_net_78 rfl ?_
    refine r_iconst hx hb d_Mo_net_81 ?_
    refine r_iadd hx hb d_Mo_net_82 ?_
    refine r_puti (j := 14) (v := (F 14) + 1) hx hb hts in_Mo t_Mo to_Mo nm_Mo hown hS 30 rfl rfl 13 (by decide) (hts _ tw_647) rfl (by decide +kernel) (setf_14 ad cA mo _ _ _) (by decide) d_Mo_net_83 (fun H locs hS => ?_)
    refine lv_aload_n hx hb d_Mo_net_86 rfl (lv_at hl 0 rfl) ?_
    refine r_geti (z := (F 14) + 1) hx hb hts in_Mo hown hS 30 rfl rfl 13 (by decide) rfl (hts _ tw_647) d_Mo_net_87 rfl ?_
    refine r_iconst hx hb d_Mo_net_90 ?_
    refine r_isub hx hb d_Mo_net_91 ?_
    exact r_iret (z := (((F 14) + 1) - 1)) hx hb hr hlocks hS h d_Mo_net_92
  · replace h := h.2 hc
    refine r_iconst hx hb d_Mo_net_54 ?_
    exact r_iret (z := 0) hx hb hr hlocks hS h d_Mo_net_55
set_option maxHeartbeats 4000000 in
set_option maxRecDepth 100000 in
theorem s_Mo_net_b17 (C0 : x_C p s m args meth c c_Mo_net 3 (some .int) gT R_Mo) (hA : ∀ q : Nat, s.heap.size ≤ q → A0 q) {mo : Nat} {Q : Int → (Nat → Int) → (Nat → Int → Int) → Prop} (x1 : Int) (x2 : Int) (F : Nat → Int) (A : Nat → Int → Int) (h : w_Mo_net_b17 mo Q x1 x2 F A) (H : Heap) (locs : List Loc) (ls : Array Slot) (hS : x_S D vCl shU ad cA (NN mo) A0 s F A H locs) (hl : lv_has ls 3 [(0, .ref (ad 30)), (1, .int (iI x1)), (2, .int (iI x2))]) : W p l e ({ frames := 1, cells := 0, slots := 0, locals := 21 } : Room) s m args below meth c H locs 0 0 (MQ below (x_QI D vCl shU ad cA (NN mo) A0 Q) args s 0 0 A0) (F0 m 17 ls [.ref (ad 30)]) := by
  obtain ⟨hx, hb, hr, hml, hown, hts, hlocks⟩ := id C0
  refine r_iconst hx hb d_Mo_net_17 ?_
  refine lv_goto (tgt := 44) hx hb d_Mo_net_18 (by decide) ?_
  exact s_Mo_net_b44 C0 hA _ _ _ _ _ h _ _ _ hS (lv_sub hl [0, 1, 2] rfl)
set_option maxHeartbeats 4000000 in
set_option maxRecDepth 100000 in
theorem ct_Mo_net (l : Launch) (D : va_G) (ad : Nat → Nat) (cA : Nat → ClassId) (mo sz : Nat) (F : Nat → Int) (A : Nat → Int → Int) (x1 : Int) (x2 : Int) (Q : Int → (Nat → Int) → (Nat → Int → Int) → Prop) (h : w_Mo_net mo F A x1 x2 Q) : Met l y_Mo_net (Cond.code y_Mo_net c_Mo_net 3 (some .int) :: gT) ({ frames := 1, cells := 0, slots := 0, locals := 21 } : Room) (va_Pc [.ref (ad 30), .int (iI x1), .int (iI x2)] (x_P D vCl shU ad cA (NN mo) sz F A)) (x_QI D vCl shU ad cA (NN mo) (va_A (x_w shU ad cA (NN mo) F A) sz) Q) 0 0 (va_A (x_w shU ad cA (NN mo) F A) sz) := by
  refine Met.ofW (cc := c_Mo_net) (maxL := 3) (ret := some .int) (by decide) rfl ?_
  intro p e s m args below meth c s₁ B hml hv
  obtain ⟨rfl, hsz, hP, hK, hD0, hN0⟩ := hv
  have hx := B.exec
  have hb := B.bytes
  have hr := B.returns
  have hts0 := atoms_spec (ws := (Cond.code y_Mo_net c_Mo_net 3 (some .int) :: gT)) B.pre
  have hts : ∀ w ∈ gT, w.before _ s = true := fun w h => hts0 w (List.mem_cons_of_mem _ h)
  have hown : s.vm.findClass R_Mo = some m.cls := findClass_of_methodNamed B.named
  have hlocks := B.notSynchronized
  subst hsz
  have hS : x_S D vCl shU ad cA (NN mo) (va_A (x_w shU ad cA (NN mo) F A) s.heap.size) s F A s.heap [] := ⟨hK, hP, hD0.self, va_S.rf, hN0⟩
  have hA : ∀ q : Nat, s.heap.size ≤ q → va_A (x_w shU ad cA (NN mo) F A) s.heap.size q := fun q h => Or.inr h
  have C0 : x_C p s m [.ref (ad 30), .int (iI x1), .int (iI x2)].toArray meth c c_Mo_net 3 (some .int) gT R_Mo := ⟨hx, hb, hr, hml, hown, hts, hlocks⟩
  generalize va_A (x_w shU ad cA (NN mo) F A) s.heap.size = A0 at hS hA ⊢
  have hl := lv_entry [.ref (ad 30), .int (iI x1), .int (iI x2)] (n := 3) (Nat.le_of_ble_eq_true rfl)
  rw [lg_entry_eq]
  generalize (lg_sl [.ref (ad 30), .int (iI x1), .int (iI x2)] ++ List.replicate (3 - (lg_sl [.ref (ad 30), .int (iI x1), .int (iI x2)]).length) Slot.unset).toArray = ls at hl ⊢
  have hl : lv_has ls 3 [(0, .ref (ad 30)), (1, .int (iI x1)), (2, .int (iI x2))] := hl
  refine lv_aload_n hx hb d_Mo_net_0 rfl (lv_at hl 0 rfl) ?_
  refine lv_aload_n hx hb d_Mo_net_1 rfl (lv_at hl 0 rfl) ?_
  refine lv_iload_n hx hb d_Mo_net_2 rfl (lv_at hl 1 rfl) ?_
  refine r_ci (va_runV (As := [.int (iI x1)]) (rest := [.ref (ad 30)]) ⟨hx, hb, hml, hown, hts⟩ (ct_Mo_isCell l D ad cA mo _ _ _ _ _ h) (cwV 1 hts (gV tw_734 tw_736 tw_s_Mo_isCell tw_8 tw_737) rfl rfl rfl (by decide +kernel) ⟨Nat.le_of_ble_eq_true rfl, Nat.le_of_ble_eq_true rfl⟩) (x_preV hS 30 rfl rfl _) rfl rfl hl.1 rfl (lv_room (Nat.le_of_ble_eq_true rfl)) d_Mo_net_3 ⟨Nat.zero_le _, Nat.zero_le _⟩) hS hA (fun z4 F4 A4 H locs hS h => ?_)
  obtain ⟨rfl, rfl, h⟩ := h
  obtain ⟨g5, h⟩ := h
  refine r_if_eq (tgt := 17) hx hb g5 d_Mo_net_6 (by decide) (fun hc => ?_) (fun hc => ?_)
  · replace h := h.1 hc
    exact s_Mo_net_b17 C0 hA _ _ _ _ h _ _ _ hS (lv_sub hl [0, 1, 2] rfl)
  · replace h := h.2 hc
    refine lv_aload_n hx hb d_Mo_net_9 rfl (lv_at hl 0 rfl) ?_
    refine lv_iload_n hx hb d_Mo_net_10 rfl (lv_at hl 2 rfl) ?_
    refine r_ci (va_runV (As := [.int (iI x2)]) (rest := [.ref (ad 30)]) ⟨hx, hb, hml, hown, hts⟩ (ct_Mo_isCell l D ad cA mo _ _ _ _ _ h) (cwV 1 hts (gV tw_734 tw_736 tw_s_Mo_isCell tw_8 tw_737) rfl rfl rfl (by decide +kernel) ⟨Nat.le_of_ble_eq_true rfl, Nat.le_of_ble_eq_true rfl⟩) (x_preV hS 30 rfl rfl _) rfl rfl hl.1 rfl (lv_room (Nat.le_of_ble_eq_true rfl)) d_Mo_net_11 ⟨Nat.zero_le _, Nat.zero_le _⟩) hS hA (fun z6 F6 A6 H locs hS h => ?_)
    obtain ⟨rfl, rfl, h⟩ := h
    obtain ⟨g7, h⟩ := h
    refine r_if_ne (tgt := 21) hx hb g7 d_Mo_net_14 (by decide) (fun hc => ?_) (fun hc => ?_)
    · replace h := h.1 hc
      refine lv_aload_n hx hb d_Mo_net_21 rfl (lv_at hl 0 rfl) ?_
      refine r_geti (z := F 14) hx hb hts in_Mo hown hS 30 rfl rfl 13 (by decide) rfl (hts _ tw_647) d_Mo_net_22 rfl ?_
      refine r_bipush hx hb d_Mo_net_25 (by decide +kernel) ?_
      obtain ⟨g8, h⟩ := h
      refine r_icmp_ne (tgt := 34) hx hb g8 ⟨by omega, by omega⟩ d_Mo_net_27 (by decide) (fun hc => ?_) (fun hc => ?_)
      · replace h := h.1 hc
        refine lv_iload_n hx hb d_Mo_net_34 rfl (lv_at hl 1 rfl) ?_
        refine lv_iload_n hx hb d_Mo_net_35 rfl (lv_at hl 2 rfl) ?_
        obtain ⟨g9, h⟩ := h
        obtain ⟨g10, h⟩ := h
        refine r_icmp_ne (tgt := 43) hx hb g9 g10 d_Mo_net_36 (by decide) (fun hc => ?_) (fun hc => ?_)
        · replace h := h.1 hc
          refine r_iconst hx hb d_Mo_net_43 ?_
          exact s_Mo_net_b44 C0 hA _ _ _ _ _ h _ _ _ hS (lv_sub hl [0, 1, 2] rfl)
        · replace h := h.2 hc
          refine r_iconst hx hb d_Mo_net_39 ?_
          refine lv_goto (tgt := 44) hx hb d_Mo_net_40 (by decide) ?_
          exact s_Mo_net_b44 C0 hA _ _ _ _ _ h _ _ _ hS (lv_sub hl [0, 1, 2] rfl)
      · replace h := h.2 hc
        refine r_iconst hx hb d_Mo_net_30 ?_
        refine lv_goto (tgt := 44) hx hb d_Mo_net_31 (by decide) ?_
        exact s_Mo_net_b44 C0 hA _ _ _ _ _ h _ _ _ hS (lv_sub hl [0, 1, 2] rfl)
    · replace h := h.2 hc
      exact s_Mo_net_b17 C0 hA _ _ _ _ h _ _ _ hS (lv_sub hl [0, 1, 2] rfl)
/-! Mo_wire -/
def w_Mo_wire_b13 (mo : Nat) (Q : Int → (Nat → Int) → (Nat → Int → Int) → Prop) (y1 : Int) (F : Nat → Int) (A : Nat → Int → Int) : Prop := rg y1 ∧ ((y1 ≤ 0 → w_Mo_wireOf mo (uf F 10 y1) A (fun z2 => Q z2 (uf F 10 y1) A)) ∧ (¬ y1 ≤ 0 → Q 0 (uf F 10 y1) A))
def w_Mo_wire (mo : Nat) (F : Nat → Int) (A : Nat → Int → Int)  (Q : Int → (Nat → Int) → (Nat → Int → Int) → Prop) : Prop := rg (F 15) ∧ (((F 15) = 0 → w_Mo_wire_b13 mo Q 1 F A) ∧ (¬ (F 15) = 0 → w_Mo_wire_b13 mo Q 0 F A))
set_option maxHeartbeats 4000000 in
set_option maxRecDepth 100000 in
theorem s_Mo_wire_b13 (C0 : x_C p s m args meth c c_Mo_wire 1 (some .long) gT R_Mo) (hA : ∀ q : Nat, s.heap.size ≤ q → A0 q) {mo : Nat} {Q : Int → (Nat → Int) → (Nat → Int → Int) → Prop} (y1 : Int) (F : Nat → Int) (A : Nat → Int → Int) (h : w_Mo_wire_b13 mo Q y1 F A) (H : Heap) (locs : List Loc) (ls : Array Slot) (hS : x_S D vCl shU ad cA (NN mo) A0 s F A H locs) (hl : lv_has ls 1 [(0, .ref (ad 30))]) : W p l e ({ frames := 2, cells := 0, slots := 0, locals := 46 } : Room) s m args below meth c H locs 0 0 (MQ below (x_QL D vCl shU ad cA (NN mo) A0 Q) args s 0 0 A0) (F0 m 13 ls [.int (iI y1), .ref (ad 30)]) := by
  obtain ⟨hx, hb, hr, hml, hown, hts, hlocks⟩ := id C0
  refine r_puti (j := 10) (v := y1) hx hb hts in_Mo t_Mo to_Mo nm_Mo hown hS 30 rfl rfl 0 (by decide) (hts _ tw_634) rfl (by decide +kernel) (setf_10 ad cA mo _ _ _) (by decide) d_Mo_wire_13 (fun H locs hS => ?_)
  refine lv_aload_n hx hb d_Mo_wire_16 rfl (lv_at hl 0 rfl) ?_
  refine r_geti (z := y1) hx hb hts in_Mo hown hS 30 rfl rfl 0 (by decide) rfl (hts _ tw_634) d_Mo_wire_17 rfl ?_
  obtain ⟨g1, h⟩ := h
  refine r_if_le (tgt := 27) hx hb g1 d_Mo_wire_20 (by decide) (fun hc => ?_) (fun hc => ?_)
  · replace h := h.1 hc
    refine lv_aload_n hx hb d_Mo_wire_27 rfl (lv_at hl 0 rfl) ?_
    refine r_cl (va_runV (As := []) (rest := []) ⟨hx, hb, hml, hown, hts⟩ (ct_Mo_wireOf l D ad cA mo _ _ _ _ h) (cwV 0 hts (gV tw_838 tw_840 tw_s_Mo_wireOf tw_8 tw_841) rfl rfl rfl (by decide +kernel) ⟨Nat.le_of_ble_eq_true rfl, Nat.le_of_ble_eq_true rfl⟩) (x_preV hS 30 rfl rfl _) rfl rfl hl.1 rfl (lv_room (Nat.le_of_ble_eq_true rfl)) d_Mo_wire_28 ⟨Nat.zero_le _, Nat.zero_le _⟩) hS hA (fun z2 F2 A2 H locs hS h => ?_)
    obtain ⟨rfl, rfl, h⟩ := h
    exact r_lret (z := z2) hx hb hr hlocks hS h d_Mo_wire_31
  · replace h := h.2 hc
    refine r_lconst hx hb 0 d_Mo_wire_23 (by decide +kernel) ?_
    refine lv_goto (tgt := 31) hx hb d_Mo_wire_24 (by decide) ?_
    exact r_lret (z := 0) hx hb hr hlocks hS h d_Mo_wire_31
set_option maxHeartbeats 4000000 in
set_option maxRecDepth 100000 in
theorem ct_Mo_wire (l : Launch) (D : va_G) (ad : Nat → Nat) (cA : Nat → ClassId) (mo sz : Nat) (F : Nat → Int) (A : Nat → Int → Int)  (Q : Int → (Nat → Int) → (Nat → Int → Int) → Prop) (h : w_Mo_wire mo F A  Q) : Met l y_Mo_wire (Cond.code y_Mo_wire c_Mo_wire 1 (some .long) :: gT) ({ frames := 2, cells := 0, slots := 0, locals := 46 } : Room) (va_Pc [.ref (ad 30)] (x_P D vCl shU ad cA (NN mo) sz F A)) (x_QL D vCl shU ad cA (NN mo) (va_A (x_w shU ad cA (NN mo) F A) sz) Q) 0 0 (va_A (x_w shU ad cA (NN mo) F A) sz) := by
  refine Met.ofW (cc := c_Mo_wire) (maxL := 1) (ret := some .long) (by decide) rfl ?_
  intro p e s m args below meth c s₁ B hml hv
  obtain ⟨rfl, hsz, hP, hK, hD0, hN0⟩ := hv
  have hx := B.exec
  have hb := B.bytes
  have hr := B.returns
  have hts0 := atoms_spec (ws := (Cond.code y_Mo_wire c_Mo_wire 1 (some .long) :: gT)) B.pre
  have hts : ∀ w ∈ gT, w.before _ s = true := fun w h => hts0 w (List.mem_cons_of_mem _ h)
  have hown : s.vm.findClass R_Mo = some m.cls := findClass_of_methodNamed B.named
  have hlocks := B.notSynchronized
  subst hsz
  have hS : x_S D vCl shU ad cA (NN mo) (va_A (x_w shU ad cA (NN mo) F A) s.heap.size) s F A s.heap [] := ⟨hK, hP, hD0.self, va_S.rf, hN0⟩
  have hA : ∀ q : Nat, s.heap.size ≤ q → va_A (x_w shU ad cA (NN mo) F A) s.heap.size q := fun q h => Or.inr h
  have C0 : x_C p s m [.ref (ad 30)].toArray meth c c_Mo_wire 1 (some .long) gT R_Mo := ⟨hx, hb, hr, hml, hown, hts, hlocks⟩
  generalize va_A (x_w shU ad cA (NN mo) F A) s.heap.size = A0 at hS hA ⊢
  have hl := lv_entry [.ref (ad 30)] (n := 1) (Nat.le_of_ble_eq_true rfl)
  rw [lg_entry_eq]
  generalize (lg_sl [.ref (ad 30)] ++ List.replicate (1 - (lg_sl [.ref (ad 30)]).length) Slot.unset).toArray = ls at hl ⊢
  have hl : lv_has ls 1 [(0, .ref (ad 30))] := hl
  refine lv_aload_n hx hb d_Mo_wire_0 rfl (lv_at hl 0 rfl) ?_
  refine lv_aload_n hx hb d_Mo_wire_1 rfl (lv_at hl 0 rfl) ?_
  refine r_geti (z := F 15) hx hb hts in_Mo hown hS 30 rfl rfl 17 (by decide) rfl (hts _ tw_651) d_Mo_wire_2 rfl ?_
  obtain ⟨g3, h⟩ := h
  refine r_if_eq (tgt := 12) hx hb g3 d_Mo_wire_5 (by decide) (fun hc => ?_) (fun hc => ?_)
  · replace h := h.1 hc
    refine r_iconst hx hb d_Mo_wire_12 ?_
    exact s_Mo_wire_b13 C0 hA _ _ _ h _ _ _ hS (lv_sub hl [0] rfl)
  · replace h := h.2 hc
    refine r_iconst hx hb d_Mo_wire_8 ?_
    refine lv_goto (tgt := 13) hx hb d_Mo_wire_9 (by decide) ?_
    exact s_Mo_wire_b13 C0 hA _ _ _ h _ _ _ hS (lv_sub hl [0] rfl)
/-! Mo_overlap -/
def w_Mo_overlap_b170 (mo : Nat) (Q : Int → (Nat → Int) → (Nat → Int → Int) → Prop) (I20 : Int → Int → Prop) (I97 : Int → Int → Prop) (x2 : Int) (x3 : Int) (y0 : Int) (F : Nat → Int) (A : Nat → Int → Int) : Prop := I97 y0 (x3 + 1)
def w_Mo_overlap_b169 (mo : Nat) (Q : Int → (Nat → Int) → (Nat → Int → Int) → Prop) (I20 : Int → Int → Prop) (I97 : Int → Int → Prop) (x2 : Int) (x3 : Int) (F : Nat → Int) (A : Nat → Int → Int) : Prop := w_Mo_overlap_b170 mo Q I20 I97 x2 x3 0 F A
def w_Mo_overlap_b165 (mo : Nat) (Q : Int → (Nat → Int) → (Nat → Int → Int) → Prop) (I20 : Int → Int → Prop) (I97 : Int → Int → Prop) (x2 : Int) (x3 : Int) (F : Nat → Int) (A : Nat → Int → Int) : Prop := w_Mo_overlap_b170 mo Q I20 I97 x2 x3 1 F A
def w_Mo_overlap_b97 (mo : Nat) (Q : Int → (Nat → Int) → (Nat → Int → Int) → Prop) (I20 : Int → Int → Prop) (x2 : Int) (F : Nat → Int) (A : Nat → Int → Int) (x1 : Int) (x3 : Int) : Prop := Lp2 (fun I97 x1 x3 => rg x3 ∧ rg x2 ∧ ((x2 ≤ x3 → I20 x1 (x2 + 1)) ∧ (¬ x2 ≤ x3 → rg x1 ∧ ((¬ x1 = 0 → w_Mo_overlap_b165 mo Q I20 I97 x2 x3 F A) ∧ (x1 = 0 → 0 ≤ x2 ∧ x2 < 60 ∧ 0 ≤ x3 ∧ x3 < 60 ∧ rg (A 34 x2) ∧ rg (A 34 x3) ∧ ((¬ (A 34 x2) = (A 34 x3) → w_Mo_overlap_b169 mo Q I20 I97 x2 x3 F A) ∧ ((A 34 x2) = (A 34 x3) → rg (A 33 x2) ∧ rg ((A 33 x3) + (A 25 x3)) ∧ ((((A 33 x3) + (A 25 x3)) ≤ (A 33 x2) → w_Mo_overlap_b169 mo Q I20 I97 x2 x3 F A) ∧ (¬ ((A 33 x3) + (A 25 x3)) ≤ (A 33 x2) → rg (A 33 x3) ∧ rg ((A 33 x2) + (A 25 x2)) ∧ ((((A 33 x2) + (A 25 x2)) ≤ (A 33 x3) → w_Mo_overlap_b169 mo Q I20 I97 x2 x3 F A) ∧ (¬ ((A 33 x2) + (A 25 x2)) ≤ (A 33 x3) → w_Mo_overlap_b165 mo Q I20 I97 x2 x3 F A))))))))))) x1 x3
def w_Mo_overlap_b88 (mo : Nat) (Q : Int → (Nat → Int) → (Nat → Int → Int) → Prop) (I20 : Int → Int → Prop) (I42 : Int → Int → Prop) (x2 : Int) (x3 : Int) (y0 : Int) (F : Nat → Int) (A : Nat → Int → Int) : Prop := I42 y0 (x3 + 1)
def w_Mo_overlap_b83 (mo : Nat) (Q : Int → (Nat → Int) → (Nat → Int → Int) → Prop) (I20 : Int → Int → Prop) (I42 : Int → Int → Prop) (x2 : Int) (x3 : Int) (F : Nat → Int) (A : Nat → Int → Int) : Prop := w_Mo_overlap_b88 mo Q I20 I42 x2 x3 1 F A
def w_Mo_overlap_b42 (mo : Nat) (Q : Int → (Nat → Int) → (Nat → Int → Int) → Prop) (I20 : Int → Int → Prop) (x2 : Int) (F : Nat → Int) (A : Nat → Int → Int) (x1 : Int) (x3 : Int) : Prop := Lp2 (fun I42 x1 x3 => 0 ≤ x2 ∧ x2 < 60 ∧ rg x3 ∧ rg ((A 33 x2) + (A 25 x2)) ∧ ((((A 33 x2) + (A 25 x2)) ≤ x3 → w_Mo_overlap_b97 mo Q I20 x2 F A x1 0) ∧ (¬ ((A 33 x2) + (A 25 x2)) ≤ x3 → rg x1 ∧ ((¬ x1 = 0 → w_Mo_overlap_b83 mo Q I20 I42 x2 x3 F A) ∧ (x1 = 0 → 0 ≤ ((1000 * (A 34 x2)) + x3) ∧ ((1000 * (A 34 x2)) + x3) < 16000 ∧ rg (A 24 ((1000 * (A 34 x2)) + x3)) ∧ (((A 24 ((1000 * (A 34 x2)) + x3)) = 0 → w_Mo_overlap_b88 mo Q I20 I42 x2 x3 0 F A) ∧ (¬ (A 24 ((1000 * (A 34 x2)) + x3)) = 0 → w_Mo_overlap_b83 mo Q I20 I42 x2 x3 F A))))))) x1 x3
def w_Mo_overlap_b20 (mo : Nat) (Q : Int → (Nat → Int) → (Nat → Int → Int) → Prop) (F : Nat → Int) (A : Nat → Int → Int) (x1 : Int) (x2 : Int) : Prop := Lp2 (fun I20 x1 x2 => rg x2 ∧ rg (F 13) ∧ (((F 13) ≤ x2 → (x1 = 0 ∨ x1 = 1) ∧ Q x1 F A) ∧ (¬ (F 13) ≤ x2 → rg (F 10) ∧ ((¬ (F 10) = 0 → (x1 = 0 ∨ x1 = 1) ∧ Q x1 F A) ∧ ((F 10) = 0 → 0 ≤ x2 ∧ x2 < 60 ∧ w_Mo_overlap_b42 mo Q I20 x2 F A x1 (A 33 x2)))))) x1 x2
def w_Mo_overlap_b13 (mo : Nat) (Q : Int → (Nat → Int) → (Nat → Int → Int) → Prop) (y1 : Int) (F : Nat → Int) (A : Nat → Int → Int) : Prop := w_Mo_overlap_b20 mo Q (uf F 10 y1) A 0 0
def w_Mo_overlap (mo : Nat) (F : Nat → Int) (A : Nat → Int → Int)  (Q : Int → (Nat → Int) → (Nat → Int → Int) → Prop) : Prop := rg (F 15) ∧ (((F 15) = 0 → w_Mo_overlap_b13 mo Q 1 F A) ∧ (¬ (F 15) = 0 → w_Mo_overlap_b13 mo Q 0 F A))
set_option maxHeartbeats 4000000 in
set_option maxRecDepth 100000 in
theorem s_Mo_overlap_b170 (C0 : x_C p s m args meth c c_Mo_overlap 4 (some .boolean) gT R_Mo) (hA : ∀ q : Nat, s.heap.size ≤ q → A0 q) {mo : Nat} {Q : Int → (Nat → Int) → (Nat → Int → Int) → Prop} {I20 : Int → Int → Prop} {I97 : Int → Int → Prop} (x2 : Int) (x3 : Int) (y0 : Int) (F : Nat → Int) (A : Nat → Int → Int) (hI20 : ∀ (x1 : Int) (x2 : Int), I20 x1 x2 → ∀ (H : Heap) (locs : List Loc) (ls : Array Slot), x_S D vCl shU ad cA (NN mo) A0 s F A H locs → lv_has ls 4 [(0, .ref (ad 30)), (1, .int (iI x1)), (2, .int (iI x2))] → W p l e ({ frames := 0, cells := 0, slots := 0, locals := 0 } : Room) s m args below meth c H locs 0 0 (MQ below (x_QI D vCl shU ad cA (NN mo) A0 Q) args s 0 0 A0) (F0 m 20 ls [])) (hI97 : ∀ (x1 : Int) (x3 : Int), I97 x1 x3 → ∀ (H : Heap) (locs : List Loc) (ls : Array Slot), x_S D vCl shU ad cA (NN mo) A0 s F A H locs → lv_has ls 4 [(0, .ref (ad 30)), (1, .int (iI x1)), (2, .int (iI x2)), (3, .int (iI x3))] → W p l e ({ frames := 0, cells := 0, slots := 0, locals := 0 } : Room) s m args below meth c H locs 0 0 (MQ below (x_QI D vCl shU ad cA (NN mo) A0 Q) args s 0 0 A0) (F0 m 97 ls [])) (h : w_Mo_overlap_b170 mo Q I20 I97 x2 x3 y0 F A) (H : Heap) (locs : List Loc) (ls : Array Slot) (hS : x_S D vCl shU ad cA (NN mo) A0 s F A H locs) (hl : lv_has ls 4 [(0, .ref (ad 30)), (2, .int (iI x2)), (3, .int (iI x3))]) : W p l e ({ frames := 0, cells := 0, slots := 0, locals := 0 } : Room) s m args below meth c H locs 0 0 (MQ below (x_QI D vCl shU ad cA (NN mo) A0 Q) args s 0 0 A0) (F0 m 170 ls [.int (iI y0)]) := by
  obtain ⟨hx, hb, hr, hml, hown, hts, hlocks⟩ := id C0
  refine lv_istore_n (lv' := [(1, .int (iI y0)), (0, .ref (ad 30)), (2, .int (iI x2)), (3, .int (iI x3))]) hx hb d_Mo_overlap_170 rfl hl (by decide) rfl (fun ls hl => ?_)
  refine r_iinc (k := 3) (z := x3) (lv' := [(3, .int (iI (x3 + 1))), (1, .int (iI y0)), (0, .ref (ad 30)), (2, .int (iI x2))]) hx hb d_Mo_overlap_171 hl rfl (by decide) rfl (fun ls hl => ?_)
  refine lv_goto (tgt := 97) hx hb d_Mo_overlap_174 (by decide) ?_
  exact hI97 _ _ h _ _ _ hS (lv_sub hl [2, 1, 3, 0] rfl)
set_option maxHeartbeats 4000000 in
set_option maxRecDepth 100000 in
theorem s_Mo_overlap_b169 (C0 : x_C p s m args meth c c_Mo_overlap 4 (some .boolean) gT R_Mo) (hA : ∀ q : Nat, s.heap.size ≤ q → A0 q) {mo : Nat} {Q : Int → (Nat → Int) → (Nat → Int → Int) → Prop} {I20 : Int → Int → Prop} {I97 : Int → Int → Prop} (x2 : Int) (x3 : Int) (F : Nat → Int) (A : Nat → Int → Int) (hI20 : ∀ (x1 : Int) (x2 : Int), I20 x1 x2 → ∀ (H : Heap) (locs : List Loc) (ls : Array Slot), x_S D vCl shU ad cA (NN mo) A0 s F A H locs → lv_has ls 4 [(0, .ref (ad 30)), (1, .int (iI x1)), (2, .int (iI x2))] → W p l e ({ frames := 0, cells := 0, slots := 0, locals := 0 } : Room) s m args below meth c H locs 0 0 (MQ below (x_QI D vCl shU ad cA (NN mo) A0 Q) args s 0 0 A0) (F0 m 20 ls [])) (hI97 : ∀ (x1 : Int) (x3 : Int), I97 x1 x3 → ∀ (H : Heap) (locs : List Loc) (ls : Array Slot), x_S D vCl shU ad cA (NN mo) A0 s F A H locs → lv_has ls 4 [(0, .ref (ad 30)), (1, .int (iI x1)), (2, .int (iI x2)), (3, .int (iI x3))] → W p l e ({ frames := 0, cells := 0, slots := 0, locals := 0 } : Room) s m args below meth c H locs 0 0 (MQ below (x_QI D vCl shU ad cA (NN mo) A0 Q) args s 0 0 A0) (F0 m 97 ls [])) (h : w_Mo_overlap_b169 mo Q I20 I97 x2 x3 F A) (H : Heap) (locs : List Loc) (ls : Array Slot) (hS : x_S D vCl shU ad cA (NN mo) A0 s F A H locs) (hl : lv_has ls 4 [(0, .ref (ad 30)), (2, .int (iI x2)), (3, .int (iI x3))]) : W p l e ({ frames := 0, cells := 0, slots := 0, locals := 0 } : Room) s m args below meth c H locs 0 0 (MQ below (x_QI D vCl shU ad cA (NN mo) A0 Q) args s 0 0 A0) (F0 m 169 ls []) := by
  obtain ⟨hx, hb, hr, hml, hown, hts, hlocks⟩ := id C0
  refine r_iconst hx hb d_Mo_overlap_169 ?_
  exact s_Mo_overlap_b170 C0 hA _ _ _ _ _ hI20 hI97 h _ _ _ hS (lv_sub hl [0, 1, 2] rfl)
set_option maxHeartbeats 4000000 in
set_option maxRecDepth 100000 in
theorem s_Mo_overlap_b165 (C0 : x_C p s m args meth c c_Mo_overlap 4 (some .boolean) gT R_Mo) (hA : ∀ q : Nat, s.heap.size ≤ q → A0 q) {mo : Nat} {Q : Int → (Nat → Int) → (Nat → Int → Int) → Prop} {I20 : Int → Int → Prop} {I97 : Int → Int → Prop} (x2 : Int) (x3 : Int) (F : Nat → Int) (A : Nat → Int → Int) (hI20 : ∀ (x1 : Int) (x2 : Int), I20 x1 x2 → ∀ (H : Heap) (locs : List Loc) (ls : Array Slot), x_S D vCl shU ad cA (NN mo) A0 s F A H locs → lv_has ls 4 [(0, .ref (ad 30)), (1, .int (iI x1)), (2, .int (iI x2))] → W p l e ({ frames := 0, cells := 0, slots := 0, locals := 0 } : Room) s m args below meth c H locs 0 0 (MQ below (x_QI D vCl shU ad cA (NN mo) A0 Q) args s 0 0 A0) (F0 m 20 ls [])) (hI97 : ∀ (x1 : Int) (x3 : Int), I97 x1 x3 → ∀ (H : Heap) (locs : List Loc) (ls : Array Slot), x_S D vCl shU ad cA (NN mo) A0 s F A H locs → lv_has ls 4 [(0, .ref (ad 30)), (1, .int (iI x1)), (2, .int (iI x2)), (3, .int (iI x3))] → W p l e ({ frames := 0, cells := 0, slots := 0, locals := 0 } : Room) s m args below meth c H locs 0 0 (MQ below (x_QI D vCl shU ad cA (NN mo) A0 Q) args s 0 0 A0) (F0 m 97 ls [])) (h : w_Mo_overlap_b165 mo Q I20 I97 x2 x3 F A) (H : Heap) (locs : List Loc) (ls : Array Slot) (hS : x_S D vCl shU ad cA (NN mo) A0 s F A H locs) (hl : lv_has ls 4 [(0, .ref (ad 30)), (2, .int (iI x2)), (3, .int (iI x3))]) : W p l e ({ frames := 0, cells := 0, slots := 0, locals := 0 } : Room) s m args below meth c H locs 0 0 (MQ below (x_QI D vCl shU ad cA (NN mo) A0 Q) args s 0 0 A0) (F0 m 165 ls []) := by
  obtain ⟨hx, hb, hr, hml, hown, hts, hlocks⟩ := id C0
  refine r_iconst hx hb d_Mo_overlap_165 ?_
  refine lv_goto (tgt := 170) hx hb d_Mo_overlap_166 (by decide) ?_
  exact s_Mo_overlap_b170 C0 hA _ _ _ _ _ hI20 hI97 h _ _ _ hS (lv_sub hl [0, 1, 2] rfl)
set_option maxHeartbeats 4000000 in
set_option maxRecDepth 100000 in
theorem s_Mo_overlap_b97 (C0 : x_C p s m args meth c c_Mo_overlap 4 (some .boolean) gT R_Mo) (hA : ∀ q : Nat, s.heap.size ≤ q → A0 q) {mo : Nat} {Q : Int → (Nat → Int) → (Nat → Int → Int) → Prop} {I20 : Int → Int → Prop} (x2 : Int) (F : Nat → Int) (A : Nat → Int → Int) (x1 : Int) (x3 : Int) (hI20 : ∀ (x1 : Int) (x2 : Int), I20 x1 x2 → ∀ (H : Heap) (locs : List Loc) (ls : Array Slot), x_S D vCl shU ad cA (NN mo) A0 s F A H locs → lv_has ls 4 [(0, .ref (ad 30)), (1, .int (iI x1)), (2, .int (iI x2))] → W p l e ({ frames := 0, cells := 0, slots := 0, locals := 0 } : Room) s m args below meth c H locs 0 0 (MQ below (x_QI D vCl shU ad cA (NN mo) A0 Q) args s 0 0 A0) (F0 m 20 ls [])) (h : w_Mo_overlap_b97 mo Q I20 x2 F A x1 x3) (H : Heap) (locs : List Loc) (ls : Array Slot) (hS : x_S D vCl shU ad cA (NN mo) A0 s F A H locs) (hl : lv_has ls 4 [(0, .ref (ad 30)), (1, .int (iI x1)), (2, .int (iI x2)), (3, .int (iI x3))]) : W p l e ({ frames := 0, cells := 0, slots := 0, locals := 0 } : Room) s m args below meth c H locs 0 0 (MQ below (x_QI D vCl shU ad cA (NN mo) A0 Q) args s 0 0 A0) (F0 m 97 ls []) := by
  obtain ⟨hx, hb, hr, hml, hown, hts, hlocks⟩ := id C0
  refine h (fun x1 x3 => ∀ (H : Heap) (locs : List Loc) (ls : Array Slot), x_S D vCl shU ad cA (NN mo) A0 s F A H locs → lv_has ls 4 [(0, .ref (ad 30)), (1, .int (iI x1)), (2, .int (iI x2)), (3, .int (iI x3))] → W p l e ({ frames := 0, cells := 0, slots := 0, locals := 0 } : Room) s m args below meth c H locs 0 0 (MQ below (x_QI D vCl shU ad cA (NN mo) A0 Q) args s 0 0 A0) (F0 m 97 ls [])) ?_ H locs ls hS hl
  intro x1 x3 h H locs ls hS hl
  refine lv_iload_n hx hb d_Mo_overlap_97 rfl (lv_at hl 3 rfl) ?_
  refine lv_iload_n hx hb d_Mo_overlap_98 rfl (lv_at hl 2 rfl) ?_
  obtain ⟨g1, h⟩ := h
  obtain ⟨g2, h⟩ := h
  refine r_icmp_ge (tgt := 177) hx hb g1 g2 d_Mo_overlap_99 (by decide) (fun hc => ?_) (fun hc => ?_)
  · replace h := h.1 hc
    refine r_iinc (k := 2) (z := x2) (lv' := [(2, .int (iI (x2 + 1))), (0, .ref (ad 30)), (1, .int (iI x1)), (3, .int (iI x3))]) hx hb d_Mo_overlap_177 hl rfl (by decide) rfl (fun ls hl => ?_)
    refine lv_goto (tgt := 20) hx hb d_Mo_overlap_180 (by decide) ?_
    exact hI20 _ _ h _ _ _ hS (lv_sub hl [1, 2, 0] rfl)
  · replace h := h.2 hc
    refine lv_iload_n hx hb d_Mo_overlap_102 rfl (lv_at hl 1 rfl) ?_
    obtain ⟨g3, h⟩ := h
    refine r_if_ne (tgt := 165) hx hb g3 d_Mo_overlap_103 (by decide) (fun hc => ?_) (fun hc => ?_)
    · replace h := h.1 hc
      exact s_Mo_overlap_b165 C0 hA _ _ _ _ hI20 (fun _ _ h => h) h _ _ _ hS (lv_sub hl [0, 2, 3] rfl)
    · replace h := h.2 hc
      refine lv_aload_n hx hb d_Mo_overlap_106 rfl (lv_at hl 0 rfl) ?_
      refine r_getr (t2 := 41) hx hb hts in_Mo hown hS 30 rfl rfl 15 (by decide) rfl (hts _ tw_649) d_Mo_overlap_107 ?_
      refine lv_iload_n hx hb d_Mo_overlap_110 rfl (lv_at hl 2 rfl) ?_
      obtain ⟨g4, h⟩ := h
      obtain ⟨g5, h⟩ := h
      refine r_iald (id := 34) (i := x2) (z := A 34 x2) hx hb hS 41 rfl g4 g5 d_Mo_overlap_111 rfl ?_
      refine lv_aload_n hx hb d_Mo_overlap_112 rfl (lv_at hl 0 rfl) ?_
      refine r_getr (t2 := 41) hx hb hts in_Mo hown hS 30 rfl rfl 15 (by decide) rfl (hts _ tw_649) d_Mo_overlap_113 ?_
      refine lv_iload_n hx hb d_Mo_overlap_116 rfl (lv_at hl 3 rfl) ?_
      obtain ⟨g6, h⟩ := h
      obtain ⟨g7, h⟩ := h
      refine r_iald (id := 34) (i := x3) (z := A 34 x3) hx hb hS 41 rfl g6 g7 d_Mo_overlap_117 rfl ?_
      obtain ⟨g8, h⟩ := h
      obtain ⟨g9, h⟩ := h
      refine r_icmp_ne (tgt := 169) hx hb g8 g9 d_Mo_overlap_118 (by decide) (fun hc => ?_) (fun hc => ?_)
      · replace h := h.1 hc
        exact s_Mo_overlap_b169 C0 hA _ _ _ _ hI20 (fun _ _ h => h) h _ _ _ hS (lv_sub hl [0, 2, 3] rfl)
      · replace h := h.2 hc
        refine lv_aload_n hx hb d_Mo_overlap_121 rfl (lv_at hl 0 rfl) ?_
        refine r_getr (t2 := 40) hx hb hts in_Mo hown hS 30 rfl rfl 14 (by decide) rfl (hts _ tw_648) d_Mo_overlap_122 ?_
        refine lv_iload_n hx hb d_Mo_overlap_125 rfl (lv_at hl 2 rfl) ?_
        refine r_iald (id := 33) (i := x2) (z := A 33 x2) hx hb hS 40 rfl g4 g5 d_Mo_overlap_126 rfl ?_
        refine lv_aload_n hx hb d_Mo_overlap_127 rfl (lv_at hl 0 rfl) ?_
        refine r_getr (t2 := 40) hx hb hts in_Mo hown hS 30 rfl rfl 14 (by decide) rfl (hts _ tw_648) d_Mo_overlap_128 ?_
        refine lv_iload_n hx hb d_Mo_overlap_131 rfl (lv_at hl 3 rfl) ?_
        refine r_iald (id := 33) (i := x3) (z := A 33 x3) hx hb hS 40 rfl g6 g7 d_Mo_overlap_132 rfl ?_
        refine lv_aload_n hx hb d_Mo_overlap_133 rfl (lv_at hl 0 rfl) ?_
        refine r_getr (t2 := 32) hx hb hts in_Mo hown hS 30 rfl rfl 5 (by decide) rfl (hts _ tw_639) d_Mo_overlap_134 ?_
        refine lv_iload_n hx hb d_Mo_overlap_137 rfl (lv_at hl 3 rfl) ?_
        refine r_iald (id := 25) (i := x3) (z := A 25 x3) hx hb hS 32 rfl g6 g7 d_Mo_overlap_138 rfl ?_
        refine r_iadd hx hb d_Mo_overlap_139 ?_
        obtain ⟨g10, h⟩ := h
        obtain ⟨g11, h⟩ := h
        refine r_icmp_ge (tgt := 169) hx hb g10 g11 d_Mo_overlap_140 (by decide) (fun hc => ?_) (fun hc => ?_)
        · replace h := h.1 hc
          exact s_Mo_overlap_b169 C0 hA _ _ _ _ hI20 (fun _ _ h => h) h _ _ _ hS (lv_sub hl [0, 2, 3] rfl)
        · replace h := h.2 hc
          refine lv_aload_n hx hb d_Mo_overlap_143 rfl (lv_at hl 0 rfl) ?_
          refine r_getr (t2 := 40) hx hb hts in_Mo hown hS 30 rfl rfl 14 (by decide) rfl (hts _ tw_648) d_Mo_overlap_144 ?_
          refine lv_iload_n hx hb d_Mo_overlap_147 rfl (lv_at hl 3 rfl) ?_
          refine r_iald (id := 33) (i := x3) (z := A 33 x3) hx hb hS 40 rfl g6 g7 d_Mo_overlap_148 rfl ?_
          refine lv_aload_n hx hb d_Mo_overlap_149 rfl (lv_at hl 0 rfl) ?_
          refine r_getr (t2 := 40) hx hb hts in_Mo hown hS 30 rfl rfl 14 (by decide) rfl (hts _ tw_648) d_Mo_overlap_150 ?_
          refine lv_iload_n hx hb d_Mo_overlap_153 rfl (lv_at hl 2 rfl) ?_
          refine r_iald (id := 33) (i := x2) (z := A 33 x2) hx hb hS 40 rfl g4 g5 d_Mo_overlap_154 rfl ?_
          refine lv_aload_n hx hb d_Mo_overlap_155 rfl (lv_at hl 0 rfl) ?_
          refine r_getr (t2 := 32) hx hb hts in_Mo hown hS 30 rfl rfl 5 (by decide) rfl (hts _ tw_639) d_Mo_overlap_156 ?_
          refine lv_iload_n hx hb d_Mo_overlap_159 rfl (lv_at hl 2 rfl) ?_
          refine r_iald (id := 25) (i := x2) (z := A 25 x2) hx hb hS 32 rfl g4 g5 d_Mo_overlap_160 rfl ?_
          refine r_iadd hx hb d_Mo_overlap_161 ?_
          obtain ⟨g12, h⟩ := h
          obtain ⟨g13, h⟩ := h
          refine r_icmp_ge (tgt := 169) hx hb g12 g13 d_Mo_overlap_162 (by decide) (fun hc => ?_) (fun hc => ?_)
          · replace h := h.1 hc
            exact s_Mo_overlap_b169 C0 hA _ _ _ _ hI20 (fun _ _ h => h) h _ _ _ hS (lv_sub hl [0, 2, 3] rfl)
          · replace h := h.2 hc
            exact s_Mo_overlap_b165 C0 hA _ _ _ _ hI20 (fun _ _ h => h) h _ _ _ hS (lv_sub hl [0, 2, 3] rfl)
set_option maxHeartbeats 4000000 in
set_option maxRecDepth 100000 in
theorem s_Mo_overlap_b88 (C0 : x_C p s m args meth c c_Mo_overlap 4 (some .boolean) gT R_Mo) (hA : ∀ q : Nat, s.heap.size ≤ q → A0 q) {mo : Nat} {Q : Int → (Nat → Int) → (Nat → Int → Int) → Prop} {I20 : Int → Int → Prop} {I42 : Int → Int → Prop} (x2 : Int) (x3 : Int) (y0 : Int) (F : Nat → Int) (A : Nat → Int → Int) (hI20 : ∀ (x1 : Int) (x2 : Int), I20 x1 x2 → ∀ (H : Heap) (locs : List Loc) (ls : Array Slot), x_S D vCl shU ad cA (NN mo) A0 s F A H locs → lv_has ls 4 [(0, .ref (ad 30)), (1, .int (iI x1)), (2, .int (iI x2))] → W p l e ({ frames := 0, cells := 0, slots := 0, locals := 0 } : Room) s m args below meth c H locs 0 0 (MQ below (x_QI D vCl shU ad cA (NN mo) A0 Q) args s 0 0 A0) (F0 m 20 ls [])) (hI42 : ∀ (x1 : Int) (x3 : Int), I42 x1 x3 → ∀ (H : Heap) (locs : List Loc) (ls : Array Slot), x_S D vCl shU ad cA (NN mo) A0 s F A H locs → lv_has ls 4 [(0, .ref (ad 30)), (1, .int (iI x1)), (2, .int (iI x2)), (3, .int (iI x3))] → W p l e ({ frames := 0, cells := 0, slots := 0, locals := 0 } : Room) s m args below meth c H locs 0 0 (MQ below (x_QI D vCl shU ad cA (NN mo) A0 Q) args s 0 0 A0) (F0 m 42 ls [])) (h : w_Mo_overlap_b88 mo Q I20 I42 x2 x3 y0 F A) (H : Heap) (locs : List Loc) (ls : Array Slot) (hS : x_S D vCl shU ad cA (NN mo) A0 s F A H locs) (hl : lv_has ls 4 [(0, .ref (ad 30)), (2, .int (iI x2)), (3, .int (iI x3))]) : W p l e ({ frames := 0, cells := 0, slots := 0, locals := 0 } : Room) s m args below meth c H locs 0 0 (MQ below (x_QI D vCl shU ad cA (NN mo) A0 Q) args s 0 0 A0) (F0 m 88 ls [.int (iI y0)]) := by
  obtain ⟨hx, hb, hr, hml, hown, hts, hlocks⟩ := id C0
  refine lv_istore_n (lv' := [(1, .int (iI y0)), (0, .ref (ad 30)), (2, .int (iI x2)), (3, .int (iI x3))]) hx hb d_Mo_overlap_88 rfl hl (by decide) rfl (fun ls hl => ?_)
  refine r_iinc (k := 3) (z := x3) (lv' := [(3, .int (iI (x3 + 1))), (1, .int (iI y0)), (0, .ref (ad 30)), (2, .int (iI x2))]) hx hb d_Mo_overlap_89 hl rfl (by decide) rfl (fun ls hl => ?_)
  refine lv_goto (tgt := 42) hx hb d_Mo_overlap_92 (by decide) ?_
  exact hI42 _ _ h _ _ _ hS (lv_sub hl [2, 1, 3, 0] rfl)
set_option maxHeartbeats 4000000 in
set_option maxRecDepth 100000 in
theorem s_Mo_overlap_b83 (C0 : x_C p s m args meth c c_Mo_overlap 4 (some .boolean) gT R_Mo) (hA : ∀ q : Nat, s.heap.size ≤ q → A0 q) {mo : Nat} {Q : Int → (Nat → Int) → (Nat → Int → Int) → Prop} {I20 : Int → Int → Prop} {I42 : Int → Int → Prop} (x2 : Int) (x3 : Int) (F : Nat → Int) (A : Nat → Int → Int) (hI20 : ∀ (x1 : Int) (x2 : Int), I20 x1 x2 → ∀ (H : Heap) (locs : List Loc) (ls : Array Slot), x_S D vCl shU ad cA (NN mo) A0 s F A H locs → lv_has ls 4 [(0, .ref (ad 30)), (1, .int (iI x1)), (2, .int (iI x2))] → W p l e ({ frames := 0, cells := 0, slots := 0, locals := 0 } : Room) s m args below meth c H locs 0 0 (MQ below (x_QI D vCl shU ad cA (NN mo) A0 Q) args s 0 0 A0) (F0 m 20 ls [])) (hI42 : ∀ (x1 : Int) (x3 : Int), I42 x1 x3 → ∀ (H : Heap) (locs : List Loc) (ls : Array Slot), x_S D vCl shU ad cA (NN mo) A0 s F A H locs → lv_has ls 4 [(0, .ref (ad 30)), (1, .int (iI x1)), (2, .int (iI x2)), (3, .int (iI x3))] → W p l e ({ frames := 0, cells := 0, slots := 0, locals := 0 } : Room) s m args below meth c H locs 0 0 (MQ below (x_QI D vCl shU ad cA (NN mo) A0 Q) args s 0 0 A0) (F0 m 42 ls [])) (h : w_Mo_overlap_b83 mo Q I20 I42 x2 x3 F A) (H : Heap) (locs : List Loc) (ls : Array Slot) (hS : x_S D vCl shU ad cA (NN mo) A0 s F A H locs) (hl : lv_has ls 4 [(0, .ref (ad 30)), (2, .int (iI x2)), (3, .int (iI x3))]) : W p l e ({ frames := 0, cells := 0, slots := 0, locals := 0 } : Room) s m args below meth c H locs 0 0 (MQ below (x_QI D vCl shU ad cA (NN mo) A0 Q) args s 0 0 A0) (F0 m 83 ls []) := by
  obtain ⟨hx, hb, hr, hml, hown, hts, hlocks⟩ := id C0
  refine r_iconst hx hb d_Mo_overlap_83 ?_
  refine lv_goto (tgt := 88) hx hb d_Mo_overlap_84 (by decide) ?_
  exact s_Mo_overlap_b88 C0 hA _ _ _ _ _ hI20 hI42 h _ _ _ hS (lv_sub hl [0, 1, 2] rfl)
set_option maxHeartbeats 4000000 in
set_option maxRecDepth 100000 in
theorem s_Mo_overlap_b42 (C0 : x_C p s m args meth c c_Mo_overlap 4 (some .boolean) gT R_Mo) (hA : ∀ q : Nat, s.heap.size ≤ q → A0 q) {mo : Nat} {Q : Int → (Nat → Int) → (Nat → Int → Int) → Prop} {I20 : Int → Int → Prop} (x2 : Int) (F : Nat → Int) (A : Nat → Int → Int) (x1 : Int) (x3 : Int) (hI20 : ∀ (x1 : Int) (x2 : Int), I20 x1 x2 → ∀ (H : Heap) (locs : List Loc) (ls : Array Slot), x_S D vCl shU ad cA (NN mo) A0 s F A H locs → lv_has ls 4 [(0, .ref (ad 30)), (1, .int (iI x1)), (2, .int (iI x2))] → W p l e ({ frames := 0, cells := 0, slots := 0, locals := 0 } : Room) s m args below meth c H locs 0 0 (MQ below (x_QI D vCl shU ad cA (NN mo) A0 Q) args s 0 0 A0) (F0 m 20 ls [])) (h : w_Mo_overlap_b42 mo Q I20 x2 F A x1 x3) (H : Heap) (locs : List Loc) (ls : Array Slot) (hS : x_S D vCl shU ad cA (NN mo) A0 s F A H locs) (hl : lv_has ls 4 [(0, .ref (ad 30)), (1, .int (iI x1)), (2, .int (iI x2)), (3, .int (iI x3))]) : W p l e ({ frames := 0, cells := 0, slots := 0, locals := 0 } : Room) s m args below meth c H locs 0 0 (MQ below (x_QI D vCl shU ad cA (NN mo) A0 Q) args s 0 0 A0) (F0 m 42 ls []) := by
  obtain ⟨hx, hb, hr, hml, hown, hts, hlocks⟩ := id C0
  refine h (fun x1 x3 => ∀ (H : Heap) (locs : List Loc) (ls : Array Slot), x_S D vCl shU ad cA (NN mo) A0 s F A H locs → lv_has ls 4 [(0, .ref (ad 30)), (1, .int (iI x1)), (2, .int (iI x2)), (3, .int (iI x3))] → W p l e ({ frames := 0, cells := 0, slots := 0, locals := 0 } : Room) s m args below meth c H locs 0 0 (MQ below (x_QI D vCl shU ad cA (NN mo) A0 Q) args s 0 0 A0) (F0 m 42 ls [])) ?_ H locs ls hS hl
  intro x1 x3 h H locs ls hS hl
  refine lv_iload_n hx hb d_Mo_overlap_42 rfl (lv_at hl 3 rfl) ?_
  refine lv_aload_n hx hb d_Mo_overlap_43 rfl (lv_at hl 0 rfl) ?_
  refine r_getr (t2 := 40) hx hb hts in_Mo hown hS 30 rfl rfl 14 (by decide) rfl (hts _ tw_648) d_Mo_overlap_44 ?_
  refine lv_iload_n hx hb d_Mo_overlap_47 rfl (lv_at hl 2 rfl) ?_
  obtain ⟨g14, h⟩ := h
  obtain ⟨g15, h⟩ := h
  refine r_iald (id := 33) (i := x2) (z := A 33 x2) hx hb hS 40 rfl g14 g15 d_Mo_overlap_48 rfl ?_
  refine lv_aload_n hx hb d_Mo_overlap_49 rfl (lv_at hl 0 rfl) ?_
  refine r_getr (t2 := 32) hx hb hts in_Mo hown hS 30 rfl rfl 5 (by decide) rfl (hts _ tw_639) d_Mo_overlap_50 ?_
  refine lv_iload_n hx hb d_Mo_overlap_53 rfl (lv_at hl 2 rfl) ?_
  refine r_iald (id := 25) (i := x2) (z := A 25 x2) hx hb hS 32 rfl g14 g15 d_Mo_overlap_54 rfl ?_
  refine r_iadd hx hb d_Mo_overlap_55 ?_
  obtain ⟨g16, h⟩ := h
  obtain ⟨g17, h⟩ := h
  refine r_icmp_ge (tgt := 95) hx hb g16 g17 d_Mo_overlap_56 (by decide) (fun hc => ?_) (fun hc => ?_)
  · replace h := h.1 hc
    refine r_iconst hx hb d_Mo_overlap_95 ?_
    refine lv_istore_n (lv' := [(3, .int (iI 0)), (0, .ref (ad 30)), (1, .int (iI x1)), (2, .int (iI x2))]) hx hb d_Mo_overlap_96 rfl hl (by decide) rfl (fun ls hl => ?_)
    exact s_Mo_overlap_b97 C0 hA _ _ _ _ _ hI20 h _ _ _ hS (lv_sub hl [1, 2, 3, 0] rfl)
  · replace h := h.2 hc
    refine lv_iload_n hx hb d_Mo_overlap_59 rfl (lv_at hl 1 rfl) ?_
    obtain ⟨g18, h⟩ := h
    refine r_if_ne (tgt := 83) hx hb g18 d_Mo_overlap_60 (by decide) (fun hc => ?_) (fun hc => ?_)
    · replace h := h.1 hc
      exact s_Mo_overlap_b83 C0 hA _ _ _ _ hI20 (fun _ _ h => h) h _ _ _ hS (lv_sub hl [0, 2, 3] rfl)
    · replace h := h.2 hc
      refine lv_aload_n hx hb d_Mo_overlap_63 rfl (lv_at hl 0 rfl) ?_
      refine r_getr (t2 := 31) hx hb hts in_Mo hown hS 30 rfl rfl 3 (by decide) rfl (hts _ tw_637) d_Mo_overlap_64 ?_
      refine r_sipush hx hb d_Mo_overlap_67 (by decide +kernel) ?_
      refine lv_aload_n hx hb d_Mo_overlap_70 rfl (lv_at hl 0 rfl) ?_
      refine r_getr (t2 := 41) hx hb hts in_Mo hown hS 30 rfl rfl 15 (by decide) rfl (hts _ tw_649) d_Mo_overlap_71 ?_
      refine lv_iload_n hx hb d_Mo_overlap_74 rfl (lv_at hl 2 rfl) ?_
      refine r_iald (id := 34) (i := x2) (z := A 34 x2) hx hb hS 41 rfl g14 g15 d_Mo_overlap_75 rfl ?_
      refine r_imul hx hb d_Mo_overlap_76 ?_
      refine lv_iload_n hx hb d_Mo_overlap_77 rfl (lv_at hl 3 rfl) ?_
      refine r_iadd hx hb d_Mo_overlap_78 ?_
      obtain ⟨g19, h⟩ := h
      obtain ⟨g20, h⟩ := h
      refine r_zald (id := 24) (i := ((1000 * (A 34 x2)) + x3)) (z := A 24 ((1000 * (A 34 x2)) + x3)) hx hb hS 31 rfl g19 g20 d_Mo_overlap_79 rfl ?_
      obtain ⟨g21, h⟩ := h
      refine r_if_eq (tgt := 87) hx hb g21 d_Mo_overlap_80 (by decide) (fun hc => ?_) (fun hc => ?_)
      · replace h := h.1 hc
        refine r_iconst hx hb d_Mo_overlap_87 ?_
        exact s_Mo_overlap_b88 C0 hA _ _ _ _ _ hI20 (fun _ _ h => h) h _ _ _ hS (lv_sub hl [0, 2, 3] rfl)
      · replace h := h.2 hc
        exact s_Mo_overlap_b83 C0 hA _ _ _ _ hI20 (fun _ _ h => h) h _ _ _ hS (lv_sub hl [0, 2, 3] rfl)
set_option maxHeartbeats 4000000 in
set_option maxRecDepth 100000 in
theorem s_Mo_overlap_b20 (C0 : x_C p s m args meth c c_Mo_overlap 4 (some .boolean) gT R_Mo) (hA : ∀ q : Nat, s.heap.size ≤ q → A0 q) {mo : Nat} {Q : Int → (Nat → Int) → (Nat → Int → Int) → Prop} (F : Nat → Int) (A : Nat → Int → Int) (x1 : Int) (x2 : Int) (h : w_Mo_overlap_b20 mo Q F A x1 x2) (H : Heap) (locs : List Loc) (ls : Array Slot) (hS : x_S D vCl shU ad cA (NN mo) A0 s F A H locs) (hl : lv_has ls 4 [(0, .ref (ad 30)), (1, .int (iI x1)), (2, .int (iI x2))]) : W p l e ({ frames := 0, cells := 0, slots := 0, locals := 0 } : Room) s m args below meth c H locs 0 0 (MQ below (x_QI D vCl shU ad cA (NN mo) A0 Q) args s 0 0 A0) (F0 m 20 ls []) := by
  obtain ⟨hx, hb, hr, hml, hown, hts, hlocks⟩ := id C0
  refine h (fun x1 x2 => ∀ (H : Heap) (locs : List Loc) (ls : Array Slot), x_S D vCl shU ad cA (NN mo) A0 s F A H locs → lv_has ls 4 [(0, .ref (ad 30)), (1, .int (iI x1)), (2, .int (iI x2))] → W p l e ({ frames := 0, cells := 0, slots := 0, locals := 0 } : Room) s m args below meth c H locs 0 0 (MQ below (x_QI D vCl shU ad cA (NN mo) A0 Q) args s 0 0 A0) (F0 m 20 ls [])) ?_ H locs ls hS hl
  intro x1 x2 h H locs ls hS hl
  refine lv_iload_n hx hb d_Mo_overlap_20 rfl (lv_at hl 2 rfl) ?_
  refine lv_aload_n hx hb d_Mo_overlap_21 rfl (lv_at hl 0 rfl) ?_
  refine r_geti (z := F 13) hx hb hts in_Mo hown hS 30 rfl rfl 4 (by decide) rfl (hts _ tw_638) d_Mo_overlap_22 rfl ?_
  obtain ⟨g22, h⟩ := h
  obtain ⟨g23, h⟩ := h
  refine r_icmp_ge (tgt := 183) hx hb g22 g23 d_Mo_overlap_25 (by decide) (fun hc => ?_) (fun hc => ?_)
  · replace h := h.1 hc
    refine lv_iload_n hx hb d_Mo_overlap_183 rfl (lv_at hl 1 rfl) ?_
    obtain ⟨g24, h⟩ := h
    exact r_zret (z := x1) hx hb hr hlocks g24 hS h d_Mo_overlap_184
  · replace h := h.2 hc
    refine lv_aload_n hx hb d_Mo_overlap_28 rfl (lv_at hl 0 rfl) ?_
    refine r_geti (z := F 10) hx hb hts in_Mo hown hS 30 rfl rfl 0 (by decide) rfl (hts _ tw_634) d_Mo_overlap_29 rfl ?_
    obtain ⟨g25, h⟩ := h
    refine r_if_ne (tgt := 183) hx hb g25 d_Mo_overlap_32 (by decide) (fun hc => ?_) (fun hc => ?_)
    · replace h := h.1 hc
      refine lv_iload_n hx hb d_Mo_overlap_183 rfl (lv_at hl 1 rfl) ?_
      obtain ⟨g26, h⟩ := h
      exact r_zret (z := x1) hx hb hr hlocks g26 hS h d_Mo_overlap_184
    · replace h := h.2 hc
      refine lv_aload_n hx hb d_Mo_overlap_35 rfl (lv_at hl 0 rfl) ?_
      refine r_getr (t2 := 40) hx hb hts in_Mo hown hS 30 rfl rfl 14 (by decide) rfl (hts _ tw_648) d_Mo_overlap_36 ?_
      refine lv_iload_n hx hb d_Mo_overlap_39 rfl (lv_at hl 2 rfl) ?_
      obtain ⟨g27, h⟩ := h
      obtain ⟨g28, h⟩ := h
      refine r_iald (id := 33) (i := x2) (z := A 33 x2) hx hb hS 40 rfl g27 g28 d_Mo_overlap_40 rfl ?_
      refine lv_istore_n (lv' := [(3, .int (iI (A 33 x2))), (0, .ref (ad 30)), (1, .int (iI x1)), (2, .int (iI x2))]) hx hb d_Mo_overlap_41 rfl hl (by decide) rfl (fun ls hl => ?_)
      exact s_Mo_overlap_b42 C0 hA _ _ _ _ _ (fun _ _ h => h) h _ _ _ hS (lv_sub hl [1, 2, 3, 0] rfl)
set_option maxHeartbeats 4000000 in
set_option maxRecDepth 100000 in
theorem s_Mo_overlap_b13 (C0 : x_C p s m args meth c c_Mo_overlap 4 (some .boolean) gT R_Mo) (hA : ∀ q : Nat, s.heap.size ≤ q → A0 q) {mo : Nat} {Q : Int → (Nat → Int) → (Nat → Int → Int) → Prop} (y1 : Int) (F : Nat → Int) (A : Nat → Int → Int) (h : w_Mo_overlap_b13 mo Q y1 F A) (H : Heap) (locs : List Loc) (ls : Array Slot) (hS : x_S D vCl shU ad cA (NN mo) A0 s F A H locs) (hl : lv_has ls 4 [(0, .ref (ad 30))]) : W p l e ({ frames := 0, cells := 0, slots := 0, locals := 0 } : Room) s m args below meth c H locs 0 0 (MQ below (x_QI D vCl shU ad cA (NN mo) A0 Q) args s 0 0 A0) (F0 m 13 ls [.int (iI y1), .ref (ad 30)]) := by
  obtain ⟨hx, hb, hr, hml, hown, hts, hlocks⟩ := id C0
  refine r_puti (j := 10) (v := y1) hx hb hts in_Mo t_Mo to_Mo nm_Mo hown hS 30 rfl rfl 0 (by decide) (hts _ tw_634) rfl (by decide +kernel) (setf_10 ad cA mo _ _ _) (by decide) d_Mo_overlap_13 (fun H locs hS => ?_)
  refine r_iconst hx hb d_Mo_overlap_16 ?_
  refine lv_istore_n (lv' := [(1, .int (iI 0)), (0, .ref (ad 30))]) hx hb d_Mo_overlap_17 rfl hl (by decide) rfl (fun ls hl => ?_)
  refine r_iconst hx hb d_Mo_overlap_18 ?_
  refine lv_istore_n (lv' := [(2, .int (iI 0)), (1, .int (iI 0)), (0, .ref (ad 30))]) hx hb d_Mo_overlap_19 rfl hl (by decide) rfl (fun ls hl => ?_)
  exact s_Mo_overlap_b20 C0 hA _ _ _ _ h _ _ _ hS (lv_sub hl [2, 1, 0] rfl)
set_option maxHeartbeats 4000000 in
set_option maxRecDepth 100000 in
theorem ct_Mo_overlap (l : Launch) (D : va_G) (ad : Nat → Nat) (cA : Nat → ClassId) (mo sz : Nat) (F : Nat → Int) (A : Nat → Int → Int)  (Q : Int → (Nat → Int) → (Nat → Int → Int) → Prop) (h : w_Mo_overlap mo F A  Q) : Met l y_Mo_overlap (Cond.code y_Mo_overlap c_Mo_overlap 4 (some .boolean) :: gT) ({ frames := 0, cells := 0, slots := 0, locals := 0 } : Room) (va_Pc [.ref (ad 30)] (x_P D vCl shU ad cA (NN mo) sz F A)) (x_QI D vCl shU ad cA (NN mo) (va_A (x_w shU ad cA (NN mo) F A) sz) Q) 0 0 (va_A (x_w shU ad cA (NN mo) F A) sz) := by
  refine Met.ofW (cc := c_Mo_overlap) (maxL := 4) (ret := some .boolean) (by decide) rfl ?_
  intro p e s m args below meth c s₁ B hml hv
  obtain ⟨rfl, hsz, hP, hK, hD0, hN0⟩ := hv
  have hx := B.exec
  have hb := B.bytes
  have hr := B.returns
  have hts0 := atoms_spec (ws := (Cond.code y_Mo_overlap c_Mo_overlap 4 (some .boolean) :: gT)) B.pre
  have hts : ∀ w ∈ gT, w.before _ s = true := fun w h => hts0 w (List.mem_cons_of_mem _ h)
  have hown : s.vm.findClass R_Mo = some m.cls := findClass_of_methodNamed B.named
  have hlocks := B.notSynchronized
  subst hsz
  have hS : x_S D vCl shU ad cA (NN mo) (va_A (x_w shU ad cA (NN mo) F A) s.heap.size) s F A s.heap [] := ⟨hK, hP, hD0.self, va_S.rf, hN0⟩
  have hA : ∀ q : Nat, s.heap.size ≤ q → va_A (x_w shU ad cA (NN mo) F A) s.heap.size q := fun q h => Or.inr h
  have C0 : x_C p s m [.ref (ad 30)].toArray meth c c_Mo_overlap 4 (some .boolean) gT R_Mo := ⟨hx, hb, hr, hml, hown, hts, hlocks⟩
  generalize va_A (x_w shU ad cA (NN mo) F A) s.heap.size = A0 at hS hA ⊢
  have hl := lv_entry [.ref (ad 30)] (n := 4) (Nat.le_of_ble_eq_true rfl)
  rw [lg_entry_eq]
  generalize (lg_sl [.ref (ad 30)] ++ List.replicate (4 - (lg_sl [.ref (ad 30)]).length) Slot.unset).toArray = ls at hl ⊢
  have hl : lv_has ls 4 [(0, .ref (ad 30))] := hl
  refine lv_aload_n hx hb d_Mo_overlap_0 rfl (lv_at hl 0 rfl) ?_
  refine lv_aload_n hx hb d_Mo_overlap_1 rfl (lv_at hl 0 rfl) ?_
  refine r_geti (z := F 15) hx hb hts in_Mo hown hS 30 rfl rfl 17 (by decide) rfl (hts _ tw_651) d_Mo_overlap_2 rfl ?_
  obtain ⟨g29, h⟩ := h
  refine r_if_eq (tgt := 12) hx hb g29 d_Mo_overlap_5 (by decide) (fun hc => ?_) (fun hc => ?_)
  · replace h := h.1 hc
    refine r_iconst hx hb d_Mo_overlap_12 ?_
    exact s_Mo_overlap_b13 C0 hA _ _ _ h _ _ _ hS (lv_sub hl [0] rfl)
  · replace h := h.2 hc
    refine r_iconst hx hb d_Mo_overlap_8 ?_
    refine lv_goto (tgt := 13) hx hb d_Mo_overlap_9 (by decide) ?_
    exact s_Mo_overlap_b13 C0 hA _ _ _ h _ _ _ hS (lv_sub hl [0] rfl)
end W23
