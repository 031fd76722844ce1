section W21
variable {p : Program} {l : Launch} {e : Env} {s : State} {m : MethodId} {args : Array Value} {below : List Frame} {meth : Method} {c : Code} {D : va_G} {ad : Nat → Nat} {cA : Nat → ClassId} {A0 : Nat → Prop}
/-! Ce_add -/
def w_Ce_add (mo : Nat) (F : Nat → Int) (A : Nat → Int → Int) (x1 : Int) (Q : Int → (Nat → Int) → (Nat → Int → Int) → Prop) : Prop := 0 ≤ (F 4) ∧ (F 4) < 60 ∧ Q (((F 4) + 1) - 1) (uf F 4 ((F 4) + 1)) (ua A 3 (F 4) x1)
set_option maxHeartbeats 4000000 in
set_option maxRecDepth 100000 in
theorem ct_Ce_add (l : Launch) (D : va_G) (ad : Nat → Nat) (cA : Nat → ClassId) (mo sz : Nat) (F : Nat → Int) (A : Nat → Int → Int) (x1 : Int) (Q : Int → (Nat → Int) → (Nat → Int → Int) → Prop) (h : w_Ce_add mo F A x1 Q) : Met l y_Ce_add (Cond.code y_Ce_add c_Ce_add 2 (some .int) :: gT) ({ frames := 0, cells := 0, slots := 0, locals := 0 } : Room) (va_Pc [.ref (ad 2), .int (iI x1)] (x_P D vCl shU ad cA (NN mo) sz F A)) (x_QI D vCl shU ad cA (NN mo) (va_A (x_w shU ad cA (NN mo) F A) sz) Q) 0 0 (va_A (x_w shU ad cA (NN mo) F A) sz) := by
  refine Met.ofW (cc := c_Ce_add) (maxL := 2) (ret := some .int) (by decide) rfl ?_
  intro p e s m args below meth c s₁ B hml hv
  obtain ⟨rfl, hsz, hP, hK, hD0, hN0⟩ := hv
  have hx := B.exec
  have hb := B.bytes
  have hr := B.returns
  have hts0 := atoms_spec (ws := (Cond.code y_Ce_add c_Ce_add 2 (some .int) :: gT)) B.pre
  have hts : ∀ w ∈ gT, w.before _ s = true := fun w h => hts0 w (List.mem_cons_of_mem _ h)
  have hown : s.vm.findClass R_Ce = some m.cls := findClass_of_methodNamed B.named
  have hlocks := B.notSynchronized
  subst hsz
  have hS : x_S D vCl shU ad cA (NN mo) (va_A (x_w shU ad cA (NN mo) F A) s.heap.size) s F A s.heap [] := ⟨hK, hP, hD0.self, va_S.rf, hN0⟩
  have hA : ∀ q : Nat, s.heap.size ≤ q → va_A (x_w shU ad cA (NN mo) F A) s.heap.size q := fun q h => Or.inr h
  have C0 : x_C p s m [.ref (ad 2), .int (iI x1)].toArray meth c c_Ce_add 2 (some .int) gT R_Ce := ⟨hx, hb, hr, hml, hown, hts, hlocks⟩
  generalize va_A (x_w shU ad cA (NN mo) F A) s.heap.size = A0 at hS hA ⊢
  have hl := lv_entry [.ref (ad 2), .int (iI x1)] (n := 2) (Nat.le_of_ble_eq_true rfl)
  rw [lg_entry_eq]
  generalize (lg_sl [.ref (ad 2), .int (iI x1)] ++ List.replicate (2 - (lg_sl [.ref (ad 2), .int (iI x1)]).length) Slot.unset).toArray = ls at hl ⊢
  have hl : lv_has ls 2 [(0, .ref (ad 2)), (1, .int (iI x1))] := hl
  refine lv_aload_n hx hb d_Ce_add_0 rfl (lv_at hl 0 rfl) ?_
  refine r_getr (t2 := 9) hx hb hts in_Ce hown hS 2 rfl rfl 0 (by decide) rfl (hts _ tw_76) d_Ce_add_1 ?_
  refine lv_aload_n hx hb d_Ce_add_4 rfl (lv_at hl 0 rfl) ?_
  refine r_geti (z := F 4) hx hb hts in_Ce hown hS 2 rfl rfl 8 (by decide) rfl (hts _ tw_91) d_Ce_add_5 rfl ?_
  refine lv_iload_n hx hb d_Ce_add_8 rfl (lv_at hl 1 rfl) ?_
  obtain ⟨g1, h⟩ := h
  obtain ⟨g2, h⟩ := h
  refine r_iast (id := 3) (i := (F 4)) (v := x1) hx hb hS 9 rfl g1 g2 (seta_3 ad cA mo _ _ _ _) d_Ce_add_9 (fun H locs hS => ?_)
  refine lv_aload_n hx hb d_Ce_add_10 rfl (lv_at hl 0 rfl) ?_
  refine lv_dup hx hb d_Ce_add_11 rfl ?_
  refine r_geti (z := F 4) hx hb hts in_Ce hown hS 2 rfl rfl 8 (by decide) rfl (hts _ tw_91) d_Ce_add_12 rfl ?_
  refine r_iconst hx hb d_Ce_add_15 ?_
  refine r_iadd hx hb d_Ce_add_16 ?_
  refine r_puti (j := 4) (v := (F 4) + 1) hx hb hts in_Ce t_Ce to_Ce nm_Ce hown hS 2 rfl rfl 8 (by decide) (hts _ tw_91) rfl (by decide +kernel) (setf_4 ad cA mo _ _ _) (by decide) d_Ce_add_17 (fun H locs hS => ?_)
  refine lv_aload_n hx hb d_Ce_add_20 rfl (lv_at hl 0 rfl) ?_
  refine r_geti (z := (F 4) + 1) hx hb hts in_Ce hown hS 2 rfl rfl 8 (by decide) rfl (hts _ tw_91) d_Ce_add_21 rfl ?_
  refine r_iconst hx hb d_Ce_add_24 ?_
  refine r_isub hx hb d_Ce_add_25 ?_
  exact r_iret (z := (((F 4) + 1) - 1)) hx hb hr hlocks hS h d_Ce_add_26
/-! Ce_setWanted -/
def w_Ce_setWanted_b25 (mo : Nat) (Q : Int → (Nat → Int) → (Nat → Int → Int) → Prop) (x1 : Int) (x2 : Int) (x3 : Int) (y0 : Int) (F : Nat → Int) (A : Nat → Int → Int) : Prop := 0 ≤ x1 ∧ x1 < 60 ∧ (y0 = 0 ∨ y0 = 1) ∧ Q y0 F (ua (ua A 6 x1 x2) 7 x1 x3)
def w_Ce_setWanted_b20 (mo : Nat) (Q : Int → (Nat → Int) → (Nat → Int → Int) → Prop) (x1 : Int) (x2 : Int) (x3 : Int) (F : Nat → Int) (A : Nat → Int → Int) : Prop := w_Ce_setWanted_b25 mo Q x1 x2 x3 1 F A
def w_Ce_setWanted (mo : Nat) (F : Nat → Int) (A : Nat → Int → Int) (x1 : Int) (x2 : Int) (x3 : Int) (Q : Int → (Nat → Int) → (Nat → Int → Int) → Prop) : Prop := 0 ≤ x1 ∧ x1 < 60 ∧ rg (A 6 x1) ∧ rg x2 ∧ ((¬ (A 6 x1) = x2 → w_Ce_setWanted_b20 mo Q x1 x2 x3 F A) ∧ ((A 6 x1) = x2 → rg (A 7 x1) ∧ rg x3 ∧ (((A 7 x1) = x3 → w_Ce_setWanted_b25 mo Q x1 x2 x3 0 F A) ∧ (¬ (A 7 x1) = x3 → w_Ce_setWanted_b20 mo Q x1 x2 x3 F A))))
set_option maxHeartbeats 4000000 in
set_option maxRecDepth 100000 in
theorem s_Ce_setWanted_b25 (C0 : x_C p s m args meth c c_Ce_setWanted 5 (some .boolean) gT R_Ce) (hA : ∀ q : Nat, s.heap.size ≤ q → A0 q) {mo : Nat} {Q : Int → (Nat → Int) → (Nat → Int → Int) → Prop} (x1 : Int) (x2 : Int) (x3 : Int) (y0 : Int) (F : Nat → Int) (A : Nat → Int → Int) (h : w_Ce_setWanted_b25 mo Q x1 x2 x3 y0 F A) (H : Heap) (locs : List Loc) (ls : Array Slot) (hS : x_S D vCl shU ad cA (NN mo) A0 s F A H locs) (hl : lv_has ls 5 [(0, .ref (ad 2)), (1, .int (iI x1)), (2, .int (iI x2)), (3, .int (iI x3))]) : W p l e ({ frames := 0, cells := 0, slots := 0, locals := 0 } : Room) s m args below meth c H locs 0 0 (MQ below (x_QI D vCl shU ad cA (NN mo) A0 Q) args s 0 0 A0) (F0 m 25 ls [.int (iI y0)]) := by
  obtain ⟨hx, hb, hr, hml, hown, hts, hlocks⟩ := id C0
  refine lv_istore (lv' := [(4, .int (iI y0)), (0, .ref (ad 2)), (1, .int (iI x1)), (2, .int (iI x2)), (3, .int (iI x3))]) hx hb d_Ce_setWanted_25 hl (by decide) rfl (fun ls hl => ?_)
  refine lv_aload_n hx hb d_Ce_setWanted_27 rfl (lv_at hl 1 rfl) ?_
  refine r_getr (t2 := 12) hx hb hts in_Ce hown hS 2 rfl rfl 3 (by decide) rfl (hts _ tw_81) d_Ce_setWanted_28 ?_
  refine lv_iload_n hx hb d_Ce_setWanted_31 rfl (lv_at hl 2 rfl) ?_
  refine lv_iload_n hx hb d_Ce_setWanted_32 rfl (lv_at hl 3 rfl) ?_
  obtain ⟨g1, h⟩ := h
  obtain ⟨g2, h⟩ := h
  refine r_iast (id := 6) (i := x1) (v := x2) hx hb hS 12 rfl g1 g2 (seta_6 ad cA mo _ _ _ _) d_Ce_setWanted_33 (fun H locs hS => ?_)
  refine lv_aload_n hx hb d_Ce_setWanted_34 rfl (lv_at hl 1 rfl) ?_
  refine r_getr (t2 := 13) hx hb hts in_Ce hown hS 2 rfl rfl 4 (by decide) rfl (hts _ tw_84) d_Ce_setWanted_35 ?_
  refine lv_iload_n hx hb d_Ce_setWanted_38 rfl (lv_at hl 2 rfl) ?_
  refine lv_iload_n hx hb d_Ce_setWanted_39 rfl (lv_at hl 4 rfl) ?_
  refine r_iast (id := 7) (i := x1) (v := x3) hx hb hS 13 rfl g1 g2 (seta_7 ad cA mo _ _ _ _) d_Ce_setWanted_40 (fun H locs hS => ?_)
  refine lv_iload hx hb d_Ce_setWanted_41 (lv_at hl 0 rfl) ?_
  obtain ⟨g3, h⟩ := h
  exact r_zret (z := y0) hx hb hr hlocks g3 hS h d_Ce_setWanted_43
set_option maxHeartbeats 4000000 in
set_option maxRecDepth 100000 in
theorem s_Ce_setWanted_b20 (C0 : x_C p s m args meth c c_Ce_setWanted 5 (some .boolean) gT R_Ce) (hA : ∀ q : Nat, s.heap.size ≤ q → A0 q) {mo : Nat} {Q : Int → (Nat → Int) → (Nat → Int → Int) → Prop} (x1 : Int) (x2 : Int) (x3 : Int) (F : Nat → Int) (A : Nat → Int → Int) (h : w_Ce_setWanted_b20 mo Q x1 x2 x3 F A) (H : Heap) (locs : List Loc) (ls : Array Slot) (hS : x_S D vCl shU ad cA (NN mo) A0 s F A H locs) (hl : lv_has ls 5 [(0, .ref (ad 2)), (1, .int (iI x1)), (2, .int (iI x2)), (3, .int (iI x3))]) : W p l e ({ frames := 0, cells := 0, slots := 0, locals := 0 } : Room) s m args below meth c H locs 0 0 (MQ below (x_QI D vCl shU ad cA (NN mo) A0 Q) args s 0 0 A0) (F0 m 20 ls []) := by
  obtain ⟨hx, hb, hr, hml, hown, hts, hlocks⟩ := id C0
  refine r_iconst hx hb d_Ce_setWanted_20 ?_
  refine lv_goto (tgt := 25) hx hb d_Ce_setWanted_21 (by decide) ?_
  exact s_Ce_setWanted_b25 C0 hA _ _ _ _ _ _ h _ _ _ hS (lv_sub hl [0, 1, 2, 3] rfl)
set_option maxHeartbeats 4000000 in
set_option maxRecDepth 100000 in
theorem ct_Ce_setWanted (l : Launch) (D : va_G) (ad : Nat → Nat) (cA : Nat → ClassId) (mo sz : Nat) (F : Nat → Int) (A : Nat → Int → Int) (x1 : Int) (x2 : Int) (x3 : Int) (Q : Int → (Nat → Int) → (Nat → Int → Int) → Prop) (h : w_Ce_setWanted mo F A x1 x2 x3 Q) : Met l y_Ce_setWanted (Cond.code y_Ce_setWanted c_Ce_setWanted 5 (some .boolean) :: gT) ({ frames := 0, cells := 0, slots := 0, locals := 0 } : Room) (va_Pc [.ref (ad 2), .int (iI x1), .int (iI x2), .int (iI x3)] (x_P D vCl shU ad cA (NN mo) sz F A)) (x_QI D vCl shU ad cA (NN mo) (va_A (x_w shU ad cA (NN mo) F A) sz) Q) 0 0 (va_A (x_w shU ad cA (NN mo) F A) sz) := by
  refine Met.ofW (cc := c_Ce_setWanted) (maxL := 5) (ret := some .boolean) (by decide) rfl ?_
  intro p e s m args below meth c s₁ B hml hv
  obtain ⟨rfl, hsz, hP, hK, hD0, hN0⟩ := hv
  have hx := B.exec
  have hb := B.bytes
  have hr := B.returns
  have hts0 := atoms_spec (ws := (Cond.code y_Ce_setWanted c_Ce_setWanted 5 (some .boolean) :: gT)) B.pre
  have hts : ∀ w ∈ gT, w.before _ s = true := fun w h => hts0 w (List.mem_cons_of_mem _ h)
  have hown : s.vm.findClass R_Ce = some m.cls := findClass_of_methodNamed B.named
  have hlocks := B.notSynchronized
  subst hsz
  have hS : x_S D vCl shU ad cA (NN mo) (va_A (x_w shU ad cA (NN mo) F A) s.heap.size) s F A s.heap [] := ⟨hK, hP, hD0.self, va_S.rf, hN0⟩
  have hA : ∀ q : Nat, s.heap.size ≤ q → va_A (x_w shU ad cA (NN mo) F A) s.heap.size q := fun q h => Or.inr h
  have C0 : x_C p s m [.ref (ad 2), .int (iI x1), .int (iI x2), .int (iI x3)].toArray meth c c_Ce_setWanted 5 (some .boolean) gT R_Ce := ⟨hx, hb, hr, hml, hown, hts, hlocks⟩
  generalize va_A (x_w shU ad cA (NN mo) F A) s.heap.size = A0 at hS hA ⊢
  have hl := lv_entry [.ref (ad 2), .int (iI x1), .int (iI x2), .int (iI x3)] (n := 5) (Nat.le_of_ble_eq_true rfl)
  rw [lg_entry_eq]
  generalize (lg_sl [.ref (ad 2), .int (iI x1), .int (iI x2), .int (iI x3)] ++ List.replicate (5 - (lg_sl [.ref (ad 2), .int (iI x1), .int (iI x2), .int (iI x3)]).length) Slot.unset).toArray = ls at hl ⊢
  have hl : lv_has ls 5 [(0, .ref (ad 2)), (1, .int (iI x1)), (2, .int (iI x2)), (3, .int (iI x3))] := hl
  refine lv_aload_n hx hb d_Ce_setWanted_0 rfl (lv_at hl 0 rfl) ?_
  refine r_getr (t2 := 12) hx hb hts in_Ce hown hS 2 rfl rfl 3 (by decide) rfl (hts _ tw_81) d_Ce_setWanted_1 ?_
  refine lv_iload_n hx hb d_Ce_setWanted_4 rfl (lv_at hl 1 rfl) ?_
  obtain ⟨g4, h⟩ := h
  obtain ⟨g5, h⟩ := h
  refine r_iald (id := 6) (i := x1) (z := A 6 x1) hx hb hS 12 rfl g4 g5 d_Ce_setWanted_5 rfl ?_
  refine lv_iload_n hx hb d_Ce_setWanted_6 rfl (lv_at hl 2 rfl) ?_
  obtain ⟨g6, h⟩ := h
  obtain ⟨g7, h⟩ := h
  refine r_icmp_ne (tgt := 20) hx hb g6 g7 d_Ce_setWanted_7 (by decide) (fun hc => ?_) (fun hc => ?_)
  · replace h := h.1 hc
    exact s_Ce_setWanted_b20 C0 hA _ _ _ _ _ h _ _ _ hS (lv_sub hl [0, 1, 2, 3] rfl)
  · replace h := h.2 hc
    refine lv_aload_n hx hb d_Ce_setWanted_10 rfl (lv_at hl 0 rfl) ?_
    refine r_getr (t2 := 13) hx hb hts in_Ce hown hS 2 rfl rfl 4 (by decide) rfl (hts _ tw_84) d_Ce_setWanted_11 ?_
    refine lv_iload_n hx hb d_Ce_setWanted_14 rfl (lv_at hl 1 rfl) ?_
    refine r_iald (id := 7) (i := x1) (z := A 7 x1) hx hb hS 13 rfl g4 g5 d_Ce_setWanted_15 rfl ?_
    refine lv_iload_n hx hb d_Ce_setWanted_16 rfl (lv_at hl 3 rfl) ?_
    obtain ⟨g8, h⟩ := h
    obtain ⟨g9, h⟩ := h
    refine r_icmp_eq (tgt := 24) hx hb g8 g9 d_Ce_setWanted_17 (by decide) (fun hc => ?_) (fun hc => ?_)
    · replace h := h.1 hc
      refine r_iconst hx hb d_Ce_setWanted_24 ?_
      exact s_Ce_setWanted_b25 C0 hA _ _ _ _ _ _ h _ _ _ hS (lv_sub hl [0, 1, 2, 3] rfl)
    · replace h := h.2 hc
      exact s_Ce_setWanted_b20 C0 hA _ _ _ _ _ h _ _ _ hS (lv_sub hl [0, 1, 2, 3] rfl)
/-! Gr_shiftParts -/
def w_Gr_shiftParts (mo : Nat) (F : Nat → Int) (A : Nat → Int → Int) (x1 : Int) (x2 : Int) (Q : (Nat → Int) → (Nat → Int → Int) → Prop) : Prop := rg ((F 3) - x1) ∧ ((0 < ((F 3) - x1) → 0 ≤ x1 ∧ 0 ≤ x2 ∧ 0 ≤ ((F 3) - x1) ∧ x1 + ((F 3) - x1) ≤ (mo : Int) ∧ x2 + ((F 3) - x1) ≤ (mo : Int) ∧ Q F (uc (uc (uc A 0 x1 x2 ((F 3) - x1)) 1 x1 x2 ((F 3) - x1)) 2 x1 x2 ((F 3) - x1))) ∧ (¬ 0 < ((F 3) - x1) → Q F A))
set_option maxHeartbeats 4000000 in
set_option maxRecDepth 100000 in
theorem ct_Gr_shiftParts (l : Launch) (D : va_G) (ad : Nat → Nat) (cA : Nat → ClassId) (mo sz : Nat) (F : Nat → Int) (A : Nat → Int → Int) (x1 : Int) (x2 : Int) (Q : (Nat → Int) → (Nat → Int → Int) → Prop) (h : w_Gr_shiftParts mo F A x1 x2 Q) : Met l y_Gr_shiftParts (Cond.code y_Gr_shiftParts c_Gr_shiftParts 4 (none) :: gT) ({ frames := 1, cells := 0, slots := 0, locals := 68 } : Room) (va_Pc [.ref (ad 1), .int (iI x1), .int (iI x2)] (x_P D vCl shU ad cA (NN mo) sz F A)) (x_QV D vCl shU ad cA (NN mo) (va_A (x_w shU ad cA (NN mo) F A) sz) Q) 0 0 (va_A (x_w shU ad cA (NN mo) F A) sz) := by
  refine Met.ofW (cc := c_Gr_shiftParts) (maxL := 4) (ret := none) (by decide) rfl ?_
  intro p e s m args below meth c s₁ B hml hv
  obtain ⟨rfl, hsz, hP, hK, hD0, hN0⟩ := hv
  have hx := B.exec
  have hb := B.bytes
  have hr := B.returns
  have hts0 := atoms_spec (ws := (Cond.code y_Gr_shiftParts c_Gr_shiftParts 4 (none) :: gT)) B.pre
  have hts : ∀ w ∈ gT, w.before _ s = true := fun w h => hts0 w (List.mem_cons_of_mem _ h)
  have hown : s.vm.findClass R_Gr = some m.cls := findClass_of_methodNamed B.named
  have hlocks := B.notSynchronized
  subst hsz
  have hS : x_S D vCl shU ad cA (NN mo) (va_A (x_w shU ad cA (NN mo) F A) s.heap.size) s F A s.heap [] := ⟨hK, hP, hD0.self, va_S.rf, hN0⟩
  have hA : ∀ q : Nat, s.heap.size ≤ q → va_A (x_w shU ad cA (NN mo) F A) s.heap.size q := fun q h => Or.inr h
  have C0 : x_C p s m [.ref (ad 1), .int (iI x1), .int (iI x2)].toArray meth c c_Gr_shiftParts 4 (none) gT R_Gr := ⟨hx, hb, hr, hml, hown, hts, hlocks⟩
  generalize va_A (x_w shU ad cA (NN mo) F A) s.heap.size = A0 at hS hA ⊢
  have hl := lv_entry [.ref (ad 1), .int (iI x1), .int (iI x2)] (n := 4) (Nat.le_of_ble_eq_true rfl)
  rw [lg_entry_eq]
  generalize (lg_sl [.ref (ad 1), .int (iI x1), .int (iI x2)] ++ List.replicate (4 - (lg_sl [.ref (ad 1), .int (iI x1), .int (iI x2)]).length) Slot.unset).toArray = ls at hl ⊢
  have hl : lv_has ls 4 [(0, .ref (ad 1)), (1, .int (iI x1)), (2, .int (iI x2))] := hl
  refine lv_aload_n hx hb d_Gr_shiftParts_0 rfl (lv_at hl 0 rfl) ?_
  refine r_geti (z := F 3) hx hb hts in_Gr hown hS 1 rfl rfl 5 (by decide) rfl (hts _ tw_54) d_Gr_shiftParts_1 rfl ?_
  refine lv_iload_n hx hb d_Gr_shiftParts_4 rfl (lv_at hl 1 rfl) ?_
  refine r_isub hx hb d_Gr_shiftParts_5 ?_
  refine lv_istore_n (lv' := [(3, .int (iI ((F 3) - x1))), (0, .ref (ad 1)), (1, .int (iI x1)), (2, .int (iI x2))]) hx hb d_Gr_shiftParts_6 rfl hl (by decide) rfl (fun ls hl => ?_)
  refine lv_iload_n hx hb d_Gr_shiftParts_7 rfl (lv_at hl 0 rfl) ?_
  obtain ⟨g1, h⟩ := h
  refine r_if_gt (tgt := 12) hx hb g1 d_Gr_shiftParts_8 (by decide) (fun hc => ?_) (fun hc => ?_)
  · replace h := h.1 hc
    refine lv_aload_n hx hb d_Gr_shiftParts_12 rfl (lv_at hl 1 rfl) ?_
    refine r_getr (t2 := 6) hx hb hts in_Gr hown hS 1 rfl rfl 2 (by decide) rfl (hts _ tw_48) d_Gr_shiftParts_13 ?_
    refine lv_iload_n hx hb d_Gr_shiftParts_16 rfl (lv_at hl 2 rfl) ?_
    refine lv_aload_n hx hb d_Gr_shiftParts_17 rfl (lv_at hl 1 rfl) ?_
    refine r_getr (t2 := 6) hx hb hts in_Gr hown hS 1 rfl rfl 2 (by decide) rfl (hts _ tw_48) d_Gr_shiftParts_18 ?_
    refine lv_iload_n hx hb d_Gr_shiftParts_21 rfl (lv_at hl 3 rfl) ?_
    refine lv_iload_n hx hb d_Gr_shiftParts_22 rfl (lv_at hl 0 rfl) ?_
    obtain ⟨g2, h⟩ := h
    obtain ⟨g3, h⟩ := h
    obtain ⟨g4, h⟩ := h
    obtain ⟨g5, h⟩ := h
    obtain ⟨g6, h⟩ := h
    refine r_copy (id := 0) (sp := x1) (dp := x2) (n := ((F 3) - x1)) hx hb (hml.trans hl.1.symm) hown (hts _ tw_476) (hts _ tw_478) (hts _ tw_477) (hts _ tw_15) hS 6 rfl g2 g3 g4 g5 g6 (setc_0 ad cA mo _ _ _ _ _) (Nat.le_of_ble_eq_true rfl) (Nat.le_of_ble_eq_true rfl) d_Gr_shiftParts_23 (fun H locs hS => ?_)
    refine lv_aload_n hx hb d_Gr_shiftParts_26 rfl (lv_at hl 1 rfl) ?_
    refine r_getr (t2 := 7) hx hb hts in_Gr hown hS 1 rfl rfl 3 (by decide) rfl (hts _ tw_50) d_Gr_shiftParts_27 ?_
    refine lv_iload_n hx hb d_Gr_shiftParts_30 rfl (lv_at hl 2 rfl) ?_
    refine lv_aload_n hx hb d_Gr_shiftParts_31 rfl (lv_at hl 1 rfl) ?_
    refine r_getr (t2 := 7) hx hb hts in_Gr hown hS 1 rfl rfl 3 (by decide) rfl (hts _ tw_50) d_Gr_shiftParts_32 ?_
    refine lv_iload_n hx hb d_Gr_shiftParts_35 rfl (lv_at hl 3 rfl) ?_
    refine lv_iload_n hx hb d_Gr_shiftParts_36 rfl (lv_at hl 0 rfl) ?_
    refine r_copy (id := 1) (sp := x1) (dp := x2) (n := ((F 3) - x1)) hx hb (hml.trans hl.1.symm) hown (hts _ tw_476) (hts _ tw_478) (hts _ tw_477) (hts _ tw_15) hS 7 rfl g2 g3 g4 g5 g6 (setc_1 ad cA mo _ _ _ _ _) (Nat.le_of_ble_eq_true rfl) (Nat.le_of_ble_eq_true rfl) d_Gr_shiftParts_37 (fun H locs hS => ?_)
    refine lv_aload_n hx hb d_Gr_shiftParts_40 rfl (lv_at hl 1 rfl) ?_
    refine r_getr (t2 := 8) hx hb hts in_Gr hown hS 1 rfl rfl 4 (by decide) rfl (hts _ tw_52) d_Gr_shiftParts_41 ?_
    refine lv_iload_n hx hb d_Gr_shiftParts_44 rfl (lv_at hl 2 rfl) ?_
    refine lv_aload_n hx hb d_Gr_shiftParts_45 rfl (lv_at hl 1 rfl) ?_
    refine r_getr (t2 := 8) hx hb hts in_Gr hown hS 1 rfl rfl 4 (by decide) rfl (hts _ tw_52) d_Gr_shiftParts_46 ?_
    refine lv_iload_n hx hb d_Gr_shiftParts_49 rfl (lv_at hl 3 rfl) ?_
    refine lv_iload_n hx hb d_Gr_shiftParts_50 rfl (lv_at hl 0 rfl) ?_
    refine r_copy (id := 2) (sp := x1) (dp := x2) (n := ((F 3) - x1)) hx hb (hml.trans hl.1.symm) hown (hts _ tw_476) (hts _ tw_478) (hts _ tw_477) (hts _ tw_15) hS 8 rfl g2 g3 g4 g5 g6 (setc_2 ad cA mo _ _ _ _ _) (Nat.le_of_ble_eq_true rfl) (Nat.le_of_ble_eq_true rfl) d_Gr_shiftParts_51 (fun H locs hS => ?_)
    exact r_vret hx hb hr hlocks hS h d_Gr_shiftParts_54
  · replace h := h.2 hc
    exact r_vret hx hb hr hlocks hS h d_Gr_shiftParts_11
/-! Gr_insertBehind -/
def w_Gr_insertBehind (mo : Nat) (F : Nat → Int) (A : Nat → Int → Int) (x1 : Int) (x2 : Int) (x3 : Int) (Q : (Nat → Int) → (Nat → Int → Int) → Prop) : Prop := rg (F 3) ∧ rg (mo : Int) ∧ (((F 3) < (mo : Int) → w_Gr_shiftParts mo F A (x1 + 1) (x1 + 2) (fun F3 A3 => 0 ≤ x1 ∧ x1 < (mo : Int) ∧ 0 ≤ (x1 + 1) ∧ (x1 + 1) < (mo : Int) ∧ Q (uf F3 3 ((F3 3) + 1)) (ua (ua (ua A3 0 (x1 + 1) (A3 0 x1)) 1 (x1 + 1) x2) 2 (x1 + 1) x3))) ∧ (¬ (F 3) < (mo : Int) → Q F A))
set_option maxHeartbeats 4000000 in
set_option maxRecDepth 100000 in
theorem ct_Gr_insertBehind (l : Launch) (D : va_G) (ad : Nat → Nat) (cA : Nat → ClassId) (mo sz : Nat) (F : Nat → Int) (A : Nat → Int → Int) (x1 : Int) (x2 : Int) (x3 : Int) (Q : (Nat → Int) → (Nat → Int → Int) → Prop) (h : w_Gr_insertBehind mo F A x1 x2 x3 Q) : Met l y_Gr_insertBehind (Cond.code y_Gr_insertBehind c_Gr_insertBehind 4 (none) :: gT) ({ frames := 2, cells := 0, slots := 0, locals := 91 } : Room) (va_Pc [.ref (ad 1), .int (iI x1), .int (iI x2), .int (iI x3)] (x_P D vCl shU ad cA (NN mo) sz F A)) (x_QV D vCl shU ad cA (NN mo) (va_A (x_w shU ad cA (NN mo) F A) sz) Q) 0 0 (va_A (x_w shU ad cA (NN mo) F A) sz) := by
  refine Met.ofW (cc := c_Gr_insertBehind) (maxL := 4) (ret := none) (by decide) rfl ?_
  intro p e s m args below meth c s₁ B hml hv
  obtain ⟨rfl, hsz, hP, hK, hD0, hN0⟩ := hv
  have hx := B.exec
  have hb := B.bytes
  have hr := B.returns
  have hts0 := atoms_spec (ws := (Cond.code y_Gr_insertBehind c_Gr_insertBehind 4 (none) :: gT)) B.pre
  have hts : ∀ w ∈ gT, w.before _ s = true := fun w h => hts0 w (List.mem_cons_of_mem _ h)
  have hown : s.vm.findClass R_Gr = some m.cls := findClass_of_methodNamed B.named
  have hlocks := B.notSynchronized
  subst hsz
  have hS : x_S D vCl shU ad cA (NN mo) (va_A (x_w shU ad cA (NN mo) F A) s.heap.size) s F A s.heap [] := ⟨hK, hP, hD0.self, va_S.rf, hN0⟩
  have hA : ∀ q : Nat, s.heap.size ≤ q → va_A (x_w shU ad cA (NN mo) F A) s.heap.size q := fun q h => Or.inr h
  have C0 : x_C p s m [.ref (ad 1), .int (iI x1), .int (iI x2), .int (iI x3)].toArray meth c c_Gr_insertBehind 4 (none) gT R_Gr := ⟨hx, hb, hr, hml, hown, hts, hlocks⟩
  generalize va_A (x_w shU ad cA (NN mo) F A) s.heap.size = A0 at hS hA ⊢
  have hl := lv_entry [.ref (ad 1), .int (iI x1), .int (iI x2), .int (iI x3)] (n := 4) (Nat.le_of_ble_eq_true rfl)
  rw [lg_entry_eq]
  generalize (lg_sl [.ref (ad 1), .int (iI x1), .int (iI x2), .int (iI x3)] ++ List.replicate (4 - (lg_sl [.ref (ad 1), .int (iI x1), .int (iI x2), .int (iI x3)]).length) Slot.unset).toArray = ls at hl ⊢
  have hl : lv_has ls 4 [(0, .ref (ad 1)), (1, .int (iI x1)), (2, .int (iI x2)), (3, .int (iI x3))] := hl
  refine lv_aload_n hx hb d_Gr_insertBehind_0 rfl (lv_at hl 0 rfl) ?_
  refine r_geti (z := F 3) hx hb hts in_Gr hown hS 1 rfl rfl 5 (by decide) rfl (hts _ tw_54) d_Gr_insertBehind_1 rfl ?_
  refine lv_aload_n hx hb d_Gr_insertBehind_4 rfl (lv_at hl 0 rfl) ?_
  refine r_getr (t2 := 6) hx hb hts in_Gr hown hS 1 rfl rfl 2 (by decide) rfl (hts _ tw_48) d_Gr_insertBehind_5 ?_
  refine r_alen (id := 0) (z := (mo : Int)) hx hb hS 6 rfl d_Gr_insertBehind_8 rfl ?_
  obtain ⟨g1, h⟩ := h
  obtain ⟨g2, h⟩ := h
  refine r_icmp_lt (tgt := 13) hx hb g1 g2 d_Gr_insertBehind_9 (by decide) (fun hc => ?_) (fun hc => ?_)
  · replace h := h.1 hc
    refine lv_aload_n hx hb d_Gr_insertBehind_13 rfl (lv_at hl 0 rfl) ?_
    refine lv_iload_n hx hb d_Gr_insertBehind_14 rfl (lv_at hl 1 rfl) ?_
    refine r_iconst hx hb d_Gr_insertBehind_15 ?_
    refine r_iadd hx hb d_Gr_insertBehind_16 ?_
    refine lv_iload_n hx hb d_Gr_insertBehind_17 rfl (lv_at hl 1 rfl) ?_
    refine r_iconst hx hb d_Gr_insertBehind_18 ?_
    refine r_iadd hx hb d_Gr_insertBehind_19 ?_
    refine r_cv (va_runV (As := [.int (iI (x1 + 1)), .int (iI (x1 + 2))]) (rest := []) ⟨hx, hb, hml, hown, hts⟩ (ct_Gr_shiftParts l D ad cA mo _ _ _ _ _ _ h) (cwV 2 hts (gV tw_472 tw_474 tw_s_Gr_shiftParts tw_3 tw_475) rfl rfl rfl (by decide +kernel) ⟨Nat.le_of_ble_eq_true rfl, Nat.le_of_ble_eq_true rfl⟩) (x_preV hS 1 rfl rfl _) rfl rfl hl.1 rfl (lv_room (Nat.le_of_ble_eq_true rfl)) d_Gr_insertBehind_20 ⟨Nat.zero_le _, Nat.zero_le _⟩) hS hA (fun F3 A3 H locs hS h => ?_)
    refine lv_aload_n hx hb d_Gr_insertBehind_23 rfl (lv_at hl 0 rfl) ?_
    refine lv_dup hx hb d_Gr_insertBehind_24 rfl ?_
    refine r_geti (z := F3 3) hx hb hts in_Gr hown hS 1 rfl rfl 5 (by decide) rfl (hts _ tw_54) d_Gr_insertBehind_25 rfl ?_
    refine r_iconst hx hb d_Gr_insertBehind_28 ?_
    refine r_iadd hx hb d_Gr_insertBehind_29 ?_
    refine r_puti (j := 3) (v := (F3 3) + 1) hx hb hts in_Gr t_Gr to_Gr nm_Gr hown hS 1 rfl rfl 5 (by decide) (hts _ tw_54) rfl (by decide +kernel) (setf_3 ad cA mo _ _ _) (by decide) d_Gr_insertBehind_30 (fun H locs hS => ?_)
    refine lv_aload_n hx hb d_Gr_insertBehind_33 rfl (lv_at hl 0 rfl) ?_
    refine r_getr (t2 := 6) hx hb hts in_Gr hown hS 1 rfl rfl 2 (by decide) rfl (hts _ tw_48) d_Gr_insertBehind_34 ?_
    refine lv_iload_n hx hb d_Gr_insertBehind_37 rfl (lv_at hl 1 rfl) ?_
    refine r_iconst hx hb d_Gr_insertBehind_38 ?_
    refine r_iadd hx hb d_Gr_insertBehind_39 ?_
    refine lv_aload_n hx hb d_Gr_insertBehind_40 rfl (lv_at hl 0 rfl) ?_
    refine r_getr (t2 := 6) hx hb hts in_Gr hown hS 1 rfl rfl 2 (by decide) rfl (hts _ tw_48) d_Gr_insertBehind_41 ?_
    refine lv_iload_n hx hb d_Gr_insertBehind_44 rfl (lv_at hl 1 rfl) ?_
    obtain ⟨g4, h⟩ := h
    obtain ⟨g5, h⟩ := h
    refine r_iald (id := 0) (i := x1) (z := A3 0 x1) hx hb hS 6 rfl g4 g5 d_Gr_insertBehind_45 rfl ?_
    obtain ⟨g6, h⟩ := h
    obtain ⟨g7, h⟩ := h
    refine r_iast (id := 0) (i := (x1 + 1)) (v := (A3 0 x1)) hx hb hS 6 rfl g6 g7 (seta_0 ad cA mo _ _ _ _) d_Gr_insertBehind_46 (fun H locs hS => ?_)
    refine lv_aload_n hx hb d_Gr_insertBehind_47 rfl (lv_at hl 0 rfl) ?_
    refine r_getr (t2 := 7) hx hb hts in_Gr hown hS 1 rfl rfl 3 (by decide) rfl (hts _ tw_50) d_Gr_insertBehind_48 ?_
    refine lv_iload_n hx hb d_Gr_insertBehind_51 rfl (lv_at hl 1 rfl) ?_
    refine r_iconst hx hb d_Gr_insertBehind_52 ?_
    refine r_iadd hx hb d_Gr_insertBehind_53 ?_
    refine lv_iload_n hx hb d_Gr_insertBehind_54 rfl (lv_at hl 2 rfl) ?_
    refine r_iast (id := 1) (i := (x1 + 1)) (v := x2) hx hb hS 7 rfl g6 g7 (seta_1 ad cA mo _ _ _ _) d_Gr_insertBehind_55 (fun H locs hS => ?_)
    refine lv_aload_n hx hb d_Gr_insertBehind_56 rfl (lv_at hl 0 rfl) ?_
    refine r_getr (t2 := 8) hx hb hts in_Gr hown hS 1 rfl rfl 4 (by decide) rfl (hts _ tw_52) d_Gr_insertBehind_57 ?_
    refine lv_iload_n hx hb d_Gr_insertBehind_60 rfl (lv_at hl 1 rfl) ?_
    refine r_iconst hx hb d_Gr_insertBehind_61 ?_
    refine r_iadd hx hb d_Gr_insertBehind_62 ?_
    refine lv_iload_n hx hb d_Gr_insertBehind_63 rfl (lv_at hl 3 rfl) ?_
    refine r_iast (id := 2) (i := (x1 + 1)) (v := x3) hx hb hS 8 rfl g6 g7 (seta_2 ad cA mo _ _ _ _) d_Gr_insertBehind_64 (fun H locs hS => ?_)
    exact r_vret hx hb hr hlocks hS h d_Gr_insertBehind_65
  · replace h := h.2 hc
    exact r_vret hx hb hr hlocks hS h d_Gr_insertBehind_12
/-! Gr_remove -/
def w_Gr_remove (mo : Nat) (F : Nat → Int) (A : Nat → Int → Int) (x1 : Int) (Q : (Nat → Int) → (Nat → Int → Int) → Prop) : Prop := w_Gr_shiftParts mo F A (x1 + 1) x1 (fun F1 A1 => Q (uf F1 3 ((F1 3) - 1)) A1)
set_option maxHeartbeats 4000000 in
set_option maxRecDepth 100000 in
theorem ct_Gr_remove (l : Launch) (D : va_G) (ad : Nat → Nat) (cA : Nat → ClassId) (mo sz : Nat) (F : Nat → Int) (A : Nat → Int → Int) (x1 : Int) (Q : (Nat → Int) → (Nat → Int → Int) → Prop) (h : w_Gr_remove mo F A x1 Q) : Met l y_Gr_remove (Cond.code y_Gr_remove c_Gr_remove 2 (none) :: gT) ({ frames := 2, cells := 0, slots := 0, locals := 91 } : Room) (va_Pc [.ref (ad 1), .int (iI x1)] (x_P D vCl shU ad cA (NN mo) sz F A)) (x_QV D vCl shU ad cA (NN mo) (va_A (x_w shU ad cA (NN mo) F A) sz) Q) 0 0 (va_A (x_w shU ad cA (NN mo) F A) sz) := by
  refine Met.ofW (cc := c_Gr_remove) (maxL := 2) (ret := none) (by decide) rfl ?_
  intro p e s m args below meth c s₁ B hml hv
  obtain ⟨rfl, hsz, hP, hK, hD0, hN0⟩ := hv
  have hx := B.exec
  have hb := B.bytes
  have hr := B.returns
  have hts0 := atoms_spec (ws := (Cond.code y_Gr_remove c_Gr_remove 2 (none) :: gT)) B.pre
  have hts : ∀ w ∈ gT, w.before _ s = true := fun w h => hts0 w (List.mem_cons_of_mem _ h)
  have hown : s.vm.findClass R_Gr = some m.cls := findClass_of_methodNamed B.named
  have hlocks := B.notSynchronized
  subst hsz
  have hS : x_S D vCl shU ad cA (NN mo) (va_A (x_w shU ad cA (NN mo) F A) s.heap.size) s F A s.heap [] := ⟨hK, hP, hD0.self, va_S.rf, hN0⟩
  have hA : ∀ q : Nat, s.heap.size ≤ q → va_A (x_w shU ad cA (NN mo) F A) s.heap.size q := fun q h => Or.inr h
  have C0 : x_C p s m [.ref (ad 1), .int (iI x1)].toArray meth c c_Gr_remove 2 (none) gT R_Gr := ⟨hx, hb, hr, hml, hown, hts, hlocks⟩
  generalize va_A (x_w shU ad cA (NN mo) F A) s.heap.size = A0 at hS hA ⊢
  have hl := lv_entry [.ref (ad 1), .int (iI x1)] (n := 2) (Nat.le_of_ble_eq_true rfl)
  rw [lg_entry_eq]
  generalize (lg_sl [.ref (ad 1), .int (iI x1)] ++ List.replicate (2 - (lg_sl [.ref (ad 1), .int (iI x1)]).length) Slot.unset).toArray = ls at hl ⊢
  have hl : lv_has ls 2 [(0, .ref (ad 1)), (1, .int (iI x1))] := hl
  refine lv_aload_n hx hb d_Gr_remove_0 rfl (lv_at hl 0 rfl) ?_
  refine lv_iload_n hx hb d_Gr_remove_1 rfl (lv_at hl 1 rfl) ?_
  refine r_iconst hx hb d_Gr_remove_2 ?_
  refine r_iadd hx hb d_Gr_remove_3 ?_
  refine lv_iload_n hx hb d_Gr_remove_4 rfl (lv_at hl 1 rfl) ?_
  refine r_cv (va_runV (As := [.int (iI (x1 + 1)), .int (iI x1)]) (rest := []) ⟨hx, hb, hml, hown, hts⟩ (ct_Gr_shiftParts l D ad cA mo _ _ _ _ _ _ h) (cwV 2 hts (gV tw_472 tw_474 tw_s_Gr_shiftParts tw_3 tw_475) rfl rfl rfl (by decide +kernel) ⟨Nat.le_of_ble_eq_true rfl, Nat.le_of_ble_eq_true rfl⟩) (x_preV hS 1 rfl rfl _) rfl rfl hl.1 rfl (lv_room (Nat.le_of_ble_eq_true rfl)) d_Gr_remove_5 ⟨Nat.zero_le _, Nat.zero_le _⟩) hS hA (fun F1 A1 H locs hS h => ?_)
  refine lv_aload_n hx hb d_Gr_remove_8 rfl (lv_at hl 0 rfl) ?_
  refine lv_dup hx hb d_Gr_remove_9 rfl ?_
  refine r_geti (z := F1 3) hx hb hts in_Gr hown hS 1 rfl rfl 5 (by decide) rfl (hts _ tw_54) d_Gr_remove_10 rfl ?_
  refine r_iconst hx hb d_Gr_remove_13 ?_
  refine r_isub hx hb d_Gr_remove_14 ?_
  refine r_puti (j := 3) (v := (F1 3) - 1) hx hb hts in_Gr t_Gr to_Gr nm_Gr hown hS 1 rfl rfl 5 (by decide) (hts _ tw_54) rfl (by decide +kernel) (setf_3 ad cA mo _ _ _) (by decide) d_Gr_remove_15 (fun H locs hS => ?_)
  exact r_vret hx hb hr hlocks hS h d_Gr_remove_18
/-! Gr_cutPart -/
def w_Gr_cutPart_b56 (mo : Nat) (Q : (Nat → Int) → (Nat → Int → Int) → Prop) (x1 : Int) (x2 : Int) (x3 : Int) (x4 : Int) (x5 : Int) (F : Nat → Int) (A : Nat → Int → Int) : Prop := rg x4 ∧ ((x4 = 0 → rg x5 ∧ ((x5 = 0 → w_Gr_remove mo F A x1 (fun F3 A3 => Q F3 A3)) ∧ (¬ x5 = 0 → 0 ≤ x1 ∧ x1 < (mo : Int) ∧ Q F (ua A 1 x1 x3)))) ∧ (¬ x4 = 0 → 0 ≤ x1 ∧ x1 < (mo : Int) ∧ Q F (ua A 2 x1 x2)))
def w_Gr_cutPart_b32 (mo : Nat) (Q : (Nat → Int) → (Nat → Int → Int) → Prop) (x1 : Int) (x2 : Int) (x3 : Int) (x4 : Int) (y0 : Int) (F : Nat → Int) (A : Nat → Int → Int) : Prop := rg x4 ∧ ((x4 = 0 → w_Gr_cutPart_b56 mo Q x1 x2 x3 x4 y0 F A) ∧ (¬ x4 = 0 → rg y0 ∧ ((y0 = 0 → w_Gr_cutPart_b56 mo Q x1 x2 x3 x4 y0 F A) ∧ (¬ y0 = 0 → 0 ≤ x1 ∧ x1 < (mo : Int) ∧ w_Gr_insertBehind mo F A x1 x3 (A 2 x1) (fun F12 A12 => w_Gr_cutPart_b56 mo Q x1 x2 x3 x4 y0 F12 A12)))))
def w_Gr_cutPart_b15 (mo : Nat) (Q : (Nat → Int) → (Nat → Int → Int) → Prop) (x1 : Int) (x2 : Int) (x3 : Int) (y0 : Int) (F : Nat → Int) (A : Nat → Int → Int) : Prop := 0 ≤ x1 ∧ x1 < (mo : Int) ∧ rg x3 ∧ rg (A 2 x1) ∧ (((A 2 x1) ≤ x3 → w_Gr_cutPart_b32 mo Q x1 x2 x3 y0 0 F A) ∧ (¬ (A 2 x1) ≤ x3 → w_Gr_cutPart_b32 mo Q x1 x2 x3 y0 1 F A))
def w_Gr_cutPart (mo : Nat) (F : Nat → Int) (A : Nat → Int → Int) (x1 : Int) (x2 : Int) (x3 : Int) (Q : (Nat → Int) → (Nat → Int → Int) → Prop) : Prop := 0 ≤ x1 ∧ x1 < (mo : Int) ∧ rg (A 1 x1) ∧ rg x2 ∧ ((x2 ≤ (A 1 x1) → w_Gr_cutPart_b15 mo Q x1 x2 x3 0 F A) ∧ (¬ x2 ≤ (A 1 x1) → w_Gr_cutPart_b15 mo Q x1 x2 x3 1 F A))
set_option maxHeartbeats 4000000 in
set_option maxRecDepth 100000 in
theorem s_Gr_cutPart_b56 (C0 : x_C p s m args meth c c_Gr_cutPart 6 (none) gT R_Gr) (hA : ∀ q : Nat, s.heap.size ≤ q → A0 q) {mo : Nat} {Q : (Nat → Int) → (Nat → Int → Int) → Prop} (x1 : Int) (x2 : Int) (x3 : Int) (x4 : Int) (x5 : Int) (F : Nat → Int) (A : Nat → Int → Int) (h : w_Gr_cutPart_b56 mo Q x1 x2 x3 x4 x5 F A) (H : Heap) (locs : List Loc) (ls : Array Slot) (hS : x_S D vCl shU ad cA (NN mo) A0 s F A H locs) (hl : lv_has ls 6 [(0, .ref (ad 1)), (1, .int (iI x1)), (2, .int (iI x2)), (3, .int (iI x3)), (4, .int (iI x4)), (5, .int (iI x5))]) : W p l e ({ frames := 3, cells := 0, slots := 0, locals := 114 } : Room) s m args below meth c H locs 0 0 (MQ below (x_QV D vCl shU ad cA (NN mo) A0 Q) args s 0 0 A0) (F0 m 56 ls []) := by
  obtain ⟨hx, hb, hr, hml, hown, hts, hlocks⟩ := id C0
  refine lv_iload hx hb d_Gr_cutPart_56 (lv_at hl 4 rfl) ?_
  obtain ⟨g1, h⟩ := h
  refine r_if_eq (tgt := 71) hx hb g1 d_Gr_cutPart_58 (by decide) (fun hc => ?_) (fun hc => ?_)
  · replace h := h.1 hc
    refine lv_iload hx hb d_Gr_cutPart_71 (lv_at hl 5 rfl) ?_
    obtain ⟨g2, h⟩ := h
    refine r_if_eq (tgt := 86) hx hb g2 d_Gr_cutPart_73 (by decide) (fun hc => ?_) (fun hc => ?_)
    · replace h := h.1 hc
      refine lv_aload_n hx hb d_Gr_cutPart_86 rfl (lv_at hl 0 rfl) ?_
      refine lv_iload_n hx hb d_Gr_cutPart_87 rfl (lv_at hl 1 rfl) ?_
      refine r_cv (va_runV (As := [.int (iI x1)]) (rest := []) ⟨hx, hb, hml, hown, hts⟩ (ct_Gr_remove l D ad cA mo _ _ _ _ _ h) (cwV 1 hts (gV tw_479 tw_481 tw_s_Gr_remove tw_3 tw_482) rfl rfl rfl (by decide +kernel) ⟨Nat.le_of_ble_eq_true rfl, Nat.le_of_ble_eq_true rfl⟩) (x_preV hS 1 rfl rfl _) rfl rfl hl.1 rfl (lv_room (Nat.le_of_ble_eq_true rfl)) d_Gr_cutPart_88 ⟨Nat.zero_le _, Nat.zero_le _⟩) hS hA (fun F3 A3 H locs hS h => ?_)
      exact r_vret hx hb hr hlocks hS h d_Gr_cutPart_91
    · replace h := h.2 hc
      refine lv_aload_n hx hb d_Gr_cutPart_76 rfl (lv_at hl 0 rfl) ?_
      refine r_getr (t2 := 7) hx hb hts in_Gr hown hS 1 rfl rfl 3 (by decide) rfl (hts _ tw_50) d_Gr_cutPart_77 ?_
      refine lv_iload_n hx hb d_Gr_cutPart_80 rfl (lv_at hl 1 rfl) ?_
      refine lv_iload_n hx hb d_Gr_cutPart_81 rfl (lv_at hl 3 rfl) ?_
      obtain ⟨g4, h⟩ := h
      obtain ⟨g5, h⟩ := h
      refine r_iast (id := 1) (i := x1) (v := x3) hx hb hS 7 rfl g4 g5 (seta_1 ad cA mo _ _ _ _) d_Gr_cutPart_82 (fun H locs hS => ?_)
      refine lv_goto (tgt := 91) hx hb d_Gr_cutPart_83 (by decide) ?_
      exact r_vret hx hb hr hlocks hS h d_Gr_cutPart_91
  · replace h := h.2 hc
    refine lv_aload_n hx hb d_Gr_cutPart_61 rfl (lv_at hl 0 rfl) ?_
    refine r_getr (t2 := 8) hx hb hts in_Gr hown hS 1 rfl rfl 4 (by decide) rfl (hts _ tw_52) d_Gr_cutPart_62 ?_
    refine lv_iload_n hx hb d_Gr_cutPart_65 rfl (lv_at hl 1 rfl) ?_
    refine lv_iload_n hx hb d_Gr_cutPart_66 rfl (lv_at hl 2 rfl) ?_
    obtain ⟨g6, h⟩ := h
    obtain ⟨g7, h⟩ := h
    refine r_iast (id := 2) (i := x1) (v := x2) hx hb hS 8 rfl g6 g7 (seta_2 ad cA mo _ _ _ _) d_Gr_cutPart_67 (fun H locs hS => ?_)
    refine lv_goto (tgt := 91) hx hb d_Gr_cutPart_68 (by decide) ?_
    exact r_vret hx hb hr hlocks hS h d_Gr_cutPart_91
set_option maxHeartbeats 4000000 in
set_option maxRecDepth 100000 in
theorem s_Gr_cutPart_b32 (C0 : x_C p s m args meth c c_Gr_cutPart 6 (none) gT R_Gr) (hA : ∀ q : Nat, s.heap.size ≤ q → A0 q) {mo : Nat} {Q : (Nat → Int) → (Nat → Int → Int) → Prop} (x1 : Int) (x2 : Int) (x3 : Int) (x4 : Int) (y0 : Int) (F : Nat → Int) (A : Nat → Int → Int) (h : w_Gr_cutPart_b32 mo Q x1 x2 x3 x4 y0 F A) (H : Heap) (locs : List Loc) (ls : Array Slot) (hS : x_S D vCl shU ad cA (NN mo) A0 s F A H locs) (hl : lv_has ls 6 [(0, .ref (ad 1)), (1, .int (iI x1)), (2, .int (iI x2)), (3, .int (iI x3)), (4, .int (iI x4))]) : W p l e ({ frames := 3, cells := 0, slots := 0, locals := 114 } : Room) s m args below meth c H locs 0 0 (MQ below (x_QV D vCl shU ad cA (NN mo) A0 Q) args s 0 0 A0) (F0 m 32 ls [.int (iI y0)]) := by
  obtain ⟨hx, hb, hr, hml, hown, hts, hlocks⟩ := id C0
  refine lv_istore (lv' := [(5, .int (iI y0)), (0, .ref (ad 1)), (1, .int (iI x1)), (2, .int (iI x2)), (3, .int (iI x3)), (4, .int (iI x4))]) hx hb d_Gr_cutPart_32 hl (by decide) rfl (fun ls hl => ?_)
  refine lv_iload hx hb d_Gr_cutPart_34 (lv_at hl 5 rfl) ?_
  obtain ⟨g8, h⟩ := h
  refine r_if_eq (tgt := 56) hx hb g8 d_Gr_cutPart_36 (by decide) (fun hc => ?_) (fun hc => ?_)
  · replace h := h.1 hc
    exact s_Gr_cutPart_b56 C0 hA _ _ _ _ _ _ _ h _ _ _ hS (lv_sub hl [1, 2, 3, 4, 5, 0] rfl)
  · replace h := h.2 hc
    refine lv_iload hx hb d_Gr_cutPart_39 (lv_at hl 0 rfl) ?_
    obtain ⟨g9, h⟩ := h
    refine r_if_eq (tgt := 56) hx hb g9 d_Gr_cutPart_41 (by decide) (fun hc => ?_) (fun hc => ?_)
    · replace h := h.1 hc
      exact s_Gr_cutPart_b56 C0 hA _ _ _ _ _ _ _ h _ _ _ hS (lv_sub hl [1, 2, 3, 4, 5, 0] rfl)
    · replace h := h.2 hc
      refine lv_aload_n hx hb d_Gr_cutPart_44 rfl (lv_at hl 1 rfl) ?_
      refine lv_iload_n hx hb d_Gr_cutPart_45 rfl (lv_at hl 2 rfl) ?_
      refine lv_iload_n hx hb d_Gr_cutPart_46 rfl (lv_at hl 4 rfl) ?_
      refine lv_aload_n hx hb d_Gr_cutPart_47 rfl (lv_at hl 1 rfl) ?_
      refine r_getr (t2 := 8) hx hb hts in_Gr hown hS 1 rfl rfl 4 (by decide) rfl (hts _ tw_52) d_Gr_cutPart_48 ?_
      refine lv_iload_n hx hb d_Gr_cutPart_51 rfl (lv_at hl 2 rfl) ?_
      obtain ⟨g10, h⟩ := h
      obtain ⟨g11, h⟩ := h
      refine r_iald (id := 2) (i := x1) (z := A 2 x1) hx hb hS 8 rfl g10 g11 d_Gr_cutPart_52 rfl ?_
      refine r_cv (va_runV (As := [.int (iI x1), .int (iI x3), .int (iI (A 2 x1))]) (rest := []) ⟨hx, hb, hml, hown, hts⟩ (ct_Gr_insertBehind l D ad cA mo _ _ _ _ _ _ _ h) (cwV 3 hts (gV tw_468 tw_470 tw_s_Gr_insertBehind tw_3 tw_471) rfl rfl rfl (by decide +kernel) ⟨Nat.le_of_ble_eq_true rfl, Nat.le_of_ble_eq_true rfl⟩) (x_preV hS 1 rfl rfl _) rfl rfl hl.1 rfl (lv_room (Nat.le_of_ble_eq_true rfl)) d_Gr_cutPart_53 ⟨Nat.zero_le _, Nat.zero_le _⟩) hS hA (fun F12 A12 H locs hS h => ?_)
      exact s_Gr_cutPart_b56 C0 hA _ _ _ _ _ _ _ h _ _ _ hS (lv_sub hl [1, 2, 3, 4, 5, 0] rfl)
set_option maxHeartbeats 4000000 in
set_option maxRecDepth 100000 in
theorem s_Gr_cutPart_b15 (C0 : x_C p s m args meth c c_Gr_cutPart 6 (none) gT R_Gr) (hA : ∀ q : Nat, s.heap.size ≤ q → A0 q) {mo : Nat} {Q : (Nat → Int) → (Nat → Int → Int) → Prop} (x1 : Int) (x2 : Int) (x3 : Int) (y0 : Int) (F : Nat → Int) (A : Nat → Int → Int) (h : w_Gr_cutPart_b15 mo Q x1 x2 x3 y0 F A) (H : Heap) (locs : List Loc) (ls : Array Slot) (hS : x_S D vCl shU ad cA (NN mo) A0 s F A H locs) (hl : lv_has ls 6 [(0, .ref (ad 1)), (1, .int (iI x1)), (2, .int (iI x2)), (3, .int (iI x3))]) : W p l e ({ frames := 3, cells := 0, slots := 0, locals := 114 } : Room) s m args below meth c H locs 0 0 (MQ below (x_QV D vCl shU ad cA (NN mo) A0 Q) args s 0 0 A0) (F0 m 15 ls [.int (iI y0)]) := by
  obtain ⟨hx, hb, hr, hml, hown, hts, hlocks⟩ := id C0
  refine lv_istore (lv' := [(4, .int (iI y0)), (0, .ref (ad 1)), (1, .int (iI x1)), (2, .int (iI x2)), (3, .int (iI x3))]) hx hb d_Gr_cutPart_15 hl (by decide) rfl (fun ls hl => ?_)
  refine lv_iload_n hx hb d_Gr_cutPart_17 rfl (lv_at hl 4 rfl) ?_
  refine lv_aload_n hx hb d_Gr_cutPart_18 rfl (lv_at hl 1 rfl) ?_
  refine r_getr (t2 := 8) hx hb hts in_Gr hown hS 1 rfl rfl 4 (by decide) rfl (hts _ tw_52) d_Gr_cutPart_19 ?_
  refine lv_iload_n hx hb d_Gr_cutPart_22 rfl (lv_at hl 2 rfl) ?_
  obtain ⟨g13, h⟩ := h
  obtain ⟨g14, h⟩ := h
  refine r_iald (id := 2) (i := x1) (z := A 2 x1) hx hb hS 8 rfl g13 g14 d_Gr_cutPart_23 rfl ?_
  obtain ⟨g15, h⟩ := h
  obtain ⟨g16, h⟩ := h
  refine r_icmp_ge (tgt := 31) hx hb g15 g16 d_Gr_cutPart_24 (by decide) (fun hc => ?_) (fun hc => ?_)
  · replace h := h.1 hc
    refine r_iconst hx hb d_Gr_cutPart_31 ?_
    exact s_Gr_cutPart_b32 C0 hA _ _ _ _ _ _ _ h _ _ _ hS (lv_sub hl [1, 2, 3, 4, 0] rfl)
  · replace h := h.2 hc
    refine r_iconst hx hb d_Gr_cutPart_27 ?_
    refine lv_goto (tgt := 32) hx hb d_Gr_cutPart_28 (by decide) ?_
    exact s_Gr_cutPart_b32 C0 hA _ _ _ _ _ _ _ h _ _ _ hS (lv_sub hl [1, 2, 3, 4, 0] rfl)
set_option maxHeartbeats 4000000 in
set_option maxRecDepth 100000 in
theorem ct_Gr_cutPart (l : Launch) (D : va_G) (ad : Nat → Nat) (cA : Nat → ClassId) (mo sz : Nat) (F : Nat → Int) (A : Nat → Int → Int) (x1 : Int) (x2 : Int) (x3 : Int) (Q : (Nat → Int) → (Nat → Int → Int) → Prop) (h : w_Gr_cutPart mo F A x1 x2 x3 Q) : Met l y_Gr_cutPart (Cond.code y_Gr_cutPart c_Gr_cutPart 6 (none) :: gT) ({ frames := 3, cells := 0, slots := 0, locals := 114 } : Room) (va_Pc [.ref (ad 1), .int (iI x1), .int (iI x2), .int (iI x3)] (x_P D vCl shU ad cA (NN mo) sz F A)) (x_QV D vCl shU ad cA (NN mo) (va_A (x_w shU ad cA (NN mo) F A) sz) Q) 0 0 (va_A (x_w shU ad cA (NN mo) F A) sz) := by
  refine Met.ofW (cc := c_Gr_cutPart) (maxL := 6) (ret := none) (by decide) rfl ?_
  intro p e s m args below meth c s₁ B hml hv
  obtain ⟨rfl, hsz, hP, hK, hD0, hN0⟩ := hv
  have hx := B.exec
  have hb := B.bytes
  have hr := B.returns
  have hts0 := atoms_spec (ws := (Cond.code y_Gr_cutPart c_Gr_cutPart 6 (none) :: gT)) B.pre
  have hts : ∀ w ∈ gT, w.before _ s = true := fun w h => hts0 w (List.mem_cons_of_mem _ h)
  have hown : s.vm.findClass R_Gr = some m.cls := findClass_of_methodNamed B.named
  have hlocks := B.notSynchronized
  subst hsz
  have hS : x_S D vCl shU ad cA (NN mo) (va_A (x_w shU ad cA (NN mo) F A) s.heap.size) s F A s.heap [] := ⟨hK, hP, hD0.self, va_S.rf, hN0⟩
  have hA : ∀ q : Nat, s.heap.size ≤ q → va_A (x_w shU ad cA (NN mo) F A) s.heap.size q := fun q h => Or.inr h
  have C0 : x_C p s m [.ref (ad 1), .int (iI x1), .int (iI x2), .int (iI x3)].toArray meth c c_Gr_cutPart 6 (none) gT R_Gr := ⟨hx, hb, hr, hml, hown, hts, hlocks⟩
  generalize va_A (x_w shU ad cA (NN mo) F A) s.heap.size = A0 at hS hA ⊢
  have hl := lv_entry [.ref (ad 1), .int (iI x1), .int (iI x2), .int (iI x3)] (n := 6) (Nat.le_of_ble_eq_true rfl)
  rw [lg_entry_eq]
  generalize (lg_sl [.ref (ad 1), .int (iI x1), .int (iI x2), .int (iI x3)] ++ List.replicate (6 - (lg_sl [.ref (ad 1), .int (iI x1), .int (iI x2), .int (iI x3)]).length) Slot.unset).toArray = ls at hl ⊢
  have hl : lv_has ls 6 [(0, .ref (ad 1)), (1, .int (iI x1)), (2, .int (iI x2)), (3, .int (iI x3))] := hl
  refine lv_aload_n hx hb d_Gr_cutPart_0 rfl (lv_at hl 0 rfl) ?_
  refine r_getr (t2 := 7) hx hb hts in_Gr hown hS 1 rfl rfl 3 (by decide) rfl (hts _ tw_50) d_Gr_cutPart_1 ?_
  refine lv_iload_n hx hb d_Gr_cutPart_4 rfl (lv_at hl 1 rfl) ?_
  obtain ⟨g17, h⟩ := h
  obtain ⟨g18, h⟩ := h
  refine r_iald (id := 1) (i := x1) (z := A 1 x1) hx hb hS 7 rfl g17 g18 d_Gr_cutPart_5 rfl ?_
  refine lv_iload_n hx hb d_Gr_cutPart_6 rfl (lv_at hl 2 rfl) ?_
  obtain ⟨g19, h⟩ := h
  obtain ⟨g20, h⟩ := h
  refine r_icmp_ge (tgt := 14) hx hb g19 g20 d_Gr_cutPart_7 (by decide) (fun hc => ?_) (fun hc => ?_)
  · replace h := h.1 hc
    refine r_iconst hx hb d_Gr_cutPart_14 ?_
    exact s_Gr_cutPart_b15 C0 hA _ _ _ _ _ _ h _ _ _ hS (lv_sub hl [0, 1, 2, 3] rfl)
  · replace h := h.2 hc
    refine r_iconst hx hb d_Gr_cutPart_10 ?_
    refine lv_goto (tgt := 15) hx hb d_Gr_cutPart_11 (by decide) ?_
    exact s_Gr_cutPart_b15 C0 hA _ _ _ _ _ _ h _ _ _ hS (lv_sub hl [0, 1, 2, 3] rfl)
/-! Gr_cut -/
def w_Gr_cut_b63 (mo : Nat) (Q : Int → (Nat → Int) → (Nat → Int → Int) → Prop) (I11 : Int → Int → (Nat → Int) → (Nat → Int → Int) → Prop) (x1 : Int) (x2 : Int) (x3 : Int) (x4 : Int) (x5 : Int) (F : Nat → Int) (A : Nat → Int → Int) : Prop := I11 x4 (x5 + (-1)) F A
def w_Gr_cut_b11 (mo : Nat) (Q : Int → (Nat → Int) → (Nat → Int → Int) → Prop) (x1 : Int) (x2 : Int) (x3 : Int) (x4 : Int) (x5 : Int) (F : Nat → Int) (A : Nat → Int → Int) : Prop := Lp4 (fun I11 x4 x5 F A => rg x5 ∧ ((x5 < 0 → (x4 = 0 ∨ x4 = 1) ∧ Q x4 F A) ∧ (¬ x5 < 0 → 0 ≤ x5 ∧ x5 < (mo : Int) ∧ rg (A 0 x5) ∧ rg x1 ∧ ((¬ (A 0 x5) = x1 → w_Gr_cut_b63 mo Q I11 x1 x2 x3 x4 x5 F A) ∧ ((A 0 x5) = x1 → rg (A 1 x5) ∧ rg x2 ∧ rg (A 2 x5) ∧ rg x3 ∧ rg (max (A 1 x5) x2) ∧ rg (min (A 2 x5) x3) ∧ (((min (A 2 x5) x3) ≤ (max (A 1 x5) x2) → w_Gr_cut_b63 mo Q I11 x1 x2 x3 x4 x5 F A) ∧ (¬ (min (A 2 x5) x3) ≤ (max (A 1 x5) x2) → w_Gr_cutPart mo F A x5 x2 x3 (fun F13 A13 => w_Gr_cut_b63 mo Q I11 x1 x2 x3 1 x5 F13 A13)))))))) x4 x5 F A
def w_Gr_cut (mo : Nat) (F : Nat → Int) (A : Nat → Int → Int) (x1 : Int) (x2 : Int) (x3 : Int) (Q : Int → (Nat → Int) → (Nat → Int → Int) → Prop) : Prop := w_Gr_cut_b11 mo Q x1 x2 x3 0 ((F 3) - 1) F A
set_option maxHeartbeats 4000000 in
set_option maxRecDepth 100000 in
theorem s_Gr_cut_b63 (C0 : x_C p s m args meth c c_Gr_cut 6 (some .boolean) gT R_Gr) (hA : ∀ q : Nat, s.heap.size ≤ q → A0 q) {mo : Nat} {Q : Int → (Nat → Int) → (Nat → Int → Int) → Prop} {I11 : Int → Int → (Nat → Int) → (Nat → Int → Int) → Prop} (x1 : Int) (x2 : Int) (x3 : Int) (x4 : Int) (x5 : Int) (F : Nat → Int) (A : Nat → Int → Int) (hI11 : ∀ (x4 : Int) (x5 : Int) (F : Nat → Int) (A : Nat → Int → Int), I11 x4 x5 F A → ∀ (H : Heap) (locs : List Loc) (ls : Array Slot), x_S D vCl shU ad cA (NN mo) A0 s F A H locs → lv_has ls 6 [(0, .ref (ad 1)), (1, .int (iI x1)), (2, .int (iI x2)), (3, .int (iI x3)), (4, .int (iI x4)), (5, .int (iI x5))] → W p l e ({ frames := 4, cells := 0, slots := 0, locals := 139 } : Room) s m args below meth c H locs 0 0 (MQ below (x_QI D vCl shU ad cA (NN mo) A0 Q) args s 0 0 A0) (F0 m 11 ls [])) (h : w_Gr_cut_b63 mo Q I11 x1 x2 x3 x4 x5 F A) (H : Heap) (locs : List Loc) (ls : Array Slot) (hS : x_S D vCl shU ad cA (NN mo) A0 s F A H locs) (hl : lv_has ls 6 [(0, .ref (ad 1)), (1, .int (iI x1)), (2, .int (iI x2)), (3, .int (iI x3)), (4, .int (iI x4)), (5, .int (iI x5))]) : W p l e ({ frames := 4, cells := 0, slots := 0, locals := 139 } : Room) s m args below meth c H locs 0 0 (MQ below (x_QI D vCl shU ad cA (NN mo) A0 Q) args s 0 0 A0) (F0 m 63 ls []) := by
  obtain ⟨hx, hb, hr, hml, hown, hts, hlocks⟩ := id C0
  refine r_iinc (k := 5) (z := x5) (lv' := [(5, .int (iI (x5 + (-1)))), (0, .ref (ad 1)), (1, .int (iI x1)), (2, .int (iI x2)), (3, .int (iI x3)), (4, .int (iI x4))]) hx hb d_Gr_cut_63 hl rfl (by decide) rfl (fun ls hl => ?_)
  refine lv_goto (tgt := 11) hx hb d_Gr_cut_66 (by decide) ?_
  exact hI11 _ _ _ _ h _ _ _ hS (lv_sub hl [1, 2, 3, 4, 5, 0] rfl)
set_option maxHeartbeats 4000000 in
set_option maxRecDepth 100000 in
theorem s_Gr_cut_b11 (C0 : x_C p s m args meth c c_Gr_cut 6 (some .boolean) gT R_Gr) (hA : ∀ q : Nat, s.heap.size ≤ q → A0 q) {mo : Nat} {Q : Int → (Nat → Int) → (Nat → Int → Int) → Prop} (x1 : Int) (x2 : Int) (x3 : Int) (x4 : Int) (x5 : Int) (F : Nat → Int) (A : Nat → Int → Int) (h : w_Gr_cut_b11 mo Q x1 x2 x3 x4 x5 F A) (H : Heap) (locs : List Loc) (ls : Array Slot) (hS : x_S D vCl shU ad cA (NN mo) A0 s F A H locs) (hl : lv_has ls 6 [(0, .ref (ad 1)), (1, .int (iI x1)), (2, .int (iI x2)), (3, .int (iI x3)), (4, .int (iI x4)), (5, .int (iI x5))]) : W p l e ({ frames := 4, cells := 0, slots := 0, locals := 139 } : Room) s m args below meth c H locs 0 0 (MQ below (x_QI D vCl shU ad cA (NN mo) A0 Q) args s 0 0 A0) (F0 m 11 ls []) := by
  obtain ⟨hx, hb, hr, hml, hown, hts, hlocks⟩ := id C0
  refine h (fun x4 x5 F A => ∀ (H : Heap) (locs : List Loc) (ls : Array Slot), x_S D vCl shU ad cA (NN mo) A0 s F A H locs → lv_has ls 6 [(0, .ref (ad 1)), (1, .int (iI x1)), (2, .int (iI x2)), (3, .int (iI x3)), (4, .int (iI x4)), (5, .int (iI x5))] → W p l e ({ frames := 4, cells := 0, slots := 0, locals := 139 } : Room) s m args below meth c H locs 0 0 (MQ below (x_QI D vCl shU ad cA (NN mo) A0 Q) args s 0 0 A0) (F0 m 11 ls [])) ?_ H locs ls hS hl
  intro x4 x5 F A h H locs ls hS hl
  refine lv_iload hx hb d_Gr_cut_11 (lv_at hl 5 rfl) ?_
  obtain ⟨g1, h⟩ := h
  refine r_if_lt (tgt := 69) hx hb g1 d_Gr_cut_13 (by decide) (fun hc => ?_) (fun hc => ?_)
  · replace h := h.1 hc
    refine lv_iload hx hb d_Gr_cut_69 (lv_at hl 4 rfl) ?_
    obtain ⟨g2, h⟩ := h
    exact r_zret (z := x4) hx hb hr hlocks g2 hS h d_Gr_cut_71
  · replace h := h.2 hc
    refine lv_aload_n hx hb d_Gr_cut_16 rfl (lv_at hl 0 rfl) ?_
    refine r_getr (t2 := 6) hx hb hts in_Gr hown hS 1 rfl rfl 2 (by decide) rfl (hts _ tw_48) d_Gr_cut_17 ?_
    refine lv_iload hx hb d_Gr_cut_20 (lv_at hl 5 rfl) ?_
    obtain ⟨g3, h⟩ := h
    obtain ⟨g4, h⟩ := h
    refine r_iald (id := 0) (i := x5) (z := A 0 x5) hx hb hS 6 rfl g3 g4 d_Gr_cut_22 rfl ?_
    refine lv_iload_n hx hb d_Gr_cut_23 rfl (lv_at hl 1 rfl) ?_
    obtain ⟨g5, h⟩ := h
    obtain ⟨g6, h⟩ := h
    refine r_icmp_ne (tgt := 63) hx hb g5 g6 d_Gr_cut_24 (by decide) (fun hc => ?_) (fun hc => ?_)
    · replace h := h.1 hc
      exact s_Gr_cut_b63 C0 hA _ _ _ _ _ _ _ (fun _ _ _ _ h => h) h _ _ _ hS (lv_sub hl [0, 1, 2, 3, 4, 5] rfl)
    · replace h := h.2 hc
      refine lv_aload_n hx hb d_Gr_cut_27 rfl (lv_at hl 0 rfl) ?_
      refine r_getr (t2 := 7) hx hb hts in_Gr hown hS 1 rfl rfl 3 (by decide) rfl (hts _ tw_50) d_Gr_cut_28 ?_
      refine lv_iload hx hb d_Gr_cut_31 (lv_at hl 5 rfl) ?_
      refine r_iald (id := 1) (i := x5) (z := A 1 x5) hx hb hS 7 rfl g3 g4 d_Gr_cut_33 rfl ?_
      refine lv_iload_n hx hb d_Gr_cut_34 rfl (lv_at hl 2 rfl) ?_
      obtain ⟨g7, h⟩ := h
      obtain ⟨g8, h⟩ := h
      refine r_mmax hx hb (hml.trans hl.1.symm) hown (hts _ tw_463) (hts _ tw_28) (hts _ tw_2) (hts _ tw_29) (Nat.le_of_ble_eq_true rfl) (Nat.le_of_ble_eq_true rfl) (Nat.zero_le _) (Nat.zero_le _) g7 g8 d_Gr_cut_35 ?_
      refine lv_aload_n hx hb d_Gr_cut_38 rfl (lv_at hl 0 rfl) ?_
      refine r_getr (t2 := 8) hx hb hts in_Gr hown hS 1 rfl rfl 4 (by decide) rfl (hts _ tw_52) d_Gr_cut_39 ?_
      refine lv_iload hx hb d_Gr_cut_42 (lv_at hl 5 rfl) ?_
      refine r_iald (id := 2) (i := x5) (z := A 2 x5) hx hb hS 8 rfl g3 g4 d_Gr_cut_44 rfl ?_
      refine lv_iload_n hx hb d_Gr_cut_45 rfl (lv_at hl 3 rfl) ?_
      obtain ⟨g9, h⟩ := h
      obtain ⟨g10, h⟩ := h
      refine r_mmin hx hb (hml.trans hl.1.symm) hown (hts _ tw_43) (hts _ tw_25) (hts _ tw_2) (hts _ tw_26) (Nat.le_of_ble_eq_true rfl) (Nat.le_of_ble_eq_true rfl) (Nat.zero_le _) (Nat.zero_le _) g9 g10 d_Gr_cut_46 ?_
      obtain ⟨g11, h⟩ := h
      obtain ⟨g12, h⟩ := h
      refine r_icmp_ge (tgt := 63) hx hb g11 g12 d_Gr_cut_49 (by decide) (fun hc => ?_) (fun hc => ?_)
      · replace h := h.1 hc
        exact s_Gr_cut_b63 C0 hA _ _ _ _ _ _ _ (fun _ _ _ _ h => h) h _ _ _ hS (lv_sub hl [0, 1, 2, 3, 4, 5] rfl)
      · replace h := h.2 hc
        refine lv_aload_n hx hb d_Gr_cut_52 rfl (lv_at hl 0 rfl) ?_
        refine lv_iload hx hb d_Gr_cut_53 (lv_at hl 5 rfl) ?_
        refine lv_iload_n hx hb d_Gr_cut_55 rfl (lv_at hl 2 rfl) ?_
        refine lv_iload_n hx hb d_Gr_cut_56 rfl (lv_at hl 3 rfl) ?_
        refine r_cv (va_runV (As := [.int (iI x5), .int (iI x2), .int (iI x3)]) (rest := []) ⟨hx, hb, hml, hown, hts⟩ (ct_Gr_cutPart l D ad cA mo _ _ _ _ _ _ _ h) (cwV 3 hts (gV tw_464 tw_466 tw_s_Gr_cutPart tw_3 tw_467) rfl rfl rfl (by decide +kernel) ⟨Nat.le_of_ble_eq_true rfl, Nat.le_of_ble_eq_true rfl⟩) (x_preV hS 1 rfl rfl _) rfl rfl hl.1 rfl (lv_room (Nat.le_of_ble_eq_true rfl)) d_Gr_cut_57 ⟨Nat.zero_le _, Nat.zero_le _⟩) hS hA (fun F13 A13 H locs hS h => ?_)
        refine r_iconst hx hb d_Gr_cut_60 ?_
        refine lv_istore (lv' := [(4, .int (iI 1)), (0, .ref (ad 1)), (1, .int (iI x1)), (2, .int (iI x2)), (3, .int (iI x3)), (5, .int (iI x5))]) hx hb d_Gr_cut_61 hl (by decide) rfl (fun ls hl => ?_)
        exact s_Gr_cut_b63 C0 hA _ _ _ _ _ _ _ (fun _ _ _ _ h => h) h _ _ _ hS (lv_sub hl [1, 2, 3, 4, 0, 5] rfl)
set_option maxHeartbeats 4000000 in
set_option maxRecDepth 100000 in
theorem ct_Gr_cut (l : Launch) (D : va_G) (ad : Nat → Nat) (cA : Nat → ClassId) (mo sz : Nat) (F : Nat → Int) (A : Nat → Int → Int) (x1 : Int) (x2 : Int) (x3 : Int) (Q : Int → (Nat → Int) → (Nat → Int → Int) → Prop) (h : w_Gr_cut mo F A x1 x2 x3 Q) : Met l y_Gr_cut (Cond.code y_Gr_cut c_Gr_cut 6 (some .boolean) :: gT) ({ frames := 4, cells := 0, slots := 0, locals := 139 } : Room) (va_Pc [.ref (ad 1), .int (iI x1), .int (iI x2), .int (iI x3)] (x_P D vCl shU ad cA (NN mo) sz F A)) (x_QI D vCl shU ad cA (NN mo) (va_A (x_w shU ad cA (NN mo) F A) sz) Q) 0 0 (va_A (x_w shU ad cA (NN mo) F A) sz) := by
  refine Met.ofW (cc := c_Gr_cut) (maxL := 6) (ret := some .boolean) (by decide) rfl ?_
  intro p e s m args below meth c s₁ B hml hv
  obtain ⟨rfl, hsz, hP, hK, hD0, hN0⟩ := hv
  have hx := B.exec
  have hb := B.bytes
  have hr := B.returns
  have hts0 := atoms_spec (ws := (Cond.code y_Gr_cut c_Gr_cut 6 (some .boolean) :: gT)) B.pre
  have hts : ∀ w ∈ gT, w.before _ s = true := fun w h => hts0 w (List.mem_cons_of_mem _ h)
  have hown : s.vm.findClass R_Gr = some m.cls := findClass_of_methodNamed B.named
  have hlocks := B.notSynchronized
  subst hsz
  have hS : x_S D vCl shU ad cA (NN mo) (va_A (x_w shU ad cA (NN mo) F A) s.heap.size) s F A s.heap [] := ⟨hK, hP, hD0.self, va_S.rf, hN0⟩
  have hA : ∀ q : Nat, s.heap.size ≤ q → va_A (x_w shU ad cA (NN mo) F A) s.heap.size q := fun q h => Or.inr h
  have C0 : x_C p s m [.ref (ad 1), .int (iI x1), .int (iI x2), .int (iI x3)].toArray meth c c_Gr_cut 6 (some .boolean) gT R_Gr := ⟨hx, hb, hr, hml, hown, hts, hlocks⟩
  generalize va_A (x_w shU ad cA (NN mo) F A) s.heap.size = A0 at hS hA ⊢
  have hl := lv_entry [.ref (ad 1), .int (iI x1), .int (iI x2), .int (iI x3)] (n := 6) (Nat.le_of_ble_eq_true rfl)
  rw [lg_entry_eq]
  generalize (lg_sl [.ref (ad 1), .int (iI x1), .int (iI x2), .int (iI x3)] ++ List.replicate (6 - (lg_sl [.ref (ad 1), .int (iI x1), .int (iI x2), .int (iI x3)]).length) Slot.unset).toArray = ls at hl ⊢
  have hl : lv_has ls 6 [(0, .ref (ad 1)), (1, .int (iI x1)), (2, .int (iI x2)), (3, .int (iI x3))] := hl
  refine r_iconst hx hb d_Gr_cut_0 ?_
  refine lv_istore (lv' := [(4, .int (iI 0)), (0, .ref (ad 1)), (1, .int (iI x1)), (2, .int (iI x2)), (3, .int (iI x3))]) hx hb d_Gr_cut_1 hl (by decide) rfl (fun ls hl => ?_)
  refine lv_aload_n hx hb d_Gr_cut_3 rfl (lv_at hl 1 rfl) ?_
  refine r_geti (z := F 3) hx hb hts in_Gr hown hS 1 rfl rfl 5 (by decide) rfl (hts _ tw_54) d_Gr_cut_4 rfl ?_
  refine r_iconst hx hb d_Gr_cut_7 ?_
  refine r_isub hx hb d_Gr_cut_8 ?_
  refine lv_istore (lv' := [(5, .int (iI ((F 3) - 1))), (4, .int (iI 0)), (0, .ref (ad 1)), (1, .int (iI x1)), (2, .int (iI x2)), (3, .int (iI x3))]) hx hb d_Gr_cut_9 hl (by decide) rfl (fun ls hl => ?_)
  exact s_Gr_cut_b11 C0 hA _ _ _ _ _ _ _ h _ _ _ hS (lv_sub hl [2, 3, 4, 5, 1, 0] rfl)
/-! Ce_setKinds -/
def w_Ce_setKinds_b25 (mo : Nat) (Q : Int → (Nat → Int) → (Nat → Int → Int) → Prop) (x1 : Int) (x2 : Int) (x3 : Int) (y0 : Int) (F : Nat → Int) (A : Nat → Int → Int) : Prop := 0 ≤ x1 ∧ x1 < 60 ∧ (y0 = 0 ∨ y0 = 1) ∧ Q y0 F (ua (ua A 4 x1 x2) 5 x1 x3)
def w_Ce_setKinds_b20 (mo : Nat) (Q : Int → (Nat → Int) → (Nat → Int → Int) → Prop) (x1 : Int) (x2 : Int) (x3 : Int) (F : Nat → Int) (A : Nat → Int → Int) : Prop := w_Ce_setKinds_b25 mo Q x1 x2 x3 1 F A
def w_Ce_setKinds (mo : Nat) (F : Nat → Int) (A : Nat → Int → Int) (x1 : Int) (x2 : Int) (x3 : Int) (Q : Int → (Nat → Int) → (Nat → Int → Int) → Prop) : Prop := 0 ≤ x1 ∧ x1 < 60 ∧ rg (A 4 x1) ∧ rg x2 ∧ ((¬ (A 4 x1) = x2 → w_Ce_setKinds_b20 mo Q x1 x2 x3 F A) ∧ ((A 4 x1) = x2 → rg (A 5 x1) ∧ rg x3 ∧ (((A 5 x1) = x3 → w_Ce_setKinds_b25 mo Q x1 x2 x3 0 F A) ∧ (¬ (A 5 x1) = x3 → w_Ce_setKinds_b20 mo Q x1 x2 x3 F A))))
set_option maxHeartbeats 4000000 in
set_option maxRecDepth 100000 in
theorem s_Ce_setKinds_b25 (C0 : x_C p s m args meth c c_Ce_setKinds 5 (some .boolean) gT R_Ce) (hA : ∀ q : Nat, s.heap.size ≤ q → A0 q) {mo : Nat} {Q : Int → (Nat → Int) → (Nat → Int → Int) → Prop} (x1 : Int) (x2 : Int) (x3 : Int) (y0 : Int) (F : Nat → Int) (A : Nat → Int → Int) (h : w_Ce_setKinds_b25 mo Q x1 x2 x3 y0 F A) (H : Heap) (locs : List Loc) (ls : Array Slot) (hS : x_S D vCl shU ad cA (NN mo) A0 s F A H locs) (hl : lv_has ls 5 [(0, .ref (ad 2)), (1, .int (iI x1)), (2, .int (iI x2)), (3, .int (iI x3))]) : W p l e ({ frames := 0, cells := 0, slots := 0, locals := 0 } : Room) s m args below meth c H locs 0 0 (MQ below (x_QI D vCl shU ad cA (NN mo) A0 Q) args s 0 0 A0) (F0 m 25 ls [.int (iI y0)]) := by
  obtain ⟨hx, hb, hr, hml, hown, hts, hlocks⟩ := id C0
  refine lv_istore (lv' := [(4, .int (iI y0)), (0, .ref (ad 2)), (1, .int (iI x1)), (2, .int (iI x2)), (3, .int (iI x3))]) hx hb d_Ce_setKinds_25 hl (by decide) rfl (fun ls hl => ?_)
  refine lv_aload_n hx hb d_Ce_setKinds_27 rfl (lv_at hl 1 rfl) ?_
  refine r_getr (t2 := 10) hx hb hts in_Ce hown hS 2 rfl rfl 1 (by decide) rfl (hts _ tw_79) d_Ce_setKinds_28 ?_
  refine lv_iload_n hx hb d_Ce_setKinds_31 rfl (lv_at hl 2 rfl) ?_
  refine lv_iload_n hx hb d_Ce_setKinds_32 rfl (lv_at hl 3 rfl) ?_
  obtain ⟨g1, h⟩ := h
  obtain ⟨g2, h⟩ := h
  refine r_iast (id := 4) (i := x1) (v := x2) hx hb hS 10 rfl g1 g2 (seta_4 ad cA mo _ _ _ _) d_Ce_setKinds_33 (fun H locs hS => ?_)
  refine lv_aload_n hx hb d_Ce_setKinds_34 rfl (lv_at hl 1 rfl) ?_
  refine r_getr (t2 := 11) hx hb hts in_Ce hown hS 2 rfl rfl 2 (by decide) rfl (hts _ tw_80) d_Ce_setKinds_35 ?_
  refine lv_iload_n hx hb d_Ce_setKinds_38 rfl (lv_at hl 2 rfl) ?_
  refine lv_iload_n hx hb d_Ce_setKinds_39 rfl (lv_at hl 4 rfl) ?_
  refine r_iast (id := 5) (i := x1) (v := x3) hx hb hS 11 rfl g1 g2 (seta_5 ad cA mo _ _ _ _) d_Ce_setKinds_40 (fun H locs hS => ?_)
  refine lv_iload hx hb d_Ce_setKinds_41 (lv_at hl 0 rfl) ?_
  obtain ⟨g3, h⟩ := h
  exact r_zret (z := y0) hx hb hr hlocks g3 hS h d_Ce_setKinds_43
set_option maxHeartbeats 4000000 in
set_option maxRecDepth 100000 in
theorem s_Ce_setKinds_b20 (C0 : x_C p s m args meth c c_Ce_setKinds 5 (some .boolean) gT R_Ce) (hA : ∀ q : Nat, s.heap.size ≤ q → A0 q) {mo : Nat} {Q : Int → (Nat → Int) → (Nat → Int → Int) → Prop} (x1 : Int) (x2 : Int) (x3 : Int) (F : Nat → Int) (A : Nat → Int → Int) (h : w_Ce_setKinds_b20 mo Q x1 x2 x3 F A) (H : Heap) (locs : List Loc) (ls : Array Slot) (hS : x_S D vCl shU ad cA (NN mo) A0 s F A H locs) (hl : lv_has ls 5 [(0, .ref (ad 2)), (1, .int (iI x1)), (2, .int (iI x2)), (3, .int (iI x3))]) : W p l e ({ frames := 0, cells := 0, slots := 0, locals := 0 } : Room) s m args below meth c H locs 0 0 (MQ below (x_QI D vCl shU ad cA (NN mo) A0 Q) args s 0 0 A0) (F0 m 20 ls []) := by
  obtain ⟨hx, hb, hr, hml, hown, hts, hlocks⟩ := id C0
  refine r_iconst hx hb d_Ce_setKinds_20 ?_
  refine lv_goto (tgt := 25) hx hb d_Ce_setKinds_21 (by decide) ?_
  exact s_Ce_setKinds_b25 C0 hA _ _ _ _ _ _ h _ _ _ hS (lv_sub hl [0, 1, 2, 3] rfl)
set_option maxHeartbeats 4000000 in
set_option maxRecDepth 100000 in
theorem ct_Ce_setKinds (l : Launch) (D : va_G) (ad : Nat → Nat) (cA : Nat → ClassId) (mo sz : Nat) (F : Nat → Int) (A : Nat → Int → Int) (x1 : Int) (x2 : Int) (x3 : Int) (Q : Int → (Nat → Int) → (Nat → Int → Int) → Prop) (h : w_Ce_setKinds mo F A x1 x2 x3 Q) : Met l y_Ce_setKinds (Cond.code y_Ce_setKinds c_Ce_setKinds 5 (some .boolean) :: gT) ({ frames := 0, cells := 0, slots := 0, locals := 0 } : Room) (va_Pc [.ref (ad 2), .int (iI x1), .int (iI x2), .int (iI x3)] (x_P D vCl shU ad cA (NN mo) sz F A)) (x_QI D vCl shU ad cA (NN mo) (va_A (x_w shU ad cA (NN mo) F A) sz) Q) 0 0 (va_A (x_w shU ad cA (NN mo) F A) sz) := by
  refine Met.ofW (cc := c_Ce_setKinds) (maxL := 5) (ret := some .boolean) (by decide) rfl ?_
  intro p e s m args below meth c s₁ B hml hv
  obtain ⟨rfl, hsz, hP, hK, hD0, hN0⟩ := hv
  have hx := B.exec
  have hb := B.bytes
  have hr := B.returns
  have hts0 := atoms_spec (ws := (Cond.code y_Ce_setKinds c_Ce_setKinds 5 (some .boolean) :: gT)) B.pre
  have hts : ∀ w ∈ gT, w.before _ s = true := fun w h => hts0 w (List.mem_cons_of_mem _ h)
  have hown : s.vm.findClass R_Ce = some m.cls := findClass_of_methodNamed B.named
  have hlocks := B.notSynchronized
  subst hsz
  have hS : x_S D vCl shU ad cA (NN mo) (va_A (x_w shU ad cA (NN mo) F A) s.heap.size) s F A s.heap [] := ⟨hK, hP, hD0.self, va_S.rf, hN0⟩
  have hA : ∀ q : Nat, s.heap.size ≤ q → va_A (x_w shU ad cA (NN mo) F A) s.heap.size q := fun q h => Or.inr h
  have C0 : x_C p s m [.ref (ad 2), .int (iI x1), .int (iI x2), .int (iI x3)].toArray meth c c_Ce_setKinds 5 (some .boolean) gT R_Ce := ⟨hx, hb, hr, hml, hown, hts, hlocks⟩
  generalize va_A (x_w shU ad cA (NN mo) F A) s.heap.size = A0 at hS hA ⊢
  have hl := lv_entry [.ref (ad 2), .int (iI x1), .int (iI x2), .int (iI x3)] (n := 5) (Nat.le_of_ble_eq_true rfl)
  rw [lg_entry_eq]
  generalize (lg_sl [.ref (ad 2), .int (iI x1), .int (iI x2), .int (iI x3)] ++ List.replicate (5 - (lg_sl [.ref (ad 2), .int (iI x1), .int (iI x2), .int (iI x3)]).length) Slot.unset).toArray = ls at hl ⊢
  have hl : lv_has ls 5 [(0, .ref (ad 2)), (1, .int (iI x1)), (2, .int (iI x2)), (3, .int (iI x3))] := hl
  refine lv_aload_n hx hb d_Ce_setKinds_0 rfl (lv_at hl 0 rfl) ?_
  refine r_getr (t2 := 10) hx hb hts in_Ce hown hS 2 rfl rfl 1 (by decide) rfl (hts _ tw_79) d_Ce_setKinds_1 ?_
  refine lv_iload_n hx hb d_Ce_setKinds_4 rfl (lv_at hl 1 rfl) ?_
  obtain ⟨g4, h⟩ := h
  obtain ⟨g5, h⟩ := h
  refine r_iald (id := 4) (i := x1) (z := A 4 x1) hx hb hS 10 rfl g4 g5 d_Ce_setKinds_5 rfl ?_
  refine lv_iload_n hx hb d_Ce_setKinds_6 rfl (lv_at hl 2 rfl) ?_
  obtain ⟨g6, h⟩ := h
  obtain ⟨g7, h⟩ := h
  refine r_icmp_ne (tgt := 20) hx hb g6 g7 d_Ce_setKinds_7 (by decide) (fun hc => ?_) (fun hc => ?_)
  · replace h := h.1 hc
    exact s_Ce_setKinds_b20 C0 hA _ _ _ _ _ h _ _ _ hS (lv_sub hl [0, 1, 2, 3] rfl)
  · replace h := h.2 hc
    refine lv_aload_n hx hb d_Ce_setKinds_10 rfl (lv_at hl 0 rfl) ?_
    refine r_getr (t2 := 11) hx hb hts in_Ce hown hS 2 rfl rfl 2 (by decide) rfl (hts _ tw_80) d_Ce_setKinds_11 ?_
    refine lv_iload_n hx hb d_Ce_setKinds_14 rfl (lv_at hl 1 rfl) ?_
    refine r_iald (id := 5) (i := x1) (z := A 5 x1) hx hb hS 11 rfl g4 g5 d_Ce_setKinds_15 rfl ?_
    refine lv_iload_n hx hb d_Ce_setKinds_16 rfl (lv_at hl 3 rfl) ?_
    obtain ⟨g8, h⟩ := h
    obtain ⟨g9, h⟩ := h
    refine r_icmp_eq (tgt := 24) hx hb g8 g9 d_Ce_setKinds_17 (by decide) (fun hc => ?_) (fun hc => ?_)
    · replace h := h.1 hc
      refine r_iconst hx hb d_Ce_setKinds_24 ?_
      exact s_Ce_setKinds_b25 C0 hA _ _ _ _ _ _ h _ _ _ hS (lv_sub hl [0, 1, 2, 3] rfl)
    · replace h := h.2 hc
      exact s_Ce_setKinds_b20 C0 hA _ _ _ _ _ h _ _ _ hS (lv_sub hl [0, 1, 2, 3] rfl)
/-! Ce_setSpace -/
def w_Ce_setSpace_b19 (mo : Nat) (Q : Int → (Nat → Int) → (Nat → Int → Int) → Prop) (x1 : Int) (x2 : Int) (x3 : Int) (y0 : Int) (F : Nat → Int) (A : Nat → Int → Int) : Prop := 0 ≤ ((x1 * 4) + x2) ∧ ((x1 * 4) + x2) < 16 ∧ (y0 = 0 ∨ y0 = 1) ∧ Q y0 F (ua A 10 ((x1 * 4) + x2) x3)
def w_Ce_setSpace (mo : Nat) (F : Nat → Int) (A : Nat → Int → Int) (x1 : Int) (x2 : Int) (x3 : Int) (Q : Int → (Nat → Int) → (Nat → Int → Int) → Prop) : Prop := 0 ≤ ((x1 * 4) + x2) ∧ ((x1 * 4) + x2) < 16 ∧ rg (A 10 ((x1 * 4) + x2)) ∧ rg x3 ∧ (((A 10 ((x1 * 4) + x2)) = x3 → w_Ce_setSpace_b19 mo Q x1 x2 x3 0 F A) ∧ (¬ (A 10 ((x1 * 4) + x2)) = x3 → w_Ce_setSpace_b19 mo Q x1 x2 x3 1 F A))
set_option maxHeartbeats 4000000 in
set_option maxRecDepth 100000 in
theorem s_Ce_setSpace_b19 (C0 : x_C p s m args meth c c_Ce_setSpace 5 (some .boolean) gT R_Ce) (hA : ∀ q : Nat, s.heap.size ≤ q → A0 q) {mo : Nat} {Q : Int → (Nat → Int) → (Nat → Int → Int) → Prop} (x1 : Int) (x2 : Int) (x3 : Int) (y0 : Int) (F : Nat → Int) (A : Nat → Int → Int) (h : w_Ce_setSpace_b19 mo Q x1 x2 x3 y0 F A) (H : Heap) (locs : List Loc) (ls : Array Slot) (hS : x_S D vCl shU ad cA (NN mo) A0 s F A H locs) (hl : lv_has ls 5 [(0, .ref (ad 2)), (1, .int (iI x1)), (2, .int (iI x2)), (3, .int (iI x3))]) : W p l e ({ frames := 0, cells := 0, slots := 0, locals := 0 } : Room) s m args below meth c H locs 0 0 (MQ below (x_QI D vCl shU ad cA (NN mo) A0 Q) args s 0 0 A0) (F0 m 19 ls [.int (iI y0)]) := by
  obtain ⟨hx, hb, hr, hml, hown, hts, hlocks⟩ := id C0
  refine lv_istore (lv' := [(4, .int (iI y0)), (0, .ref (ad 2)), (1, .int (iI x1)), (2, .int (iI x2)), (3, .int (iI x3))]) hx hb d_Ce_setSpace_19 hl (by decide) rfl (fun ls hl => ?_)
  refine lv_aload_n hx hb d_Ce_setSpace_21 rfl (lv_at hl 1 rfl) ?_
  refine r_getr (t2 := 16) hx hb hts in_Ce hown hS 2 rfl rfl 7 (by decide) rfl (hts _ tw_89) d_Ce_setSpace_22 ?_
  refine lv_iload_n hx hb d_Ce_setSpace_25 rfl (lv_at hl 2 rfl) ?_
  refine r_iconst hx hb d_Ce_setSpace_26 ?_
  refine r_imul hx hb d_Ce_setSpace_27 ?_
  refine lv_iload_n hx hb d_Ce_setSpace_28 rfl (lv_at hl 3 rfl) ?_
  refine r_iadd hx hb d_Ce_setSpace_29 ?_
  refine lv_iload_n hx hb d_Ce_setSpace_30 rfl (lv_at hl 4 rfl) ?_
  obtain ⟨g1, h⟩ := h
  obtain ⟨g2, h⟩ := h
  refine r_iast (id := 10) (i := ((x1 * 4) + x2)) (v := x3) hx hb hS 16 rfl g1 g2 (seta_10 ad cA mo _ _ _ _) d_Ce_setSpace_31 (fun H locs hS => ?_)
  refine lv_iload hx hb d_Ce_setSpace_32 (lv_at hl 0 rfl) ?_
  obtain ⟨g3, h⟩ := h
  exact r_zret (z := y0) hx hb hr hlocks g3 hS h d_Ce_setSpace_34
set_option maxHeartbeats 4000000 in
set_option maxRecDepth 100000 in
theorem ct_Ce_setSpace (l : Launch) (D : va_G) (ad : Nat → Nat) (cA : Nat → ClassId) (mo sz : Nat) (F : Nat → Int) (A : Nat → Int → Int) (x1 : Int) (x2 : Int) (x3 : Int) (Q : Int → (Nat → Int) → (Nat → Int → Int) → Prop) (h : w_Ce_setSpace mo F A x1 x2 x3 Q) : Met l y_Ce_setSpace (Cond.code y_Ce_setSpace c_Ce_setSpace 5 (some .boolean) :: gT) ({ frames := 0, cells := 0, slots := 0, locals := 0 } : Room) (va_Pc [.ref (ad 2), .int (iI x1), .int (iI x2), .int (iI x3)] (x_P D vCl shU ad cA (NN mo) sz F A)) (x_QI D vCl shU ad cA (NN mo) (va_A (x_w shU ad cA (NN mo) F A) sz) Q) 0 0 (va_A (x_w shU ad cA (NN mo) F A) sz) := by
  refine Met.ofW (cc := c_Ce_setSpace) (maxL := 5) (ret := some .boolean) (by decide) rfl ?_
  intro p e s m args below meth c s₁ B hml hv
  obtain ⟨rfl, hsz, hP, hK, hD0, hN0⟩ := hv
  have hx := B.exec
  have hb := B.bytes
  have hr := B.returns
  have hts0 := atoms_spec (ws := (Cond.code y_Ce_setSpace c_Ce_setSpace 5 (some .boolean) :: gT)) B.pre
  have hts : ∀ w ∈ gT, w.before _ s = true := fun w h => hts0 w (List.mem_cons_of_mem _ h)
  have hown : s.vm.findClass R_Ce = some m.cls := findClass_of_methodNamed B.named
  have hlocks := B.notSynchronized
  subst hsz
  have hS : x_S D vCl shU ad cA (NN mo) (va_A (x_w shU ad cA (NN mo) F A) s.heap.size) s F A s.heap [] := ⟨hK, hP, hD0.self, va_S.rf, hN0⟩
  have hA : ∀ q : Nat, s.heap.size ≤ q → va_A (x_w shU ad cA (NN mo) F A) s.heap.size q := fun q h => Or.inr h
  have C0 : x_C p s m [.ref (ad 2), .int (iI x1), .int (iI x2), .int (iI x3)].toArray meth c c_Ce_setSpace 5 (some .boolean) gT R_Ce := ⟨hx, hb, hr, hml, hown, hts, hlocks⟩
  generalize va_A (x_w shU ad cA (NN mo) F A) s.heap.size = A0 at hS hA ⊢
  have hl := lv_entry [.ref (ad 2), .int (iI x1), .int (iI x2), .int (iI x3)] (n := 5) (Nat.le_of_ble_eq_true rfl)
  rw [lg_entry_eq]
  generalize (lg_sl [.ref (ad 2), .int (iI x1), .int (iI x2), .int (iI x3)] ++ List.replicate (5 - (lg_sl [.ref (ad 2), .int (iI x1), .int (iI x2), .int (iI x3)]).length) Slot.unset).toArray = ls at hl ⊢
  have hl : lv_has ls 5 [(0, .ref (ad 2)), (1, .int (iI x1)), (2, .int (iI x2)), (3, .int (iI x3))] := hl
  refine lv_aload_n hx hb d_Ce_setSpace_0 rfl (lv_at hl 0 rfl) ?_
  refine r_getr (t2 := 16) hx hb hts in_Ce hown hS 2 rfl rfl 7 (by decide) rfl (hts _ tw_89) d_Ce_setSpace_1 ?_
  refine lv_iload_n hx hb d_Ce_setSpace_4 rfl (lv_at hl 1 rfl) ?_
  refine r_iconst hx hb d_Ce_setSpace_5 ?_
  refine r_imul hx hb d_Ce_setSpace_6 ?_
  refine lv_iload_n hx hb d_Ce_setSpace_7 rfl (lv_at hl 2 rfl) ?_
  refine r_iadd hx hb d_Ce_setSpace_8 ?_
  obtain ⟨g4, h⟩ := h
  obtain ⟨g5, h⟩ := h
  refine r_iald (id := 10) (i := ((x1 * 4) + x2)) (z := A 10 ((x1 * 4) + x2)) hx hb hS 16 rfl g4 g5 d_Ce_setSpace_9 rfl ?_
  refine lv_iload_n hx hb d_Ce_setSpace_10 rfl (lv_at hl 3 rfl) ?_
  obtain ⟨g6, h⟩ := h
  obtain ⟨g7, h⟩ := h
  refine r_icmp_eq (tgt := 18) hx hb g6 g7 d_Ce_setSpace_11 (by decide) (fun hc => ?_) (fun hc => ?_)
  · replace h := h.1 hc
    refine r_iconst hx hb d_Ce_setSpace_18 ?_
    exact s_Ce_setSpace_b19 C0 hA _ _ _ _ _ _ h _ _ _ hS (lv_sub hl [0, 1, 2, 3] rfl)
  · replace h := h.2 hc
    refine r_iconst hx hb d_Ce_setSpace_14 ?_
    refine lv_goto (tgt := 19) hx hb d_Ce_setSpace_15 (by decide) ?_
    exact s_Ce_setSpace_b19 C0 hA _ _ _ _ _ _ h _ _ _ hS (lv_sub hl [0, 1, 2, 3] rfl)
/-! Ce_rowCost -/
def w_Ce_rowCost (mo : Nat) (F : Nat → Int) (A : Nat → Int → Int) (x1 : Int) (x2 : Int) (Q : Int → Prop) : Prop := 0 ≤ x1 ∧ x1 < 60 ∧ rg ((A 7 x1) - x2) ∧ Q (20 * ((Int.natAbs ((A 7 x1) - x2) : Nat) : Int))
set_option maxHeartbeats 4000000 in
set_option maxRecDepth 100000 in
theorem ct_Ce_rowCost (l : Launch) (D : va_G) (ad : Nat → Nat) (cA : Nat → ClassId) (mo sz : Nat) (F : Nat → Int) (A : Nat → Int → Int) (x1 : Int) (x2 : Int) (Q : Int → Prop) (h : w_Ce_rowCost mo F A x1 x2 Q) : Met l y_Ce_rowCost (Cond.code y_Ce_rowCost c_Ce_rowCost 3 (some .int) :: gT) ({ frames := 1, cells := 0, slots := 0, locals := 32 } : Room) (va_Pc [.ref (ad 2), .int (iI x1), .int (iI x2)] (x_P D vCl shU ad cA (NN mo) sz F A)) (x_QI D vCl shU ad cA (NN mo) (va_A (x_w shU ad cA (NN mo) F A) sz) (fun z F1 A1 => F = F1 ∧ A = A1 ∧ Q z)) 0 0 (va_A (x_w shU ad cA (NN mo) F A) sz) := by
  refine Met.ofW (cc := c_Ce_rowCost) (maxL := 3) (ret := some .int) (by decide) rfl ?_
  intro p e s m args below meth c s₁ B hml hv
  obtain ⟨rfl, hsz, hP, hK, hD0, hN0⟩ := hv
  have hx := B.exec
  have hb := B.bytes
  have hr := B.returns
  have hts0 := atoms_spec (ws := (Cond.code y_Ce_rowCost c_Ce_rowCost 3 (some .int) :: gT)) B.pre
  have hts : ∀ w ∈ gT, w.before _ s = true := fun w h => hts0 w (List.mem_cons_of_mem _ h)
  have hown : s.vm.findClass R_Ce = some m.cls := findClass_of_methodNamed B.named
  have hlocks := B.notSynchronized
  subst hsz
  have hS : x_S D vCl shU ad cA (NN mo) (va_A (x_w shU ad cA (NN mo) F A) s.heap.size) s F A s.heap [] := ⟨hK, hP, hD0.self, va_S.rf, hN0⟩
  have hA : ∀ q : Nat, s.heap.size ≤ q → va_A (x_w shU ad cA (NN mo) F A) s.heap.size q := fun q h => Or.inr h
  have C0 : x_C p s m [.ref (ad 2), .int (iI x1), .int (iI x2)].toArray meth c c_Ce_rowCost 3 (some .int) gT R_Ce := ⟨hx, hb, hr, hml, hown, hts, hlocks⟩
  generalize va_A (x_w shU ad cA (NN mo) F A) s.heap.size = A0 at hS hA ⊢
  have hl := lv_entry [.ref (ad 2), .int (iI x1), .int (iI x2)] (n := 3) (Nat.le_of_ble_eq_true rfl)
  rw [lg_entry_eq]
  generalize (lg_sl [.ref (ad 2), .int (iI x1), .int (iI x2)] ++ List.replicate (3 - (lg_sl [.ref (ad 2), .int (iI x1), .int (iI x2)]).length) Slot.unset).toArray = ls at hl ⊢
  have hl : lv_has ls 3 [(0, .ref (ad 2)), (1, .int (iI x1)), (2, .int (iI x2))] := hl
  refine r_bipush hx hb d_Ce_rowCost_0 (by decide +kernel) ?_
  refine lv_aload_n hx hb d_Ce_rowCost_2 rfl (lv_at hl 0 rfl) ?_
  refine r_getr (t2 := 13) hx hb hts in_Ce hown hS 2 rfl rfl 4 (by decide) rfl (hts _ tw_84) d_Ce_rowCost_3 ?_
  refine lv_iload_n hx hb d_Ce_rowCost_6 rfl (lv_at hl 1 rfl) ?_
  obtain ⟨g1, h⟩ := h
  obtain ⟨g2, h⟩ := h
  refine r_iald (id := 7) (i := x1) (z := A 7 x1) hx hb hS 13 rfl g1 g2 d_Ce_rowCost_7 rfl ?_
  refine lv_iload_n hx hb d_Ce_rowCost_8 rfl (lv_at hl 2 rfl) ?_
  refine r_isub hx hb d_Ce_rowCost_9 ?_
  obtain ⟨g3, h⟩ := h
  refine r_mabs hx hb (hml.trans hl.1.symm) hown (hts _ tw_250) (hts _ tw_251) (hts _ tw_2) (hts _ tw_252) (Nat.le_of_ble_eq_true rfl) (Nat.le_of_ble_eq_true rfl) (Nat.zero_le _) (Nat.zero_le _) g3 d_Ce_rowCost_10 ?_
  refine r_imul hx hb d_Ce_rowCost_13 ?_
  exact r_iret (z := (20 * ((Int.natAbs ((A 7 x1) - x2) : Nat) : Int))) hx hb hr hlocks hS ⟨rfl, rfl, h⟩ d_Ce_rowCost_14
/-! Ce_spaceBetween -/
def w_Ce_spaceBetween (mo : Nat) (F : Nat → Int) (A : Nat → Int → Int) (x1 : Int) (x2 : Int) (Q : Int → Prop) : Prop := 0 ≤ x1 ∧ x1 < 60 ∧ 0 ≤ x2 ∧ x2 < 60 ∧ 0 ≤ (((A 5 x1) * 4) + (A 4 x2)) ∧ (((A 5 x1) * 4) + (A 4 x2)) < 16 ∧ Q (A 10 (((A 5 x1) * 4) + (A 4 x2)))
set_option maxHeartbeats 4000000 in
set_option maxRecDepth 100000 in
theorem ct_Ce_spaceBetween (l : Launch) (D : va_G) (ad : Nat → Nat) (cA : Nat → ClassId) (mo sz : Nat) (F : Nat → Int) (A : Nat → Int → Int) (x1 : Int) (x2 : Int) (Q : Int → Prop) (h : w_Ce_spaceBetween mo F A x1 x2 Q) : Met l y_Ce_spaceBetween (Cond.code y_Ce_spaceBetween c_Ce_spaceBetween 3 (some .int) :: gT) ({ frames := 0, cells := 0, slots := 0, locals := 0 } : Room) (va_Pc [.ref (ad 2), .int (iI x1), .int (iI x2)] (x_P D vCl shU ad cA (NN mo) sz F A)) (x_QI D vCl shU ad cA (NN mo) (va_A (x_w shU ad cA (NN mo) F A) sz) (fun z F1 A1 => F = F1 ∧ A = A1 ∧ Q z)) 0 0 (va_A (x_w shU ad cA (NN mo) F A) sz) := by
  refine Met.ofW (cc := c_Ce_spaceBetween) (maxL := 3) (ret := some .int) (by decide) rfl ?_
  intro p e s m args below meth c s₁ B hml hv
  obtain ⟨rfl, hsz, hP, hK, hD0, hN0⟩ := hv
  have hx := B.exec
  have hb := B.bytes
  have hr := B.returns
  have hts0 := atoms_spec (ws := (Cond.code y_Ce_spaceBetween c_Ce_spaceBetween 3 (some .int) :: gT)) B.pre
  have hts : ∀ w ∈ gT, w.before _ s = true := fun w h => hts0 w (List.mem_cons_of_mem _ h)
  have hown : s.vm.findClass R_Ce = some m.cls := findClass_of_methodNamed B.named
  have hlocks := B.notSynchronized
  subst hsz
  have hS : x_S D vCl shU ad cA (NN mo) (va_A (x_w shU ad cA (NN mo) F A) s.heap.size) s F A s.heap [] := ⟨hK, hP, hD0.self, va_S.rf, hN0⟩
  have hA : ∀ q : Nat, s.heap.size ≤ q → va_A (x_w shU ad cA (NN mo) F A) s.heap.size q := fun q h => Or.inr h
  have C0 : x_C p s m [.ref (ad 2), .int (iI x1), .int (iI x2)].toArray meth c c_Ce_spaceBetween 3 (some .int) gT R_Ce := ⟨hx, hb, hr, hml, hown, hts, hlocks⟩
  generalize va_A (x_w shU ad cA (NN mo) F A) s.heap.size = A0 at hS hA ⊢
  have hl := lv_entry [.ref (ad 2), .int (iI x1), .int (iI x2)] (n := 3) (Nat.le_of_ble_eq_true rfl)
  rw [lg_entry_eq]
  generalize (lg_sl [.ref (ad 2), .int (iI x1), .int (iI x2)] ++ List.replicate (3 - (lg_sl [.ref (ad 2), .int (iI x1), .int (iI x2)]).length) Slot.unset).toArray = ls at hl ⊢
  have hl : lv_has ls 3 [(0, .ref (ad 2)), (1, .int (iI x1)), (2, .int (iI x2))] := hl
  refine lv_aload_n hx hb d_Ce_spaceBetween_0 rfl (lv_at hl 0 rfl) ?_
  refine r_getr (t2 := 16) hx hb hts in_Ce hown hS 2 rfl rfl 7 (by decide) rfl (hts _ tw_89) d_Ce_spaceBetween_1 ?_
  refine lv_aload_n hx hb d_Ce_spaceBetween_4 rfl (lv_at hl 0 rfl) ?_
  refine r_getr (t2 := 11) hx hb hts in_Ce hown hS 2 rfl rfl 2 (by decide) rfl (hts _ tw_80) d_Ce_spaceBetween_5 ?_
  refine lv_iload_n hx hb d_Ce_spaceBetween_8 rfl (lv_at hl 1 rfl) ?_
  obtain ⟨g1, h⟩ := h
  obtain ⟨g2, h⟩ := h
  refine r_iald (id := 5) (i := x1) (z := A 5 x1) hx hb hS 11 rfl g1 g2 d_Ce_spaceBetween_9 rfl ?_
  refine r_iconst hx hb d_Ce_spaceBetween_10 ?_
  refine r_imul hx hb d_Ce_spaceBetween_11 ?_
  refine lv_aload_n hx hb d_Ce_spaceBetween_12 rfl (lv_at hl 0 rfl) ?_
  refine r_getr (t2 := 10) hx hb hts in_Ce hown hS 2 rfl rfl 1 (by decide) rfl (hts _ tw_79) d_Ce_spaceBetween_13 ?_
  refine lv_iload_n hx hb d_Ce_spaceBetween_16 rfl (lv_at hl 2 rfl) ?_
  obtain ⟨g3, h⟩ := h
  obtain ⟨g4, h⟩ := h
  refine r_iald (id := 4) (i := x2) (z := A 4 x2) hx hb hS 10 rfl g3 g4 d_Ce_spaceBetween_17 rfl ?_
  refine r_iadd hx hb d_Ce_spaceBetween_18 ?_
  obtain ⟨g5, h⟩ := h
  obtain ⟨g6, h⟩ := h
  refine r_iald (id := 10) (i := (((A 5 x1) * 4) + (A 4 x2))) (z := A 10 (((A 5 x1) * 4) + (A 4 x2))) hx hb hS 16 rfl g5 g6 d_Ce_spaceBetween_19 rfl ?_
  exact r_iret (z := (A 10 (((A 5 x1) * 4) + (A 4 x2)))) hx hb hr hlocks hS ⟨rfl, rfl, h⟩ d_Ce_spaceBetween_20
/-! Ce_put -/
def w_Ce_put (mo : Nat) (F : Nat → Int) (A : Nat → Int → Int) (x1 : Int) (x2 : Int) (x3 : Int) (Q : (Nat → Int) → (Nat → Int → Int) → Prop) : Prop := 0 ≤ x1 ∧ x1 < 60 ∧ Q F (ua (ua A 8 x1 x2) 9 x1 x3)
set_option maxHeartbeats 4000000 in
set_option maxRecDepth 100000 in
theorem ct_Ce_put (l : Launch) (D : va_G) (ad : Nat → Nat) (cA : Nat → ClassId) (mo sz : Nat) (F : Nat → Int) (A : Nat → Int → Int) (x1 : Int) (x2 : Int) (x3 : Int) (Q : (Nat → Int) → (Nat → Int → Int) → Prop) (h : w_Ce_put mo F A x1 x2 x3 Q) : Met l y_Ce_put (Cond.code y_Ce_put c_Ce_put 4 (none) :: gT) ({ frames := 0, cells := 0, slots := 0, locals := 0 } : Room) (va_Pc [.ref (ad 2), .int (iI x1), .int (iI x2), .int (iI x3)] (x_P D vCl shU ad cA (NN mo) sz F A)) (x_QV D vCl shU ad cA (NN mo) (va_A (x_w shU ad cA (NN mo) F A) sz) Q) 0 0 (va_A (x_w shU ad cA (NN mo) F A) sz) := by
  refine Met.ofW (cc := c_Ce_put) (maxL := 4) (ret := none) (by decide) rfl ?_
  intro p e s m args below meth c s₁ B hml hv
  obtain ⟨rfl, hsz, hP, hK, hD0, hN0⟩ := hv
  have hx := B.exec
  have hb := B.bytes
  have hr := B.returns
  have hts0 := atoms_spec (ws := (Cond.code y_Ce_put c_Ce_put 4 (none) :: gT)) B.pre
  have hts : ∀ w ∈ gT, w.before _ s = true := fun w h => hts0 w (List.mem_cons_of_mem _ h)
  have hown : s.vm.findClass R_Ce = some m.cls := findClass_of_methodNamed B.named
  have hlocks := B.notSynchronized
  subst hsz
  have hS : x_S D vCl shU ad cA (NN mo) (va_A (x_w shU ad cA (NN mo) F A) s.heap.size) s F A s.heap [] := ⟨hK, hP, hD0.self, va_S.rf, hN0⟩
  have hA : ∀ q : Nat, s.heap.size ≤ q → va_A (x_w shU ad cA (NN mo) F A) s.heap.size q := fun q h => Or.inr h
  have C0 : x_C p s m [.ref (ad 2), .int (iI x1), .int (iI x2), .int (iI x3)].toArray meth c c_Ce_put 4 (none) gT R_Ce := ⟨hx, hb, hr, hml, hown, hts, hlocks⟩
  generalize va_A (x_w shU ad cA (NN mo) F A) s.heap.size = A0 at hS hA ⊢
  have hl := lv_entry [.ref (ad 2), .int (iI x1), .int (iI x2), .int (iI x3)] (n := 4) (Nat.le_of_ble_eq_true rfl)
  rw [lg_entry_eq]
  generalize (lg_sl [.ref (ad 2), .int (iI x1), .int (iI x2), .int (iI x3)] ++ List.replicate (4 - (lg_sl [.ref (ad 2), .int (iI x1), .int (iI x2), .int (iI x3)]).length) Slot.unset).toArray = ls at hl ⊢
  have hl : lv_has ls 4 [(0, .ref (ad 2)), (1, .int (iI x1)), (2, .int (iI x2)), (3, .int (iI x3))] := hl
  refine lv_aload_n hx hb d_Ce_put_0 rfl (lv_at hl 0 rfl) ?_
  refine r_getr (t2 := 14) hx hb hts in_Ce hown hS 2 rfl rfl 5 (by decide) rfl (hts _ tw_85) d_Ce_put_1 ?_
  refine lv_iload_n hx hb d_Ce_put_4 rfl (lv_at hl 1 rfl) ?_
  refine lv_iload_n hx hb d_Ce_put_5 rfl (lv_at hl 2 rfl) ?_
  obtain ⟨g1, h⟩ := h
  obtain ⟨g2, h⟩ := h
  refine r_iast (id := 8) (i := x1) (v := x2) hx hb hS 14 rfl g1 g2 (seta_8 ad cA mo _ _ _ _) d_Ce_put_6 (fun H locs hS => ?_)
  refine lv_aload_n hx hb d_Ce_put_7 rfl (lv_at hl 0 rfl) ?_
  refine r_getr (t2 := 15) hx hb hts in_Ce hown hS 2 rfl rfl 6 (by decide) rfl (hts _ tw_87) d_Ce_put_8 ?_
  refine lv_iload_n hx hb d_Ce_put_11 rfl (lv_at hl 1 rfl) ?_
  refine lv_iload_n hx hb d_Ce_put_12 rfl (lv_at hl 3 rfl) ?_
  refine r_iast (id := 9) (i := x1) (v := x3) hx hb hS 15 rfl g1 g2 (seta_9 ad cA mo _ _ _ _) d_Ce_put_13 (fun H locs hS => ?_)
  exact r_vret hx hb hr hlocks hS h d_Ce_put_14
/-! Ce_wayFromWanted -/
def w_Ce_wayFromWanted_b4 (mo : Nat) (F : Nat → Int) (A : Nat → Int → Int) (Q : Int → Prop) (x1 : Int) (x3 : Int) : Prop := Lp2 (fun I4 x1 x3 => rg x3 ∧ rg (F 4) ∧ (((F 4) ≤ x3 → Q x1) ∧ (¬ (F 4) ≤ x3 → 0 ≤ x3 ∧ x3 < 60 ∧ rg ((A 8 x3) - (A 6 x3)) ∧ w_Ce_rowCost mo F A x3 (A 9 x3) (fun z6 => rg (((Int.natAbs ((A 8 x3) - (A 6 x3)) : Nat) : Int) + z6) ∧ I4 (x1 + (((Int.natAbs ((A 8 x3) - (A 6 x3)) : Nat) : Int) + z6)) (x3 + 1))))) x1 x3
def w_Ce_wayFromWanted (mo : Nat) (F : Nat → Int) (A : Nat → Int → Int)  (Q : Int → Prop) : Prop := w_Ce_wayFromWanted_b4 mo F A Q 0 0
set_option maxHeartbeats 4000000 in
set_option maxRecDepth 100000 in
theorem s_Ce_wayFromWanted_b4 (C0 : x_C p s m args meth c c_Ce_wayFromWanted 4 (some .long) gT R_Ce) (hA : ∀ q : Nat, s.heap.size ≤ q → A0 q) {mo : Nat} {F : Nat → Int} {A : Nat → Int → Int} {Q : Int → Prop} (x1 : Int) (x3 : Int) (h : w_Ce_wayFromWanted_b4 mo F A Q x1 x3) (H : Heap) (locs : List Loc) (ls : Array Slot) (hS : x_S D vCl shU ad cA (NN mo) A0 s F A H locs) (hl : lv_has ls 4 [(0, .ref (ad 2)), (1, .long (lI x1)), (3, .int (iI x3))]) : W p l e ({ frames := 2, cells := 0, slots := 0, locals := 54 } : Room) s m args below meth c H locs 0 0 (MQ below (x_QL D vCl shU ad cA (NN mo) A0 (fun z F1 A1 => F = F1 ∧ A = A1 ∧ Q z)) args s 0 0 A0) (F0 m 4 ls []) := by
  obtain ⟨hx, hb, hr, hml, hown, hts, hlocks⟩ := id C0
  refine h (fun x1 x3 => ∀ (H : Heap) (locs : List Loc) (ls : Array Slot), x_S D vCl shU ad cA (NN mo) A0 s F A H locs → lv_has ls 4 [(0, .ref (ad 2)), (1, .long (lI x1)), (3, .int (iI x3))] → W p l e ({ frames := 2, cells := 0, slots := 0, locals := 54 } : Room) s m args below meth c H locs 0 0 (MQ below (x_QL D vCl shU ad cA (NN mo) A0 (fun z F1 A1 => F = F1 ∧ A = A1 ∧ Q z)) args s 0 0 A0) (F0 m 4 ls [])) ?_ H locs ls hS hl
  intro x1 x3 h H locs ls hS hl
  refine lv_iload_n hx hb d_Ce_wayFromWanted_4 rfl (lv_at hl 2 rfl) ?_
  refine lv_aload_n hx hb d_Ce_wayFromWanted_5 rfl (lv_at hl 0 rfl) ?_
  refine r_geti (z := F 4) hx hb hts in_Ce hown hS 2 rfl rfl 8 (by decide) rfl (hts _ tw_91) d_Ce_wayFromWanted_6 rfl ?_
  obtain ⟨g1, h⟩ := h
  obtain ⟨g2, h⟩ := h
  refine r_icmp_ge (tgt := 50) hx hb g1 g2 d_Ce_wayFromWanted_9 (by decide) (fun hc => ?_) (fun hc => ?_)
  · replace h := h.1 hc
    refine lv_lload_n hx hb d_Ce_wayFromWanted_50 rfl (lv_at hl 1 rfl) ?_
    exact r_lret (z := x1) hx hb hr hlocks hS ⟨rfl, rfl, h⟩ d_Ce_wayFromWanted_51
  · replace h := h.2 hc
    refine lv_lload_n hx hb d_Ce_wayFromWanted_12 rfl (lv_at hl 1 rfl) ?_
    refine lv_aload_n hx hb d_Ce_wayFromWanted_13 rfl (lv_at hl 0 rfl) ?_
    refine r_getr (t2 := 14) hx hb hts in_Ce hown hS 2 rfl rfl 5 (by decide) rfl (hts _ tw_85) d_Ce_wayFromWanted_14 ?_
    refine lv_iload_n hx hb d_Ce_wayFromWanted_17 rfl (lv_at hl 2 rfl) ?_
    obtain ⟨g3, h⟩ := h
    obtain ⟨g4, h⟩ := h
    refine r_iald (id := 8) (i := x3) (z := A 8 x3) hx hb hS 14 rfl g3 g4 d_Ce_wayFromWanted_18 rfl ?_
    refine lv_aload_n hx hb d_Ce_wayFromWanted_19 rfl (lv_at hl 0 rfl) ?_
    refine r_getr (t2 := 12) hx hb hts in_Ce hown hS 2 rfl rfl 3 (by decide) rfl (hts _ tw_81) d_Ce_wayFromWanted_20 ?_
    refine lv_iload_n hx hb d_Ce_wayFromWanted_23 rfl (lv_at hl 2 rfl) ?_
    refine r_iald (id := 6) (i := x3) (z := A 6 x3) hx hb hS 12 rfl g3 g4 d_Ce_wayFromWanted_24 rfl ?_
    refine r_isub hx hb d_Ce_wayFromWanted_25 ?_
    obtain ⟨g5, h⟩ := h
    refine r_mabs hx hb (hml.trans hl.1.symm) hown (hts _ tw_250) (hts _ tw_251) (hts _ tw_2) (hts _ tw_252) (Nat.le_of_ble_eq_true rfl) (Nat.le_of_ble_eq_true rfl) (Nat.zero_le _) (Nat.zero_le _) g5 d_Ce_wayFromWanted_26 ?_
    refine lv_aload_n hx hb d_Ce_wayFromWanted_29 rfl (lv_at hl 0 rfl) ?_
    refine lv_iload_n hx hb d_Ce_wayFromWanted_30 rfl (lv_at hl 2 rfl) ?_
    refine lv_aload_n hx hb d_Ce_wayFromWanted_31 rfl (lv_at hl 0 rfl) ?_
    refine r_getr (t2 := 15) hx hb hts in_Ce hown hS 2 rfl rfl 6 (by decide) rfl (hts _ tw_87) d_Ce_wayFromWanted_32 ?_
    refine lv_iload_n hx hb d_Ce_wayFromWanted_35 rfl (lv_at hl 2 rfl) ?_
    refine r_iald (id := 9) (i := x3) (z := A 9 x3) hx hb hS 15 rfl g3 g4 d_Ce_wayFromWanted_36 rfl ?_
    refine r_ci (va_runV (As := [.int (iI x3), .int (iI (A 9 x3))]) (rest := [.int (iI ((Int.natAbs ((A 8 x3) - (A 6 x3)) : Nat) : Int)), .long (lI x1)]) ⟨hx, hb, hml, hown, hts⟩ (ct_Ce_rowCost l D ad cA mo _ _ _ _ _ _ h) (cwV 2 hts (gV tw_541 tw_247 tw_248 tw_4 tw_249) rfl rfl rfl (by decide +kernel) ⟨Nat.le_of_ble_eq_true rfl, Nat.le_of_ble_eq_true rfl⟩) (x_preV hS 2 rfl rfl _) rfl rfl hl.1 rfl (lv_room (Nat.le_of_ble_eq_true rfl)) d_Ce_wayFromWanted_37 ⟨Nat.zero_le _, Nat.zero_le _⟩) hS hA (fun z6 F6 A6 H locs hS h => ?_)
    obtain ⟨rfl, rfl, h⟩ := h
    refine r_iadd hx hb d_Ce_wayFromWanted_40 ?_
    obtain ⟨g7, h⟩ := h
    refine r_i2l hx hb g7 d_Ce_wayFromWanted_41 ?_
    refine r_ladd hx hb d_Ce_wayFromWanted_42 ?_
    refine lv_lstore_n (lv' := [(1, .long (lI (x1 + (((Int.natAbs ((A 8 x3) - (A 6 x3)) : Nat) : Int) + z6)))), (0, .ref (ad 2)), (3, .int (iI x3))]) hx hb d_Ce_wayFromWanted_43 rfl hl (by decide) rfl (fun ls hl => ?_)
    refine r_iinc (k := 2) (z := x3) (lv' := [(3, .int (iI (x3 + 1))), (1, .long (lI (x1 + (((Int.natAbs ((A 8 x3) - (A 6 x3)) : Nat) : Int) + z6)))), (0, .ref (ad 2))]) hx hb d_Ce_wayFromWanted_44 hl rfl (by decide) rfl (fun ls hl => ?_)
    refine lv_goto (tgt := 4) hx hb d_Ce_wayFromWanted_47 (by decide) ?_
    exact h _ _ _ hS (lv_sub hl [2, 1, 0] rfl)
set_option maxHeartbeats 4000000 in
set_option maxRecDepth 100000 in
theorem ct_Ce_wayFromWanted (l : Launch) (D : va_G) (ad : Nat → Nat) (cA : Nat → ClassId) (mo sz : Nat) (F : Nat → Int) (A : Nat → Int → Int)  (Q : Int → Prop) (h : w_Ce_wayFromWanted mo F A  Q) : Met l y_Ce_wayFromWanted (Cond.code y_Ce_wayFromWanted c_Ce_wayFromWanted 4 (some .long) :: gT) ({ frames := 2, cells := 0, slots := 0, locals := 54 } : Room) (va_Pc [.ref (ad 2)] (x_P D vCl shU ad cA (NN mo) sz F A)) (x_QL D vCl shU ad cA (NN mo) (va_A (x_w shU ad cA (NN mo) F A) sz) (fun z F1 A1 => F = F1 ∧ A = A1 ∧ Q z)) 0 0 (va_A (x_w shU ad cA (NN mo) F A) sz) := by
  refine Met.ofW (cc := c_Ce_wayFromWanted) (maxL := 4) (ret := some .long) (by decide) rfl ?_
  intro p e s m args below meth c s₁ B hml hv
  obtain ⟨rfl, hsz, hP, hK, hD0, hN0⟩ := hv
  have hx := B.exec
  have hb := B.bytes
  have hr := B.returns
  have hts0 := atoms_spec (ws := (Cond.code y_Ce_wayFromWanted c_Ce_wayFromWanted 4 (some .long) :: gT)) B.pre
  have hts : ∀ w ∈ gT, w.before _ s = true := fun w h => hts0 w (List.mem_cons_of_mem _ h)
  have hown : s.vm.findClass R_Ce = some m.cls := findClass_of_methodNamed B.named
  have hlocks := B.notSynchronized
  subst hsz
  have hS : x_S D vCl shU ad cA (NN mo) (va_A (x_w shU ad cA (NN mo) F A) s.heap.size) s F A s.heap [] := ⟨hK, hP, hD0.self, va_S.rf, hN0⟩
  have hA : ∀ q : Nat, s.heap.size ≤ q → va_A (x_w shU ad cA (NN mo) F A) s.heap.size q := fun q h => Or.inr h
  have C0 : x_C p s m [.ref (ad 2)].toArray meth c c_Ce_wayFromWanted 4 (some .long) gT R_Ce := ⟨hx, hb, hr, hml, hown, hts, hlocks⟩
  generalize va_A (x_w shU ad cA (NN mo) F A) s.heap.size = A0 at hS hA ⊢
  have hl := lv_entry [.ref (ad 2)] (n := 4) (Nat.le_of_ble_eq_true rfl)
  rw [lg_entry_eq]
  generalize (lg_sl [.ref (ad 2)] ++ List.replicate (4 - (lg_sl [.ref (ad 2)]).length) Slot.unset).toArray = ls at hl ⊢
  have hl : lv_has ls 4 [(0, .ref (ad 2))] := hl
  refine r_lconst hx hb 0 d_Ce_wayFromWanted_0 (by decide +kernel) ?_
  refine lv_lstore_n (lv' := [(1, .long (lI 0)), (0, .ref (ad 2))]) hx hb d_Ce_wayFromWanted_1 rfl hl (by decide) rfl (fun ls hl => ?_)
  refine r_iconst hx hb d_Ce_wayFromWanted_2 ?_
  refine lv_istore_n (lv' := [(3, .int (iI 0)), (1, .long (lI 0)), (0, .ref (ad 2))]) hx hb d_Ce_wayFromWanted_3 rfl hl (by decide) rfl (fun ls hl => ?_)
  exact s_Ce_wayFromWanted_b4 C0 hA _ _ h _ _ _ hS (lv_sub hl [2, 1, 0] rfl)
/-! Ce_alike -/
def w_Ce_alike (mo : Nat) (F : Nat → Int) (A : Nat → Int → Int) (x1 : Int) (x2 : Int) (Q : Int → Prop) : Prop := 0 ≤ x1 ∧ x1 < 60 ∧ 0 ≤ x2 ∧ x2 < 60 ∧ rg (A 3 x1) ∧ rg (A 3 x2) ∧ ((¬ (A 3 x1) = (A 3 x2) → Q 0) ∧ ((A 3 x1) = (A 3 x2) → rg (A 4 x1) ∧ rg (A 4 x2) ∧ ((¬ (A 4 x1) = (A 4 x2) → Q 0) ∧ ((A 4 x1) = (A 4 x2) → rg (A 5 x1) ∧ rg (A 5 x2) ∧ ((¬ (A 5 x1) = (A 5 x2) → Q 0) ∧ ((A 5 x1) = (A 5 x2) → Q 1))))))
set_option maxHeartbeats 4000000 in
set_option maxRecDepth 100000 in
theorem ct_Ce_alike (l : Launch) (D : va_G) (ad : Nat → Nat) (cA : Nat → ClassId) (mo sz : Nat) (F : Nat → Int) (A : Nat → Int → Int) (x1 : Int) (x2 : Int) (Q : Int → Prop) (h : w_Ce_alike mo F A x1 x2 Q) : Met l y_Ce_alike (Cond.code y_Ce_alike c_Ce_alike 3 (some .boolean) :: gT) ({ frames := 0, cells := 0, slots := 0, locals := 0 } : Room) (va_Pc [.ref (ad 2), .int (iI x1), .int (iI x2)] (x_P D vCl shU ad cA (NN mo) sz F A)) (x_QI D vCl shU ad cA (NN mo) (va_A (x_w shU ad cA (NN mo) F A) sz) (fun z F1 A1 => F = F1 ∧ A = A1 ∧ Q z)) 0 0 (va_A (x_w shU ad cA (NN mo) F A) sz) := by
  refine Met.ofW (cc := c_Ce_alike) (maxL := 3) (ret := some .boolean) (by decide) rfl ?_
  intro p e s m args below meth c s₁ B hml hv
  obtain ⟨rfl, hsz, hP, hK, hD0, hN0⟩ := hv
  have hx := B.exec
  have hb := B.bytes
  have hr := B.returns
  have hts0 := atoms_spec (ws := (Cond.code y_Ce_alike c_Ce_alike 3 (some .boolean) :: gT)) B.pre
  have hts : ∀ w ∈ gT, w.before _ s = true := fun w h => hts0 w (List.mem_cons_of_mem _ h)
  have hown : s.vm.findClass R_Ce = some m.cls := findClass_of_methodNamed B.named
  have hlocks := B.notSynchronized
  subst hsz
  have hS : x_S D vCl shU ad cA (NN mo) (va_A (x_w shU ad cA (NN mo) F A) s.heap.size) s F A s.heap [] := ⟨hK, hP, hD0.self, va_S.rf, hN0⟩
  have hA : ∀ q : Nat, s.heap.size ≤ q → va_A (x_w shU ad cA (NN mo) F A) s.heap.size q := fun q h => Or.inr h
  have C0 : x_C p s m [.ref (ad 2), .int (iI x1), .int (iI x2)].toArray meth c c_Ce_alike 3 (some .boolean) gT R_Ce := ⟨hx, hb, hr, hml, hown, hts, hlocks⟩
  generalize va_A (x_w shU ad cA (NN mo) F A) s.heap.size = A0 at hS hA ⊢
  have hl := lv_entry [.ref (ad 2), .int (iI x1), .int (iI x2)] (n := 3) (Nat.le_of_ble_eq_true rfl)
  rw [lg_entry_eq]
  generalize (lg_sl [.ref (ad 2), .int (iI x1), .int (iI x2)] ++ List.replicate (3 - (lg_sl [.ref (ad 2), .int (iI x1), .int (iI x2)]).length) Slot.unset).toArray = ls at hl ⊢
  have hl : lv_has ls 3 [(0, .ref (ad 2)), (1, .int (iI x1)), (2, .int (iI x2))] := hl
  refine lv_aload_n hx hb d_Ce_alike_0 rfl (lv_at hl 0 rfl) ?_
  refine r_getr (t2 := 9) hx hb hts in_Ce hown hS 2 rfl rfl 0 (by decide) rfl (hts _ tw_76) d_Ce_alike_1 ?_
  refine lv_iload_n hx hb d_Ce_alike_4 rfl (lv_at hl 1 rfl) ?_
  obtain ⟨g1, h⟩ := h
  obtain ⟨g2, h⟩ := h
  refine r_iald (id := 3) (i := x1) (z := A 3 x1) hx hb hS 9 rfl g1 g2 d_Ce_alike_5 rfl ?_
  refine lv_aload_n hx hb d_Ce_alike_6 rfl (lv_at hl 0 rfl) ?_
  refine r_getr (t2 := 9) hx hb hts in_Ce hown hS 2 rfl rfl 0 (by decide) rfl (hts _ tw_76) d_Ce_alike_7 ?_
  refine lv_iload_n hx hb d_Ce_alike_10 rfl (lv_at hl 2 rfl) ?_
  obtain ⟨g3, h⟩ := h
  obtain ⟨g4, h⟩ := h
  refine r_iald (id := 3) (i := x2) (z := A 3 x2) hx hb hS 9 rfl g3 g4 d_Ce_alike_11 rfl ?_
  obtain ⟨g5, h⟩ := h
  obtain ⟨g6, h⟩ := h
  refine r_icmp_ne (tgt := 49) hx hb g5 g6 d_Ce_alike_12 (by decide) (fun hc => ?_) (fun hc => ?_)
  · replace h := h.1 hc
    refine r_iconst hx hb d_Ce_alike_49 ?_
    exact r_zret (z := 0) hx hb hr hlocks (Or.inl rfl) hS ⟨rfl, rfl, h⟩ d_Ce_alike_50
  · replace h := h.2 hc
    refine lv_aload_n hx hb d_Ce_alike_15 rfl (lv_at hl 0 rfl) ?_
    refine r_getr (t2 := 10) hx hb hts in_Ce hown hS 2 rfl rfl 1 (by decide) rfl (hts _ tw_79) d_Ce_alike_16 ?_
    refine lv_iload_n hx hb d_Ce_alike_19 rfl (lv_at hl 1 rfl) ?_
    refine r_iald (id := 4) (i := x1) (z := A 4 x1) hx hb hS 10 rfl g1 g2 d_Ce_alike_20 rfl ?_
    refine lv_aload_n hx hb d_Ce_alike_21 rfl (lv_at hl 0 rfl) ?_
    refine r_getr (t2 := 10) hx hb hts in_Ce hown hS 2 rfl rfl 1 (by decide) rfl (hts _ tw_79) d_Ce_alike_22 ?_
    refine lv_iload_n hx hb d_Ce_alike_25 rfl (lv_at hl 2 rfl) ?_
    refine r_iald (id := 4) (i := x2) (z := A 4 x2) hx hb hS 10 rfl g3 g4 d_Ce_alike_26 rfl ?_
    obtain ⟨g7, h⟩ := h
    obtain ⟨g8, h⟩ := h
    refine r_icmp_ne (tgt := 49) hx hb g7 g8 d_Ce_alike_27 (by decide) (fun hc => ?_) (fun hc => ?_)
    · replace h := h.1 hc
      refine r_iconst hx hb d_Ce_alike_49 ?_
      exact r_zret (z := 0) hx hb hr hlocks (Or.inl rfl) hS ⟨rfl, rfl, h⟩ d_Ce_alike_50
    · replace h := h.2 hc
      refine lv_aload_n hx hb d_Ce_alike_30 rfl (lv_at hl 0 rfl) ?_
      refine r_getr (t2 := 11) hx hb hts in_Ce hown hS 2 rfl rfl 2 (by decide) rfl (hts _ tw_80) d_Ce_alike_31 ?_
      refine lv_iload_n hx hb d_Ce_alike_34 rfl (lv_at hl 1 rfl) ?_
      refine r_iald (id := 5) (i := x1) (z := A 5 x1) hx hb hS 11 rfl g1 g2 d_Ce_alike_35 rfl ?_
      refine lv_aload_n hx hb d_Ce_alike_36 rfl (lv_at hl 0 rfl) ?_
      refine r_getr (t2 := 11) hx hb hts in_Ce hown hS 2 rfl rfl 2 (by decide) rfl (hts _ tw_80) d_Ce_alike_37 ?_
      refine lv_iload_n hx hb d_Ce_alike_40 rfl (lv_at hl 2 rfl) ?_
      refine r_iald (id := 5) (i := x2) (z := A 5 x2) hx hb hS 11 rfl g3 g4 d_Ce_alike_41 rfl ?_
      obtain ⟨g9, h⟩ := h
      obtain ⟨g10, h⟩ := h
      refine r_icmp_ne (tgt := 49) hx hb g9 g10 d_Ce_alike_42 (by decide) (fun hc => ?_) (fun hc => ?_)
      · replace h := h.1 hc
        refine r_iconst hx hb d_Ce_alike_49 ?_
        exact r_zret (z := 0) hx hb hr hlocks (Or.inl rfl) hS ⟨rfl, rfl, h⟩ d_Ce_alike_50
      · replace h := h.2 hc
        refine r_iconst hx hb d_Ce_alike_45 ?_
        refine lv_goto (tgt := 50) hx hb d_Ce_alike_46 (by decide) ?_
        exact r_zret (z := 1) hx hb hr hlocks (Or.inr rfl) hS ⟨rfl, rfl, h⟩ d_Ce_alike_50
/-! Ce_end -/
def w_Ce_end (mo : Nat) (F : Nat → Int) (A : Nat → Int → Int) (x1 : Int) (Q : Int → Prop) : Prop := 0 ≤ x1 ∧ x1 < 60 ∧ Q ((A 8 x1) + (A 3 x1))
set_option maxHeartbeats 4000000 in
set_option maxRecDepth 100000 in
theorem ct_Ce_end (l : Launch) (D : va_G) (ad : Nat → Nat) (cA : Nat → ClassId) (mo sz : Nat) (F : Nat → Int) (A : Nat → Int → Int) (x1 : Int) (Q : Int → Prop) (h : w_Ce_end mo F A x1 Q) : Met l y_Ce_end (Cond.code y_Ce_end c_Ce_end 2 (some .int) :: gT) ({ frames := 0, cells := 0, slots := 0, locals := 0 } : Room) (va_Pc [.ref (ad 2), .int (iI x1)] (x_P D vCl shU ad cA (NN mo) sz F A)) (x_QI D vCl shU ad cA (NN mo) (va_A (x_w shU ad cA (NN mo) F A) sz) (fun z F1 A1 => F = F1 ∧ A = A1 ∧ Q z)) 0 0 (va_A (x_w shU ad cA (NN mo) F A) sz) := by
  refine Met.ofW (cc := c_Ce_end) (maxL := 2) (ret := some .int) (by decide) rfl ?_
  intro p e s m args below meth c s₁ B hml hv
  obtain ⟨rfl, hsz, hP, hK, hD0, hN0⟩ := hv
  have hx := B.exec
  have hb := B.bytes
  have hr := B.returns
  have hts0 := atoms_spec (ws := (Cond.code y_Ce_end c_Ce_end 2 (some .int) :: gT)) B.pre
  have hts : ∀ w ∈ gT, w.before _ s = true := fun w h => hts0 w (List.mem_cons_of_mem _ h)
  have hown : s.vm.findClass R_Ce = some m.cls := findClass_of_methodNamed B.named
  have hlocks := B.notSynchronized
  subst hsz
  have hS : x_S D vCl shU ad cA (NN mo) (va_A (x_w shU ad cA (NN mo) F A) s.heap.size) s F A s.heap [] := ⟨hK, hP, hD0.self, va_S.rf, hN0⟩
  have hA : ∀ q : Nat, s.heap.size ≤ q → va_A (x_w shU ad cA (NN mo) F A) s.heap.size q := fun q h => Or.inr h
  have C0 : x_C p s m [.ref (ad 2), .int (iI x1)].toArray meth c c_Ce_end 2 (some .int) gT R_Ce := ⟨hx, hb, hr, hml, hown, hts, hlocks⟩
  generalize va_A (x_w shU ad cA (NN mo) F A) s.heap.size = A0 at hS hA ⊢
  have hl := lv_entry [.ref (ad 2), .int (iI x1)] (n := 2) (Nat.le_of_ble_eq_true rfl)
  rw [lg_entry_eq]
  generalize (lg_sl [.ref (ad 2), .int (iI x1)] ++ List.replicate (2 - (lg_sl [.ref (ad 2), .int (iI x1)]).length) Slot.unset).toArray = ls at hl ⊢
  have hl : lv_has ls 2 [(0, .ref (ad 2)), (1, .int (iI x1))] := hl
  refine lv_aload_n hx hb d_Ce_end_0 rfl (lv_at hl 0 rfl) ?_
  refine r_getr (t2 := 14) hx hb hts in_Ce hown hS 2 rfl rfl 5 (by decide) rfl (hts _ tw_85) d_Ce_end_1 ?_
  refine lv_iload_n hx hb d_Ce_end_4 rfl (lv_at hl 1 rfl) ?_
  obtain ⟨g1, h⟩ := h
  obtain ⟨g2, h⟩ := h
  refine r_iald (id := 8) (i := x1) (z := A 8 x1) hx hb hS 14 rfl g1 g2 d_Ce_end_5 rfl ?_
  refine lv_aload_n hx hb d_Ce_end_6 rfl (lv_at hl 0 rfl) ?_
  refine r_getr (t2 := 9) hx hb hts in_Ce hown hS 2 rfl rfl 0 (by decide) rfl (hts _ tw_76) d_Ce_end_7 ?_
  refine lv_iload_n hx hb d_Ce_end_10 rfl (lv_at hl 1 rfl) ?_
  refine r_iald (id := 3) (i := x1) (z := A 3 x1) hx hb hS 9 rfl g1 g2 d_Ce_end_11 rfl ?_
  refine r_iadd hx hb d_Ce_end_12 ?_
  exact r_iret (z := ((A 8 x1) + (A 3 x1))) hx hb hr hlocks hS ⟨rfl, rfl, h⟩ d_Ce_end_13
/-! Ce_distance -/
def w_Ce_distance (mo : Nat) (F : Nat → Int) (A : Nat → Int → Int) (x1 : Int) (x2 : Int) (Q : Int → Prop) : Prop := 0 ≤ x1 ∧ x1 < 60 ∧ w_Ce_end mo F A x1 (fun z3 => 0 ≤ x2 ∧ x2 < 60 ∧ w_Ce_end mo F A x2 (fun z6 => rg ((((A 8 x1) + z3) - (A 8 x2)) - z6) ∧ rg ((A 9 x1) - (A 9 x2)) ∧ Q (((Int.natAbs ((((A 8 x1) + z3) - (A 8 x2)) - z6) : Nat) : Int) + (40 * ((Int.natAbs ((A 9 x1) - (A 9 x2)) : Nat) : Int)))))
set_option maxHeartbeats 4000000 in
set_option maxRecDepth 100000 in
theorem ct_Ce_distance (l : Launch) (D : va_G) (ad : Nat → Nat) (cA : Nat → ClassId) (mo sz : Nat) (F : Nat → Int) (A : Nat → Int → Int) (x1 : Int) (x2 : Int) (Q : Int → Prop) (h : w_Ce_distance mo F A x1 x2 Q) : Met l y_Ce_distance (Cond.code y_Ce_distance c_Ce_distance 4 (some .int) :: gT) ({ frames := 1, cells := 0, slots := 0, locals := 32 } : Room) (va_Pc [.ref (ad 2), .int (iI x1), .int (iI x2)] (x_P D vCl shU ad cA (NN mo) sz F A)) (x_QI D vCl shU ad cA (NN mo) (va_A (x_w shU ad cA (NN mo) F A) sz) (fun z F1 A1 => F = F1 ∧ A = A1 ∧ Q z)) 0 0 (va_A (x_w shU ad cA (NN mo) F A) sz) := by
  refine Met.ofW (cc := c_Ce_distance) (maxL := 4) (ret := some .int) (by decide) rfl ?_
  intro p e s m args below meth c s₁ B hml hv
  obtain ⟨rfl, hsz, hP, hK, hD0, hN0⟩ := hv
  have hx := B.exec
  have hb := B.bytes
  have hr := B.returns
  have hts0 := atoms_spec (ws := (Cond.code y_Ce_distance c_Ce_distance 4 (some .int) :: gT)) B.pre
  have hts : ∀ w ∈ gT, w.before _ s = true := fun w h => hts0 w (List.mem_cons_of_mem _ h)
  have hown : s.vm.findClass R_Ce = some m.cls := findClass_of_methodNamed B.named
  have hlocks := B.notSynchronized
  subst hsz
  have hS : x_S D vCl shU ad cA (NN mo) (va_A (x_w shU ad cA (NN mo) F A) s.heap.size) s F A s.heap [] := ⟨hK, hP, hD0.self, va_S.rf, hN0⟩
  have hA : ∀ q : Nat, s.heap.size ≤ q → va_A (x_w shU ad cA (NN mo) F A) s.heap.size q := fun q h => Or.inr h
  have C0 : x_C p s m [.ref (ad 2), .int (iI x1), .int (iI x2)].toArray meth c c_Ce_distance 4 (some .int) gT R_Ce := ⟨hx, hb, hr, hml, hown, hts, hlocks⟩
  generalize va_A (x_w shU ad cA (NN mo) F A) s.heap.size = A0 at hS hA ⊢
  have hl := lv_entry [.ref (ad 2), .int (iI x1), .int (iI x2)] (n := 4) (Nat.le_of_ble_eq_true rfl)
  rw [lg_entry_eq]
  generalize (lg_sl [.ref (ad 2), .int (iI x1), .int (iI x2)] ++ List.replicate (4 - (lg_sl [.ref (ad 2), .int (iI x1), .int (iI x2)]).length) Slot.unset).toArray = ls at hl ⊢
  have hl : lv_has ls 4 [(0, .ref (ad 2)), (1, .int (iI x1)), (2, .int (iI x2))] := hl
  refine lv_aload_n hx hb d_Ce_distance_0 rfl (lv_at hl 0 rfl) ?_
  refine r_getr (t2 := 14) hx hb hts in_Ce hown hS 2 rfl rfl 5 (by decide) rfl (hts _ tw_85) d_Ce_distance_1 ?_
  refine lv_iload_n hx hb d_Ce_distance_4 rfl (lv_at hl 1 rfl) ?_
  obtain ⟨g1, h⟩ := h
  obtain ⟨g2, h⟩ := h
  refine r_iald (id := 8) (i := x1) (z := A 8 x1) hx hb hS 14 rfl g1 g2 d_Ce_distance_5 rfl ?_
  refine lv_aload_n hx hb d_Ce_distance_6 rfl (lv_at hl 0 rfl) ?_
  refine lv_iload_n hx hb d_Ce_distance_7 rfl (lv_at hl 1 rfl) ?_
  refine r_ci (va_runV (As := [.int (iI x1)]) (rest := [.int (iI (A 8 x1))]) ⟨hx, hb, hml, hown, hts⟩ (ct_Ce_end l D ad cA mo _ _ _ _ _ h) (cwV 1 hts (gV tw_573 tw_574 tw_575 tw_4 tw_576) rfl rfl rfl (by decide +kernel) ⟨Nat.le_of_ble_eq_true rfl, Nat.le_of_ble_eq_true rfl⟩) (x_preV hS 2 rfl rfl _) rfl rfl hl.1 rfl (lv_room (Nat.le_of_ble_eq_true rfl)) d_Ce_distance_8 ⟨Nat.zero_le _, Nat.zero_le _⟩) hS hA (fun z3 F3 A3 H locs hS h => ?_)
  obtain ⟨rfl, rfl, h⟩ := h
  refine r_iadd hx hb d_Ce_distance_11 ?_
  refine lv_aload_n hx hb d_Ce_distance_12 rfl (lv_at hl 0 rfl) ?_
  refine r_getr (t2 := 14) hx hb hts in_Ce hown hS 2 rfl rfl 5 (by decide) rfl (hts _ tw_85) d_Ce_distance_13 ?_
  refine lv_iload_n hx hb d_Ce_distance_16 rfl (lv_at hl 2 rfl) ?_
  obtain ⟨g4, h⟩ := h
  obtain ⟨g5, h⟩ := h
  refine r_iald (id := 8) (i := x2) (z := A 8 x2) hx hb hS 14 rfl g4 g5 d_Ce_distance_17 rfl ?_
  refine r_isub hx hb d_Ce_distance_18 ?_
  refine lv_aload_n hx hb d_Ce_distance_19 rfl (lv_at hl 0 rfl) ?_
  refine lv_iload_n hx hb d_Ce_distance_20 rfl (lv_at hl 2 rfl) ?_
  refine r_ci (va_runV (As := [.int (iI x2)]) (rest := [.int (iI (((A 8 x1) + z3) - (A 8 x2)))]) ⟨hx, hb, hml, hown, hts⟩ (ct_Ce_end l D ad cA mo _ _ _ _ _ h) (cwV 1 hts (gV tw_573 tw_574 tw_575 tw_4 tw_576) rfl rfl rfl (by decide +kernel) ⟨Nat.le_of_ble_eq_true rfl, Nat.le_of_ble_eq_true rfl⟩) (x_preV hS 2 rfl rfl _) rfl rfl hl.1 rfl (lv_room (Nat.le_of_ble_eq_true rfl)) d_Ce_distance_21 ⟨Nat.zero_le _, Nat.zero_le _⟩) hS hA (fun z6 F6 A6 H locs hS h => ?_)
  obtain ⟨rfl, rfl, h⟩ := h
  refine r_isub hx hb d_Ce_distance_24 ?_
  obtain ⟨g7, h⟩ := h
  refine r_mabs hx hb (hml.trans hl.1.symm) hown (hts _ tw_250) (hts _ tw_251) (hts _ tw_2) (hts _ tw_252) (Nat.le_of_ble_eq_true rfl) (Nat.le_of_ble_eq_true rfl) (Nat.zero_le _) (Nat.zero_le _) g7 d_Ce_distance_25 ?_
  refine lv_istore_n (lv' := [(3, .int (iI ((Int.natAbs ((((A 8 x1) + z3) - (A 8 x2)) - z6) : Nat) : Int))), (0, .ref (ad 2)), (1, .int (iI x1)), (2, .int (iI x2))]) hx hb d_Ce_distance_28 rfl hl (by decide) rfl (fun ls hl => ?_)
  refine lv_iload_n hx hb d_Ce_distance_29 rfl (lv_at hl 0 rfl) ?_
  refine r_bipush hx hb d_Ce_distance_30 (by decide +kernel) ?_
  refine lv_aload_n hx hb d_Ce_distance_32 rfl (lv_at hl 1 rfl) ?_
  refine r_getr (t2 := 15) hx hb hts in_Ce hown hS 2 rfl rfl 6 (by decide) rfl (hts _ tw_87) d_Ce_distance_33 ?_
  refine lv_iload_n hx hb d_Ce_distance_36 rfl (lv_at hl 2 rfl) ?_
  refine r_iald (id := 9) (i := x1) (z := A 9 x1) hx hb hS 15 rfl g1 g2 d_Ce_distance_37 rfl ?_
  refine lv_aload_n hx hb d_Ce_distance_38 rfl (lv_at hl 1 rfl) ?_
  refine r_getr (t2 := 15) hx hb hts in_Ce hown hS 2 rfl rfl 6 (by decide) rfl (hts _ tw_87) d_Ce_distance_39 ?_
  refine lv_iload_n hx hb d_Ce_distance_42 rfl (lv_at hl 3 rfl) ?_
  refine r_iald (id := 9) (i := x2) (z := A 9 x2) hx hb hS 15 rfl g4 g5 d_Ce_distance_43 rfl ?_
  refine r_isub hx hb d_Ce_distance_44 ?_
  obtain ⟨g8, h⟩ := h
  refine r_mabs hx hb (hml.trans hl.1.symm) hown (hts _ tw_250) (hts _ tw_251) (hts _ tw_2) (hts _ tw_252) (Nat.le_of_ble_eq_true rfl) (Nat.le_of_ble_eq_true rfl) (Nat.zero_le _) (Nat.zero_le _) g8 d_Ce_distance_45 ?_
  refine r_imul hx hb d_Ce_distance_48 ?_
  refine r_iadd hx hb d_Ce_distance_49 ?_
  exact r_iret (z := (((Int.natAbs ((((A 8 x1) + z3) - (A 8 x2)) - z6) : Nat) : Int) + (40 * ((Int.natAbs ((A 9 x1) - (A 9 x2)) : Nat) : Int)))) hx hb hr hlocks hS ⟨rfl, rfl, h⟩ d_Ce_distance_50
/-! Ne_gainOfCellAt -/
def w_Ne_gainOfCellAt_b67 (mo : Nat) (F : Nat → Int) (A : Nat → Int → Int) (Q : Int → Prop) (I13 : Int → Int → Int → Prop) (x1 : Int) (x2 : Int) (x3 : Int) (x4 : Int) (x5 : Int) : Prop := 0 ≤ x4 ∧ x4 < 160 ∧ I13 x3 (A 12 x4) (x5 + 1)
def w_Ne_gainOfCellAt_b13 (mo : Nat) (F : Nat → Int) (A : Nat → Int → Int) (Q : Int → Prop) (x1 : Int) (x2 : Int) (x3 : Int) (x4 : Int) (x5 : Int) : Prop := Lp3 (fun I13 x3 x4 x5 => rg x5 ∧ ((80 ≤ x5 → Q x3) ∧ (¬ 80 ≤ x5 → rg x4 ∧ ((x4 = (-1) → Q x3) ∧ (¬ x4 = (-1) → 0 ≤ x4 ∧ x4 < 2147483648 ∧ 0 ≤ (xo x4) ∧ (xo x4) < 160 ∧ rg (A 11 (xo x4)) ∧ rg x2 ∧ (((A 11 (xo x4)) = x2 → w_Ne_gainOfCellAt_b67 mo F A Q I13 x1 x2 x3 x4 x5) ∧ (¬ (A 11 (xo x4)) = x2 → w_Ce_distance mo F A x1 (A 11 (xo x4)) (fun z11 => w_Ce_distance mo F A x2 (A 11 (xo x4)) (fun z12 => w_Ne_gainOfCellAt_b67 mo F A Q I13 x1 x2 (x3 + (z11 - z12)) x4 x5))))))))) x3 x4 x5
def w_Ne_gainOfCellAt (mo : Nat) (F : Nat → Int) (A : Nat → Int → Int) (x1 : Int) (x2 : Int) (Q : Int → Prop) : Prop := 0 ≤ x1 ∧ x1 < 60 ∧ w_Ne_gainOfCellAt_b13 mo F A Q x1 x2 0 (A 13 x1) 0
set_option maxHeartbeats 4000000 in
set_option maxRecDepth 100000 in
theorem s_Ne_gainOfCellAt_b67 (C0 : x_C p s m args meth c c_Ne_gainOfCellAt 7 (some .int) gT R_Ne) (hA : ∀ q : Nat, s.heap.size ≤ q → A0 q) {mo : Nat} {F : Nat → Int} {A : Nat → Int → Int} {Q : Int → Prop} {I13 : Int → Int → Int → Prop} (x1 : Int) (x2 : Int) (x3 : Int) (x4 : Int) (x5 : Int) (hI13 : ∀ (x3 : Int) (x4 : Int) (x5 : Int), I13 x3 x4 x5 → ∀ (H : Heap) (locs : List Loc) (ls : Array Slot), x_S D vCl shU ad cA (NN mo) A0 s F A H locs → lv_has ls 7 [(0, .ref (ad 3)), (1, .int (iI x1)), (2, .int (iI x2)), (3, .int (iI x3)), (4, .int (iI x4)), (5, .int (iI x5))] → W p l e ({ frames := 2, cells := 0, slots := 0, locals := 55 } : Room) s m args below meth c H locs 0 0 (MQ below (x_QI D vCl shU ad cA (NN mo) A0 (fun z F1 A1 => F = F1 ∧ A = A1 ∧ Q z)) args s 0 0 A0) (F0 m 13 ls [])) (h : w_Ne_gainOfCellAt_b67 mo F A Q I13 x1 x2 x3 x4 x5) (H : Heap) (locs : List Loc) (ls : Array Slot) (hS : x_S D vCl shU ad cA (NN mo) A0 s F A H locs) (hl : lv_has ls 7 [(0, .ref (ad 3)), (1, .int (iI x1)), (2, .int (iI x2)), (3, .int (iI x3)), (4, .int (iI x4)), (5, .int (iI x5))]) : W p l e ({ frames := 2, cells := 0, slots := 0, locals := 55 } : Room) s m args below meth c H locs 0 0 (MQ below (x_QI D vCl shU ad cA (NN mo) A0 (fun z F1 A1 => F = F1 ∧ A = A1 ∧ Q z)) args s 0 0 A0) (F0 m 67 ls []) := by
  obtain ⟨hx, hb, hr, hml, hown, hts, hlocks⟩ := id C0
  refine lv_aload_n hx hb d_Ne_gainOfCellAt_67 rfl (lv_at hl 0 rfl) ?_
  refine r_getr (t2 := 18) hx hb hts in_Ne hown hS 3 rfl rfl 2 (by decide) rfl (hts _ tw_121) d_Ne_gainOfCellAt_68 ?_
  refine lv_iload hx hb d_Ne_gainOfCellAt_71 (lv_at hl 4 rfl) ?_
  obtain ⟨g1, h⟩ := h
  obtain ⟨g2, h⟩ := h
  refine r_iald (id := 12) (i := x4) (z := A 12 x4) hx hb hS 18 rfl g1 g2 d_Ne_gainOfCellAt_73 rfl ?_
  refine lv_istore (lv' := [(4, .int (iI (A 12 x4))), (0, .ref (ad 3)), (1, .int (iI x1)), (2, .int (iI x2)), (3, .int (iI x3)), (5, .int (iI x5))]) hx hb d_Ne_gainOfCellAt_74 hl (by decide) rfl (fun ls hl => ?_)
  refine r_iinc (k := 5) (z := x5) (lv' := [(5, .int (iI (x5 + 1))), (4, .int (iI (A 12 x4))), (0, .ref (ad 3)), (1, .int (iI x1)), (2, .int (iI x2)), (3, .int (iI x3))]) hx hb d_Ne_gainOfCellAt_76 hl rfl (by decide) rfl (fun ls hl => ?_)
  refine lv_goto (tgt := 13) hx hb d_Ne_gainOfCellAt_79 (by decide) ?_
  exact hI13 _ _ _ h _ _ _ hS (lv_sub hl [2, 3, 4, 5, 1, 0] rfl)
set_option maxHeartbeats 4000000 in
set_option maxRecDepth 100000 in
theorem s_Ne_gainOfCellAt_b13 (C0 : x_C p s m args meth c c_Ne_gainOfCellAt 7 (some .int) gT R_Ne) (hA : ∀ q : Nat, s.heap.size ≤ q → A0 q) {mo : Nat} {F : Nat → Int} {A : Nat → Int → Int} {Q : Int → Prop} (x1 : Int) (x2 : Int) (x3 : Int) (x4 : Int) (x5 : Int) (h : w_Ne_gainOfCellAt_b13 mo F A Q x1 x2 x3 x4 x5) (H : Heap) (locs : List Loc) (ls : Array Slot) (hS : x_S D vCl shU ad cA (NN mo) A0 s F A H locs) (hl : lv_has ls 7 [(0, .ref (ad 3)), (1, .int (iI x1)), (2, .int (iI x2)), (3, .int (iI x3)), (4, .int (iI x4)), (5, .int (iI x5))]) : W p l e ({ frames := 2, cells := 0, slots := 0, locals := 55 } : Room) s m args below meth c H locs 0 0 (MQ below (x_QI D vCl shU ad cA (NN mo) A0 (fun z F1 A1 => F = F1 ∧ A = A1 ∧ Q z)) args s 0 0 A0) (F0 m 13 ls []) := by
  obtain ⟨hx, hb, hr, hml, hown, hts, hlocks⟩ := id C0
  refine h (fun x3 x4 x5 => ∀ (H : Heap) (locs : List Loc) (ls : Array Slot), x_S D vCl shU ad cA (NN mo) A0 s F A H locs → lv_has ls 7 [(0, .ref (ad 3)), (1, .int (iI x1)), (2, .int (iI x2)), (3, .int (iI x3)), (4, .int (iI x4)), (5, .int (iI x5))] → W p l e ({ frames := 2, cells := 0, slots := 0, locals := 55 } : Room) s m args below meth c H locs 0 0 (MQ below (x_QI D vCl shU ad cA (NN mo) A0 (fun z F1 A1 => F = F1 ∧ A = A1 ∧ Q z)) args s 0 0 A0) (F0 m 13 ls [])) ?_ H locs ls hS hl
  intro x3 x4 x5 h H locs ls hS hl
  refine lv_iload hx hb d_Ne_gainOfCellAt_13 (lv_at hl 5 rfl) ?_
  refine r_bipush hx hb d_Ne_gainOfCellAt_15 (by decide +kernel) ?_
  obtain ⟨g3, h⟩ := h
  refine r_icmp_ge (tgt := 82) hx hb g3 ⟨by omega, by omega⟩ d_Ne_gainOfCellAt_17 (by decide) (fun hc => ?_) (fun hc => ?_)
  · replace h := h.1 hc
    refine lv_iload_n hx hb d_Ne_gainOfCellAt_82 rfl (lv_at hl 3 rfl) ?_
    exact r_iret (z := x3) hx hb hr hlocks hS ⟨rfl, rfl, h⟩ d_Ne_gainOfCellAt_83
  · replace h := h.2 hc
    refine lv_iload hx hb d_Ne_gainOfCellAt_20 (lv_at hl 4 rfl) ?_
    refine r_iconst hx hb d_Ne_gainOfCellAt_22 ?_
    obtain ⟨g4, h⟩ := h
    refine r_icmp_eq (tgt := 82) hx hb g4 ⟨by omega, by omega⟩ d_Ne_gainOfCellAt_23 (by decide) (fun hc => ?_) (fun hc => ?_)
    · replace h := h.1 hc
      refine lv_iload_n hx hb d_Ne_gainOfCellAt_82 rfl (lv_at hl 3 rfl) ?_
      exact r_iret (z := x3) hx hb hr hlocks hS ⟨rfl, rfl, h⟩ d_Ne_gainOfCellAt_83
    · replace h := h.2 hc
      refine lv_aload_n hx hb d_Ne_gainOfCellAt_26 rfl (lv_at hl 0 rfl) ?_
      refine r_getr (t2 := 17) hx hb hts in_Ne hown hS 3 rfl rfl 1 (by decide) rfl (hts _ tw_120) d_Ne_gainOfCellAt_27 ?_
      refine lv_iload hx hb d_Ne_gainOfCellAt_30 (lv_at hl 4 rfl) ?_
      refine r_iconst hx hb d_Ne_gainOfCellAt_32 ?_
      obtain ⟨g5, h⟩ := h
      obtain ⟨g6, h⟩ := h
      refine r_ixor1 hx hb g5 g6 d_Ne_gainOfCellAt_33 ?_
      obtain ⟨g7, h⟩ := h
      obtain ⟨g8, h⟩ := h
      refine r_iald (id := 11) (i := (xo x4)) (z := A 11 (xo x4)) hx hb hS 17 rfl g7 g8 d_Ne_gainOfCellAt_34 rfl ?_
      refine lv_istore (lv' := [(6, .int (iI (A 11 (xo x4)))), (0, .ref (ad 3)), (1, .int (iI x1)), (2, .int (iI x2)), (3, .int (iI x3)), (4, .int (iI x4)), (5, .int (iI x5))]) hx hb d_Ne_gainOfCellAt_35 hl (by decide) rfl (fun ls hl => ?_)
      refine lv_iload hx hb d_Ne_gainOfCellAt_37 (lv_at hl 0 rfl) ?_
      refine lv_iload_n hx hb d_Ne_gainOfCellAt_39 rfl (lv_at hl 3 rfl) ?_
      obtain ⟨g9, h⟩ := h
      obtain ⟨g10, h⟩ := h
      refine r_icmp_eq (tgt := 67) hx hb g9 g10 d_Ne_gainOfCellAt_40 (by decide) (fun hc => ?_) (fun hc => ?_)
      · replace h := h.1 hc
        exact s_Ne_gainOfCellAt_b67 C0 hA _ _ _ _ _ (fun _ _ _ h => h) h _ _ _ hS (lv_sub hl [1, 2, 3, 4, 5, 6] rfl)
      · replace h := h.2 hc
        refine lv_iload_n hx hb d_Ne_gainOfCellAt_43 rfl (lv_at hl 4 rfl) ?_
        refine lv_aload_n hx hb d_Ne_gainOfCellAt_44 rfl (lv_at hl 1 rfl) ?_
        refine r_getr (t2 := 2) hx hb hts in_Ne hown hS 3 rfl rfl 0 (by decide) rfl (hts _ tw_119) d_Ne_gainOfCellAt_45 ?_
        refine lv_iload_n hx hb d_Ne_gainOfCellAt_48 rfl (lv_at hl 2 rfl) ?_
        refine lv_iload hx hb d_Ne_gainOfCellAt_49 (lv_at hl 0 rfl) ?_
        refine r_ci (va_runV (As := [.int (iI x1), .int (iI (A 11 (xo x4)))]) (rest := [.int (iI x3)]) ⟨hx, hb, hml, hown, hts⟩ (ct_Ce_distance l D ad cA mo _ _ _ _ _ _ h) (cwV 2 hts (gV tw_569 tw_570 tw_571 tw_4 tw_572) rfl rfl rfl (by decide +kernel) ⟨Nat.le_of_ble_eq_true rfl, Nat.le_of_ble_eq_true rfl⟩) (x_preV hS 2 rfl rfl _) rfl rfl hl.1 rfl (lv_room (Nat.le_of_ble_eq_true rfl)) d_Ne_gainOfCellAt_51 ⟨Nat.zero_le _, Nat.zero_le _⟩) hS hA (fun z11 F11 A11 H locs hS h => ?_)
        obtain ⟨rfl, rfl, h⟩ := h
        refine lv_aload_n hx hb d_Ne_gainOfCellAt_54 rfl (lv_at hl 1 rfl) ?_
        refine r_getr (t2 := 2) hx hb hts in_Ne hown hS 3 rfl rfl 0 (by decide) rfl (hts _ tw_119) d_Ne_gainOfCellAt_55 ?_
        refine lv_iload_n hx hb d_Ne_gainOfCellAt_58 rfl (lv_at hl 3 rfl) ?_
        refine lv_iload hx hb d_Ne_gainOfCellAt_59 (lv_at hl 0 rfl) ?_
        refine r_ci (va_runV (As := [.int (iI x2), .int (iI (A 11 (xo x4)))]) (rest := [.int (iI z11), .int (iI x3)]) ⟨hx, hb, hml, hown, hts⟩ (ct_Ce_distance l D ad cA mo _ _ _ _ _ _ h) (cwV 2 hts (gV tw_569 tw_570 tw_571 tw_4 tw_572) rfl rfl rfl (by decide +kernel) ⟨Nat.le_of_ble_eq_true rfl, Nat.le_of_ble_eq_true rfl⟩) (x_preV hS 2 rfl rfl _) rfl rfl hl.1 rfl (lv_room (Nat.le_of_ble_eq_true rfl)) d_Ne_gainOfCellAt_61 ⟨Nat.zero_le _, Nat.zero_le _⟩) hS hA (fun z12 F12 A12 H locs hS h => ?_)
        obtain ⟨rfl, rfl, h⟩ := h
        refine r_isub hx hb d_Ne_gainOfCellAt_64 ?_
        refine r_iadd hx hb d_Ne_gainOfCellAt_65 ?_
        refine lv_istore_n (lv' := [(3, .int (iI (x3 + (z11 - z12)))), (6, .int (iI (A 11 (xo x4)))), (0, .ref (ad 3)), (1, .int (iI x1)), (2, .int (iI x2)), (4, .int (iI x4)), (5, .int (iI x5))]) hx hb d_Ne_gainOfCellAt_66 rfl hl (by decide) rfl (fun ls hl => ?_)
        exact s_Ne_gainOfCellAt_b67 C0 hA _ _ _ _ _ (fun _ _ _ h => h) h _ _ _ hS (lv_sub hl [2, 3, 4, 0, 5, 6] rfl)
set_option maxHeartbeats 4000000 in
set_option maxRecDepth 100000 in
theorem ct_Ne_gainOfCellAt (l : Launch) (D : va_G) (ad : Nat → Nat) (cA : Nat → ClassId) (mo sz : Nat) (F : Nat → Int) (A : Nat → Int → Int) (x1 : Int) (x2 : Int) (Q : Int → Prop) (h : w_Ne_gainOfCellAt mo F A x1 x2 Q) : Met l y_Ne_gainOfCellAt (Cond.code y_Ne_gainOfCellAt c_Ne_gainOfCellAt 7 (some .int) :: gT) ({ frames := 2, cells := 0, slots := 0, locals := 55 } : Room) (va_Pc [.ref (ad 3), .int (iI x1), .int (iI x2)] (x_P D vCl shU ad cA (NN mo) sz F A)) (x_QI D vCl shU ad cA (NN mo) (va_A (x_w shU ad cA (NN mo) F A) sz) (fun z F1 A1 => F = F1 ∧ A = A1 ∧ Q z)) 0 0 (va_A (x_w shU ad cA (NN mo) F A) sz) := by
  refine Met.ofW (cc := c_Ne_gainOfCellAt) (maxL := 7) (ret := some .int) (by decide) rfl ?_
  intro p e s m args below meth c s₁ B hml hv
  obtain ⟨rfl, hsz, hP, hK, hD0, hN0⟩ := hv
  have hx := B.exec
  have hb := B.bytes
  have hr := B.returns
  have hts0 := atoms_spec (ws := (Cond.code y_Ne_gainOfCellAt c_Ne_gainOfCellAt 7 (some .int) :: gT)) B.pre
  have hts : ∀ w ∈ gT, w.before _ s = true := fun w h => hts0 w (List.mem_cons_of_mem _ h)
  have hown : s.vm.findClass R_Ne = some m.cls := findClass_of_methodNamed B.named
  have hlocks := B.notSynchronized
  subst hsz
  have hS : x_S D vCl shU ad cA (NN mo) (va_A (x_w shU ad cA (NN mo) F A) s.heap.size) s F A s.heap [] := ⟨hK, hP, hD0.self, va_S.rf, hN0⟩
  have hA : ∀ q : Nat, s.heap.size ≤ q → va_A (x_w shU ad cA (NN mo) F A) s.heap.size q := fun q h => Or.inr h
  have C0 : x_C p s m [.ref (ad 3), .int (iI x1), .int (iI x2)].toArray meth c c_Ne_gainOfCellAt 7 (some .int) gT R_Ne := ⟨hx, hb, hr, hml, hown, hts, hlocks⟩
  generalize va_A (x_w shU ad cA (NN mo) F A) s.heap.size = A0 at hS hA ⊢
  have hl := lv_entry [.ref (ad 3), .int (iI x1), .int (iI x2)] (n := 7) (Nat.le_of_ble_eq_true rfl)
  rw [lg_entry_eq]
  generalize (lg_sl [.ref (ad 3), .int (iI x1), .int (iI x2)] ++ List.replicate (7 - (lg_sl [.ref (ad 3), .int (iI x1), .int (iI x2)]).length) Slot.unset).toArray = ls at hl ⊢
  have hl : lv_has ls 7 [(0, .ref (ad 3)), (1, .int (iI x1)), (2, .int (iI x2))] := hl
  refine r_iconst hx hb d_Ne_gainOfCellAt_0 ?_
  refine lv_istore_n (lv' := [(3, .int (iI 0)), (0, .ref (ad 3)), (1, .int (iI x1)), (2, .int (iI x2))]) hx hb d_Ne_gainOfCellAt_1 rfl hl (by decide) rfl (fun ls hl => ?_)
  refine lv_aload_n hx hb d_Ne_gainOfCellAt_2 rfl (lv_at hl 1 rfl) ?_
  refine r_getr (t2 := 19) hx hb hts in_Ne hown hS 3 rfl rfl 3 (by decide) rfl (hts _ tw_122) d_Ne_gainOfCellAt_3 ?_
  refine lv_iload_n hx hb d_Ne_gainOfCellAt_6 rfl (lv_at hl 2 rfl) ?_
  obtain ⟨g13, h⟩ := h
  obtain ⟨g14, h⟩ := h
  refine r_iald (id := 13) (i := x1) (z := A 13 x1) hx hb hS 19 rfl g13 g14 d_Ne_gainOfCellAt_7 rfl ?_
  refine lv_istore (lv' := [(4, .int (iI (A 13 x1))), (3, .int (iI 0)), (0, .ref (ad 3)), (1, .int (iI x1)), (2, .int (iI x2))]) hx hb d_Ne_gainOfCellAt_8 hl (by decide) rfl (fun ls hl => ?_)
  refine r_iconst hx hb d_Ne_gainOfCellAt_10 ?_
  refine lv_istore (lv' := [(5, .int (iI 0)), (4, .int (iI (A 13 x1))), (3, .int (iI 0)), (0, .ref (ad 3)), (1, .int (iI x1)), (2, .int (iI x2))]) hx hb d_Ne_gainOfCellAt_11 hl (by decide) rfl (fun ls hl => ?_)
  exact s_Ne_gainOfCellAt_b13 C0 hA _ _ _ _ _ h _ _ _ hS (lv_sub hl [3, 4, 5, 2, 1, 0] rfl)
/-! Ce_exchange -/
def w_Ce_exchange (mo : Nat) (F : Nat → Int) (A : Nat → Int → Int) (x1 : Int) (x2 : Int) (Q : (Nat → Int) → (Nat → Int → Int) → Prop) : Prop := 0 ≤ x1 ∧ x1 < 60 ∧ 0 ≤ x2 ∧ x2 < 60 ∧ w_Ce_put mo F A x1 (A 8 x2) (A 9 x2) (fun F5 A5 => w_Ce_put mo F5 A5 x2 (A 8 x1) (A 9 x1) (fun F6 A6 => Q F6 A6))
set_option maxHeartbeats 4000000 in
set_option maxRecDepth 100000 in
theorem ct_Ce_exchange (l : Launch) (D : va_G) (ad : Nat → Nat) (cA : Nat → ClassId) (mo sz : Nat) (F : Nat → Int) (A : Nat → Int → Int) (x1 : Int) (x2 : Int) (Q : (Nat → Int) → (Nat → Int → Int) → Prop) (h : w_Ce_exchange mo F A x1 x2 Q) : Met l y_Ce_exchange (Cond.code y_Ce_exchange c_Ce_exchange 5 (none) :: gT) ({ frames := 1, cells := 0, slots := 0, locals := 23 } : Room) (va_Pc [.ref (ad 2), .int (iI x1), .int (iI x2)] (x_P D vCl shU ad cA (NN mo) sz F A)) (x_QV D vCl shU ad cA (NN mo) (va_A (x_w shU ad cA (NN mo) F A) sz) Q) 0 0 (va_A (x_w shU ad cA (NN mo) F A) sz) := by
  refine Met.ofW (cc := c_Ce_exchange) (maxL := 5) (ret := none) (by decide) rfl ?_
  intro p e s m args below meth c s₁ B hml hv
  obtain ⟨rfl, hsz, hP, hK, hD0, hN0⟩ := hv
  have hx := B.exec
  have hb := B.bytes
  have hr := B.returns
  have hts0 := atoms_spec (ws := (Cond.code y_Ce_exchange c_Ce_exchange 5 (none) :: gT)) B.pre
  have hts : ∀ w ∈ gT, w.before _ s = true := fun w h => hts0 w (List.mem_cons_of_mem _ h)
  have hown : s.vm.findClass R_Ce = some m.cls := findClass_of_methodNamed B.named
  have hlocks := B.notSynchronized
  subst hsz
  have hS : x_S D vCl shU ad cA (NN mo) (va_A (x_w shU ad cA (NN mo) F A) s.heap.size) s F A s.heap [] := ⟨hK, hP, hD0.self, va_S.rf, hN0⟩
  have hA : ∀ q : Nat, s.heap.size ≤ q → va_A (x_w shU ad cA (NN mo) F A) s.heap.size q := fun q h => Or.inr h
  have C0 : x_C p s m [.ref (ad 2), .int (iI x1), .int (iI x2)].toArray meth c c_Ce_exchange 5 (none) gT R_Ce := ⟨hx, hb, hr, hml, hown, hts, hlocks⟩
  generalize va_A (x_w shU ad cA (NN mo) F A) s.heap.size = A0 at hS hA ⊢
  have hl := lv_entry [.ref (ad 2), .int (iI x1), .int (iI x2)] (n := 5) (Nat.le_of_ble_eq_true rfl)
  rw [lg_entry_eq]
  generalize (lg_sl [.ref (ad 2), .int (iI x1), .int (iI x2)] ++ List.replicate (5 - (lg_sl [.ref (ad 2), .int (iI x1), .int (iI x2)]).length) Slot.unset).toArray = ls at hl ⊢
  have hl : lv_has ls 5 [(0, .ref (ad 2)), (1, .int (iI x1)), (2, .int (iI x2))] := hl
  refine lv_aload_n hx hb d_Ce_exchange_0 rfl (lv_at hl 0 rfl) ?_
  refine r_getr (t2 := 14) hx hb hts in_Ce hown hS 2 rfl rfl 5 (by decide) rfl (hts _ tw_85) d_Ce_exchange_1 ?_
  refine lv_iload_n hx hb d_Ce_exchange_4 rfl (lv_at hl 1 rfl) ?_
  obtain ⟨g1, h⟩ := h
  obtain ⟨g2, h⟩ := h
  refine r_iald (id := 8) (i := x1) (z := A 8 x1) hx hb hS 14 rfl g1 g2 d_Ce_exchange_5 rfl ?_
  refine lv_istore_n (lv' := [(3, .int (iI (A 8 x1))), (0, .ref (ad 2)), (1, .int (iI x1)), (2, .int (iI x2))]) hx hb d_Ce_exchange_6 rfl hl (by decide) rfl (fun ls hl => ?_)
  refine lv_aload_n hx hb d_Ce_exchange_7 rfl (lv_at hl 1 rfl) ?_
  refine r_getr (t2 := 15) hx hb hts in_Ce hown hS 2 rfl rfl 6 (by decide) rfl (hts _ tw_87) d_Ce_exchange_8 ?_
  refine lv_iload_n hx hb d_Ce_exchange_11 rfl (lv_at hl 2 rfl) ?_
  refine r_iald (id := 9) (i := x1) (z := A 9 x1) hx hb hS 15 rfl g1 g2 d_Ce_exchange_12 rfl ?_
  refine lv_istore (lv' := [(4, .int (iI (A 9 x1))), (3, .int (iI (A 8 x1))), (0, .ref (ad 2)), (1, .int (iI x1)), (2, .int (iI x2))]) hx hb d_Ce_exchange_13 hl (by decide) rfl (fun ls hl => ?_)
  refine lv_aload_n hx hb d_Ce_exchange_15 rfl (lv_at hl 2 rfl) ?_
  refine lv_iload_n hx hb d_Ce_exchange_16 rfl (lv_at hl 3 rfl) ?_
  refine lv_aload_n hx hb d_Ce_exchange_17 rfl (lv_at hl 2 rfl) ?_
  refine r_getr (t2 := 14) hx hb hts in_Ce hown hS 2 rfl rfl 5 (by decide) rfl (hts _ tw_85) d_Ce_exchange_18 ?_
  refine lv_iload_n hx hb d_Ce_exchange_21 rfl (lv_at hl 4 rfl) ?_
  obtain ⟨g3, h⟩ := h
  obtain ⟨g4, h⟩ := h
  refine r_iald (id := 8) (i := x2) (z := A 8 x2) hx hb hS 14 rfl g3 g4 d_Ce_exchange_22 rfl ?_
  refine lv_aload_n hx hb d_Ce_exchange_23 rfl (lv_at hl 2 rfl) ?_
  refine r_getr (t2 := 15) hx hb hts in_Ce hown hS 2 rfl rfl 6 (by decide) rfl (hts _ tw_87) d_Ce_exchange_24 ?_
  refine lv_iload_n hx hb d_Ce_exchange_27 rfl (lv_at hl 4 rfl) ?_
  refine r_iald (id := 9) (i := x2) (z := A 9 x2) hx hb hS 15 rfl g3 g4 d_Ce_exchange_28 rfl ?_
  refine r_cv (va_runV (As := [.int (iI x1), .int (iI (A 8 x2)), .int (iI (A 9 x2))]) (rest := []) ⟨hx, hb, hml, hown, hts⟩ (ct_Ce_put l D ad cA mo _ _ _ _ _ _ _ h) (cwV 3 hts (gV tw_581 tw_305 tw_306 tw_4 tw_307) rfl rfl rfl (by decide +kernel) ⟨Nat.le_of_ble_eq_true rfl, Nat.le_of_ble_eq_true rfl⟩) (x_preV hS 2 rfl rfl _) rfl rfl hl.1 rfl (lv_room (Nat.le_of_ble_eq_true rfl)) d_Ce_exchange_29 ⟨Nat.zero_le _, Nat.zero_le _⟩) hS hA (fun F5 A5 H locs hS h => ?_)
  refine lv_aload_n hx hb d_Ce_exchange_32 rfl (lv_at hl 2 rfl) ?_
  refine lv_iload_n hx hb d_Ce_exchange_33 rfl (lv_at hl 4 rfl) ?_
  refine lv_iload_n hx hb d_Ce_exchange_34 rfl (lv_at hl 1 rfl) ?_
  refine lv_iload hx hb d_Ce_exchange_35 (lv_at hl 0 rfl) ?_
  refine r_cv (va_runV (As := [.int (iI x2), .int (iI (A 8 x1)), .int (iI (A 9 x1))]) (rest := []) ⟨hx, hb, hml, hown, hts⟩ (ct_Ce_put l D ad cA mo _ _ _ _ _ _ _ h) (cwV 3 hts (gV tw_581 tw_305 tw_306 tw_4 tw_307) rfl rfl rfl (by decide +kernel) ⟨Nat.le_of_ble_eq_true rfl, Nat.le_of_ble_eq_true rfl⟩) (x_preV hS 2 rfl rfl _) rfl rfl hl.1 rfl (lv_room (Nat.le_of_ble_eq_true rfl)) d_Ce_exchange_37 ⟨Nat.zero_le _, Nat.zero_le _⟩) hS hA (fun F6 A6 H locs hS h => ?_)
  exact r_vret hx hb hr hlocks hS h d_Ce_exchange_40
/-! Ne_exchangeFirstPair -/
def w_Ne_exchangeFirstPair_b67 (mo : Nat) (Q : Int → (Nat → Int) → (Nat → Int → Int) → Prop) (I2 : Int → (Nat → Int) → (Nat → Int → Int) → Prop) (I17 : Int → (Nat → Int) → (Nat → Int → Int) → Prop) (x1 : Int) (x2 : Int) (F : Nat → Int) (A : Nat → Int → Int) : Prop := I17 (x2 + 1) F A
def w_Ne_exchangeFirstPair_b17 (mo : Nat) (Q : Int → (Nat → Int) → (Nat → Int → Int) → Prop) (I2 : Int → (Nat → Int) → (Nat → Int → Int) → Prop) (x1 : Int) (x2 : Int) (F : Nat → Int) (A : Nat → Int → Int) : Prop := Lp3 (fun I17 x2 F A => rg x2 ∧ rg (F 4) ∧ (((F 4) ≤ x2 → I2 (x1 + 1) F A) ∧ (¬ (F 4) ≤ x2 → w_Ce_alike mo F A x1 x2 (fun z3 => rg z3 ∧ ((z3 = 0 → w_Ne_exchangeFirstPair_b67 mo Q I2 I17 x1 x2 F A) ∧ (¬ z3 = 0 → w_Ne_gainOfCellAt mo F A x1 x2 (fun z5 => w_Ne_gainOfCellAt mo F A x2 x1 (fun z6 => rg (z5 + z6) ∧ (((z5 + z6) ≤ 0 → w_Ne_exchangeFirstPair_b67 mo Q I2 I17 x1 x2 F A) ∧ (¬ (z5 + z6) ≤ 0 → w_Ce_exchange mo F A x1 x2 (fun F8 A8 => Q 1 F8 A8))))))))))) x2 F A
def w_Ne_exchangeFirstPair_b2 (mo : Nat) (Q : Int → (Nat → Int) → (Nat → Int → Int) → Prop) (x1 : Int) (F : Nat → Int) (A : Nat → Int → Int) : Prop := Lp3 (fun I2 x1 F A => rg x1 ∧ rg (F 4) ∧ (((F 4) ≤ x1 → Q 0 F A) ∧ (¬ (F 4) ≤ x1 → w_Ne_exchangeFirstPair_b17 mo Q I2 x1 (x1 + 1) F A))) x1 F A
def w_Ne_exchangeFirstPair (mo : Nat) (F : Nat → Int) (A : Nat → Int → Int)  (Q : Int → (Nat → Int) → (Nat → Int → Int) → Prop) : Prop := w_Ne_exchangeFirstPair_b2 mo Q 0 F A
set_option maxHeartbeats 4000000 in
set_option maxRecDepth 100000 in
theorem s_Ne_exchangeFirstPair_b67 (C0 : x_C p s m args meth c c_Ne_exchangeFirstPair 3 (some .boolean) gT R_Ne) (hA : ∀ q : Nat, s.heap.size ≤ q → A0 q) {mo : Nat} {Q : Int → (Nat → Int) → (Nat → Int → Int) → Prop} {I2 : Int → (Nat → Int) → (Nat → Int → Int) → Prop} {I17 : Int → (Nat → Int) → (Nat → Int → Int) → Prop} (x1 : Int) (x2 : Int) (F : Nat → Int) (A : Nat → Int → Int) (hI2 : ∀ (x1 : Int) (F : Nat → Int) (A : Nat → Int → Int), I2 x1 F A → ∀ (H : Heap) (locs : List Loc) (ls : Array Slot), x_S D vCl shU ad cA (NN mo) A0 s F A H locs → lv_has ls 3 [(0, .ref (ad 3)), (1, .int (iI x1))] → W p l e ({ frames := 3, cells := 0, slots := 0, locals := 81 } : Room) s m args below meth c H locs 0 0 (MQ below (x_QI D vCl shU ad cA (NN mo) A0 Q) args s 0 0 A0) (F0 m 2 ls [])) (hI17 : ∀ (x2 : Int) (F : Nat → Int) (A : Nat → Int → Int), I17 x2 F A → ∀ (H : Heap) (locs : List Loc) (ls : Array Slot), x_S D vCl shU ad cA (NN mo) A0 s F A H locs → lv_has ls 3 [(0, .ref (ad 3)), (1, .int (iI x1)), (2, .int (iI x2))] → W p l e ({ frames := 3, cells := 0, slots := 0, locals := 81 } : Room) s m args below meth c H locs 0 0 (MQ below (x_QI D vCl shU ad cA (NN mo) A0 Q) args s 0 0 A0) (F0 m 17 ls [])) (h : w_Ne_exchangeFirstPair_b67 mo Q I2 I17 x1 x2 F A) (H : Heap) (locs : List Loc) (ls : Array Slot) (hS : x_S D vCl shU ad cA (NN mo) A0 s F A H locs) (hl : lv_has ls 3 [(0, .ref (ad 3)), (1, .int (iI x1)), (2, .int (iI x2))]) : W p l e ({ frames := 3, cells := 0, slots := 0, locals := 81 } : Room) s m args below meth c H locs 0 0 (MQ below (x_QI D vCl shU ad cA (NN mo) A0 Q) args s 0 0 A0) (F0 m 67 ls []) := by
  obtain ⟨hx, hb, hr, hml, hown, hts, hlocks⟩ := id C0
  refine r_iinc (k := 2) (z := x2) (lv' := [(2, .int (iI (x2 + 1))), (0, .ref (ad 3)), (1, .int (iI x1))]) hx hb d_Ne_exchangeFirstPair_67 hl rfl (by decide) rfl (fun ls hl => ?_)
  refine lv_goto (tgt := 17) hx hb d_Ne_exchangeFirstPair_70 (by decide) ?_
  exact hI17 _ _ _ h _ _ _ hS (lv_sub hl [1, 2, 0] rfl)
set_option maxHeartbeats 4000000 in
set_option maxRecDepth 100000 in
theorem s_Ne_exchangeFirstPair_b17 (C0 : x_C p s m args meth c c_Ne_exchangeFirstPair 3 (some .boolean) gT R_Ne) (hA : ∀ q : Nat, s.heap.size ≤ q → A0 q) {mo : Nat} {Q : Int → (Nat → Int) → (Nat → Int → Int) → Prop} {I2 : Int → (Nat → Int) → (Nat → Int → Int) → Prop} (x1 : Int) (x2 : Int) (F : Nat → Int) (A : Nat → Int → Int) (hI2 : ∀ (x1 : Int) (F : Nat → Int) (A : Nat → Int → Int), I2 x1 F A → ∀ (H : Heap) (locs : List Loc) (ls : Array Slot), x_S D vCl shU ad cA (NN mo) A0 s F A H locs → lv_has ls 3 [(0, .ref (ad 3)), (1, .int (iI x1))] → W p l e ({ frames := 3, cells := 0, slots := 0, locals := 81 } : Room) s m args below meth c H locs 0 0 (MQ below (x_QI D vCl shU ad cA (NN mo) A0 Q) args s 0 0 A0) (F0 m 2 ls [])) (h : w_Ne_exchangeFirstPair_b17 mo Q I2 x1 x2 F A) (H : Heap) (locs : List Loc) (ls : Array Slot) (hS : x_S D vCl shU ad cA (NN mo) A0 s F A H locs) (hl : lv_has ls 3 [(0, .ref (ad 3)), (1, .int (iI x1)), (2, .int (iI x2))]) : W p l e ({ frames := 3, cells := 0, slots := 0, locals := 81 } : Room) s m args below meth c H locs 0 0 (MQ below (x_QI D vCl shU ad cA (NN mo) A0 Q) args s 0 0 A0) (F0 m 17 ls []) := by
  obtain ⟨hx, hb, hr, hml, hown, hts, hlocks⟩ := id C0
  refine h (fun x2 F A => ∀ (H : Heap) (locs : List Loc) (ls : Array Slot), x_S D vCl shU ad cA (NN mo) A0 s F A H locs → lv_has ls 3 [(0, .ref (ad 3)), (1, .int (iI x1)), (2, .int (iI x2))] → W p l e ({ frames := 3, cells := 0, slots := 0, locals := 81 } : Room) s m args below meth c H locs 0 0 (MQ below (x_QI D vCl shU ad cA (NN mo) A0 Q) args s 0 0 A0) (F0 m 17 ls [])) ?_ H locs ls hS hl
  intro x2 F A h H locs ls hS hl
  refine lv_iload_n hx hb d_Ne_exchangeFirstPair_17 rfl (lv_at hl 2 rfl) ?_
  refine lv_aload_n hx hb d_Ne_exchangeFirstPair_18 rfl (lv_at hl 0 rfl) ?_
  refine r_getr (t2 := 2) hx hb hts in_Ne hown hS 3 rfl rfl 0 (by decide) rfl (hts _ tw_119) d_Ne_exchangeFirstPair_19 ?_
  refine r_geti (z := F 4) hx hb hts in_Ce hown hS 2 rfl rfl 8 (by decide) rfl (hts _ tw_93) d_Ne_exchangeFirstPair_22 rfl ?_
  obtain ⟨g1, h⟩ := h
  obtain ⟨g2, h⟩ := h
  refine r_icmp_ge (tgt := 73) hx hb g1 g2 d_Ne_exchangeFirstPair_25 (by decide) (fun hc => ?_) (fun hc => ?_)
  · replace h := h.1 hc
    refine r_iinc (k := 1) (z := x1) (lv' := [(1, .int (iI (x1 + 1))), (0, .ref (ad 3)), (2, .int (iI x2))]) hx hb d_Ne_exchangeFirstPair_73 hl rfl (by decide) rfl (fun ls hl => ?_)
    refine lv_goto (tgt := 2) hx hb d_Ne_exchangeFirstPair_76 (by decide) ?_
    exact hI2 _ _ _ h _ _ _ hS (lv_sub hl [1, 0] rfl)
  · replace h := h.2 hc
    refine lv_aload_n hx hb d_Ne_exchangeFirstPair_28 rfl (lv_at hl 0 rfl) ?_
    refine r_getr (t2 := 2) hx hb hts in_Ne hown hS 3 rfl rfl 0 (by decide) rfl (hts _ tw_119) d_Ne_exchangeFirstPair_29 ?_
    refine lv_iload_n hx hb d_Ne_exchangeFirstPair_32 rfl (lv_at hl 1 rfl) ?_
    refine lv_iload_n hx hb d_Ne_exchangeFirstPair_33 rfl (lv_at hl 2 rfl) ?_
    refine r_ci (va_runV (As := [.int (iI x1), .int (iI x2)]) (rest := []) ⟨hx, hb, hml, hown, hts⟩ (ct_Ce_alike l D ad cA mo _ _ _ _ _ _ h) (cwV 2 hts (gV tw_561 tw_562 tw_563 tw_4 tw_564) rfl rfl rfl (by decide +kernel) ⟨Nat.le_of_ble_eq_true rfl, Nat.le_of_ble_eq_true rfl⟩) (x_preV hS 2 rfl rfl _) rfl rfl hl.1 rfl (lv_room (Nat.le_of_ble_eq_true rfl)) d_Ne_exchangeFirstPair_34 ⟨Nat.zero_le _, Nat.zero_le _⟩) hS hA (fun z3 F3 A3 H locs hS h => ?_)
    obtain ⟨rfl, rfl, h⟩ := h
    obtain ⟨g4, h⟩ := h
    refine r_if_eq (tgt := 67) hx hb g4 d_Ne_exchangeFirstPair_37 (by decide) (fun hc => ?_) (fun hc => ?_)
    · replace h := h.1 hc
      exact s_Ne_exchangeFirstPair_b67 C0 hA _ _ _ _ hI2 (fun _ _ _ h => h) h _ _ _ hS (lv_sub hl [0, 1, 2] rfl)
    · replace h := h.2 hc
      refine lv_aload_n hx hb d_Ne_exchangeFirstPair_40 rfl (lv_at hl 0 rfl) ?_
      refine lv_iload_n hx hb d_Ne_exchangeFirstPair_41 rfl (lv_at hl 1 rfl) ?_
      refine lv_iload_n hx hb d_Ne_exchangeFirstPair_42 rfl (lv_at hl 2 rfl) ?_
      refine r_ci (va_runV (As := [.int (iI x1), .int (iI x2)]) (rest := []) ⟨hx, hb, hml, hown, hts⟩ (ct_Ne_gainOfCellAt l D ad cA mo _ _ _ _ _ _ h) (cwV 2 hts (gV tw_565 tw_567 tw_s_Ne_gainOfCellAt tw_5 tw_568) rfl rfl rfl (by decide +kernel) ⟨Nat.le_of_ble_eq_true rfl, Nat.le_of_ble_eq_true rfl⟩) (x_preV hS 3 rfl rfl _) rfl rfl hl.1 rfl (lv_room (Nat.le_of_ble_eq_true rfl)) d_Ne_exchangeFirstPair_43 ⟨Nat.zero_le _, Nat.zero_le _⟩) hS hA (fun z5 F5 A5 H locs hS h => ?_)
      obtain ⟨rfl, rfl, h⟩ := h
      refine lv_aload_n hx hb d_Ne_exchangeFirstPair_46 rfl (lv_at hl 0 rfl) ?_
      refine lv_iload_n hx hb d_Ne_exchangeFirstPair_47 rfl (lv_at hl 2 rfl) ?_
      refine lv_iload_n hx hb d_Ne_exchangeFirstPair_48 rfl (lv_at hl 1 rfl) ?_
      refine r_ci (va_runV (As := [.int (iI x2), .int (iI x1)]) (rest := [.int (iI z5)]) ⟨hx, hb, hml, hown, hts⟩ (ct_Ne_gainOfCellAt l D ad cA mo _ _ _ _ _ _ h) (cwV 2 hts (gV tw_565 tw_567 tw_s_Ne_gainOfCellAt tw_5 tw_568) rfl rfl rfl (by decide +kernel) ⟨Nat.le_of_ble_eq_true rfl, Nat.le_of_ble_eq_true rfl⟩) (x_preV hS 3 rfl rfl _) rfl rfl hl.1 rfl (lv_room (Nat.le_of_ble_eq_true rfl)) d_Ne_exchangeFirstPair_49 ⟨Nat.zero_le _, Nat.zero_le _⟩) hS hA (fun z6 F6 A6 H locs hS h => ?_)
      obtain ⟨rfl, rfl, h⟩ := h
      refine r_iadd hx hb d_Ne_exchangeFirstPair_52 ?_
      obtain ⟨g7, h⟩ := h
      refine r_if_le (tgt := 67) hx hb g7 d_Ne_exchangeFirstPair_53 (by decide) (fun hc => ?_) (fun hc => ?_)
      · replace h := h.1 hc
        exact s_Ne_exchangeFirstPair_b67 C0 hA _ _ _ _ hI2 (fun _ _ _ h => h) h _ _ _ hS (lv_sub hl [0, 1, 2] rfl)
      · replace h := h.2 hc
        refine lv_aload_n hx hb d_Ne_exchangeFirstPair_56 rfl (lv_at hl 0 rfl) ?_
        refine r_getr (t2 := 2) hx hb hts in_Ne hown hS 3 rfl rfl 0 (by decide) rfl (hts _ tw_119) d_Ne_exchangeFirstPair_57 ?_
        refine lv_iload_n hx hb d_Ne_exchangeFirstPair_60 rfl (lv_at hl 1 rfl) ?_
        refine lv_iload_n hx hb d_Ne_exchangeFirstPair_61 rfl (lv_at hl 2 rfl) ?_
        refine r_cv (va_runV (As := [.int (iI x1), .int (iI x2)]) (rest := []) ⟨hx, hb, hml, hown, hts⟩ (ct_Ce_exchange l D ad cA mo _ _ _ _ _ _ h) (cwV 2 hts (gV tw_577 tw_578 tw_579 tw_4 tw_580) rfl rfl rfl (by decide +kernel) ⟨Nat.le_of_ble_eq_true rfl, Nat.le_of_ble_eq_true rfl⟩) (x_preV hS 2 rfl rfl _) rfl rfl hl.1 rfl (lv_room (Nat.le_of_ble_eq_true rfl)) d_Ne_exchangeFirstPair_62 ⟨Nat.zero_le _, Nat.zero_le _⟩) hS hA (fun F8 A8 H locs hS h => ?_)
        refine r_iconst hx hb d_Ne_exchangeFirstPair_65 ?_
        exact r_zret (z := 1) hx hb hr hlocks (Or.inr rfl) hS h d_Ne_exchangeFirstPair_66
set_option maxHeartbeats 4000000 in
set_option maxRecDepth 100000 in
theorem s_Ne_exchangeFirstPair_b2 (C0 : x_C p s m args meth c c_Ne_exchangeFirstPair 3 (some .boolean) gT R_Ne) (hA : ∀ q : Nat, s.heap.size ≤ q → A0 q) {mo : Nat} {Q : Int → (Nat → Int) → (Nat → Int → Int) → Prop} (x1 : Int) (F : Nat → Int) (A : Nat → Int → Int) (h : w_Ne_exchangeFirstPair_b2 mo Q x1 F A) (H : Heap) (locs : List Loc) (ls : Array Slot) (hS : x_S D vCl shU ad cA (NN mo) A0 s F A H locs) (hl : lv_has ls 3 [(0, .ref (ad 3)), (1, .int (iI x1))]) : W p l e ({ frames := 3, cells := 0, slots := 0, locals := 81 } : Room) s m args below meth c H locs 0 0 (MQ below (x_QI D vCl shU ad cA (NN mo) A0 Q) args s 0 0 A0) (F0 m 2 ls []) := by
  obtain ⟨hx, hb, hr, hml, hown, hts, hlocks⟩ := id C0
  refine h (fun x1 F A => ∀ (H : Heap) (locs : List Loc) (ls : Array Slot), x_S D vCl shU ad cA (NN mo) A0 s F A H locs → lv_has ls 3 [(0, .ref (ad 3)), (1, .int (iI x1))] → W p l e ({ frames := 3, cells := 0, slots := 0, locals := 81 } : Room) s m args below meth c H locs 0 0 (MQ below (x_QI D vCl shU ad cA (NN mo) A0 Q) args s 0 0 A0) (F0 m 2 ls [])) ?_ H locs ls hS hl
  intro x1 F A h H locs ls hS hl
  refine lv_iload_n hx hb d_Ne_exchangeFirstPair_2 rfl (lv_at hl 1 rfl) ?_
  refine lv_aload_n hx hb d_Ne_exchangeFirstPair_3 rfl (lv_at hl 0 rfl) ?_
  refine r_getr (t2 := 2) hx hb hts in_Ne hown hS 3 rfl rfl 0 (by decide) rfl (hts _ tw_119) d_Ne_exchangeFirstPair_4 ?_
  refine r_geti (z := F 4) hx hb hts in_Ce hown hS 2 rfl rfl 8 (by decide) rfl (hts _ tw_93) d_Ne_exchangeFirstPair_7 rfl ?_
  obtain ⟨g9, h⟩ := h
  obtain ⟨g10, h⟩ := h
  refine r_icmp_ge (tgt := 79) hx hb g9 g10 d_Ne_exchangeFirstPair_10 (by decide) (fun hc => ?_) (fun hc => ?_)
  · replace h := h.1 hc
    refine r_iconst hx hb d_Ne_exchangeFirstPair_79 ?_
    exact r_zret (z := 0) hx hb hr hlocks (Or.inl rfl) hS h d_Ne_exchangeFirstPair_80
  · replace h := h.2 hc
    refine lv_iload_n hx hb d_Ne_exchangeFirstPair_13 rfl (lv_at hl 1 rfl) ?_
    refine r_iconst hx hb d_Ne_exchangeFirstPair_14 ?_
    refine r_iadd hx hb d_Ne_exchangeFirstPair_15 ?_
    refine lv_istore_n (lv' := [(2, .int (iI (x1 + 1))), (0, .ref (ad 3)), (1, .int (iI x1))]) hx hb d_Ne_exchangeFirstPair_16 rfl hl (by decide) rfl (fun ls hl => ?_)
    exact s_Ne_exchangeFirstPair_b17 C0 hA _ _ _ _ (fun _ _ _ h => h) h _ _ _ hS (lv_sub hl [1, 2, 0] rfl)
set_option maxHeartbeats 4000000 in
set_option maxRecDepth 100000 in
theorem ct_Ne_exchangeFirstPair (l : Launch) (D : va_G) (ad : Nat → Nat) (cA : Nat → ClassId) (mo sz : Nat) (F : Nat → Int) (A : Nat → Int → Int)  (Q : Int → (Nat → Int) → (Nat → Int → Int) → Prop) (h : w_Ne_exchangeFirstPair mo F A  Q) : Met l y_Ne_exchangeFirstPair (Cond.code y_Ne_exchangeFirstPair c_Ne_exchangeFirstPair 3 (some .boolean) :: gT) ({ frames := 3, cells := 0, slots := 0, locals := 81 } : Room) (va_Pc [.ref (ad 3)] (x_P D vCl shU ad cA (NN mo) sz F A)) (x_QI D vCl shU ad cA (NN mo) (va_A (x_w shU ad cA (NN mo) F A) sz) Q) 0 0 (va_A (x_w shU ad cA (NN mo) F A) sz) := by
  refine Met.ofW (cc := c_Ne_exchangeFirstPair) (maxL := 3) (ret := some .boolean) (by decide) rfl ?_
  intro p e s m args below meth c s₁ B hml hv
  obtain ⟨rfl, hsz, hP, hK, hD0, hN0⟩ := hv
  have hx := B.exec
  have hb := B.bytes
  have hr := B.returns
  have hts0 := atoms_spec (ws := (Cond.code y_Ne_exchangeFirstPair c_Ne_exchangeFirstPair 3 (some .boolean) :: gT)) B.pre
  have hts : ∀ w ∈ gT, w.before _ s = true := fun w h => hts0 w (List.mem_cons_of_mem _ h)
  have hown : s.vm.findClass R_Ne = some m.cls := findClass_of_methodNamed B.named
  have hlocks := B.notSynchronized
  subst hsz
  have hS : x_S D vCl shU ad cA (NN mo) (va_A (x_w shU ad cA (NN mo) F A) s.heap.size) s F A s.heap [] := ⟨hK, hP, hD0.self, va_S.rf, hN0⟩
  have hA : ∀ q : Nat, s.heap.size ≤ q → va_A (x_w shU ad cA (NN mo) F A) s.heap.size q := fun q h => Or.inr h
  have C0 : x_C p s m [.ref (ad 3)].toArray meth c c_Ne_exchangeFirstPair 3 (some .boolean) gT R_Ne := ⟨hx, hb, hr, hml, hown, hts, hlocks⟩
  generalize va_A (x_w shU ad cA (NN mo) F A) s.heap.size = A0 at hS hA ⊢
  have hl := lv_entry [.ref (ad 3)] (n := 3) (Nat.le_of_ble_eq_true rfl)
  rw [lg_entry_eq]
  generalize (lg_sl [.ref (ad 3)] ++ List.replicate (3 - (lg_sl [.ref (ad 3)]).length) Slot.unset).toArray = ls at hl ⊢
  have hl : lv_has ls 3 [(0, .ref (ad 3))] := hl
  refine r_iconst hx hb d_Ne_exchangeFirstPair_0 ?_
  refine lv_istore_n (lv' := [(1, .int (iI 0)), (0, .ref (ad 3))]) hx hb d_Ne_exchangeFirstPair_1 rfl hl (by decide) rfl (fun ls hl => ?_)
  exact s_Ne_exchangeFirstPair_b2 C0 hA _ _ _ h _ _ _ hS (lv_sub hl [1, 0] rfl)
/-! Ne_chain -/
def w_Ne_chain (mo : Nat) (F : Nat → Int) (A : Nat → Int → Int) (x1 : Int) (x2 : Int) (Q : (Nat → Int) → (Nat → Int → Int) → Prop) : Prop := 0 ≤ x1 ∧ x1 < 160 ∧ 0 ≤ x2 ∧ x2 < 60 ∧ Q F (ua (ua (ua A 11 x1 x2) 12 x1 (A 13 x2)) 13 x2 x1)
set_option maxHeartbeats 4000000 in
set_option maxRecDepth 100000 in
theorem ct_Ne_chain (l : Launch) (D : va_G) (ad : Nat → Nat) (cA : Nat → ClassId) (mo sz : Nat) (F : Nat → Int) (A : Nat → Int → Int) (x1 : Int) (x2 : Int) (Q : (Nat → Int) → (Nat → Int → Int) → Prop) (h : w_Ne_chain mo F A x1 x2 Q) : Met l y_Ne_chain (Cond.code y_Ne_chain c_Ne_chain 3 (none) :: gT) ({ frames := 0, cells := 0, slots := 0, locals := 0 } : Room) (va_Pc [.ref (ad 3), .int (iI x1), .int (iI x2)] (x_P D vCl shU ad cA (NN mo) sz F A)) (x_QV D vCl shU ad cA (NN mo) (va_A (x_w shU ad cA (NN mo) F A) sz) Q) 0 0 (va_A (x_w shU ad cA (NN mo) F A) sz) := by
  refine Met.ofW (cc := c_Ne_chain) (maxL := 3) (ret := none) (by decide) rfl ?_
  intro p e s m args below meth c s₁ B hml hv
  obtain ⟨rfl, hsz, hP, hK, hD0, hN0⟩ := hv
  have hx := B.exec
  have hb := B.bytes
  have hr := B.returns
  have hts0 := atoms_spec (ws := (Cond.code y_Ne_chain c_Ne_chain 3 (none) :: gT)) B.pre
  have hts : ∀ w ∈ gT, w.before _ s = true := fun w h => hts0 w (List.mem_cons_of_mem _ h)
  have hown : s.vm.findClass R_Ne = some m.cls := findClass_of_methodNamed B.named
  have hlocks := B.notSynchronized
  subst hsz
  have hS : x_S D vCl shU ad cA (NN mo) (va_A (x_w shU ad cA (NN mo) F A) s.heap.size) s F A s.heap [] := ⟨hK, hP, hD0.self, va_S.rf, hN0⟩
  have hA : ∀ q : Nat, s.heap.size ≤ q → va_A (x_w shU ad cA (NN mo) F A) s.heap.size q := fun q h => Or.inr h
  have C0 : x_C p s m [.ref (ad 3), .int (iI x1), .int (iI x2)].toArray meth c c_Ne_chain 3 (none) gT R_Ne := ⟨hx, hb, hr, hml, hown, hts, hlocks⟩
  generalize va_A (x_w shU ad cA (NN mo) F A) s.heap.size = A0 at hS hA ⊢
  have hl := lv_entry [.ref (ad 3), .int (iI x1), .int (iI x2)] (n := 3) (Nat.le_of_ble_eq_true rfl)
  rw [lg_entry_eq]
  generalize (lg_sl [.ref (ad 3), .int (iI x1), .int (iI x2)] ++ List.replicate (3 - (lg_sl [.ref (ad 3), .int (iI x1), .int (iI x2)]).length) Slot.unset).toArray = ls at hl ⊢
  have hl : lv_has ls 3 [(0, .ref (ad 3)), (1, .int (iI x1)), (2, .int (iI x2))] := hl
  refine lv_aload_n hx hb d_Ne_chain_0 rfl (lv_at hl 0 rfl) ?_
  refine r_getr (t2 := 17) hx hb hts in_Ne hown hS 3 rfl rfl 1 (by decide) rfl (hts _ tw_120) d_Ne_chain_1 ?_
  refine lv_iload_n hx hb d_Ne_chain_4 rfl (lv_at hl 1 rfl) ?_
  refine lv_iload_n hx hb d_Ne_chain_5 rfl (lv_at hl 2 rfl) ?_
  obtain ⟨g1, h⟩ := h
  obtain ⟨g2, h⟩ := h
  refine r_iast (id := 11) (i := x1) (v := x2) hx hb hS 17 rfl g1 g2 (seta_11 ad cA mo _ _ _ _) d_Ne_chain_6 (fun H locs hS => ?_)
  refine lv_aload_n hx hb d_Ne_chain_7 rfl (lv_at hl 0 rfl) ?_
  refine r_getr (t2 := 18) hx hb hts in_Ne hown hS 3 rfl rfl 2 (by decide) rfl (hts _ tw_121) d_Ne_chain_8 ?_
  refine lv_iload_n hx hb d_Ne_chain_11 rfl (lv_at hl 1 rfl) ?_
  refine lv_aload_n hx hb d_Ne_chain_12 rfl (lv_at hl 0 rfl) ?_
  refine r_getr (t2 := 19) hx hb hts in_Ne hown hS 3 rfl rfl 3 (by decide) rfl (hts _ tw_122) d_Ne_chain_13 ?_
  refine lv_iload_n hx hb d_Ne_chain_16 rfl (lv_at hl 2 rfl) ?_
  obtain ⟨g3, h⟩ := h
  obtain ⟨g4, h⟩ := h
  refine r_iald (id := 13) (i := x2) (z := A 13 x2) hx hb hS 19 rfl g3 g4 d_Ne_chain_17 rfl ?_
  refine r_iast (id := 12) (i := x1) (v := (A 13 x2)) hx hb hS 18 rfl g1 g2 (seta_12 ad cA mo _ _ _ _) d_Ne_chain_18 (fun H locs hS => ?_)
  refine lv_aload_n hx hb d_Ne_chain_19 rfl (lv_at hl 0 rfl) ?_
  refine r_getr (t2 := 19) hx hb hts in_Ne hown hS 3 rfl rfl 3 (by decide) rfl (hts _ tw_122) d_Ne_chain_20 ?_
  refine lv_iload_n hx hb d_Ne_chain_23 rfl (lv_at hl 2 rfl) ?_
  refine lv_iload_n hx hb d_Ne_chain_24 rfl (lv_at hl 1 rfl) ?_
  refine r_iast (id := 13) (i := x2) (v := x1) hx hb hS 19 rfl g3 g4 (seta_13 ad cA mo _ _ _ _) d_Ne_chain_25 (fun H locs hS => ?_)
  exact r_vret hx hb hr hlocks hS h d_Ne_chain_26
/-! Ne_add -/
def w_Ne_add (mo : Nat) (F : Nat → Int) (A : Nat → Int → Int) (x1 : Int) (x2 : Int) (Q : Int → (Nat → Int) → (Nat → Int → Int) → Prop) : Prop := w_Ne_chain mo F A (2 * (F 5)) x1 (fun F1 A1 => w_Ne_chain mo F1 A1 ((2 * (F1 5)) + 1) x2 (fun F2 A2 => Q (((F2 5) + 1) - 1) (uf F2 5 ((F2 5) + 1)) A2))
set_option maxHeartbeats 4000000 in
set_option maxRecDepth 100000 in
theorem ct_Ne_add (l : Launch) (D : va_G) (ad : Nat → Nat) (cA : Nat → ClassId) (mo sz : Nat) (F : Nat → Int) (A : Nat → Int → Int) (x1 : Int) (x2 : Int) (Q : Int → (Nat → Int) → (Nat → Int → Int) → Prop) (h : w_Ne_add mo F A x1 x2 Q) : Met l y_Ne_add (Cond.code y_Ne_add c_Ne_add 3 (some .int) :: gT) ({ frames := 1, cells := 0, slots := 0, locals := 22 } : Room) (va_Pc [.ref (ad 3), .int (iI x1), .int (iI x2)] (x_P D vCl shU ad cA (NN mo) sz F A)) (x_QI D vCl shU ad cA (NN mo) (va_A (x_w shU ad cA (NN mo) F A) sz) Q) 0 0 (va_A (x_w shU ad cA (NN mo) F A) sz) := by
  refine Met.ofW (cc := c_Ne_add) (maxL := 3) (ret := some .int) (by decide) rfl ?_
  intro p e s m args below meth c s₁ B hml hv
  obtain ⟨rfl, hsz, hP, hK, hD0, hN0⟩ := hv
  have hx := B.exec
  have hb := B.bytes
  have hr := B.returns
  have hts0 := atoms_spec (ws := (Cond.code y_Ne_add c_Ne_add 3 (some .int) :: gT)) B.pre
  have hts : ∀ w ∈ gT, w.before _ s = true := fun w h => hts0 w (List.mem_cons_of_mem _ h)
  have hown : s.vm.findClass R_Ne = some m.cls := findClass_of_methodNamed B.named
  have hlocks := B.notSynchronized
  subst hsz
  have hS : x_S D vCl shU ad cA (NN mo) (va_A (x_w shU ad cA (NN mo) F A) s.heap.size) s F A s.heap [] := ⟨hK, hP, hD0.self, va_S.rf, hN0⟩
  have hA : ∀ q : Nat, s.heap.size ≤ q → va_A (x_w shU ad cA (NN mo) F A) s.heap.size q := fun q h => Or.inr h
  have C0 : x_C p s m [.ref (ad 3), .int (iI x1), .int (iI x2)].toArray meth c c_Ne_add 3 (some .int) gT R_Ne := ⟨hx, hb, hr, hml, hown, hts, hlocks⟩
  generalize va_A (x_w shU ad cA (NN mo) F A) s.heap.size = A0 at hS hA ⊢
  have hl := lv_entry [.ref (ad 3), .int (iI x1), .int (iI x2)] (n := 3) (Nat.le_of_ble_eq_true rfl)
  rw [lg_entry_eq]
  generalize (lg_sl [.ref (ad 3), .int (iI x1), .int (iI x2)] ++ List.replicate (3 - (lg_sl [.ref (ad 3), .int (iI x1), .int (iI x2)]).length) Slot.unset).toArray = ls at hl ⊢
  have hl : lv_has ls 3 [(0, .ref (ad 3)), (1, .int (iI x1)), (2, .int (iI x2))] := hl
  refine lv_aload_n hx hb d_Ne_add_0 rfl (lv_at hl 0 rfl) ?_
  refine r_iconst hx hb d_Ne_add_1 ?_
  refine lv_aload_n hx hb d_Ne_add_2 rfl (lv_at hl 0 rfl) ?_
  refine r_geti (z := F 5) hx hb hts in_Ne hown hS 3 rfl rfl 4 (by decide) rfl (hts _ tw_123) d_Ne_add_3 rfl ?_
  refine r_imul hx hb d_Ne_add_6 ?_
  refine lv_iload_n hx hb d_Ne_add_7 rfl (lv_at hl 1 rfl) ?_
  refine r_cv (va_runV (As := [.int (iI (2 * (F 5))), .int (iI x1)]) (rest := []) ⟨hx, hb, hml, hown, hts⟩ (ct_Ne_chain l D ad cA mo _ _ _ _ _ _ h) (cwV 2 hts (gV tw_595 tw_597 tw_s_Ne_chain tw_5 tw_598) rfl rfl rfl (by decide +kernel) ⟨Nat.le_of_ble_eq_true rfl, Nat.le_of_ble_eq_true rfl⟩) (x_preV hS 3 rfl rfl _) rfl rfl hl.1 rfl (lv_room (Nat.le_of_ble_eq_true rfl)) d_Ne_add_8 ⟨Nat.zero_le _, Nat.zero_le _⟩) hS hA (fun F1 A1 H locs hS h => ?_)
  refine lv_aload_n hx hb d_Ne_add_11 rfl (lv_at hl 0 rfl) ?_
  refine r_iconst hx hb d_Ne_add_12 ?_
  refine lv_aload_n hx hb d_Ne_add_13 rfl (lv_at hl 0 rfl) ?_
  refine r_geti (z := F1 5) hx hb hts in_Ne hown hS 3 rfl rfl 4 (by decide) rfl (hts _ tw_123) d_Ne_add_14 rfl ?_
  refine r_imul hx hb d_Ne_add_17 ?_
  refine r_iconst hx hb d_Ne_add_18 ?_
  refine r_iadd hx hb d_Ne_add_19 ?_
  refine lv_iload_n hx hb d_Ne_add_20 rfl (lv_at hl 2 rfl) ?_
  refine r_cv (va_runV (As := [.int (iI ((2 * (F1 5)) + 1)), .int (iI x2)]) (rest := []) ⟨hx, hb, hml, hown, hts⟩ (ct_Ne_chain l D ad cA mo _ _ _ _ _ _ h) (cwV 2 hts (gV tw_595 tw_597 tw_s_Ne_chain tw_5 tw_598) rfl rfl rfl (by decide +kernel) ⟨Nat.le_of_ble_eq_true rfl, Nat.le_of_ble_eq_true rfl⟩) (x_preV hS 3 rfl rfl _) rfl rfl hl.1 rfl (lv_room (Nat.le_of_ble_eq_true rfl)) d_Ne_add_21 ⟨Nat.zero_le _, Nat.zero_le _⟩) hS hA (fun F2 A2 H locs hS h => ?_)
  refine lv_aload_n hx hb d_Ne_add_24 rfl (lv_at hl 0 rfl) ?_
  refine lv_dup hx hb d_Ne_add_25 rfl ?_
  refine r_geti (z := F2 5) hx hb hts in_Ne hown hS 3 rfl rfl 4 (by decide) rfl (hts _ tw_123) d_Ne_add_26 rfl ?_
  refine r_iconst hx hb d_Ne_add_29 ?_
  refine r_iadd hx hb d_Ne_add_30 ?_
  refine r_puti (j := 5) (v := (F2 5) + 1) hx hb hts in_Ne t_Ne to_Ne nm_Ne hown hS 3 rfl rfl 4 (by decide) (hts _ tw_123) rfl (by decide +kernel) (setf_5 ad cA mo _ _ _) (by decide) d_Ne_add_31 (fun H locs hS => ?_)
  refine lv_aload_n hx hb d_Ne_add_34 rfl (lv_at hl 0 rfl) ?_
  refine r_geti (z := (F2 5) + 1) hx hb hts in_Ne hown hS 3 rfl rfl 4 (by decide) rfl (hts _ tw_123) d_Ne_add_35 rfl ?_
  refine r_iconst hx hb d_Ne_add_38 ?_
  refine r_isub hx hb d_Ne_add_39 ?_
  exact r_iret (z := (((F2 5) + 1) - 1)) hx hb hr hlocks hS h d_Ne_add_40
/-! Ne_length -/
def w_Ne_length_b4 (mo : Nat) (F : Nat → Int) (A : Nat → Int → Int) (Q : Int → Prop) (x1 : Int) (x3 : Int) : Prop := Lp2 (fun I4 x1 x3 => rg x3 ∧ rg (F 5) ∧ (((F 5) ≤ x3 → Q x1) ∧ (¬ (F 5) ≤ x3 → 0 ≤ (2 * x3) ∧ (2 * x3) < 160 ∧ 0 ≤ ((2 * x3) + 1) ∧ ((2 * x3) + 1) < 160 ∧ w_Ce_distance mo F A (A 11 (2 * x3)) (A 11 ((2 * x3) + 1)) (fun z7 => rg z7 ∧ I4 (x1 + z7) (x3 + 1))))) x1 x3
def w_Ne_length (mo : Nat) (F : Nat → Int) (A : Nat → Int → Int)  (Q : Int → Prop) : Prop := w_Ne_length_b4 mo F A Q 0 0
set_option maxHeartbeats 4000000 in
set_option maxRecDepth 100000 in
theorem s_Ne_length_b4 (C0 : x_C p s m args meth c c_Ne_length 4 (some .long) gT R_Ne) (hA : ∀ q : Nat, s.heap.size ≤ q → A0 q) {mo : Nat} {F : Nat → Int} {A : Nat → Int → Int} {Q : Int → Prop} (x1 : Int) (x3 : Int) (h : w_Ne_length_b4 mo F A Q x1 x3) (H : Heap) (locs : List Loc) (ls : Array Slot) (hS : x_S D vCl shU ad cA (NN mo) A0 s F A H locs) (hl : lv_has ls 4 [(0, .ref (ad 3)), (1, .long (lI x1)), (3, .int (iI x3))]) : W p l e ({ frames := 2, cells := 0, slots := 0, locals := 55 } : Room) s m args below meth c H locs 0 0 (MQ below (x_QL D vCl shU ad cA (NN mo) A0 (fun z F1 A1 => F = F1 ∧ A = A1 ∧ Q z)) args s 0 0 A0) (F0 m 4 ls []) := by
  obtain ⟨hx, hb, hr, hml, hown, hts, hlocks⟩ := id C0
  refine h (fun x1 x3 => ∀ (H : Heap) (locs : List Loc) (ls : Array Slot), x_S D vCl shU ad cA (NN mo) A0 s F A H locs → lv_has ls 4 [(0, .ref (ad 3)), (1, .long (lI x1)), (3, .int (iI x3))] → W p l e ({ frames := 2, cells := 0, slots := 0, locals := 55 } : Room) s m args below meth c H locs 0 0 (MQ below (x_QL D vCl shU ad cA (NN mo) A0 (fun z F1 A1 => F = F1 ∧ A = A1 ∧ Q z)) args s 0 0 A0) (F0 m 4 ls [])) ?_ H locs ls hS hl
  intro x1 x3 h H locs ls hS hl
  refine lv_iload_n hx hb d_Ne_length_4 rfl (lv_at hl 2 rfl) ?_
  refine lv_aload_n hx hb d_Ne_length_5 rfl (lv_at hl 0 rfl) ?_
  refine r_geti (z := F 5) hx hb hts in_Ne hown hS 3 rfl rfl 4 (by decide) rfl (hts _ tw_123) d_Ne_length_6 rfl ?_
  obtain ⟨g1, h⟩ := h
  obtain ⟨g2, h⟩ := h
  refine r_icmp_ge (tgt := 47) hx hb g1 g2 d_Ne_length_9 (by decide) (fun hc => ?_) (fun hc => ?_)
  · replace h := h.1 hc
    refine lv_lload_n hx hb d_Ne_length_47 rfl (lv_at hl 1 rfl) ?_
    exact r_lret (z := x1) hx hb hr hlocks hS ⟨rfl, rfl, h⟩ d_Ne_length_48
  · replace h := h.2 hc
    refine lv_lload_n hx hb d_Ne_length_12 rfl (lv_at hl 1 rfl) ?_
    refine lv_aload_n hx hb d_Ne_length_13 rfl (lv_at hl 0 rfl) ?_
    refine r_getr (t2 := 2) hx hb hts in_Ne hown hS 3 rfl rfl 0 (by decide) rfl (hts _ tw_119) d_Ne_length_14 ?_
    refine lv_aload_n hx hb d_Ne_length_17 rfl (lv_at hl 0 rfl) ?_
    refine r_getr (t2 := 17) hx hb hts in_Ne hown hS 3 rfl rfl 1 (by decide) rfl (hts _ tw_120) d_Ne_length_18 ?_
    refine r_iconst hx hb d_Ne_length_21 ?_
    refine lv_iload_n hx hb d_Ne_length_22 rfl (lv_at hl 2 rfl) ?_
    refine r_imul hx hb d_Ne_length_23 ?_
    obtain ⟨g3, h⟩ := h
    obtain ⟨g4, h⟩ := h
    refine r_iald (id := 11) (i := (2 * x3)) (z := A 11 (2 * x3)) hx hb hS 17 rfl g3 g4 d_Ne_length_24 rfl ?_
    refine lv_aload_n hx hb d_Ne_length_25 rfl (lv_at hl 0 rfl) ?_
    refine r_getr (t2 := 17) hx hb hts in_Ne hown hS 3 rfl rfl 1 (by decide) rfl (hts _ tw_120) d_Ne_length_26 ?_
    refine r_iconst hx hb d_Ne_length_29 ?_
    refine lv_iload_n hx hb d_Ne_length_30 rfl (lv_at hl 2 rfl) ?_
    refine r_imul hx hb d_Ne_length_31 ?_
    refine r_iconst hx hb d_Ne_length_32 ?_
    refine r_iadd hx hb d_Ne_length_33 ?_
    obtain ⟨g5, h⟩ := h
    obtain ⟨g6, h⟩ := h
    refine r_iald (id := 11) (i := ((2 * x3) + 1)) (z := A 11 ((2 * x3) + 1)) hx hb hS 17 rfl g5 g6 d_Ne_length_34 rfl ?_
    refine r_ci (va_runV (As := [.int (iI (A 11 (2 * x3))), .int (iI (A 11 ((2 * x3) + 1)))]) (rest := [.long (lI x1)]) ⟨hx, hb, hml, hown, hts⟩ (ct_Ce_distance l D ad cA mo _ _ _ _ _ _ h) (cwV 2 hts (gV tw_569 tw_570 tw_571 tw_4 tw_572) rfl rfl rfl (by decide +kernel) ⟨Nat.le_of_ble_eq_true rfl, Nat.le_of_ble_eq_true rfl⟩) (x_preV hS 2 rfl rfl _) rfl rfl hl.1 rfl (lv_room (Nat.le_of_ble_eq_true rfl)) d_Ne_length_35 ⟨Nat.zero_le _, Nat.zero_le _⟩) hS hA (fun z7 F7 A7 H locs hS h => ?_)
    obtain ⟨rfl, rfl, h⟩ := h
    obtain ⟨g8, h⟩ := h
    refine r_i2l hx hb g8 d_Ne_length_38 ?_
    refine r_ladd hx hb d_Ne_length_39 ?_
    refine lv_lstore_n (lv' := [(1, .long (lI (x1 + z7))), (0, .ref (ad 3)), (3, .int (iI x3))]) hx hb d_Ne_length_40 rfl hl (by decide) rfl (fun ls hl => ?_)
    refine r_iinc (k := 2) (z := x3) (lv' := [(3, .int (iI (x3 + 1))), (1, .long (lI (x1 + z7))), (0, .ref (ad 3))]) hx hb d_Ne_length_41 hl rfl (by decide) rfl (fun ls hl => ?_)
    refine lv_goto (tgt := 4) hx hb d_Ne_length_44 (by decide) ?_
    exact h _ _ _ hS (lv_sub hl [2, 1, 0] rfl)
set_option maxHeartbeats 4000000 in
set_option maxRecDepth 100000 in
theorem ct_Ne_length (l : Launch) (D : va_G) (ad : Nat → Nat) (cA : Nat → ClassId) (mo sz : Nat) (F : Nat → Int) (A : Nat → Int → Int)  (Q : Int → Prop) (h : w_Ne_length mo F A  Q) : Met l y_Ne_length (Cond.code y_Ne_length c_Ne_length 4 (some .long) :: gT) ({ frames := 2, cells := 0, slots := 0, locals := 55 } : Room) (va_Pc [.ref (ad 3)] (x_P D vCl shU ad cA (NN mo) sz F A)) (x_QL D vCl shU ad cA (NN mo) (va_A (x_w shU ad cA (NN mo) F A) sz) (fun z F1 A1 => F = F1 ∧ A = A1 ∧ Q z)) 0 0 (va_A (x_w shU ad cA (NN mo) F A) sz) := by
  refine Met.ofW (cc := c_Ne_length) (maxL := 4) (ret := some .long) (by decide) rfl ?_
  intro p e s m args below meth c s₁ B hml hv
  obtain ⟨rfl, hsz, hP, hK, hD0, hN0⟩ := hv
  have hx := B.exec
  have hb := B.bytes
  have hr := B.returns
  have hts0 := atoms_spec (ws := (Cond.code y_Ne_length c_Ne_length 4 (some .long) :: gT)) B.pre
  have hts : ∀ w ∈ gT, w.before _ s = true := fun w h => hts0 w (List.mem_cons_of_mem _ h)
  have hown : s.vm.findClass R_Ne = some m.cls := findClass_of_methodNamed B.named
  have hlocks := B.notSynchronized
  subst hsz
  have hS : x_S D vCl shU ad cA (NN mo) (va_A (x_w shU ad cA (NN mo) F A) s.heap.size) s F A s.heap [] := ⟨hK, hP, hD0.self, va_S.rf, hN0⟩
  have hA : ∀ q : Nat, s.heap.size ≤ q → va_A (x_w shU ad cA (NN mo) F A) s.heap.size q := fun q h => Or.inr h
  have C0 : x_C p s m [.ref (ad 3)].toArray meth c c_Ne_length 4 (some .long) gT R_Ne := ⟨hx, hb, hr, hml, hown, hts, hlocks⟩
  generalize va_A (x_w shU ad cA (NN mo) F A) s.heap.size = A0 at hS hA ⊢
  have hl := lv_entry [.ref (ad 3)] (n := 4) (Nat.le_of_ble_eq_true rfl)
  rw [lg_entry_eq]
  generalize (lg_sl [.ref (ad 3)] ++ List.replicate (4 - (lg_sl [.ref (ad 3)]).length) Slot.unset).toArray = ls at hl ⊢
  have hl : lv_has ls 4 [(0, .ref (ad 3))] := hl
  refine r_lconst hx hb 0 d_Ne_length_0 (by decide +kernel) ?_
  refine lv_lstore_n (lv' := [(1, .long (lI 0)), (0, .ref (ad 3))]) hx hb d_Ne_length_1 rfl hl (by decide) rfl (fun ls hl => ?_)
  refine r_iconst hx hb d_Ne_length_2 ?_
  refine lv_istore_n (lv' := [(3, .int (iI 0)), (1, .long (lI 0)), (0, .ref (ad 3))]) hx hb d_Ne_length_3 rfl hl (by decide) rfl (fun ls hl => ?_)
  exact s_Ne_length_b4 C0 hA _ _ h _ _ _ hS (lv_sub hl [2, 1, 0] rfl)
/-! Gr_isFree -/
def w_Gr_isFree_b47 (mo : Nat) (F : Nat → Int) (A : Nat → Int → Int) (Q : Int → Prop) (I3 : Int → Prop) (x1 : Int) (x2 : Int) (x3 : Int) (x4 : Int) : Prop := I3 (x4 + 1)
def w_Gr_isFree_b3 (mo : Nat) (F : Nat → Int) (A : Nat → Int → Int) (Q : Int → Prop) (x1 : Int) (x2 : Int) (x3 : Int) (x4 : Int) : Prop := Lp1 (fun I3 x4 => rg x4 ∧ rg (F 3) ∧ (((F 3) ≤ x4 → Q 0) ∧ (¬ (F 3) ≤ x4 → 0 ≤ x4 ∧ x4 < (mo : Int) ∧ rg (A 0 x4) ∧ rg x1 ∧ ((¬ (A 0 x4) = x1 → w_Gr_isFree_b47 mo F A Q I3 x1 x2 x3 x4) ∧ ((A 0 x4) = x1 → rg (A 1 x4) ∧ rg x2 ∧ ((x2 < (A 1 x4) → w_Gr_isFree_b47 mo F A Q I3 x1 x2 x3 x4) ∧ (¬ x2 < (A 1 x4) → rg x3 ∧ rg (A 2 x4) ∧ (((A 2 x4) < x3 → w_Gr_isFree_b47 mo F A Q I3 x1 x2 x3 x4) ∧ (¬ (A 2 x4) < x3 → Q 1))))))))) x4
def w_Gr_isFree (mo : Nat) (F : Nat → Int) (A : Nat → Int → Int) (x1 : Int) (x2 : Int) (x3 : Int) (Q : Int → Prop) : Prop := w_Gr_isFree_b3 mo F A Q x1 x2 x3 0
set_option maxHeartbeats 4000000 in
set_option maxRecDepth 100000 in
theorem s_Gr_isFree_b47 (C0 : x_C p s m args meth c c_Gr_isFree 5 (some .boolean) gT R_Gr) (hA : ∀ q : Nat, s.heap.size ≤ q → A0 q) {mo : Nat} {F : Nat → Int} {A : Nat → Int → Int} {Q : Int → Prop} {I3 : Int → Prop} (x1 : Int) (x2 : Int) (x3 : Int) (x4 : Int) (hI3 : ∀ (x4 : Int), I3 x4 → ∀ (H : Heap) (locs : List Loc) (ls : Array Slot), x_S D vCl shU ad cA (NN mo) A0 s F A H locs → lv_has ls 5 [(0, .ref (ad 1)), (1, .int (iI x1)), (2, .int (iI x2)), (3, .int (iI x3)), (4, .int (iI x4))] → W p l e ({ frames := 0, cells := 0, slots := 0, locals := 0 } : Room) s m args below meth c H locs 0 0 (MQ below (x_QI D vCl shU ad cA (NN mo) A0 (fun z F1 A1 => F = F1 ∧ A = A1 ∧ Q z)) args s 0 0 A0) (F0 m 3 ls [])) (h : w_Gr_isFree_b47 mo F A Q I3 x1 x2 x3 x4) (H : Heap) (locs : List Loc) (ls : Array Slot) (hS : x_S D vCl shU ad cA (NN mo) A0 s F A H locs) (hl : lv_has ls 5 [(0, .ref (ad 1)), (1, .int (iI x1)), (2, .int (iI x2)), (3, .int (iI x3)), (4, .int (iI x4))]) : W p l e ({ frames := 0, cells := 0, slots := 0, locals := 0 } : Room) s m args below meth c H locs 0 0 (MQ below (x_QI D vCl shU ad cA (NN mo) A0 (fun z F1 A1 => F = F1 ∧ A = A1 ∧ Q z)) args s 0 0 A0) (F0 m 47 ls []) := by
  obtain ⟨hx, hb, hr, hml, hown, hts, hlocks⟩ := id C0
  refine r_iinc (k := 4) (z := x4) (lv' := [(4, .int (iI (x4 + 1))), (0, .ref (ad 1)), (1, .int (iI x1)), (2, .int (iI x2)), (3, .int (iI x3))]) hx hb d_Gr_isFree_47 hl rfl (by decide) rfl (fun ls hl => ?_)
  refine lv_goto (tgt := 3) hx hb d_Gr_isFree_50 (by decide) ?_
  exact hI3 _ h _ _ _ hS (lv_sub hl [1, 2, 3, 4, 0] rfl)
set_option maxHeartbeats 4000000 in
set_option maxRecDepth 100000 in
theorem s_Gr_isFree_b3 (C0 : x_C p s m args meth c c_Gr_isFree 5 (some .boolean) gT R_Gr) (hA : ∀ q : Nat, s.heap.size ≤ q → A0 q) {mo : Nat} {F : Nat → Int} {A : Nat → Int → Int} {Q : Int → Prop} (x1 : Int) (x2 : Int) (x3 : Int) (x4 : Int) (h : w_Gr_isFree_b3 mo F A Q x1 x2 x3 x4) (H : Heap) (locs : List Loc) (ls : Array Slot) (hS : x_S D vCl shU ad cA (NN mo) A0 s F A H locs) (hl : lv_has ls 5 [(0, .ref (ad 1)), (1, .int (iI x1)), (2, .int (iI x2)), (3, .int (iI x3)), (4, .int (iI x4))]) : W p l e ({ frames := 0, cells := 0, slots := 0, locals := 0 } : Room) s m args below meth c H locs 0 0 (MQ below (x_QI D vCl shU ad cA (NN mo) A0 (fun z F1 A1 => F = F1 ∧ A = A1 ∧ Q z)) args s 0 0 A0) (F0 m 3 ls []) := by
  obtain ⟨hx, hb, hr, hml, hown, hts, hlocks⟩ := id C0
  refine h (fun x4 => ∀ (H : Heap) (locs : List Loc) (ls : Array Slot), x_S D vCl shU ad cA (NN mo) A0 s F A H locs → lv_has ls 5 [(0, .ref (ad 1)), (1, .int (iI x1)), (2, .int (iI x2)), (3, .int (iI x3)), (4, .int (iI x4))] → W p l e ({ frames := 0, cells := 0, slots := 0, locals := 0 } : Room) s m args below meth c H locs 0 0 (MQ below (x_QI D vCl shU ad cA (NN mo) A0 (fun z F1 A1 => F = F1 ∧ A = A1 ∧ Q z)) args s 0 0 A0) (F0 m 3 ls [])) ?_ H locs ls hS hl
  intro x4 h H locs ls hS hl
  refine lv_iload hx hb d_Gr_isFree_3 (lv_at hl 4 rfl) ?_
  refine lv_aload_n hx hb d_Gr_isFree_5 rfl (lv_at hl 0 rfl) ?_
  refine r_geti (z := F 3) hx hb hts in_Gr hown hS 1 rfl rfl 5 (by decide) rfl (hts _ tw_54) d_Gr_isFree_6 rfl ?_
  obtain ⟨g1, h⟩ := h
  obtain ⟨g2, h⟩ := h
  refine r_icmp_ge (tgt := 53) hx hb g1 g2 d_Gr_isFree_9 (by decide) (fun hc => ?_) (fun hc => ?_)
  · replace h := h.1 hc
    refine r_iconst hx hb d_Gr_isFree_53 ?_
    exact r_zret (z := 0) hx hb hr hlocks (Or.inl rfl) hS ⟨rfl, rfl, h⟩ d_Gr_isFree_54
  · replace h := h.2 hc
    refine lv_aload_n hx hb d_Gr_isFree_12 rfl (lv_at hl 0 rfl) ?_
    refine r_getr (t2 := 6) hx hb hts in_Gr hown hS 1 rfl rfl 2 (by decide) rfl (hts _ tw_48) d_Gr_isFree_13 ?_
    refine lv_iload hx hb d_Gr_isFree_16 (lv_at hl 4 rfl) ?_
    obtain ⟨g3, h⟩ := h
    obtain ⟨g4, h⟩ := h
    refine r_iald (id := 0) (i := x4) (z := A 0 x4) hx hb hS 6 rfl g3 g4 d_Gr_isFree_18 rfl ?_
    refine lv_iload_n hx hb d_Gr_isFree_19 rfl (lv_at hl 1 rfl) ?_
    obtain ⟨g5, h⟩ := h
    obtain ⟨g6, h⟩ := h
    refine r_icmp_ne (tgt := 47) hx hb g5 g6 d_Gr_isFree_20 (by decide) (fun hc => ?_) (fun hc => ?_)
    · replace h := h.1 hc
      exact s_Gr_isFree_b47 C0 hA _ _ _ _ (fun _ h => h) h _ _ _ hS (lv_sub hl [0, 1, 2, 3, 4] rfl)
    · replace h := h.2 hc
      refine lv_aload_n hx hb d_Gr_isFree_23 rfl (lv_at hl 0 rfl) ?_
      refine r_getr (t2 := 7) hx hb hts in_Gr hown hS 1 rfl rfl 3 (by decide) rfl (hts _ tw_50) d_Gr_isFree_24 ?_
      refine lv_iload hx hb d_Gr_isFree_27 (lv_at hl 4 rfl) ?_
      refine r_iald (id := 1) (i := x4) (z := A 1 x4) hx hb hS 7 rfl g3 g4 d_Gr_isFree_29 rfl ?_
      refine lv_iload_n hx hb d_Gr_isFree_30 rfl (lv_at hl 2 rfl) ?_
      obtain ⟨g7, h⟩ := h
      obtain ⟨g8, h⟩ := h
      refine r_icmp_gt (tgt := 47) hx hb g7 g8 d_Gr_isFree_31 (by decide) (fun hc => ?_) (fun hc => ?_)
      · replace h := h.1 hc
        exact s_Gr_isFree_b47 C0 hA _ _ _ _ (fun _ h => h) h _ _ _ hS (lv_sub hl [0, 1, 2, 3, 4] rfl)
      · replace h := h.2 hc
        refine lv_iload_n hx hb d_Gr_isFree_34 rfl (lv_at hl 3 rfl) ?_
        refine lv_aload_n hx hb d_Gr_isFree_35 rfl (lv_at hl 0 rfl) ?_
        refine r_getr (t2 := 8) hx hb hts in_Gr hown hS 1 rfl rfl 4 (by decide) rfl (hts _ tw_52) d_Gr_isFree_36 ?_
        refine lv_iload hx hb d_Gr_isFree_39 (lv_at hl 4 rfl) ?_
        refine r_iald (id := 2) (i := x4) (z := A 2 x4) hx hb hS 8 rfl g3 g4 d_Gr_isFree_41 rfl ?_
        obtain ⟨g9, h⟩ := h
        obtain ⟨g10, h⟩ := h
        refine r_icmp_gt (tgt := 47) hx hb g9 g10 d_Gr_isFree_42 (by decide) (fun hc => ?_) (fun hc => ?_)
        · replace h := h.1 hc
          exact s_Gr_isFree_b47 C0 hA _ _ _ _ (fun _ h => h) h _ _ _ hS (lv_sub hl [0, 1, 2, 3, 4] rfl)
        · replace h := h.2 hc
          refine r_iconst hx hb d_Gr_isFree_45 ?_
          exact r_zret (z := 1) hx hb hr hlocks (Or.inr rfl) hS ⟨rfl, rfl, h⟩ d_Gr_isFree_46
set_option maxHeartbeats 4000000 in
set_option maxRecDepth 100000 in
theorem ct_Gr_isFree (l : Launch) (D : va_G) (ad : Nat → Nat) (cA : Nat → ClassId) (mo sz : Nat) (F : Nat → Int) (A : Nat → Int → Int) (x1 : Int) (x2 : Int) (x3 : Int) (Q : Int → Prop) (h : w_Gr_isFree mo F A x1 x2 x3 Q) : Met l y_Gr_isFree (Cond.code y_Gr_isFree c_Gr_isFree 5 (some .boolean) :: gT) ({ frames := 0, cells := 0, slots := 0, locals := 0 } : Room) (va_Pc [.ref (ad 1), .int (iI x1), .int (iI x2), .int (iI x3)] (x_P D vCl shU ad cA (NN mo) sz F A)) (x_QI D vCl shU ad cA (NN mo) (va_A (x_w shU ad cA (NN mo) F A) sz) (fun z F1 A1 => F = F1 ∧ A = A1 ∧ Q z)) 0 0 (va_A (x_w shU ad cA (NN mo) F A) sz) := by
  refine Met.ofW (cc := c_Gr_isFree) (maxL := 5) (ret := some .boolean) (by decide) rfl ?_
  intro p e s m args below meth c s₁ B hml hv
  obtain ⟨rfl, hsz, hP, hK, hD0, hN0⟩ := hv
  have hx := B.exec
  have hb := B.bytes
  have hr := B.returns
  have hts0 := atoms_spec (ws := (Cond.code y_Gr_isFree c_Gr_isFree 5 (some .boolean) :: gT)) B.pre
  have hts : ∀ w ∈ gT, w.before _ s = true := fun w h => hts0 w (List.mem_cons_of_mem _ h)
  have hown : s.vm.findClass R_Gr = some m.cls := findClass_of_methodNamed B.named
  have hlocks := B.notSynchronized
  subst hsz
  have hS : x_S D vCl shU ad cA (NN mo) (va_A (x_w shU ad cA (NN mo) F A) s.heap.size) s F A s.heap [] := ⟨hK, hP, hD0.self, va_S.rf, hN0⟩
  have hA : ∀ q : Nat, s.heap.size ≤ q → va_A (x_w shU ad cA (NN mo) F A) s.heap.size q := fun q h => Or.inr h
  have C0 : x_C p s m [.ref (ad 1), .int (iI x1), .int (iI x2), .int (iI x3)].toArray meth c c_Gr_isFree 5 (some .boolean) gT R_Gr := ⟨hx, hb, hr, hml, hown, hts, hlocks⟩
  generalize va_A (x_w shU ad cA (NN mo) F A) s.heap.size = A0 at hS hA ⊢
  have hl := lv_entry [.ref (ad 1), .int (iI x1), .int (iI x2), .int (iI x3)] (n := 5) (Nat.le_of_ble_eq_true rfl)
  rw [lg_entry_eq]
  generalize (lg_sl [.ref (ad 1), .int (iI x1), .int (iI x2), .int (iI x3)] ++ List.replicate (5 - (lg_sl [.ref (ad 1), .int (iI x1), .int (iI x2), .int (iI x3)]).length) Slot.unset).toArray = ls at hl ⊢
  have hl : lv_has ls 5 [(0, .ref (ad 1)), (1, .int (iI x1)), (2, .int (iI x2)), (3, .int (iI x3))] := hl
  refine r_iconst hx hb d_Gr_isFree_0 ?_
  refine lv_istore (lv' := [(4, .int (iI 0)), (0, .ref (ad 1)), (1, .int (iI x1)), (2, .int (iI x2)), (3, .int (iI x3))]) hx hb d_Gr_isFree_1 hl (by decide) rfl (fun ls hl => ?_)
  exact s_Gr_isFree_b3 C0 hA _ _ _ _ h _ _ _ hS (lv_sub hl [1, 2, 3, 4, 0] rfl)
/-! Ce_shareSite -/
def w_Ce_shareSite (mo : Nat) (F : Nat → Int) (A : Nat → Int → Int) (x1 : Int) (x2 : Int) (Q : Int → Prop) : Prop := 0 ≤ x1 ∧ x1 < 60 ∧ 0 ≤ x2 ∧ x2 < 60 ∧ rg (A 9 x1) ∧ rg (A 9 x2) ∧ ((¬ (A 9 x1) = (A 9 x2) → Q 0) ∧ ((A 9 x1) = (A 9 x2) → w_Ce_end mo F A x2 (fun z7 => rg (A 8 x1) ∧ rg z7 ∧ ((z7 ≤ (A 8 x1) → Q 0) ∧ (¬ z7 ≤ (A 8 x1) → w_Ce_end mo F A x1 (fun z10 => rg (A 8 x2) ∧ rg z10 ∧ ((z10 ≤ (A 8 x2) → Q 0) ∧ (¬ z10 ≤ (A 8 x2) → Q 1))))))))
set_option maxHeartbeats 4000000 in
set_option maxRecDepth 100000 in
theorem ct_Ce_shareSite (l : Launch) (D : va_G) (ad : Nat → Nat) (cA : Nat → ClassId) (mo sz : Nat) (F : Nat → Int) (A : Nat → Int → Int) (x1 : Int) (x2 : Int) (Q : Int → Prop) (h : w_Ce_shareSite mo F A x1 x2 Q) : Met l y_Ce_shareSite (Cond.code y_Ce_shareSite c_Ce_shareSite 3 (some .boolean) :: gT) ({ frames := 1, cells := 0, slots := 0, locals := 21 } : Room) (va_Pc [.ref (ad 2), .int (iI x1), .int (iI x2)] (x_P D vCl shU ad cA (NN mo) sz F A)) (x_QI D vCl shU ad cA (NN mo) (va_A (x_w shU ad cA (NN mo) F A) sz) (fun z F1 A1 => F = F1 ∧ A = A1 ∧ Q z)) 0 0 (va_A (x_w shU ad cA (NN mo) F A) sz) := by
  refine Met.ofW (cc := c_Ce_shareSite) (maxL := 3) (ret := some .boolean) (by decide) rfl ?_
  intro p e s m args below meth c s₁ B hml hv
  obtain ⟨rfl, hsz, hP, hK, hD0, hN0⟩ := hv
  have hx := B.exec
  have hb := B.bytes
  have hr := B.returns
  have hts0 := atoms_spec (ws := (Cond.code y_Ce_shareSite c_Ce_shareSite 3 (some .boolean) :: gT)) B.pre
  have hts : ∀ w ∈ gT, w.before _ s = true := fun w h => hts0 w (List.mem_cons_of_mem _ h)
  have hown : s.vm.findClass R_Ce = some m.cls := findClass_of_methodNamed B.named
  have hlocks := B.notSynchronized
  subst hsz
  have hS : x_S D vCl shU ad cA (NN mo) (va_A (x_w shU ad cA (NN mo) F A) s.heap.size) s F A s.heap [] := ⟨hK, hP, hD0.self, va_S.rf, hN0⟩
  have hA : ∀ q : Nat, s.heap.size ≤ q → va_A (x_w shU ad cA (NN mo) F A) s.heap.size q := fun q h => Or.inr h
  have C0 : x_C p s m [.ref (ad 2), .int (iI x1), .int (iI x2)].toArray meth c c_Ce_shareSite 3 (some .boolean) gT R_Ce := ⟨hx, hb, hr, hml, hown, hts, hlocks⟩
  generalize va_A (x_w shU ad cA (NN mo) F A) s.heap.size = A0 at hS hA ⊢
  have hl := lv_entry [.ref (ad 2), .int (iI x1), .int (iI x2)] (n := 3) (Nat.le_of_ble_eq_true rfl)
  rw [lg_entry_eq]
  generalize (lg_sl [.ref (ad 2), .int (iI x1), .int (iI x2)] ++ List.replicate (3 - (lg_sl [.ref (ad 2), .int (iI x1), .int (iI x2)]).length) Slot.unset).toArray = ls at hl ⊢
  have hl : lv_has ls 3 [(0, .ref (ad 2)), (1, .int (iI x1)), (2, .int (iI x2))] := hl
  refine lv_aload_n hx hb d_Ce_shareSite_0 rfl (lv_at hl 0 rfl) ?_
  refine r_getr (t2 := 15) hx hb hts in_Ce hown hS 2 rfl rfl 6 (by decide) rfl (hts _ tw_87) d_Ce_shareSite_1 ?_
  refine lv_iload_n hx hb d_Ce_shareSite_4 rfl (lv_at hl 1 rfl) ?_
  obtain ⟨g1, h⟩ := h
  obtain ⟨g2, h⟩ := h
  refine r_iald (id := 9) (i := x1) (z := A 9 x1) hx hb hS 15 rfl g1 g2 d_Ce_shareSite_5 rfl ?_
  refine lv_aload_n hx hb d_Ce_shareSite_6 rfl (lv_at hl 0 rfl) ?_
  refine r_getr (t2 := 15) hx hb hts in_Ce hown hS 2 rfl rfl 6 (by decide) rfl (hts _ tw_87) d_Ce_shareSite_7 ?_
  refine lv_iload_n hx hb d_Ce_shareSite_10 rfl (lv_at hl 2 rfl) ?_
  obtain ⟨g3, h⟩ := h
  obtain ⟨g4, h⟩ := h
  refine r_iald (id := 9) (i := x2) (z := A 9 x2) hx hb hS 15 rfl g3 g4 d_Ce_shareSite_11 rfl ?_
  obtain ⟨g5, h⟩ := h
  obtain ⟨g6, h⟩ := h
  refine r_icmp_ne (tgt := 47) hx hb g5 g6 d_Ce_shareSite_12 (by decide) (fun hc => ?_) (fun hc => ?_)
  · replace h := h.1 hc
    refine r_iconst hx hb d_Ce_shareSite_47 ?_
    exact r_zret (z := 0) hx hb hr hlocks (Or.inl rfl) hS ⟨rfl, rfl, h⟩ d_Ce_shareSite_48
  · replace h := h.2 hc
    refine lv_aload_n hx hb d_Ce_shareSite_15 rfl (lv_at hl 0 rfl) ?_
    refine r_getr (t2 := 14) hx hb hts in_Ce hown hS 2 rfl rfl 5 (by decide) rfl (hts _ tw_85) d_Ce_shareSite_16 ?_
    refine lv_iload_n hx hb d_Ce_shareSite_19 rfl (lv_at hl 1 rfl) ?_
    refine r_iald (id := 8) (i := x1) (z := A 8 x1) hx hb hS 14 rfl g1 g2 d_Ce_shareSite_20 rfl ?_
    refine lv_aload_n hx hb d_Ce_shareSite_21 rfl (lv_at hl 0 rfl) ?_
    refine lv_iload_n hx hb d_Ce_shareSite_22 rfl (lv_at hl 2 rfl) ?_
    refine r_ci (va_runV (As := [.int (iI x2)]) (rest := [.int (iI (A 8 x1))]) ⟨hx, hb, hml, hown, hts⟩ (ct_Ce_end l D ad cA mo _ _ _ _ _ h) (cwV 1 hts (gV tw_573 tw_574 tw_575 tw_4 tw_576) rfl rfl rfl (by decide +kernel) ⟨Nat.le_of_ble_eq_true rfl, Nat.le_of_ble_eq_true rfl⟩) (x_preV hS 2 rfl rfl _) rfl rfl hl.1 rfl (lv_room (Nat.le_of_ble_eq_true rfl)) d_Ce_shareSite_23 ⟨Nat.zero_le _, Nat.zero_le _⟩) hS hA (fun z7 F7 A7 H locs hS h => ?_)
    obtain ⟨rfl, rfl, h⟩ := h
    obtain ⟨g8, h⟩ := h
    obtain ⟨g9, h⟩ := h
    refine r_icmp_ge (tgt := 47) hx hb g8 g9 d_Ce_shareSite_26 (by decide) (fun hc => ?_) (fun hc => ?_)
    · replace h := h.1 hc
      refine r_iconst hx hb d_Ce_shareSite_47 ?_
      exact r_zret (z := 0) hx hb hr hlocks (Or.inl rfl) hS ⟨rfl, rfl, h⟩ d_Ce_shareSite_48
    · replace h := h.2 hc
      refine lv_aload_n hx hb d_Ce_shareSite_29 rfl (lv_at hl 0 rfl) ?_
      refine r_getr (t2 := 14) hx hb hts in_Ce hown hS 2 rfl rfl 5 (by decide) rfl (hts _ tw_85) d_Ce_shareSite_30 ?_
      refine lv_iload_n hx hb d_Ce_shareSite_33 rfl (lv_at hl 2 rfl) ?_
      refine r_iald (id := 8) (i := x2) (z := A 8 x2) hx hb hS 14 rfl g3 g4 d_Ce_shareSite_34 rfl ?_
      refine lv_aload_n hx hb d_Ce_shareSite_35 rfl (lv_at hl 0 rfl) ?_
      refine lv_iload_n hx hb d_Ce_shareSite_36 rfl (lv_at hl 1 rfl) ?_
      refine r_ci (va_runV (As := [.int (iI x1)]) (rest := [.int (iI (A 8 x2))]) ⟨hx, hb, hml, hown, hts⟩ (ct_Ce_end l D ad cA mo _ _ _ _ _ h) (cwV 1 hts (gV tw_573 tw_574 tw_575 tw_4 tw_576) rfl rfl rfl (by decide +kernel) ⟨Nat.le_of_ble_eq_true rfl, Nat.le_of_ble_eq_true rfl⟩) (x_preV hS 2 rfl rfl _) rfl rfl hl.1 rfl (lv_room (Nat.le_of_ble_eq_true rfl)) d_Ce_shareSite_37 ⟨Nat.zero_le _, Nat.zero_le _⟩) hS hA (fun z10 F10 A10 H locs hS h => ?_)
      obtain ⟨rfl, rfl, h⟩ := h
      obtain ⟨g11, h⟩ := h
      obtain ⟨g12, h⟩ := h
      refine r_icmp_ge (tgt := 47) hx hb g11 g12 d_Ce_shareSite_40 (by decide) (fun hc => ?_) (fun hc => ?_)
      · replace h := h.1 hc
        refine r_iconst hx hb d_Ce_shareSite_47 ?_
        exact r_zret (z := 0) hx hb hr hlocks (Or.inl rfl) hS ⟨rfl, rfl, h⟩ d_Ce_shareSite_48
      · replace h := h.2 hc
        refine r_iconst hx hb d_Ce_shareSite_43 ?_
        refine lv_goto (tgt := 48) hx hb d_Ce_shareSite_44 (by decide) ?_
        exact r_zret (z := 1) hx hb hr hlocks (Or.inr rfl) hS ⟨rfl, rfl, h⟩ d_Ce_shareSite_48
end W21
