section W22
variable {p : Program} {l : Launch} {e : Env} {s : State} {m : MethodId} {args : Array Value} {below : List Frame} {meth : Method} {c : Code} {D : va_G} {ad : Nat → Nat} {cA : Nat → ClassId} {A0 : Nat → Prop}
/-! Lr_noteChange -/
def w_Lr_noteChange (mo : Nat) (F : Nat → Int) (A : Nat → Int → Int) (x1 : Int) (Q : Int → (Nat → Int) → (Nat → Int → Int) → Prop) : Prop := rg x1 ∧ ((x1 = 0 → (x1 = 0 ∨ x1 = 1) ∧ Q x1 F A) ∧ (¬ x1 = 0 → (x1 = 0 ∨ x1 = 1) ∧ Q x1 (uf F 0 0) A))
set_option maxHeartbeats 4000000 in
set_option maxRecDepth 100000 in
theorem ct_Lr_noteChange (l : Launch) (D : va_G) (ad : Nat → Nat) (cA : Nat → ClassId) (mo sz : Nat) (F : Nat → Int) (A : Nat → Int → Int) (x1 : Int) (Q : Int → (Nat → Int) → (Nat → Int → Int) → Prop) (h : w_Lr_noteChange mo F A x1 Q) : Met l y_Lr_noteChange (Cond.code y_Lr_noteChange c_Lr_noteChange 2 (some .boolean) :: gT) ({ frames := 0, cells := 0, slots := 0, locals := 0 } : Room) (va_Pc [.ref (ad 0), .int (iI x1)] (x_P D vCl shU ad cA (NN mo) sz F A)) (x_QI D vCl shU ad cA (NN mo) (va_A (x_w shU ad cA (NN mo) F A) sz) Q) 0 0 (va_A (x_w shU ad cA (NN mo) F A) sz) := by
  refine Met.ofW (cc := c_Lr_noteChange) (maxL := 2) (ret := some .boolean) (by decide) rfl ?_
  intro p e s m args below meth c s₁ B hml hv
  obtain ⟨rfl, hsz, hP, hK, hD0, hN0⟩ := hv
  have hx := B.exec
  have hb := B.bytes
  have hr := B.returns
  have hts0 := atoms_spec (ws := (Cond.code y_Lr_noteChange c_Lr_noteChange 2 (some .boolean) :: gT)) B.pre
  have hts : ∀ w ∈ gT, w.before _ s = true := fun w h => hts0 w (List.mem_cons_of_mem _ h)
  have hown : s.vm.findClass R_Lr = some m.cls := findClass_of_methodNamed B.named
  have hlocks := B.notSynchronized
  subst hsz
  have hS : x_S D vCl shU ad cA (NN mo) (va_A (x_w shU ad cA (NN mo) F A) s.heap.size) s F A s.heap [] := ⟨hK, hP, hD0.self, va_S.rf, hN0⟩
  have hA : ∀ q : Nat, s.heap.size ≤ q → va_A (x_w shU ad cA (NN mo) F A) s.heap.size q := fun q h => Or.inr h
  have C0 : x_C p s m [.ref (ad 0), .int (iI x1)].toArray meth c c_Lr_noteChange 2 (some .boolean) gT R_Lr := ⟨hx, hb, hr, hml, hown, hts, hlocks⟩
  generalize va_A (x_w shU ad cA (NN mo) F A) s.heap.size = A0 at hS hA ⊢
  have hl := lv_entry [.ref (ad 0), .int (iI x1)] (n := 2) (Nat.le_of_ble_eq_true rfl)
  rw [lg_entry_eq]
  generalize (lg_sl [.ref (ad 0), .int (iI x1)] ++ List.replicate (2 - (lg_sl [.ref (ad 0), .int (iI x1)]).length) Slot.unset).toArray = ls at hl ⊢
  have hl : lv_has ls 2 [(0, .ref (ad 0)), (1, .int (iI x1))] := hl
  refine lv_iload_n hx hb d_Lr_noteChange_0 rfl (lv_at hl 1 rfl) ?_
  obtain ⟨g1, h⟩ := h
  refine r_if_eq (tgt := 9) hx hb g1 d_Lr_noteChange_1 (by decide) (fun hc => ?_) (fun hc => ?_)
  · replace h := h.1 hc
    refine lv_iload_n hx hb d_Lr_noteChange_9 rfl (lv_at hl 1 rfl) ?_
    obtain ⟨g2, h⟩ := h
    exact r_zret (z := x1) hx hb hr hlocks g2 hS h d_Lr_noteChange_10
  · replace h := h.2 hc
    refine lv_aload_n hx hb d_Lr_noteChange_4 rfl (lv_at hl 0 rfl) ?_
    refine r_iconst hx hb d_Lr_noteChange_5 ?_
    refine r_putz (j := 0) (v := 0) hx hb hts in_Lr t_Lr to_Lr nm_Lr hown hS 0 rfl rfl 4 (by decide) (hts _ tw_209) rfl (by decide +kernel) (Or.inl rfl) (setf_0 ad cA mo _ _ _) (by decide) d_Lr_noteChange_6 (fun H locs hS => ?_)
    refine lv_iload_n hx hb d_Lr_noteChange_9 rfl (lv_at hl 1 rfl) ?_
    obtain ⟨g3, h⟩ := h
    exact r_zret (z := x1) hx hb hr hlocks g3 hS h d_Lr_noteChange_10
/-! Fi_emptyParts -/
def w_Fi_emptyParts_b2 (mo : Nat) (Q : (Nat → Int) → (Nat → Int → Int) → Prop) (x1 : Int) (F : Nat → Int) (A : Nat → Int → Int) : Prop := Lp3 (fun I2 x1 F A => rg x1 ∧ rg (F 3) ∧ (((F 3) ≤ x1 → Q F A) ∧ (¬ (F 3) ≤ x1 → 0 ≤ x1 ∧ x1 < (mo : Int) ∧ I2 (x1 + 1) F (ua (ua (ua A 16 x1 (-1)) 17 x1 (-1)) 18 x1 0)))) x1 F A
def w_Fi_emptyParts (mo : Nat) (F : Nat → Int) (A : Nat → Int → Int)  (Q : (Nat → Int) → (Nat → Int → Int) → Prop) : Prop := w_Fi_emptyParts_b2 mo Q 0 F A
set_option maxHeartbeats 4000000 in
set_option maxRecDepth 100000 in
theorem s_Fi_emptyParts_b2 (C0 : x_C p s m args meth c c_Fi_emptyParts 2 (none) gT R_Fi) (hA : ∀ q : Nat, s.heap.size ≤ q → A0 q) {mo : Nat} {Q : (Nat → Int) → (Nat → Int → Int) → Prop} (x1 : Int) (F : Nat → Int) (A : Nat → Int → Int) (h : w_Fi_emptyParts_b2 mo Q x1 F A) (H : Heap) (locs : List Loc) (ls : Array Slot) (hS : x_S D vCl shU ad cA (NN mo) A0 s F A H locs) (hl : lv_has ls 2 [(0, .ref (ad 4)), (1, .int (iI x1))]) : W p l e ({ frames := 0, cells := 0, slots := 0, locals := 0 } : Room) s m args below meth c H locs 0 0 (MQ below (x_QV D vCl shU ad cA (NN mo) A0 Q) args s 0 0 A0) (F0 m 2 ls []) := by
  obtain ⟨hx, hb, hr, hml, hown, hts, hlocks⟩ := id C0
  refine h (fun x1 F A => ∀ (H : Heap) (locs : List Loc) (ls : Array Slot), x_S D vCl shU ad cA (NN mo) A0 s F A H locs → lv_has ls 2 [(0, .ref (ad 4)), (1, .int (iI x1))] → W p l e ({ frames := 0, cells := 0, slots := 0, locals := 0 } : Room) s m args below meth c H locs 0 0 (MQ below (x_QV D vCl shU ad cA (NN mo) A0 Q) args s 0 0 A0) (F0 m 2 ls [])) ?_ H locs ls hS hl
  intro x1 F A h H locs ls hS hl
  refine lv_iload_n hx hb d_Fi_emptyParts_2 rfl (lv_at hl 1 rfl) ?_
  refine lv_aload_n hx hb d_Fi_emptyParts_3 rfl (lv_at hl 0 rfl) ?_
  refine r_getr (t2 := 1) hx hb hts in_Fi hown hS 4 rfl rfl 0 (by decide) rfl (hts _ tw_180) d_Fi_emptyParts_4 ?_
  refine r_geti (z := F 3) hx hb hts in_Gr hown hS 1 rfl rfl 5 (by decide) rfl (hts _ tw_55) d_Fi_emptyParts_7 rfl ?_
  obtain ⟨g1, h⟩ := h
  obtain ⟨g2, h⟩ := h
  refine r_icmp_ge (tgt := 40) hx hb g1 g2 d_Fi_emptyParts_10 (by decide) (fun hc => ?_) (fun hc => ?_)
  · replace h := h.1 hc
    exact r_vret hx hb hr hlocks hS h d_Fi_emptyParts_40
  · replace h := h.2 hc
    refine lv_aload_n hx hb d_Fi_emptyParts_13 rfl (lv_at hl 0 rfl) ?_
    refine r_getr (t2 := 22) hx hb hts in_Fi hown hS 4 rfl rfl 5 (by decide) rfl (hts _ tw_185) d_Fi_emptyParts_14 ?_
    refine lv_iload_n hx hb d_Fi_emptyParts_17 rfl (lv_at hl 1 rfl) ?_
    refine r_iconst hx hb d_Fi_emptyParts_18 ?_
    obtain ⟨g3, h⟩ := h
    obtain ⟨g4, h⟩ := h
    refine r_iast (id := 16) (i := x1) (v := (-1)) hx hb hS 22 rfl g3 g4 (seta_16 ad cA mo _ _ _ _) d_Fi_emptyParts_19 (fun H locs hS => ?_)
    refine lv_aload_n hx hb d_Fi_emptyParts_20 rfl (lv_at hl 0 rfl) ?_
    refine r_getr (t2 := 23) hx hb hts in_Fi hown hS 4 rfl rfl 6 (by decide) rfl (hts _ tw_186) d_Fi_emptyParts_21 ?_
    refine lv_iload_n hx hb d_Fi_emptyParts_24 rfl (lv_at hl 1 rfl) ?_
    refine r_iconst hx hb d_Fi_emptyParts_25 ?_
    refine r_iast (id := 17) (i := x1) (v := (-1)) hx hb hS 23 rfl g3 g4 (seta_17 ad cA mo _ _ _ _) d_Fi_emptyParts_26 (fun H locs hS => ?_)
    refine lv_aload_n hx hb d_Fi_emptyParts_27 rfl (lv_at hl 0 rfl) ?_
    refine r_getr (t2 := 24) hx hb hts in_Fi hown hS 4 rfl rfl 7 (by decide) rfl (hts _ tw_187) d_Fi_emptyParts_28 ?_
    refine lv_iload_n hx hb d_Fi_emptyParts_31 rfl (lv_at hl 1 rfl) ?_
    refine r_iconst hx hb d_Fi_emptyParts_32 ?_
    refine r_iast (id := 18) (i := x1) (v := 0) hx hb hS 24 rfl g3 g4 (seta_18 ad cA mo _ _ _ _) d_Fi_emptyParts_33 (fun H locs hS => ?_)
    refine r_iinc (k := 1) (z := x1) (lv' := [(1, .int (iI (x1 + 1))), (0, .ref (ad 4))]) hx hb d_Fi_emptyParts_34 hl rfl (by decide) rfl (fun ls hl => ?_)
    refine lv_goto (tgt := 2) hx hb d_Fi_emptyParts_37 (by decide) ?_
    exact h _ _ _ hS (lv_sub hl [1, 0] rfl)
set_option maxHeartbeats 4000000 in
set_option maxRecDepth 100000 in
theorem ct_Fi_emptyParts (l : Launch) (D : va_G) (ad : Nat → Nat) (cA : Nat → ClassId) (mo sz : Nat) (F : Nat → Int) (A : Nat → Int → Int)  (Q : (Nat → Int) → (Nat → Int → Int) → Prop) (h : w_Fi_emptyParts mo F A  Q) : Met l y_Fi_emptyParts (Cond.code y_Fi_emptyParts c_Fi_emptyParts 2 (none) :: gT) ({ frames := 0, cells := 0, slots := 0, locals := 0 } : Room) (va_Pc [.ref (ad 4)] (x_P D vCl shU ad cA (NN mo) sz F A)) (x_QV D vCl shU ad cA (NN mo) (va_A (x_w shU ad cA (NN mo) F A) sz) Q) 0 0 (va_A (x_w shU ad cA (NN mo) F A) sz) := by
  refine Met.ofW (cc := c_Fi_emptyParts) (maxL := 2) (ret := none) (by decide) rfl ?_
  intro p e s m args below meth c s₁ B hml hv
  obtain ⟨rfl, hsz, hP, hK, hD0, hN0⟩ := hv
  have hx := B.exec
  have hb := B.bytes
  have hr := B.returns
  have hts0 := atoms_spec (ws := (Cond.code y_Fi_emptyParts c_Fi_emptyParts 2 (none) :: gT)) B.pre
  have hts : ∀ w ∈ gT, w.before _ s = true := fun w h => hts0 w (List.mem_cons_of_mem _ h)
  have hown : s.vm.findClass R_Fi = some m.cls := findClass_of_methodNamed B.named
  have hlocks := B.notSynchronized
  subst hsz
  have hS : x_S D vCl shU ad cA (NN mo) (va_A (x_w shU ad cA (NN mo) F A) s.heap.size) s F A s.heap [] := ⟨hK, hP, hD0.self, va_S.rf, hN0⟩
  have hA : ∀ q : Nat, s.heap.size ≤ q → va_A (x_w shU ad cA (NN mo) F A) s.heap.size q := fun q h => Or.inr h
  have C0 : x_C p s m [.ref (ad 4)].toArray meth c c_Fi_emptyParts 2 (none) gT R_Fi := ⟨hx, hb, hr, hml, hown, hts, hlocks⟩
  generalize va_A (x_w shU ad cA (NN mo) F A) s.heap.size = A0 at hS hA ⊢
  have hl := lv_entry [.ref (ad 4)] (n := 2) (Nat.le_of_ble_eq_true rfl)
  rw [lg_entry_eq]
  generalize (lg_sl [.ref (ad 4)] ++ List.replicate (2 - (lg_sl [.ref (ad 4)]).length) Slot.unset).toArray = ls at hl ⊢
  have hl : lv_has ls 2 [(0, .ref (ad 4))] := hl
  refine r_iconst hx hb d_Fi_emptyParts_0 ?_
  refine lv_istore_n (lv' := [(1, .int (iI 0)), (0, .ref (ad 4))]) hx hb d_Fi_emptyParts_1 rfl hl (by decide) rfl (fun ls hl => ?_)
  exact s_Fi_emptyParts_b2 C0 hA _ _ _ h _ _ _ hS (lv_sub hl [1, 0] rfl)
/-! Fi_orderCells -/
def w_Fi_orderCells_b67 (mo : Nat) (Q : (Nat → Int) → (Nat → Int → Int) → Prop) (I2 : Int → (Nat → Int) → (Nat → Int → Int) → Prop) (x1 : Int) (x2 : Int) (F : Nat → Int) (A : Nat → Int → Int) : Prop := 0 ≤ x2 ∧ x2 < 60 ∧ I2 (x1 + 1) F (ua A 14 x2 x1)
def w_Fi_orderCells_b15 (mo : Nat) (Q : (Nat → Int) → (Nat → Int → Int) → Prop) (I2 : Int → (Nat → Int) → (Nat → Int → Int) → Prop) (x1 : Int) (x2 : Int) (F : Nat → Int) (A : Nat → Int → Int) : Prop := Lp3 (fun I15 x2 F A => rg x2 ∧ ((x2 ≤ 0 → w_Fi_orderCells_b67 mo Q I2 x1 x2 F A) ∧ (¬ x2 ≤ 0 → 0 ≤ (x2 - 1) ∧ (x2 - 1) < 60 ∧ 0 ≤ (A 14 (x2 - 1)) ∧ (A 14 (x2 - 1)) < 60 ∧ 0 ≤ x1 ∧ x1 < 60 ∧ rg (A 6 (A 14 (x2 - 1))) ∧ rg (A 6 x1) ∧ (((A 6 (A 14 (x2 - 1))) ≤ (A 6 x1) → w_Fi_orderCells_b67 mo Q I2 x1 x2 F A) ∧ (¬ (A 6 (A 14 (x2 - 1))) ≤ (A 6 x1) → 0 ≤ x2 ∧ x2 < 60 ∧ I15 (x2 + (-1)) F (ua A 14 x2 (A 14 (x2 - 1)))))))) x2 F A
def w_Fi_orderCells_b2 (mo : Nat) (Q : (Nat → Int) → (Nat → Int → Int) → Prop) (x1 : Int) (F : Nat → Int) (A : Nat → Int → Int) : Prop := Lp3 (fun I2 x1 F A => rg x1 ∧ rg (F 4) ∧ (((F 4) ≤ x1 → Q F A) ∧ (¬ (F 4) ≤ x1 → w_Fi_orderCells_b15 mo Q I2 x1 x1 F A))) x1 F A
def w_Fi_orderCells (mo : Nat) (F : Nat → Int) (A : Nat → Int → Int)  (Q : (Nat → Int) → (Nat → Int → Int) → Prop) : Prop := w_Fi_orderCells_b2 mo Q 0 F A
set_option maxHeartbeats 4000000 in
set_option maxRecDepth 100000 in
theorem s_Fi_orderCells_b67 (C0 : x_C p s m args meth c c_Fi_orderCells 3 (none) gT R_Fi) (hA : ∀ q : Nat, s.heap.size ≤ q → A0 q) {mo : Nat} {Q : (Nat → Int) → (Nat → Int → Int) → Prop} {I2 : Int → (Nat → Int) → (Nat → Int → Int) → Prop} (x1 : Int) (x2 : Int) (F : Nat → Int) (A : Nat → Int → Int) (hI2 : ∀ (x1 : Int) (F : Nat → Int) (A : Nat → Int → Int), I2 x1 F A → ∀ (H : Heap) (locs : List Loc) (ls : Array Slot), x_S D vCl shU ad cA (NN mo) A0 s F A H locs → lv_has ls 3 [(0, .ref (ad 4)), (1, .int (iI x1))] → W p l e ({ frames := 0, cells := 0, slots := 0, locals := 0 } : Room) s m args below meth c H locs 0 0 (MQ below (x_QV D vCl shU ad cA (NN mo) A0 Q) args s 0 0 A0) (F0 m 2 ls [])) (h : w_Fi_orderCells_b67 mo Q I2 x1 x2 F A) (H : Heap) (locs : List Loc) (ls : Array Slot) (hS : x_S D vCl shU ad cA (NN mo) A0 s F A H locs) (hl : lv_has ls 3 [(0, .ref (ad 4)), (1, .int (iI x1)), (2, .int (iI x2))]) : W p l e ({ frames := 0, cells := 0, slots := 0, locals := 0 } : Room) s m args below meth c H locs 0 0 (MQ below (x_QV D vCl shU ad cA (NN mo) A0 Q) args s 0 0 A0) (F0 m 67 ls []) := by
  obtain ⟨hx, hb, hr, hml, hown, hts, hlocks⟩ := id C0
  refine lv_aload_n hx hb d_Fi_orderCells_67 rfl (lv_at hl 0 rfl) ?_
  refine r_getr (t2 := 20) hx hb hts in_Fi hown hS 4 rfl rfl 3 (by decide) rfl (hts _ tw_183) d_Fi_orderCells_68 ?_
  refine lv_iload_n hx hb d_Fi_orderCells_71 rfl (lv_at hl 2 rfl) ?_
  refine lv_iload_n hx hb d_Fi_orderCells_72 rfl (lv_at hl 1 rfl) ?_
  obtain ⟨g1, h⟩ := h
  obtain ⟨g2, h⟩ := h
  refine r_iast (id := 14) (i := x2) (v := x1) hx hb hS 20 rfl g1 g2 (seta_14 ad cA mo _ _ _ _) d_Fi_orderCells_73 (fun H locs hS => ?_)
  refine r_iinc (k := 1) (z := x1) (lv' := [(1, .int (iI (x1 + 1))), (0, .ref (ad 4)), (2, .int (iI x2))]) hx hb d_Fi_orderCells_74 hl rfl (by decide) rfl (fun ls hl => ?_)
  refine lv_goto (tgt := 2) hx hb d_Fi_orderCells_77 (by decide) ?_
  exact hI2 _ _ _ h _ _ _ hS (lv_sub hl [1, 0] rfl)
set_option maxHeartbeats 4000000 in
set_option maxRecDepth 100000 in
theorem s_Fi_orderCells_b15 (C0 : x_C p s m args meth c c_Fi_orderCells 3 (none) gT R_Fi) (hA : ∀ q : Nat, s.heap.size ≤ q → A0 q) {mo : Nat} {Q : (Nat → Int) → (Nat → Int → Int) → Prop} {I2 : Int → (Nat → Int) → (Nat → Int → Int) → Prop} (x1 : Int) (x2 : Int) (F : Nat → Int) (A : Nat → Int → Int) (hI2 : ∀ (x1 : Int) (F : Nat → Int) (A : Nat → Int → Int), I2 x1 F A → ∀ (H : Heap) (locs : List Loc) (ls : Array Slot), x_S D vCl shU ad cA (NN mo) A0 s F A H locs → lv_has ls 3 [(0, .ref (ad 4)), (1, .int (iI x1))] → W p l e ({ frames := 0, cells := 0, slots := 0, locals := 0 } : Room) s m args below meth c H locs 0 0 (MQ below (x_QV D vCl shU ad cA (NN mo) A0 Q) args s 0 0 A0) (F0 m 2 ls [])) (h : w_Fi_orderCells_b15 mo Q I2 x1 x2 F A) (H : Heap) (locs : List Loc) (ls : Array Slot) (hS : x_S D vCl shU ad cA (NN mo) A0 s F A H locs) (hl : lv_has ls 3 [(0, .ref (ad 4)), (1, .int (iI x1)), (2, .int (iI x2))]) : W p l e ({ frames := 0, cells := 0, slots := 0, locals := 0 } : Room) s m args below meth c H locs 0 0 (MQ below (x_QV D vCl shU ad cA (NN mo) A0 Q) args s 0 0 A0) (F0 m 15 ls []) := by
  obtain ⟨hx, hb, hr, hml, hown, hts, hlocks⟩ := id C0
  refine h (fun x2 F A => ∀ (H : Heap) (locs : List Loc) (ls : Array Slot), x_S D vCl shU ad cA (NN mo) A0 s F A H locs → lv_has ls 3 [(0, .ref (ad 4)), (1, .int (iI x1)), (2, .int (iI x2))] → W p l e ({ frames := 0, cells := 0, slots := 0, locals := 0 } : Room) s m args below meth c H locs 0 0 (MQ below (x_QV D vCl shU ad cA (NN mo) A0 Q) args s 0 0 A0) (F0 m 15 ls [])) ?_ H locs ls hS hl
  intro x2 F A h H locs ls hS hl
  refine lv_iload_n hx hb d_Fi_orderCells_15 rfl (lv_at hl 2 rfl) ?_
  obtain ⟨g3, h⟩ := h
  refine r_if_le (tgt := 67) hx hb g3 d_Fi_orderCells_16 (by decide) (fun hc => ?_) (fun hc => ?_)
  · replace h := h.1 hc
    exact s_Fi_orderCells_b67 C0 hA _ _ _ _ hI2 h _ _ _ hS (lv_sub hl [0, 1, 2] rfl)
  · replace h := h.2 hc
    refine lv_aload_n hx hb d_Fi_orderCells_19 rfl (lv_at hl 0 rfl) ?_
    refine r_getr (t2 := 2) hx hb hts in_Fi hown hS 4 rfl rfl 1 (by decide) rfl (hts _ tw_181) d_Fi_orderCells_20 ?_
    refine r_getr (t2 := 12) hx hb hts in_Ce hown hS 2 rfl rfl 3 (by decide) rfl (hts _ tw_82) d_Fi_orderCells_23 ?_
    refine lv_aload_n hx hb d_Fi_orderCells_26 rfl (lv_at hl 0 rfl) ?_
    refine r_getr (t2 := 20) hx hb hts in_Fi hown hS 4 rfl rfl 3 (by decide) rfl (hts _ tw_183) d_Fi_orderCells_27 ?_
    refine lv_iload_n hx hb d_Fi_orderCells_30 rfl (lv_at hl 2 rfl) ?_
    refine r_iconst hx hb d_Fi_orderCells_31 ?_
    refine r_isub hx hb d_Fi_orderCells_32 ?_
    obtain ⟨g4, h⟩ := h
    obtain ⟨g5, h⟩ := h
    refine r_iald (id := 14) (i := (x2 - 1)) (z := A 14 (x2 - 1)) hx hb hS 20 rfl g4 g5 d_Fi_orderCells_33 rfl ?_
    obtain ⟨g6, h⟩ := h
    obtain ⟨g7, h⟩ := h
    refine r_iald (id := 6) (i := (A 14 (x2 - 1))) (z := A 6 (A 14 (x2 - 1))) hx hb hS 12 rfl g6 g7 d_Fi_orderCells_34 rfl ?_
    refine lv_aload_n hx hb d_Fi_orderCells_35 rfl (lv_at hl 0 rfl) ?_
    refine r_getr (t2 := 2) hx hb hts in_Fi hown hS 4 rfl rfl 1 (by decide) rfl (hts _ tw_181) d_Fi_orderCells_36 ?_
    refine r_getr (t2 := 12) hx hb hts in_Ce hown hS 2 rfl rfl 3 (by decide) rfl (hts _ tw_82) d_Fi_orderCells_39 ?_
    refine lv_iload_n hx hb d_Fi_orderCells_42 rfl (lv_at hl 1 rfl) ?_
    obtain ⟨g8, h⟩ := h
    obtain ⟨g9, h⟩ := h
    refine r_iald (id := 6) (i := x1) (z := A 6 x1) hx hb hS 12 rfl g8 g9 d_Fi_orderCells_43 rfl ?_
    obtain ⟨g10, h⟩ := h
    obtain ⟨g11, h⟩ := h
    refine r_icmp_le (tgt := 67) hx hb g10 g11 d_Fi_orderCells_44 (by decide) (fun hc => ?_) (fun hc => ?_)
    · replace h := h.1 hc
      exact s_Fi_orderCells_b67 C0 hA _ _ _ _ hI2 h _ _ _ hS (lv_sub hl [0, 1, 2] rfl)
    · replace h := h.2 hc
      refine lv_aload_n hx hb d_Fi_orderCells_47 rfl (lv_at hl 0 rfl) ?_
      refine r_getr (t2 := 20) hx hb hts in_Fi hown hS 4 rfl rfl 3 (by decide) rfl (hts _ tw_183) d_Fi_orderCells_48 ?_
      refine lv_iload_n hx hb d_Fi_orderCells_51 rfl (lv_at hl 2 rfl) ?_
      refine lv_aload_n hx hb d_Fi_orderCells_52 rfl (lv_at hl 0 rfl) ?_
      refine r_getr (t2 := 20) hx hb hts in_Fi hown hS 4 rfl rfl 3 (by decide) rfl (hts _ tw_183) d_Fi_orderCells_53 ?_
      refine lv_iload_n hx hb d_Fi_orderCells_56 rfl (lv_at hl 2 rfl) ?_
      refine r_iconst hx hb d_Fi_orderCells_57 ?_
      refine r_isub hx hb d_Fi_orderCells_58 ?_
      refine r_iald (id := 14) (i := (x2 - 1)) (z := A 14 (x2 - 1)) hx hb hS 20 rfl g4 g5 d_Fi_orderCells_59 rfl ?_
      obtain ⟨g12, h⟩ := h
      obtain ⟨g13, h⟩ := h
      refine r_iast (id := 14) (i := x2) (v := (A 14 (x2 - 1))) hx hb hS 20 rfl g12 g13 (seta_14 ad cA mo _ _ _ _) d_Fi_orderCells_60 (fun H locs hS => ?_)
      refine r_iinc (k := 2) (z := x2) (lv' := [(2, .int (iI (x2 + (-1)))), (0, .ref (ad 4)), (1, .int (iI x1))]) hx hb d_Fi_orderCells_61 hl rfl (by decide) rfl (fun ls hl => ?_)
      refine lv_goto (tgt := 15) hx hb d_Fi_orderCells_64 (by decide) ?_
      exact h _ _ _ hS (lv_sub hl [1, 2, 0] rfl)
set_option maxHeartbeats 4000000 in
set_option maxRecDepth 100000 in
theorem s_Fi_orderCells_b2 (C0 : x_C p s m args meth c c_Fi_orderCells 3 (none) gT R_Fi) (hA : ∀ q : Nat, s.heap.size ≤ q → A0 q) {mo : Nat} {Q : (Nat → Int) → (Nat → Int → Int) → Prop} (x1 : Int) (F : Nat → Int) (A : Nat → Int → Int) (h : w_Fi_orderCells_b2 mo Q x1 F A) (H : Heap) (locs : List Loc) (ls : Array Slot) (hS : x_S D vCl shU ad cA (NN mo) A0 s F A H locs) (hl : lv_has ls 3 [(0, .ref (ad 4)), (1, .int (iI x1))]) : W p l e ({ frames := 0, cells := 0, slots := 0, locals := 0 } : Room) s m args below meth c H locs 0 0 (MQ below (x_QV D vCl shU ad cA (NN mo) A0 Q) args s 0 0 A0) (F0 m 2 ls []) := by
  obtain ⟨hx, hb, hr, hml, hown, hts, hlocks⟩ := id C0
  refine h (fun x1 F A => ∀ (H : Heap) (locs : List Loc) (ls : Array Slot), x_S D vCl shU ad cA (NN mo) A0 s F A H locs → lv_has ls 3 [(0, .ref (ad 4)), (1, .int (iI x1))] → W p l e ({ frames := 0, cells := 0, slots := 0, locals := 0 } : Room) s m args below meth c H locs 0 0 (MQ below (x_QV D vCl shU ad cA (NN mo) A0 Q) args s 0 0 A0) (F0 m 2 ls [])) ?_ H locs ls hS hl
  intro x1 F A h H locs ls hS hl
  refine lv_iload_n hx hb d_Fi_orderCells_2 rfl (lv_at hl 1 rfl) ?_
  refine lv_aload_n hx hb d_Fi_orderCells_3 rfl (lv_at hl 0 rfl) ?_
  refine r_getr (t2 := 2) hx hb hts in_Fi hown hS 4 rfl rfl 1 (by decide) rfl (hts _ tw_181) d_Fi_orderCells_4 ?_
  refine r_geti (z := F 4) hx hb hts in_Ce hown hS 2 rfl rfl 8 (by decide) rfl (hts _ tw_92) d_Fi_orderCells_7 rfl ?_
  obtain ⟨g14, h⟩ := h
  obtain ⟨g15, h⟩ := h
  refine r_icmp_ge (tgt := 80) hx hb g14 g15 d_Fi_orderCells_10 (by decide) (fun hc => ?_) (fun hc => ?_)
  · replace h := h.1 hc
    exact r_vret hx hb hr hlocks hS h d_Fi_orderCells_80
  · replace h := h.2 hc
    refine lv_iload_n hx hb d_Fi_orderCells_13 rfl (lv_at hl 1 rfl) ?_
    refine lv_istore_n (lv' := [(2, .int (iI x1)), (0, .ref (ad 4)), (1, .int (iI x1))]) hx hb d_Fi_orderCells_14 rfl hl (by decide) rfl (fun ls hl => ?_)
    exact s_Fi_orderCells_b15 C0 hA _ _ _ _ (fun _ _ _ h => h) h _ _ _ hS (lv_sub hl [1, 2, 0] rfl)
set_option maxHeartbeats 4000000 in
set_option maxRecDepth 100000 in
theorem ct_Fi_orderCells (l : Launch) (D : va_G) (ad : Nat → Nat) (cA : Nat → ClassId) (mo sz : Nat) (F : Nat → Int) (A : Nat → Int → Int)  (Q : (Nat → Int) → (Nat → Int → Int) → Prop) (h : w_Fi_orderCells mo F A  Q) : Met l y_Fi_orderCells (Cond.code y_Fi_orderCells c_Fi_orderCells 3 (none) :: gT) ({ frames := 0, cells := 0, slots := 0, locals := 0 } : Room) (va_Pc [.ref (ad 4)] (x_P D vCl shU ad cA (NN mo) sz F A)) (x_QV D vCl shU ad cA (NN mo) (va_A (x_w shU ad cA (NN mo) F A) sz) Q) 0 0 (va_A (x_w shU ad cA (NN mo) F A) sz) := by
  refine Met.ofW (cc := c_Fi_orderCells) (maxL := 3) (ret := none) (by decide) rfl ?_
  intro p e s m args below meth c s₁ B hml hv
  obtain ⟨rfl, hsz, hP, hK, hD0, hN0⟩ := hv
  have hx := B.exec
  have hb := B.bytes
  have hr := B.returns
  have hts0 := atoms_spec (ws := (Cond.code y_Fi_orderCells c_Fi_orderCells 3 (none) :: gT)) B.pre
  have hts : ∀ w ∈ gT, w.before _ s = true := fun w h => hts0 w (List.mem_cons_of_mem _ h)
  have hown : s.vm.findClass R_Fi = some m.cls := findClass_of_methodNamed B.named
  have hlocks := B.notSynchronized
  subst hsz
  have hS : x_S D vCl shU ad cA (NN mo) (va_A (x_w shU ad cA (NN mo) F A) s.heap.size) s F A s.heap [] := ⟨hK, hP, hD0.self, va_S.rf, hN0⟩
  have hA : ∀ q : Nat, s.heap.size ≤ q → va_A (x_w shU ad cA (NN mo) F A) s.heap.size q := fun q h => Or.inr h
  have C0 : x_C p s m [.ref (ad 4)].toArray meth c c_Fi_orderCells 3 (none) gT R_Fi := ⟨hx, hb, hr, hml, hown, hts, hlocks⟩
  generalize va_A (x_w shU ad cA (NN mo) F A) s.heap.size = A0 at hS hA ⊢
  have hl := lv_entry [.ref (ad 4)] (n := 3) (Nat.le_of_ble_eq_true rfl)
  rw [lg_entry_eq]
  generalize (lg_sl [.ref (ad 4)] ++ List.replicate (3 - (lg_sl [.ref (ad 4)]).length) Slot.unset).toArray = ls at hl ⊢
  have hl : lv_has ls 3 [(0, .ref (ad 4))] := hl
  refine r_iconst hx hb d_Fi_orderCells_0 ?_
  refine lv_istore_n (lv' := [(1, .int (iI 0)), (0, .ref (ad 4))]) hx hb d_Fi_orderCells_1 rfl hl (by decide) rfl (fun ls hl => ?_)
  exact s_Fi_orderCells_b2 C0 hA _ _ _ h _ _ _ hS (lv_sub hl [1, 0] rfl)
/-! Fi_costAtLeast -/
def w_Fi_costAtLeast (mo : Nat) (F : Nat → Int) (A : Nat → Int → Int) (x1 : Int) (x2 : Int) (Q : Int → Prop) : Prop := 0 ≤ x1 ∧ x1 < 60 ∧ 0 ≤ x2 ∧ x2 < (mo : Int) ∧ rg ((A 1 x2) - (A 6 x1)) ∧ rg (((A 6 x1) + (A 3 x1)) - (A 2 x2)) ∧ rg (max ((A 1 x2) - (A 6 x1)) (((A 6 x1) + (A 3 x1)) - (A 2 x2))) ∧ w_Ce_rowCost mo F A x1 (A 0 x2) (fun z8 => Q ((max 0 (max ((A 1 x2) - (A 6 x1)) (((A 6 x1) + (A 3 x1)) - (A 2 x2)))) + z8))
set_option maxHeartbeats 4000000 in
set_option maxRecDepth 100000 in
theorem ct_Fi_costAtLeast (l : Launch) (D : va_G) (ad : Nat → Nat) (cA : Nat → ClassId) (mo sz : Nat) (F : Nat → Int) (A : Nat → Int → Int) (x1 : Int) (x2 : Int) (Q : Int → Prop) (h : w_Fi_costAtLeast mo F A x1 x2 Q) : Met l y_Fi_costAtLeast (Cond.code y_Fi_costAtLeast c_Fi_costAtLeast 7 (some .int) :: gT) ({ frames := 2, cells := 0, slots := 0, locals := 54 } : Room) (va_Pc [.ref (ad 4), .int (iI x1), .int (iI x2)] (x_P D vCl shU ad cA (NN mo) sz F A)) (x_QI D vCl shU ad cA (NN mo) (va_A (x_w shU ad cA (NN mo) F A) sz) (fun z F1 A1 => F = F1 ∧ A = A1 ∧ Q z)) 0 0 (va_A (x_w shU ad cA (NN mo) F A) sz) := by
  refine Met.ofW (cc := c_Fi_costAtLeast) (maxL := 7) (ret := some .int) (by decide) rfl ?_
  intro p e s m args below meth c s₁ B hml hv
  obtain ⟨rfl, hsz, hP, hK, hD0, hN0⟩ := hv
  have hx := B.exec
  have hb := B.bytes
  have hr := B.returns
  have hts0 := atoms_spec (ws := (Cond.code y_Fi_costAtLeast c_Fi_costAtLeast 7 (some .int) :: gT)) B.pre
  have hts : ∀ w ∈ gT, w.before _ s = true := fun w h => hts0 w (List.mem_cons_of_mem _ h)
  have hown : s.vm.findClass R_Fi = some m.cls := findClass_of_methodNamed B.named
  have hlocks := B.notSynchronized
  subst hsz
  have hS : x_S D vCl shU ad cA (NN mo) (va_A (x_w shU ad cA (NN mo) F A) s.heap.size) s F A s.heap [] := ⟨hK, hP, hD0.self, va_S.rf, hN0⟩
  have hA : ∀ q : Nat, s.heap.size ≤ q → va_A (x_w shU ad cA (NN mo) F A) s.heap.size q := fun q h => Or.inr h
  have C0 : x_C p s m [.ref (ad 4), .int (iI x1), .int (iI x2)].toArray meth c c_Fi_costAtLeast 7 (some .int) gT R_Fi := ⟨hx, hb, hr, hml, hown, hts, hlocks⟩
  generalize va_A (x_w shU ad cA (NN mo) F A) s.heap.size = A0 at hS hA ⊢
  have hl := lv_entry [.ref (ad 4), .int (iI x1), .int (iI x2)] (n := 7) (Nat.le_of_ble_eq_true rfl)
  rw [lg_entry_eq]
  generalize (lg_sl [.ref (ad 4), .int (iI x1), .int (iI x2)] ++ List.replicate (7 - (lg_sl [.ref (ad 4), .int (iI x1), .int (iI x2)]).length) Slot.unset).toArray = ls at hl ⊢
  have hl : lv_has ls 7 [(0, .ref (ad 4)), (1, .int (iI x1)), (2, .int (iI x2))] := hl
  refine lv_aload_n hx hb d_Fi_costAtLeast_0 rfl (lv_at hl 0 rfl) ?_
  refine r_getr (t2 := 2) hx hb hts in_Fi hown hS 4 rfl rfl 1 (by decide) rfl (hts _ tw_181) d_Fi_costAtLeast_1 ?_
  refine r_getr (t2 := 12) hx hb hts in_Ce hown hS 2 rfl rfl 3 (by decide) rfl (hts _ tw_82) d_Fi_costAtLeast_4 ?_
  refine lv_iload_n hx hb d_Fi_costAtLeast_7 rfl (lv_at hl 1 rfl) ?_
  obtain ⟨g1, h⟩ := h
  obtain ⟨g2, h⟩ := h
  refine r_iald (id := 6) (i := x1) (z := A 6 x1) hx hb hS 12 rfl g1 g2 d_Fi_costAtLeast_8 rfl ?_
  refine lv_istore_n (lv' := [(3, .int (iI (A 6 x1))), (0, .ref (ad 4)), (1, .int (iI x1)), (2, .int (iI x2))]) hx hb d_Fi_costAtLeast_9 rfl hl (by decide) rfl (fun ls hl => ?_)
  refine lv_aload_n hx hb d_Fi_costAtLeast_10 rfl (lv_at hl 1 rfl) ?_
  refine r_getr (t2 := 1) hx hb hts in_Fi hown hS 4 rfl rfl 0 (by decide) rfl (hts _ tw_180) d_Fi_costAtLeast_11 ?_
  refine r_getr (t2 := 7) hx hb hts in_Gr hown hS 1 rfl rfl 3 (by decide) rfl (hts _ tw_51) d_Fi_costAtLeast_14 ?_
  refine lv_iload_n hx hb d_Fi_costAtLeast_17 rfl (lv_at hl 3 rfl) ?_
  obtain ⟨g3, h⟩ := h
  obtain ⟨g4, h⟩ := h
  refine r_iald (id := 1) (i := x2) (z := A 1 x2) hx hb hS 7 rfl g3 g4 d_Fi_costAtLeast_18 rfl ?_
  refine lv_iload_n hx hb d_Fi_costAtLeast_19 rfl (lv_at hl 0 rfl) ?_
  refine r_isub hx hb d_Fi_costAtLeast_20 ?_
  refine lv_istore (lv' := [(4, .int (iI ((A 1 x2) - (A 6 x1)))), (3, .int (iI (A 6 x1))), (0, .ref (ad 4)), (1, .int (iI x1)), (2, .int (iI x2))]) hx hb d_Fi_costAtLeast_21 hl (by decide) rfl (fun ls hl => ?_)
  refine lv_iload_n hx hb d_Fi_costAtLeast_23 rfl (lv_at hl 1 rfl) ?_
  refine lv_aload_n hx hb d_Fi_costAtLeast_24 rfl (lv_at hl 2 rfl) ?_
  refine r_getr (t2 := 2) hx hb hts in_Fi hown hS 4 rfl rfl 1 (by decide) rfl (hts _ tw_181) d_Fi_costAtLeast_25 ?_
  refine r_getr (t2 := 9) hx hb hts in_Ce hown hS 2 rfl rfl 0 (by decide) rfl (hts _ tw_78) d_Fi_costAtLeast_28 ?_
  refine lv_iload_n hx hb d_Fi_costAtLeast_31 rfl (lv_at hl 3 rfl) ?_
  refine r_iald (id := 3) (i := x1) (z := A 3 x1) hx hb hS 9 rfl g1 g2 d_Fi_costAtLeast_32 rfl ?_
  refine r_iadd hx hb d_Fi_costAtLeast_33 ?_
  refine lv_aload_n hx hb d_Fi_costAtLeast_34 rfl (lv_at hl 2 rfl) ?_
  refine r_getr (t2 := 1) hx hb hts in_Fi hown hS 4 rfl rfl 0 (by decide) rfl (hts _ tw_180) d_Fi_costAtLeast_35 ?_
  refine r_getr (t2 := 8) hx hb hts in_Gr hown hS 1 rfl rfl 4 (by decide) rfl (hts _ tw_53) d_Fi_costAtLeast_38 ?_
  refine lv_iload_n hx hb d_Fi_costAtLeast_41 rfl (lv_at hl 4 rfl) ?_
  refine r_iald (id := 2) (i := x2) (z := A 2 x2) hx hb hS 8 rfl g3 g4 d_Fi_costAtLeast_42 rfl ?_
  refine r_isub hx hb d_Fi_costAtLeast_43 ?_
  refine lv_istore (lv' := [(5, .int (iI (((A 6 x1) + (A 3 x1)) - (A 2 x2)))), (4, .int (iI ((A 1 x2) - (A 6 x1)))), (3, .int (iI (A 6 x1))), (0, .ref (ad 4)), (1, .int (iI x1)), (2, .int (iI x2))]) hx hb d_Fi_costAtLeast_44 hl (by decide) rfl (fun ls hl => ?_)
  refine r_iconst hx hb d_Fi_costAtLeast_46 ?_
  refine lv_iload hx hb d_Fi_costAtLeast_47 (lv_at hl 1 rfl) ?_
  refine lv_iload hx hb d_Fi_costAtLeast_49 (lv_at hl 0 rfl) ?_
  obtain ⟨g5, h⟩ := h
  obtain ⟨g6, h⟩ := h
  refine r_mmax hx hb (hml.trans hl.1.symm) hown (hts _ tw_245) (hts _ tw_28) (hts _ tw_2) (hts _ tw_29) (Nat.le_of_ble_eq_true rfl) (Nat.le_of_ble_eq_true rfl) (Nat.zero_le _) (Nat.zero_le _) g5 g6 d_Fi_costAtLeast_51 ?_
  obtain ⟨g7, h⟩ := h
  refine r_mmax hx hb (hml.trans hl.1.symm) hown (hts _ tw_245) (hts _ tw_28) (hts _ tw_2) (hts _ tw_29) (Nat.le_of_ble_eq_true rfl) (Nat.le_of_ble_eq_true rfl) (Nat.zero_le _) (Nat.zero_le _) ⟨by omega, by omega⟩ g7 d_Fi_costAtLeast_54 ?_
  refine lv_istore (lv' := [(6, .int (iI (max 0 (max ((A 1 x2) - (A 6 x1)) (((A 6 x1) + (A 3 x1)) - (A 2 x2)))))), (5, .int (iI (((A 6 x1) + (A 3 x1)) - (A 2 x2)))), (4, .int (iI ((A 1 x2) - (A 6 x1)))), (3, .int (iI (A 6 x1))), (0, .ref (ad 4)), (1, .int (iI x1)), (2, .int (iI x2))]) hx hb d_Fi_costAtLeast_57 hl (by decide) rfl (fun ls hl => ?_)
  refine lv_iload hx hb d_Fi_costAtLeast_59 (lv_at hl 0 rfl) ?_
  refine lv_aload_n hx hb d_Fi_costAtLeast_61 rfl (lv_at hl 4 rfl) ?_
  refine r_getr (t2 := 2) hx hb hts in_Fi hown hS 4 rfl rfl 1 (by decide) rfl (hts _ tw_181) d_Fi_costAtLeast_62 ?_
  refine lv_iload_n hx hb d_Fi_costAtLeast_65 rfl (lv_at hl 5 rfl) ?_
  refine lv_aload_n hx hb d_Fi_costAtLeast_66 rfl (lv_at hl 4 rfl) ?_
  refine r_getr (t2 := 1) hx hb hts in_Fi hown hS 4 rfl rfl 0 (by decide) rfl (hts _ tw_180) d_Fi_costAtLeast_67 ?_
  refine r_getr (t2 := 6) hx hb hts in_Gr hown hS 1 rfl rfl 2 (by decide) rfl (hts _ tw_49) d_Fi_costAtLeast_70 ?_
  refine lv_iload_n hx hb d_Fi_costAtLeast_73 rfl (lv_at hl 6 rfl) ?_
  refine r_iald (id := 0) (i := x2) (z := A 0 x2) hx hb hS 6 rfl g3 g4 d_Fi_costAtLeast_74 rfl ?_
  refine r_ci (va_runV (As := [.int (iI x1), .int (iI (A 0 x2))]) (rest := [.int (iI (max 0 (max ((A 1 x2) - (A 6 x1)) (((A 6 x1) + (A 3 x1)) - (A 2 x2)))))]) ⟨hx, hb, hml, hown, hts⟩ (ct_Ce_rowCost l D ad cA mo _ _ _ _ _ _ h) (cwV 2 hts (gV tw_246 tw_247 tw_248 tw_4 tw_249) rfl rfl rfl (by decide +kernel) ⟨Nat.le_of_ble_eq_true rfl, Nat.le_of_ble_eq_true rfl⟩) (x_preV hS 2 rfl rfl _) rfl rfl hl.1 rfl (lv_room (Nat.le_of_ble_eq_true rfl)) d_Fi_costAtLeast_75 ⟨Nat.zero_le _, Nat.zero_le _⟩) hS hA (fun z8 F8 A8 H locs hS h => ?_)
  obtain ⟨rfl, rfl, h⟩ := h
  refine r_iadd hx hb d_Fi_costAtLeast_78 ?_
  exact r_iret (z := ((max 0 (max ((A 1 x2) - (A 6 x1)) (((A 6 x1) + (A 3 x1)) - (A 2 x2)))) + z8)) hx hb hr hlocks hS ⟨rfl, rfl, h⟩ d_Fi_costAtLeast_79
/-! Li_clear -/
def w_Li_clear (mo : Nat) (F : Nat → Int) (A : Nat → Int → Int)  (Q : (Nat → Int) → (Nat → Int → Int) → Prop) : Prop := Q (uf (uf F 7 0) 8 0) A
set_option maxHeartbeats 4000000 in
set_option maxRecDepth 100000 in
theorem ct_Li_clear (l : Launch) (D : va_G) (ad : Nat → Nat) (cA : Nat → ClassId) (mo sz : Nat) (F : Nat → Int) (A : Nat → Int → Int)  (Q : (Nat → Int) → (Nat → Int → Int) → Prop) (h : w_Li_clear mo F A  Q) : Met l y_Li_clear (Cond.code y_Li_clear c_Li_clear 1 (none) :: gT) ({ frames := 0, cells := 0, slots := 0, locals := 0 } : Room) (va_Pc [.ref (ad 5)] (x_P D vCl shU ad cA (NN mo) sz F A)) (x_QV D vCl shU ad cA (NN mo) (va_A (x_w shU ad cA (NN mo) F A) sz) Q) 0 0 (va_A (x_w shU ad cA (NN mo) F A) sz) := by
  refine Met.ofW (cc := c_Li_clear) (maxL := 1) (ret := none) (by decide) rfl ?_
  intro p e s m args below meth c s₁ B hml hv
  obtain ⟨rfl, hsz, hP, hK, hD0, hN0⟩ := hv
  have hx := B.exec
  have hb := B.bytes
  have hr := B.returns
  have hts0 := atoms_spec (ws := (Cond.code y_Li_clear c_Li_clear 1 (none) :: gT)) B.pre
  have hts : ∀ w ∈ gT, w.before _ s = true := fun w h => hts0 w (List.mem_cons_of_mem _ h)
  have hown : s.vm.findClass R_Li = some m.cls := findClass_of_methodNamed B.named
  have hlocks := B.notSynchronized
  subst hsz
  have hS : x_S D vCl shU ad cA (NN mo) (va_A (x_w shU ad cA (NN mo) F A) s.heap.size) s F A s.heap [] := ⟨hK, hP, hD0.self, va_S.rf, hN0⟩
  have hA : ∀ q : Nat, s.heap.size ≤ q → va_A (x_w shU ad cA (NN mo) F A) s.heap.size q := fun q h => Or.inr h
  have C0 : x_C p s m [.ref (ad 5)].toArray meth c c_Li_clear 1 (none) gT R_Li := ⟨hx, hb, hr, hml, hown, hts, hlocks⟩
  generalize va_A (x_w shU ad cA (NN mo) F A) s.heap.size = A0 at hS hA ⊢
  have hl := lv_entry [.ref (ad 5)] (n := 1) (Nat.le_of_ble_eq_true rfl)
  rw [lg_entry_eq]
  generalize (lg_sl [.ref (ad 5)] ++ List.replicate (1 - (lg_sl [.ref (ad 5)]).length) Slot.unset).toArray = ls at hl ⊢
  have hl : lv_has ls 1 [(0, .ref (ad 5))] := hl
  refine lv_aload_n hx hb d_Li_clear_0 rfl (lv_at hl 0 rfl) ?_
  refine r_iconst hx hb d_Li_clear_1 ?_
  refine r_puti (j := 7) (v := 0) hx hb hts in_Li t_Li to_Li nm_Li hown hS 5 rfl rfl 7 (by decide) (hts _ tw_155) rfl (by decide +kernel) (setf_7 ad cA mo _ _ _) (by decide) d_Li_clear_2 (fun H locs hS => ?_)
  refine lv_aload_n hx hb d_Li_clear_5 rfl (lv_at hl 0 rfl) ?_
  refine r_iconst hx hb d_Li_clear_6 ?_
  refine r_puti (j := 8) (v := 0) hx hb hts in_Li t_Li to_Li nm_Li hown hS 5 rfl rfl 8 (by decide) (hts _ tw_156) rfl (by decide +kernel) (setf_8 ad cA mo _ _ _) (by decide) d_Li_clear_7 (fun H locs hS => ?_)
  exact r_vret hx hb hr hlocks hS h d_Li_clear_10
/-! Li_add -/
def w_Li_add_b45 (mo : Nat) (Q : (Nat → Int) → (Nat → Int → Int) → Prop) (x1 : Int) (F : Nat → Int) (A : Nat → Int → Int) : Prop := 0 ≤ (F 7) ∧ (F 7) < 60 ∧ 0 ≤ x1 ∧ x1 < 60 ∧ Q (uf (uf F 8 ((F 8) + (A 3 x1))) 7 ((F 7) + 1)) (ua (ua A 19 (F 7) x1) 20 (F 7) (F 8))
def w_Li_add (mo : Nat) (F : Nat → Int) (A : Nat → Int → Int) (x1 : Int) (Q : (Nat → Int) → (Nat → Int → Int) → Prop) : Prop := rg (F 7) ∧ (((F 7) < 60 → (((F 7) ≤ 0 → w_Li_add_b45 mo Q x1 F A) ∧ (¬ (F 7) ≤ 0 → 0 ≤ ((F 7) - 1) ∧ ((F 7) - 1) < 60 ∧ w_Ce_spaceBetween mo F A (A 19 ((F 7) - 1)) x1 (fun z8 => w_Li_add_b45 mo Q x1 (uf F 8 ((F 8) + z8)) A)))) ∧ (¬ (F 7) < 60 → Q F A))
set_option maxHeartbeats 4000000 in
set_option maxRecDepth 100000 in
theorem s_Li_add_b45 (C0 : x_C p s m args meth c c_Li_add 2 (none) gT R_Li) (hA : ∀ q : Nat, s.heap.size ≤ q → A0 q) {mo : Nat} {Q : (Nat → Int) → (Nat → Int → Int) → Prop} (x1 : Int) (F : Nat → Int) (A : Nat → Int → Int) (h : w_Li_add_b45 mo Q x1 F A) (H : Heap) (locs : List Loc) (ls : Array Slot) (hS : x_S D vCl shU ad cA (NN mo) A0 s F A H locs) (hl : lv_has ls 2 [(0, .ref (ad 5)), (1, .int (iI x1))]) : W p l e ({ frames := 1, cells := 0, slots := 0, locals := 22 } : Room) s m args below meth c H locs 0 0 (MQ below (x_QV D vCl shU ad cA (NN mo) A0 Q) args s 0 0 A0) (F0 m 45 ls []) := by
  obtain ⟨hx, hb, hr, hml, hown, hts, hlocks⟩ := id C0
  refine lv_aload_n hx hb d_Li_add_45 rfl (lv_at hl 0 rfl) ?_
  refine r_getr (t2 := 25) hx hb hts in_Li hown hS 5 rfl rfl 1 (by decide) rfl (hts _ tw_149) d_Li_add_46 ?_
  refine lv_aload_n hx hb d_Li_add_49 rfl (lv_at hl 0 rfl) ?_
  refine r_geti (z := F 7) hx hb hts in_Li hown hS 5 rfl rfl 7 (by decide) rfl (hts _ tw_155) d_Li_add_50 rfl ?_
  refine lv_iload_n hx hb d_Li_add_53 rfl (lv_at hl 1 rfl) ?_
  obtain ⟨g1, h⟩ := h
  obtain ⟨g2, h⟩ := h
  refine r_iast (id := 19) (i := (F 7)) (v := x1) hx hb hS 25 rfl g1 g2 (seta_19 ad cA mo _ _ _ _) d_Li_add_54 (fun H locs hS => ?_)
  refine lv_aload_n hx hb d_Li_add_55 rfl (lv_at hl 0 rfl) ?_
  refine r_getr (t2 := 26) hx hb hts in_Li hown hS 5 rfl rfl 2 (by decide) rfl (hts _ tw_150) d_Li_add_56 ?_
  refine lv_aload_n hx hb d_Li_add_59 rfl (lv_at hl 0 rfl) ?_
  refine r_geti (z := F 7) hx hb hts in_Li hown hS 5 rfl rfl 7 (by decide) rfl (hts _ tw_155) d_Li_add_60 rfl ?_
  refine lv_aload_n hx hb d_Li_add_63 rfl (lv_at hl 0 rfl) ?_
  refine r_geti (z := F 8) hx hb hts in_Li hown hS 5 rfl rfl 8 (by decide) rfl (hts _ tw_156) d_Li_add_64 rfl ?_
  refine r_iast (id := 20) (i := (F 7)) (v := (F 8)) hx hb hS 26 rfl g1 g2 (seta_20 ad cA mo _ _ _ _) d_Li_add_67 (fun H locs hS => ?_)
  refine lv_aload_n hx hb d_Li_add_68 rfl (lv_at hl 0 rfl) ?_
  refine lv_dup hx hb d_Li_add_69 rfl ?_
  refine r_geti (z := F 8) hx hb hts in_Li hown hS 5 rfl rfl 8 (by decide) rfl (hts _ tw_156) d_Li_add_70 rfl ?_
  refine lv_aload_n hx hb d_Li_add_73 rfl (lv_at hl 0 rfl) ?_
  refine r_getr (t2 := 2) hx hb hts in_Li hown hS 5 rfl rfl 0 (by decide) rfl (hts _ tw_148) d_Li_add_74 ?_
  refine r_getr (t2 := 9) hx hb hts in_Ce hown hS 2 rfl rfl 0 (by decide) rfl (hts _ tw_77) d_Li_add_77 ?_
  refine lv_iload_n hx hb d_Li_add_80 rfl (lv_at hl 1 rfl) ?_
  obtain ⟨g3, h⟩ := h
  obtain ⟨g4, h⟩ := h
  refine r_iald (id := 3) (i := x1) (z := A 3 x1) hx hb hS 9 rfl g3 g4 d_Li_add_81 rfl ?_
  refine r_iadd hx hb d_Li_add_82 ?_
  refine r_puti (j := 8) (v := (F 8) + (A 3 x1)) hx hb hts in_Li t_Li to_Li nm_Li hown hS 5 rfl rfl 8 (by decide) (hts _ tw_156) rfl (by decide +kernel) (setf_8 ad cA mo _ _ _) (by decide) d_Li_add_83 (fun H locs hS => ?_)
  refine lv_aload_n hx hb d_Li_add_86 rfl (lv_at hl 0 rfl) ?_
  refine lv_dup hx hb d_Li_add_87 rfl ?_
  refine r_geti (z := F 7) hx hb hts in_Li hown hS 5 rfl rfl 7 (by decide) rfl (hts _ tw_155) d_Li_add_88 rfl ?_
  refine r_iconst hx hb d_Li_add_91 ?_
  refine r_iadd hx hb d_Li_add_92 ?_
  refine r_puti (j := 7) (v := (F 7) + 1) hx hb hts in_Li t_Li to_Li nm_Li hown hS 5 rfl rfl 7 (by decide) (hts _ tw_155) rfl (by decide +kernel) (setf_7 ad cA mo _ _ _) (by decide) d_Li_add_93 (fun H locs hS => ?_)
  exact r_vret hx hb hr hlocks hS h d_Li_add_96
set_option maxHeartbeats 4000000 in
set_option maxRecDepth 100000 in
theorem ct_Li_add (l : Launch) (D : va_G) (ad : Nat → Nat) (cA : Nat → ClassId) (mo sz : Nat) (F : Nat → Int) (A : Nat → Int → Int) (x1 : Int) (Q : (Nat → Int) → (Nat → Int → Int) → Prop) (h : w_Li_add mo F A x1 Q) : Met l y_Li_add (Cond.code y_Li_add c_Li_add 2 (none) :: gT) ({ frames := 1, cells := 0, slots := 0, locals := 22 } : Room) (va_Pc [.ref (ad 5), .int (iI x1)] (x_P D vCl shU ad cA (NN mo) sz F A)) (x_QV D vCl shU ad cA (NN mo) (va_A (x_w shU ad cA (NN mo) F A) sz) Q) 0 0 (va_A (x_w shU ad cA (NN mo) F A) sz) := by
  refine Met.ofW (cc := c_Li_add) (maxL := 2) (ret := none) (by decide) rfl ?_
  intro p e s m args below meth c s₁ B hml hv
  obtain ⟨rfl, hsz, hP, hK, hD0, hN0⟩ := hv
  have hx := B.exec
  have hb := B.bytes
  have hr := B.returns
  have hts0 := atoms_spec (ws := (Cond.code y_Li_add c_Li_add 2 (none) :: gT)) B.pre
  have hts : ∀ w ∈ gT, w.before _ s = true := fun w h => hts0 w (List.mem_cons_of_mem _ h)
  have hown : s.vm.findClass R_Li = some m.cls := findClass_of_methodNamed B.named
  have hlocks := B.notSynchronized
  subst hsz
  have hS : x_S D vCl shU ad cA (NN mo) (va_A (x_w shU ad cA (NN mo) F A) s.heap.size) s F A s.heap [] := ⟨hK, hP, hD0.self, va_S.rf, hN0⟩
  have hA : ∀ q : Nat, s.heap.size ≤ q → va_A (x_w shU ad cA (NN mo) F A) s.heap.size q := fun q h => Or.inr h
  have C0 : x_C p s m [.ref (ad 5), .int (iI x1)].toArray meth c c_Li_add 2 (none) gT R_Li := ⟨hx, hb, hr, hml, hown, hts, hlocks⟩
  generalize va_A (x_w shU ad cA (NN mo) F A) s.heap.size = A0 at hS hA ⊢
  have hl := lv_entry [.ref (ad 5), .int (iI x1)] (n := 2) (Nat.le_of_ble_eq_true rfl)
  rw [lg_entry_eq]
  generalize (lg_sl [.ref (ad 5), .int (iI x1)] ++ List.replicate (2 - (lg_sl [.ref (ad 5), .int (iI x1)]).length) Slot.unset).toArray = ls at hl ⊢
  have hl : lv_has ls 2 [(0, .ref (ad 5)), (1, .int (iI x1))] := hl
  refine lv_aload_n hx hb d_Li_add_0 rfl (lv_at hl 0 rfl) ?_
  refine r_geti (z := F 7) hx hb hts in_Li hown hS 5 rfl rfl 7 (by decide) rfl (hts _ tw_155) d_Li_add_1 rfl ?_
  refine r_bipush hx hb d_Li_add_4 (by decide +kernel) ?_
  obtain ⟨g5, h⟩ := h
  refine r_icmp_lt (tgt := 10) hx hb g5 ⟨by omega, by omega⟩ d_Li_add_6 (by decide) (fun hc => ?_) (fun hc => ?_)
  · replace h := h.1 hc
    refine lv_aload_n hx hb d_Li_add_10 rfl (lv_at hl 0 rfl) ?_
    refine r_geti (z := F 7) hx hb hts in_Li hown hS 5 rfl rfl 7 (by decide) rfl (hts _ tw_155) d_Li_add_11 rfl ?_
    refine r_if_le (tgt := 45) hx hb g5 d_Li_add_14 (by decide) (fun hc => ?_) (fun hc => ?_)
    · replace h := h.1 hc
      exact s_Li_add_b45 C0 hA _ _ _ h _ _ _ hS (lv_sub hl [0, 1] rfl)
    · replace h := h.2 hc
      refine lv_aload_n hx hb d_Li_add_17 rfl (lv_at hl 0 rfl) ?_
      refine lv_dup hx hb d_Li_add_18 rfl ?_
      refine r_geti (z := F 8) hx hb hts in_Li hown hS 5 rfl rfl 8 (by decide) rfl (hts _ tw_156) d_Li_add_19 rfl ?_
      refine lv_aload_n hx hb d_Li_add_22 rfl (lv_at hl 0 rfl) ?_
      refine r_getr (t2 := 2) hx hb hts in_Li hown hS 5 rfl rfl 0 (by decide) rfl (hts _ tw_148) d_Li_add_23 ?_
      refine lv_aload_n hx hb d_Li_add_26 rfl (lv_at hl 0 rfl) ?_
      refine r_getr (t2 := 25) hx hb hts in_Li hown hS 5 rfl rfl 1 (by decide) rfl (hts _ tw_149) d_Li_add_27 ?_
      refine lv_aload_n hx hb d_Li_add_30 rfl (lv_at hl 0 rfl) ?_
      refine r_geti (z := F 7) hx hb hts in_Li hown hS 5 rfl rfl 7 (by decide) rfl (hts _ tw_155) d_Li_add_31 rfl ?_
      refine r_iconst hx hb d_Li_add_34 ?_
      refine r_isub hx hb d_Li_add_35 ?_
      obtain ⟨g6, h⟩ := h
      obtain ⟨g7, h⟩ := h
      refine r_iald (id := 19) (i := ((F 7) - 1)) (z := A 19 ((F 7) - 1)) hx hb hS 25 rfl g6 g7 d_Li_add_36 rfl ?_
      refine lv_iload_n hx hb d_Li_add_37 rfl (lv_at hl 1 rfl) ?_
      refine r_ci (va_runV (As := [.int (iI (A 19 ((F 7) - 1))), .int (iI x1)]) (rest := [.int (iI (F 8)), .ref (ad 5)]) ⟨hx, hb, hml, hown, hts⟩ (ct_Ce_spaceBetween l D ad cA mo _ _ _ _ _ _ h) (cwV 2 hts (gV tw_269 tw_270 tw_271 tw_4 tw_272) rfl rfl rfl (by decide +kernel) ⟨Nat.le_of_ble_eq_true rfl, Nat.le_of_ble_eq_true rfl⟩) (x_preV hS 2 rfl rfl _) rfl rfl hl.1 rfl (lv_room (Nat.le_of_ble_eq_true rfl)) d_Li_add_38 ⟨Nat.zero_le _, Nat.zero_le _⟩) hS hA (fun z8 F8 A8 H locs hS h => ?_)
      obtain ⟨rfl, rfl, h⟩ := h
      refine r_iadd hx hb d_Li_add_41 ?_
      refine r_puti (j := 8) (v := (F 8) + z8) hx hb hts in_Li t_Li to_Li nm_Li hown hS 5 rfl rfl 8 (by decide) (hts _ tw_156) rfl (by decide +kernel) (setf_8 ad cA mo _ _ _) (by decide) d_Li_add_42 (fun H locs hS => ?_)
      exact s_Li_add_b45 C0 hA _ _ _ h _ _ _ hS (lv_sub hl [0, 1] rfl)
  · replace h := h.2 hc
    exact r_vret hx hb hr hlocks hS h d_Li_add_9
/-! Fi_gather -/
def w_Fi_gather_b16 (mo : Nat) (Q : (Nat → Int) → (Nat → Int → Int) → Prop) (x2 : Int) (x3 : Int) (F : Nat → Int) (A : Nat → Int → Int) : Prop := Lp4 (fun I16 x2 x3 F A => rg x3 ∧ ((60 ≤ x3 → Q F A) ∧ (¬ 60 ≤ x3 → rg x2 ∧ ((x2 = (-1) → Q F A) ∧ (¬ x2 = (-1) → w_Li_add mo F A x2 (fun F3 A3 => 0 ≤ x2 ∧ x2 < 60 ∧ I16 (A3 15 x2) (x3 + 1) F3 A3)))))) x2 x3 F A
def w_Fi_gather (mo : Nat) (F : Nat → Int) (A : Nat → Int → Int) (x1 : Int) (Q : (Nat → Int) → (Nat → Int → Int) → Prop) : Prop := w_Li_clear mo F A (fun F6 A6 => 0 ≤ x1 ∧ x1 < (mo : Int) ∧ w_Fi_gather_b16 mo Q (A6 16 x1) 0 F6 A6)
set_option maxHeartbeats 4000000 in
set_option maxRecDepth 100000 in
theorem s_Fi_gather_b16 (C0 : x_C p s m args meth c c_Fi_gather 4 (none) gT R_Fi) (hA : ∀ q : Nat, s.heap.size ≤ q → A0 q) {mo : Nat} {Q : (Nat → Int) → (Nat → Int → Int) → Prop} (x2 : Int) (x3 : Int) (F : Nat → Int) (A : Nat → Int → Int) (h : w_Fi_gather_b16 mo Q x2 x3 F A) (H : Heap) (locs : List Loc) (ls : Array Slot) (hS : x_S D vCl shU ad cA (NN mo) A0 s F A H locs) (hl : lv_has ls 4 [(0, .ref (ad 4)), (2, .int (iI x2)), (3, .int (iI x3))]) : W p l e ({ frames := 2, cells := 0, slots := 0, locals := 43 } : Room) s m args below meth c H locs 0 0 (MQ below (x_QV D vCl shU ad cA (NN mo) A0 Q) args s 0 0 A0) (F0 m 16 ls []) := by
  obtain ⟨hx, hb, hr, hml, hown, hts, hlocks⟩ := id C0
  refine h (fun x2 x3 F A => ∀ (H : Heap) (locs : List Loc) (ls : Array Slot), x_S D vCl shU ad cA (NN mo) A0 s F A H locs → lv_has ls 4 [(0, .ref (ad 4)), (2, .int (iI x2)), (3, .int (iI x3))] → W p l e ({ frames := 2, cells := 0, slots := 0, locals := 43 } : Room) s m args below meth c H locs 0 0 (MQ below (x_QV D vCl shU ad cA (NN mo) A0 Q) args s 0 0 A0) (F0 m 16 ls [])) ?_ H locs ls hS hl
  intro x2 x3 F A h H locs ls hS hl
  refine lv_iload_n hx hb d_Fi_gather_16 rfl (lv_at hl 2 rfl) ?_
  refine r_bipush hx hb d_Fi_gather_17 (by decide +kernel) ?_
  obtain ⟨g1, h⟩ := h
  refine r_icmp_ge (tgt := 48) hx hb g1 ⟨by omega, by omega⟩ d_Fi_gather_19 (by decide) (fun hc => ?_) (fun hc => ?_)
  · replace h := h.1 hc
    exact r_vret hx hb hr hlocks hS h d_Fi_gather_48
  · replace h := h.2 hc
    refine lv_iload_n hx hb d_Fi_gather_22 rfl (lv_at hl 1 rfl) ?_
    refine r_iconst hx hb d_Fi_gather_23 ?_
    obtain ⟨g2, h⟩ := h
    refine r_icmp_eq (tgt := 48) hx hb g2 ⟨by omega, by omega⟩ d_Fi_gather_24 (by decide) (fun hc => ?_) (fun hc => ?_)
    · replace h := h.1 hc
      exact r_vret hx hb hr hlocks hS h d_Fi_gather_48
    · replace h := h.2 hc
      refine lv_aload_n hx hb d_Fi_gather_27 rfl (lv_at hl 0 rfl) ?_
      refine r_getr (t2 := 5) hx hb hts in_Fi hown hS 4 rfl rfl 2 (by decide) rfl (hts _ tw_182) d_Fi_gather_28 ?_
      refine lv_iload_n hx hb d_Fi_gather_31 rfl (lv_at hl 1 rfl) ?_
      refine r_cv (va_runV (As := [.int (iI x2)]) (rest := []) ⟨hx, hb, hml, hown, hts⟩ (ct_Li_add l D ad cA mo _ _ _ _ _ h) (cwV 1 hts (gV tw_265 tw_266 tw_267 tw_7 tw_268) rfl rfl rfl (by decide +kernel) ⟨Nat.le_of_ble_eq_true rfl, Nat.le_of_ble_eq_true rfl⟩) (x_preV hS 5 rfl rfl _) rfl rfl hl.1 rfl (lv_room (Nat.le_of_ble_eq_true rfl)) d_Fi_gather_32 ⟨Nat.zero_le _, Nat.zero_le _⟩) hS hA (fun F3 A3 H locs hS h => ?_)
      refine lv_aload_n hx hb d_Fi_gather_35 rfl (lv_at hl 0 rfl) ?_
      refine r_getr (t2 := 21) hx hb hts in_Fi hown hS 4 rfl rfl 4 (by decide) rfl (hts _ tw_184) d_Fi_gather_36 ?_
      refine lv_iload_n hx hb d_Fi_gather_39 rfl (lv_at hl 1 rfl) ?_
      obtain ⟨g4, h⟩ := h
      obtain ⟨g5, h⟩ := h
      refine r_iald (id := 15) (i := x2) (z := A3 15 x2) hx hb hS 21 rfl g4 g5 d_Fi_gather_40 rfl ?_
      refine lv_istore_n (lv' := [(2, .int (iI (A3 15 x2))), (0, .ref (ad 4)), (3, .int (iI x3))]) hx hb d_Fi_gather_41 rfl hl (by decide) rfl (fun ls hl => ?_)
      refine r_iinc (k := 2) (z := x3) (lv' := [(3, .int (iI (x3 + 1))), (2, .int (iI (A3 15 x2))), (0, .ref (ad 4))]) hx hb d_Fi_gather_42 hl rfl (by decide) rfl (fun ls hl => ?_)
      refine lv_goto (tgt := 16) hx hb d_Fi_gather_45 (by decide) ?_
      exact h _ _ _ hS (lv_sub hl [2, 1, 0] rfl)
set_option maxHeartbeats 4000000 in
set_option maxRecDepth 100000 in
theorem ct_Fi_gather (l : Launch) (D : va_G) (ad : Nat → Nat) (cA : Nat → ClassId) (mo sz : Nat) (F : Nat → Int) (A : Nat → Int → Int) (x1 : Int) (Q : (Nat → Int) → (Nat → Int → Int) → Prop) (h : w_Fi_gather mo F A x1 Q) : Met l y_Fi_gather (Cond.code y_Fi_gather c_Fi_gather 4 (none) :: gT) ({ frames := 2, cells := 0, slots := 0, locals := 43 } : Room) (va_Pc [.ref (ad 4), .int (iI x1)] (x_P D vCl shU ad cA (NN mo) sz F A)) (x_QV D vCl shU ad cA (NN mo) (va_A (x_w shU ad cA (NN mo) F A) sz) Q) 0 0 (va_A (x_w shU ad cA (NN mo) F A) sz) := by
  refine Met.ofW (cc := c_Fi_gather) (maxL := 4) (ret := none) (by decide) rfl ?_
  intro p e s m args below meth c s₁ B hml hv
  obtain ⟨rfl, hsz, hP, hK, hD0, hN0⟩ := hv
  have hx := B.exec
  have hb := B.bytes
  have hr := B.returns
  have hts0 := atoms_spec (ws := (Cond.code y_Fi_gather c_Fi_gather 4 (none) :: gT)) B.pre
  have hts : ∀ w ∈ gT, w.before _ s = true := fun w h => hts0 w (List.mem_cons_of_mem _ h)
  have hown : s.vm.findClass R_Fi = some m.cls := findClass_of_methodNamed B.named
  have hlocks := B.notSynchronized
  subst hsz
  have hS : x_S D vCl shU ad cA (NN mo) (va_A (x_w shU ad cA (NN mo) F A) s.heap.size) s F A s.heap [] := ⟨hK, hP, hD0.self, va_S.rf, hN0⟩
  have hA : ∀ q : Nat, s.heap.size ≤ q → va_A (x_w shU ad cA (NN mo) F A) s.heap.size q := fun q h => Or.inr h
  have C0 : x_C p s m [.ref (ad 4), .int (iI x1)].toArray meth c c_Fi_gather 4 (none) gT R_Fi := ⟨hx, hb, hr, hml, hown, hts, hlocks⟩
  generalize va_A (x_w shU ad cA (NN mo) F A) s.heap.size = A0 at hS hA ⊢
  have hl := lv_entry [.ref (ad 4), .int (iI x1)] (n := 4) (Nat.le_of_ble_eq_true rfl)
  rw [lg_entry_eq]
  generalize (lg_sl [.ref (ad 4), .int (iI x1)] ++ List.replicate (4 - (lg_sl [.ref (ad 4), .int (iI x1)]).length) Slot.unset).toArray = ls at hl ⊢
  have hl : lv_has ls 4 [(0, .ref (ad 4)), (1, .int (iI x1))] := hl
  refine lv_aload_n hx hb d_Fi_gather_0 rfl (lv_at hl 0 rfl) ?_
  refine r_getr (t2 := 5) hx hb hts in_Fi hown hS 4 rfl rfl 2 (by decide) rfl (hts _ tw_182) d_Fi_gather_1 ?_
  refine r_cv (va_runV (As := []) (rest := []) ⟨hx, hb, hml, hown, hts⟩ (ct_Li_clear l D ad cA mo _ _ _ _ h) (cwV 0 hts (gV tw_261 tw_262 tw_263 tw_7 tw_264) rfl rfl rfl (by decide +kernel) ⟨Nat.le_of_ble_eq_true rfl, Nat.le_of_ble_eq_true rfl⟩) (x_preV hS 5 rfl rfl _) rfl rfl hl.1 rfl (lv_room (Nat.le_of_ble_eq_true rfl)) d_Fi_gather_4 ⟨Nat.zero_le _, Nat.zero_le _⟩) hS hA (fun F6 A6 H locs hS h => ?_)
  refine lv_aload_n hx hb d_Fi_gather_7 rfl (lv_at hl 0 rfl) ?_
  refine r_getr (t2 := 22) hx hb hts in_Fi hown hS 4 rfl rfl 5 (by decide) rfl (hts _ tw_185) d_Fi_gather_8 ?_
  refine lv_iload_n hx hb d_Fi_gather_11 rfl (lv_at hl 1 rfl) ?_
  obtain ⟨g7, h⟩ := h
  obtain ⟨g8, h⟩ := h
  refine r_iald (id := 16) (i := x1) (z := A6 16 x1) hx hb hS 22 rfl g7 g8 d_Fi_gather_12 rfl ?_
  refine lv_istore_n (lv' := [(2, .int (iI (A6 16 x1))), (0, .ref (ad 4)), (1, .int (iI x1))]) hx hb d_Fi_gather_13 rfl hl (by decide) rfl (fun ls hl => ?_)
  refine r_iconst hx hb d_Fi_gather_14 ?_
  refine lv_istore_n (lv' := [(3, .int (iI 0)), (2, .int (iI (A6 16 x1))), (0, .ref (ad 4)), (1, .int (iI x1))]) hx hb d_Fi_gather_15 rfl hl (by decide) rfl (fun ls hl => ?_)
  exact s_Fi_gather_b16 C0 hA _ _ _ _ h _ _ _ hS (lv_sub hl [2, 1, 0] rfl)
/-! Li_insertBend -/
def w_Li_insertBend_b54 (mo : Nat) (Q : (Nat → Int) → (Nat → Int → Int) → Prop) (x1 : Int) (x2 : Int) (F : Nat → Int) (A : Nat → Int → Int) : Prop := 0 ≤ x2 ∧ x2 < 61 ∧ Q (uf F 6 ((F 6) + 1)) (ua A 23 x2 x1)
def w_Li_insertBend_b18 (mo : Nat) (Q : (Nat → Int) → (Nat → Int → Int) → Prop) (x1 : Int) (x2 : Int) (F : Nat → Int) (A : Nat → Int → Int) : Prop := Lp3 (fun I18 x2 F A => rg x2 ∧ ((x2 ≤ 0 → w_Li_insertBend_b54 mo Q x1 x2 F A) ∧ (¬ x2 ≤ 0 → 0 ≤ (x2 - 1) ∧ (x2 - 1) < 61 ∧ rg (A 23 (x2 - 1)) ∧ rg x1 ∧ (((A 23 (x2 - 1)) ≤ x1 → w_Li_insertBend_b54 mo Q x1 x2 F A) ∧ (¬ (A 23 (x2 - 1)) ≤ x1 → 0 ≤ x2 ∧ x2 < 61 ∧ I18 (x2 + (-1)) F (ua A 23 x2 (A 23 (x2 - 1)))))))) x2 F A
def w_Li_insertBend (mo : Nat) (F : Nat → Int) (A : Nat → Int → Int) (x1 : Int) (Q : (Nat → Int) → (Nat → Int → Int) → Prop) : Prop := rg (F 6) ∧ (((F 6) < 61 → w_Li_insertBend_b18 mo Q x1 (F 6) F A) ∧ (¬ (F 6) < 61 → Q F A))
set_option maxHeartbeats 4000000 in
set_option maxRecDepth 100000 in
theorem s_Li_insertBend_b54 (C0 : x_C p s m args meth c c_Li_insertBend 3 (none) gT R_Li) (hA : ∀ q : Nat, s.heap.size ≤ q → A0 q) {mo : Nat} {Q : (Nat → Int) → (Nat → Int → Int) → Prop} (x1 : Int) (x2 : Int) (F : Nat → Int) (A : Nat → Int → Int) (h : w_Li_insertBend_b54 mo Q x1 x2 F A) (H : Heap) (locs : List Loc) (ls : Array Slot) (hS : x_S D vCl shU ad cA (NN mo) A0 s F A H locs) (hl : lv_has ls 3 [(0, .ref (ad 5)), (1, .int (iI x1)), (2, .int (iI x2))]) : W p l e ({ frames := 0, cells := 0, slots := 0, locals := 0 } : Room) s m args below meth c H locs 0 0 (MQ below (x_QV D vCl shU ad cA (NN mo) A0 Q) args s 0 0 A0) (F0 m 54 ls []) := by
  obtain ⟨hx, hb, hr, hml, hown, hts, hlocks⟩ := id C0
  refine lv_aload_n hx hb d_Li_insertBend_54 rfl (lv_at hl 0 rfl) ?_
  refine r_getr (t2 := 29) hx hb hts in_Li hown hS 5 rfl rfl 5 (by decide) rfl (hts _ tw_153) d_Li_insertBend_55 ?_
  refine lv_iload_n hx hb d_Li_insertBend_58 rfl (lv_at hl 2 rfl) ?_
  refine lv_iload_n hx hb d_Li_insertBend_59 rfl (lv_at hl 1 rfl) ?_
  obtain ⟨g1, h⟩ := h
  obtain ⟨g2, h⟩ := h
  refine r_iast (id := 23) (i := x2) (v := x1) hx hb hS 29 rfl g1 g2 (seta_23 ad cA mo _ _ _ _) d_Li_insertBend_60 (fun H locs hS => ?_)
  refine lv_aload_n hx hb d_Li_insertBend_61 rfl (lv_at hl 0 rfl) ?_
  refine lv_dup hx hb d_Li_insertBend_62 rfl ?_
  refine r_geti (z := F 6) hx hb hts in_Li hown hS 5 rfl rfl 6 (by decide) rfl (hts _ tw_154) d_Li_insertBend_63 rfl ?_
  refine r_iconst hx hb d_Li_insertBend_66 ?_
  refine r_iadd hx hb d_Li_insertBend_67 ?_
  refine r_puti (j := 6) (v := (F 6) + 1) hx hb hts in_Li t_Li to_Li nm_Li hown hS 5 rfl rfl 6 (by decide) (hts _ tw_154) rfl (by decide +kernel) (setf_6 ad cA mo _ _ _) (by decide) d_Li_insertBend_68 (fun H locs hS => ?_)
  exact r_vret hx hb hr hlocks hS h d_Li_insertBend_71
set_option maxHeartbeats 4000000 in
set_option maxRecDepth 100000 in
theorem s_Li_insertBend_b18 (C0 : x_C p s m args meth c c_Li_insertBend 3 (none) gT R_Li) (hA : ∀ q : Nat, s.heap.size ≤ q → A0 q) {mo : Nat} {Q : (Nat → Int) → (Nat → Int → Int) → Prop} (x1 : Int) (x2 : Int) (F : Nat → Int) (A : Nat → Int → Int) (h : w_Li_insertBend_b18 mo Q x1 x2 F A) (H : Heap) (locs : List Loc) (ls : Array Slot) (hS : x_S D vCl shU ad cA (NN mo) A0 s F A H locs) (hl : lv_has ls 3 [(0, .ref (ad 5)), (1, .int (iI x1)), (2, .int (iI x2))]) : W p l e ({ frames := 0, cells := 0, slots := 0, locals := 0 } : Room) s m args below meth c H locs 0 0 (MQ below (x_QV D vCl shU ad cA (NN mo) A0 Q) args s 0 0 A0) (F0 m 18 ls []) := by
  obtain ⟨hx, hb, hr, hml, hown, hts, hlocks⟩ := id C0
  refine h (fun x2 F A => ∀ (H : Heap) (locs : List Loc) (ls : Array Slot), x_S D vCl shU ad cA (NN mo) A0 s F A H locs → lv_has ls 3 [(0, .ref (ad 5)), (1, .int (iI x1)), (2, .int (iI x2))] → W p l e ({ frames := 0, cells := 0, slots := 0, locals := 0 } : Room) s m args below meth c H locs 0 0 (MQ below (x_QV D vCl shU ad cA (NN mo) A0 Q) args s 0 0 A0) (F0 m 18 ls [])) ?_ H locs ls hS hl
  intro x2 F A h H locs ls hS hl
  refine lv_iload_n hx hb d_Li_insertBend_18 rfl (lv_at hl 2 rfl) ?_
  obtain ⟨g3, h⟩ := h
  refine r_if_le (tgt := 54) hx hb g3 d_Li_insertBend_19 (by decide) (fun hc => ?_) (fun hc => ?_)
  · replace h := h.1 hc
    exact s_Li_insertBend_b54 C0 hA _ _ _ _ h _ _ _ hS (lv_sub hl [0, 1, 2] rfl)
  · replace h := h.2 hc
    refine lv_aload_n hx hb d_Li_insertBend_22 rfl (lv_at hl 0 rfl) ?_
    refine r_getr (t2 := 29) hx hb hts in_Li hown hS 5 rfl rfl 5 (by decide) rfl (hts _ tw_153) d_Li_insertBend_23 ?_
    refine lv_iload_n hx hb d_Li_insertBend_26 rfl (lv_at hl 2 rfl) ?_
    refine r_iconst hx hb d_Li_insertBend_27 ?_
    refine r_isub hx hb d_Li_insertBend_28 ?_
    obtain ⟨g4, h⟩ := h
    obtain ⟨g5, h⟩ := h
    refine r_iald (id := 23) (i := (x2 - 1)) (z := A 23 (x2 - 1)) hx hb hS 29 rfl g4 g5 d_Li_insertBend_29 rfl ?_
    refine lv_iload_n hx hb d_Li_insertBend_30 rfl (lv_at hl 1 rfl) ?_
    obtain ⟨g6, h⟩ := h
    obtain ⟨g7, h⟩ := h
    refine r_icmp_le (tgt := 54) hx hb g6 g7 d_Li_insertBend_31 (by decide) (fun hc => ?_) (fun hc => ?_)
    · replace h := h.1 hc
      exact s_Li_insertBend_b54 C0 hA _ _ _ _ h _ _ _ hS (lv_sub hl [0, 1, 2] rfl)
    · replace h := h.2 hc
      refine lv_aload_n hx hb d_Li_insertBend_34 rfl (lv_at hl 0 rfl) ?_
      refine r_getr (t2 := 29) hx hb hts in_Li hown hS 5 rfl rfl 5 (by decide) rfl (hts _ tw_153) d_Li_insertBend_35 ?_
      refine lv_iload_n hx hb d_Li_insertBend_38 rfl (lv_at hl 2 rfl) ?_
      refine lv_aload_n hx hb d_Li_insertBend_39 rfl (lv_at hl 0 rfl) ?_
      refine r_getr (t2 := 29) hx hb hts in_Li hown hS 5 rfl rfl 5 (by decide) rfl (hts _ tw_153) d_Li_insertBend_40 ?_
      refine lv_iload_n hx hb d_Li_insertBend_43 rfl (lv_at hl 2 rfl) ?_
      refine r_iconst hx hb d_Li_insertBend_44 ?_
      refine r_isub hx hb d_Li_insertBend_45 ?_
      refine r_iald (id := 23) (i := (x2 - 1)) (z := A 23 (x2 - 1)) hx hb hS 29 rfl g4 g5 d_Li_insertBend_46 rfl ?_
      obtain ⟨g8, h⟩ := h
      obtain ⟨g9, h⟩ := h
      refine r_iast (id := 23) (i := x2) (v := (A 23 (x2 - 1))) hx hb hS 29 rfl g8 g9 (seta_23 ad cA mo _ _ _ _) d_Li_insertBend_47 (fun H locs hS => ?_)
      refine r_iinc (k := 2) (z := x2) (lv' := [(2, .int (iI (x2 + (-1)))), (0, .ref (ad 5)), (1, .int (iI x1))]) hx hb d_Li_insertBend_48 hl rfl (by decide) rfl (fun ls hl => ?_)
      refine lv_goto (tgt := 18) hx hb d_Li_insertBend_51 (by decide) ?_
      exact h _ _ _ hS (lv_sub hl [1, 2, 0] rfl)
set_option maxHeartbeats 4000000 in
set_option maxRecDepth 100000 in
theorem ct_Li_insertBend (l : Launch) (D : va_G) (ad : Nat → Nat) (cA : Nat → ClassId) (mo sz : Nat) (F : Nat → Int) (A : Nat → Int → Int) (x1 : Int) (Q : (Nat → Int) → (Nat → Int → Int) → Prop) (h : w_Li_insertBend mo F A x1 Q) : Met l y_Li_insertBend (Cond.code y_Li_insertBend c_Li_insertBend 3 (none) :: gT) ({ frames := 0, cells := 0, slots := 0, locals := 0 } : Room) (va_Pc [.ref (ad 5), .int (iI x1)] (x_P D vCl shU ad cA (NN mo) sz F A)) (x_QV D vCl shU ad cA (NN mo) (va_A (x_w shU ad cA (NN mo) F A) sz) Q) 0 0 (va_A (x_w shU ad cA (NN mo) F A) sz) := by
  refine Met.ofW (cc := c_Li_insertBend) (maxL := 3) (ret := none) (by decide) rfl ?_
  intro p e s m args below meth c s₁ B hml hv
  obtain ⟨rfl, hsz, hP, hK, hD0, hN0⟩ := hv
  have hx := B.exec
  have hb := B.bytes
  have hr := B.returns
  have hts0 := atoms_spec (ws := (Cond.code y_Li_insertBend c_Li_insertBend 3 (none) :: gT)) B.pre
  have hts : ∀ w ∈ gT, w.before _ s = true := fun w h => hts0 w (List.mem_cons_of_mem _ h)
  have hown : s.vm.findClass R_Li = some m.cls := findClass_of_methodNamed B.named
  have hlocks := B.notSynchronized
  subst hsz
  have hS : x_S D vCl shU ad cA (NN mo) (va_A (x_w shU ad cA (NN mo) F A) s.heap.size) s F A s.heap [] := ⟨hK, hP, hD0.self, va_S.rf, hN0⟩
  have hA : ∀ q : Nat, s.heap.size ≤ q → va_A (x_w shU ad cA (NN mo) F A) s.heap.size q := fun q h => Or.inr h
  have C0 : x_C p s m [.ref (ad 5), .int (iI x1)].toArray meth c c_Li_insertBend 3 (none) gT R_Li := ⟨hx, hb, hr, hml, hown, hts, hlocks⟩
  generalize va_A (x_w shU ad cA (NN mo) F A) s.heap.size = A0 at hS hA ⊢
  have hl := lv_entry [.ref (ad 5), .int (iI x1)] (n := 3) (Nat.le_of_ble_eq_true rfl)
  rw [lg_entry_eq]
  generalize (lg_sl [.ref (ad 5), .int (iI x1)] ++ List.replicate (3 - (lg_sl [.ref (ad 5), .int (iI x1)]).length) Slot.unset).toArray = ls at hl ⊢
  have hl : lv_has ls 3 [(0, .ref (ad 5)), (1, .int (iI x1))] := hl
  refine lv_aload_n hx hb d_Li_insertBend_0 rfl (lv_at hl 0 rfl) ?_
  refine r_geti (z := F 6) hx hb hts in_Li hown hS 5 rfl rfl 6 (by decide) rfl (hts _ tw_154) d_Li_insertBend_1 rfl ?_
  refine lv_aload_n hx hb d_Li_insertBend_4 rfl (lv_at hl 0 rfl) ?_
  refine r_getr (t2 := 29) hx hb hts in_Li hown hS 5 rfl rfl 5 (by decide) rfl (hts _ tw_153) d_Li_insertBend_5 ?_
  refine r_alen (id := 23) (z := 61) hx hb hS 29 rfl d_Li_insertBend_8 rfl ?_
  obtain ⟨g10, h⟩ := h
  refine r_icmp_lt (tgt := 13) hx hb g10 ⟨by omega, by omega⟩ d_Li_insertBend_9 (by decide) (fun hc => ?_) (fun hc => ?_)
  · replace h := h.1 hc
    refine lv_aload_n hx hb d_Li_insertBend_13 rfl (lv_at hl 0 rfl) ?_
    refine r_geti (z := F 6) hx hb hts in_Li hown hS 5 rfl rfl 6 (by decide) rfl (hts _ tw_154) d_Li_insertBend_14 rfl ?_
    refine lv_istore_n (lv' := [(2, .int (iI (F 6))), (0, .ref (ad 5)), (1, .int (iI x1))]) hx hb d_Li_insertBend_17 rfl hl (by decide) rfl (fun ls hl => ?_)
    exact s_Li_insertBend_b18 C0 hA _ _ _ _ h _ _ _ hS (lv_sub hl [1, 2, 0] rfl)
  · replace h := h.2 hc
    exact r_vret hx hb hr hlocks hS h d_Li_insertBend_12
/-! Li_findBestShifts -/
def w_Li_findBestShifts_b7 (mo : Nat) (Q : (Nat → Int) → (Nat → Int → Int) → Prop) (x1 : Int) (x2 : Int) (x3 : Int) (F : Nat → Int) (A : Nat → Int → Int) : Prop := Lp3 (fun I7 x3 F A => rg x3 ∧ rg (F 7) ∧ (((F 7) ≤ x3 → Q F A) ∧ (¬ (F 7) ≤ x3 → 0 ≤ x3 ∧ x3 < 60 ∧ 0 ≤ (A 19 x3) ∧ (A 19 x3) < 60 ∧ rg x2 ∧ rg (((A 6 (A 19 x3)) - (A 20 x3)) - x1) ∧ rg (min x2 (((A 6 (A 19 x3)) - (A 20 x3)) - x1)) ∧ w_Li_insertBend mo F A (max 0 (min x2 (((A 6 (A 19 x3)) - (A 20 x3)) - x1))) (fun F10 A10 => w_Li_insertBend mo F10 A10 (max 0 (min x2 (((A 6 (A 19 x3)) - (A 20 x3)) - x1))) (fun F11 A11 => 0 ≤ (((F11 6) - 1) - 1) ∧ (((F11 6) - 1) - 1) < 61 ∧ I7 (x3 + 1) (uf F11 6 ((F11 6) - 1)) (ua A11 21 x3 (A11 23 (((F11 6) - 1) - 1)))))))) x3 F A
def w_Li_findBestShifts (mo : Nat) (F : Nat → Int) (A : Nat → Int → Int) (x1 : Int) (x2 : Int) (Q : (Nat → Int) → (Nat → Int → Int) → Prop) : Prop := w_Li_findBestShifts_b7 mo Q x1 x2 0 (uf F 6 0) A
set_option maxHeartbeats 4000000 in
set_option maxRecDepth 100000 in
theorem s_Li_findBestShifts_b7 (C0 : x_C p s m args meth c c_Li_findBestShifts 6 (none) gT R_Li) (hA : ∀ q : Nat, s.heap.size ≤ q → A0 q) {mo : Nat} {Q : (Nat → Int) → (Nat → Int → Int) → Prop} (x1 : Int) (x2 : Int) (x3 : Int) (F : Nat → Int) (A : Nat → Int → Int) (h : w_Li_findBestShifts_b7 mo Q x1 x2 x3 F A) (H : Heap) (locs : List Loc) (ls : Array Slot) (hS : x_S D vCl shU ad cA (NN mo) A0 s F A H locs) (hl : lv_has ls 6 [(0, .ref (ad 5)), (1, .int (iI x1)), (2, .int (iI x2)), (3, .int (iI x3))]) : W p l e ({ frames := 1, cells := 0, slots := 0, locals := 32 } : Room) s m args below meth c H locs 0 0 (MQ below (x_QV D vCl shU ad cA (NN mo) A0 Q) args s 0 0 A0) (F0 m 7 ls []) := by
  obtain ⟨hx, hb, hr, hml, hown, hts, hlocks⟩ := id C0
  refine h (fun x3 F A => ∀ (H : Heap) (locs : List Loc) (ls : Array Slot), x_S D vCl shU ad cA (NN mo) A0 s F A H locs → lv_has ls 6 [(0, .ref (ad 5)), (1, .int (iI x1)), (2, .int (iI x2)), (3, .int (iI x3))] → W p l e ({ frames := 1, cells := 0, slots := 0, locals := 32 } : Room) s m args below meth c H locs 0 0 (MQ below (x_QV D vCl shU ad cA (NN mo) A0 Q) args s 0 0 A0) (F0 m 7 ls [])) ?_ H locs ls hS hl
  intro x3 F A h H locs ls hS hl
  refine lv_iload_n hx hb d_Li_findBestShifts_7 rfl (lv_at hl 3 rfl) ?_
  refine lv_aload_n hx hb d_Li_findBestShifts_8 rfl (lv_at hl 0 rfl) ?_
  refine r_geti (z := F 7) hx hb hts in_Li hown hS 5 rfl rfl 7 (by decide) rfl (hts _ tw_155) d_Li_findBestShifts_9 rfl ?_
  obtain ⟨g1, h⟩ := h
  obtain ⟨g2, h⟩ := h
  refine r_icmp_ge (tgt := 97) hx hb g1 g2 d_Li_findBestShifts_12 (by decide) (fun hc => ?_) (fun hc => ?_)
  · replace h := h.1 hc
    exact r_vret hx hb hr hlocks hS h d_Li_findBestShifts_97
  · replace h := h.2 hc
    refine lv_aload_n hx hb d_Li_findBestShifts_15 rfl (lv_at hl 0 rfl) ?_
    refine r_getr (t2 := 2) hx hb hts in_Li hown hS 5 rfl rfl 0 (by decide) rfl (hts _ tw_148) d_Li_findBestShifts_16 ?_
    refine r_getr (t2 := 12) hx hb hts in_Ce hown hS 2 rfl rfl 3 (by decide) rfl (hts _ tw_83) d_Li_findBestShifts_19 ?_
    refine lv_aload_n hx hb d_Li_findBestShifts_22 rfl (lv_at hl 0 rfl) ?_
    refine r_getr (t2 := 25) hx hb hts in_Li hown hS 5 rfl rfl 1 (by decide) rfl (hts _ tw_149) d_Li_findBestShifts_23 ?_
    refine lv_iload_n hx hb d_Li_findBestShifts_26 rfl (lv_at hl 3 rfl) ?_
    obtain ⟨g3, h⟩ := h
    obtain ⟨g4, h⟩ := h
    refine r_iald (id := 19) (i := x3) (z := A 19 x3) hx hb hS 25 rfl g3 g4 d_Li_findBestShifts_27 rfl ?_
    obtain ⟨g5, h⟩ := h
    obtain ⟨g6, h⟩ := h
    refine r_iald (id := 6) (i := (A 19 x3)) (z := A 6 (A 19 x3)) hx hb hS 12 rfl g5 g6 d_Li_findBestShifts_28 rfl ?_
    refine lv_aload_n hx hb d_Li_findBestShifts_29 rfl (lv_at hl 0 rfl) ?_
    refine r_getr (t2 := 26) hx hb hts in_Li hown hS 5 rfl rfl 2 (by decide) rfl (hts _ tw_150) d_Li_findBestShifts_30 ?_
    refine lv_iload_n hx hb d_Li_findBestShifts_33 rfl (lv_at hl 3 rfl) ?_
    refine r_iald (id := 20) (i := x3) (z := A 20 x3) hx hb hS 26 rfl g3 g4 d_Li_findBestShifts_34 rfl ?_
    refine r_isub hx hb d_Li_findBestShifts_35 ?_
    refine lv_iload_n hx hb d_Li_findBestShifts_36 rfl (lv_at hl 1 rfl) ?_
    refine r_isub hx hb d_Li_findBestShifts_37 ?_
    refine lv_istore (lv' := [(4, .int (iI (((A 6 (A 19 x3)) - (A 20 x3)) - x1))), (0, .ref (ad 5)), (1, .int (iI x1)), (2, .int (iI x2)), (3, .int (iI x3))]) hx hb d_Li_findBestShifts_38 hl (by decide) rfl (fun ls hl => ?_)
    refine r_iconst hx hb d_Li_findBestShifts_40 ?_
    refine lv_iload_n hx hb d_Li_findBestShifts_41 rfl (lv_at hl 3 rfl) ?_
    refine lv_iload hx hb d_Li_findBestShifts_42 (lv_at hl 0 rfl) ?_
    obtain ⟨g7, h⟩ := h
    obtain ⟨g8, h⟩ := h
    refine r_mmin hx hb (hml.trans hl.1.symm) hown (hts _ tw_281) (hts _ tw_25) (hts _ tw_2) (hts _ tw_26) (Nat.le_of_ble_eq_true rfl) (Nat.le_of_ble_eq_true rfl) (Nat.zero_le _) (Nat.zero_le _) g7 g8 d_Li_findBestShifts_44 ?_
    obtain ⟨g9, h⟩ := h
    refine r_mmax hx hb (hml.trans hl.1.symm) hown (hts _ tw_282) (hts _ tw_28) (hts _ tw_2) (hts _ tw_29) (Nat.le_of_ble_eq_true rfl) (Nat.le_of_ble_eq_true rfl) (Nat.zero_le _) (Nat.zero_le _) ⟨by omega, by omega⟩ g9 d_Li_findBestShifts_47 ?_
    refine lv_istore (lv' := [(5, .int (iI (max 0 (min x2 (((A 6 (A 19 x3)) - (A 20 x3)) - x1))))), (4, .int (iI (((A 6 (A 19 x3)) - (A 20 x3)) - x1))), (0, .ref (ad 5)), (1, .int (iI x1)), (2, .int (iI x2)), (3, .int (iI x3))]) hx hb d_Li_findBestShifts_50 hl (by decide) rfl (fun ls hl => ?_)
    refine lv_aload_n hx hb d_Li_findBestShifts_52 rfl (lv_at hl 2 rfl) ?_
    refine lv_iload hx hb d_Li_findBestShifts_53 (lv_at hl 0 rfl) ?_
    refine r_cv (va_runV (As := [.int (iI (max 0 (min x2 (((A 6 (A 19 x3)) - (A 20 x3)) - x1))))]) (rest := []) ⟨hx, hb, hml, hown, hts⟩ (ct_Li_insertBend l D ad cA mo _ _ _ _ _ h) (cwV 1 hts (gV tw_283 tw_285 tw_s_Li_insertBend tw_7 tw_286) rfl rfl rfl (by decide +kernel) ⟨Nat.le_of_ble_eq_true rfl, Nat.le_of_ble_eq_true rfl⟩) (x_preV hS 5 rfl rfl _) rfl rfl hl.1 rfl (lv_room (Nat.le_of_ble_eq_true rfl)) d_Li_findBestShifts_55 ⟨Nat.zero_le _, Nat.zero_le _⟩) hS hA (fun F10 A10 H locs hS h => ?_)
    refine lv_aload_n hx hb d_Li_findBestShifts_58 rfl (lv_at hl 2 rfl) ?_
    refine lv_iload hx hb d_Li_findBestShifts_59 (lv_at hl 0 rfl) ?_
    refine r_cv (va_runV (As := [.int (iI (max 0 (min x2 (((A 6 (A 19 x3)) - (A 20 x3)) - x1))))]) (rest := []) ⟨hx, hb, hml, hown, hts⟩ (ct_Li_insertBend l D ad cA mo _ _ _ _ _ h) (cwV 1 hts (gV tw_283 tw_285 tw_s_Li_insertBend tw_7 tw_286) rfl rfl rfl (by decide +kernel) ⟨Nat.le_of_ble_eq_true rfl, Nat.le_of_ble_eq_true rfl⟩) (x_preV hS 5 rfl rfl _) rfl rfl hl.1 rfl (lv_room (Nat.le_of_ble_eq_true rfl)) d_Li_findBestShifts_61 ⟨Nat.zero_le _, Nat.zero_le _⟩) hS hA (fun F11 A11 H locs hS h => ?_)
    refine lv_aload_n hx hb d_Li_findBestShifts_64 rfl (lv_at hl 2 rfl) ?_
    refine lv_dup hx hb d_Li_findBestShifts_65 rfl ?_
    refine r_geti (z := F11 6) hx hb hts in_Li hown hS 5 rfl rfl 6 (by decide) rfl (hts _ tw_154) d_Li_findBestShifts_66 rfl ?_
    refine r_iconst hx hb d_Li_findBestShifts_69 ?_
    refine r_isub hx hb d_Li_findBestShifts_70 ?_
    refine r_puti (j := 6) (v := (F11 6) - 1) hx hb hts in_Li t_Li to_Li nm_Li hown hS 5 rfl rfl 6 (by decide) (hts _ tw_154) rfl (by decide +kernel) (setf_6 ad cA mo _ _ _) (by decide) d_Li_findBestShifts_71 (fun H locs hS => ?_)
    refine lv_aload_n hx hb d_Li_findBestShifts_74 rfl (lv_at hl 2 rfl) ?_
    refine r_getr (t2 := 27) hx hb hts in_Li hown hS 5 rfl rfl 3 (by decide) rfl (hts _ tw_151) d_Li_findBestShifts_75 ?_
    refine lv_iload_n hx hb d_Li_findBestShifts_78 rfl (lv_at hl 5 rfl) ?_
    refine lv_aload_n hx hb d_Li_findBestShifts_79 rfl (lv_at hl 2 rfl) ?_
    refine r_getr (t2 := 29) hx hb hts in_Li hown hS 5 rfl rfl 5 (by decide) rfl (hts _ tw_153) d_Li_findBestShifts_80 ?_
    refine lv_aload_n hx hb d_Li_findBestShifts_83 rfl (lv_at hl 2 rfl) ?_
    refine r_geti (z := (F11 6) - 1) hx hb hts in_Li hown hS 5 rfl rfl 6 (by decide) rfl (hts _ tw_154) d_Li_findBestShifts_84 rfl ?_
    refine r_iconst hx hb d_Li_findBestShifts_87 ?_
    refine r_isub hx hb d_Li_findBestShifts_88 ?_
    obtain ⟨g12, h⟩ := h
    obtain ⟨g13, h⟩ := h
    refine r_iald (id := 23) (i := (((F11 6) - 1) - 1)) (z := A11 23 (((F11 6) - 1) - 1)) hx hb hS 29 rfl g12 g13 d_Li_findBestShifts_89 rfl ?_
    refine r_iast (id := 21) (i := x3) (v := (A11 23 (((F11 6) - 1) - 1))) hx hb hS 27 rfl g3 g4 (seta_21 ad cA mo _ _ _ _) d_Li_findBestShifts_90 (fun H locs hS => ?_)
    refine r_iinc (k := 5) (z := x3) (lv' := [(3, .int (iI (x3 + 1))), (5, .int (iI (max 0 (min x2 (((A 6 (A 19 x3)) - (A 20 x3)) - x1))))), (4, .int (iI (((A 6 (A 19 x3)) - (A 20 x3)) - x1))), (0, .ref (ad 5)), (1, .int (iI x1)), (2, .int (iI x2))]) hx hb d_Li_findBestShifts_91 hl rfl (by decide) rfl (fun ls hl => ?_)
    refine lv_goto (tgt := 7) hx hb d_Li_findBestShifts_94 (by decide) ?_
    exact h _ _ _ hS (lv_sub hl [3, 4, 5, 0] rfl)
set_option maxHeartbeats 4000000 in
set_option maxRecDepth 100000 in
theorem ct_Li_findBestShifts (l : Launch) (D : va_G) (ad : Nat → Nat) (cA : Nat → ClassId) (mo sz : Nat) (F : Nat → Int) (A : Nat → Int → Int) (x1 : Int) (x2 : Int) (Q : (Nat → Int) → (Nat → Int → Int) → Prop) (h : w_Li_findBestShifts mo F A x1 x2 Q) : Met l y_Li_findBestShifts (Cond.code y_Li_findBestShifts c_Li_findBestShifts 6 (none) :: gT) ({ frames := 1, cells := 0, slots := 0, locals := 32 } : Room) (va_Pc [.ref (ad 5), .int (iI x1), .int (iI x2)] (x_P D vCl shU ad cA (NN mo) sz F A)) (x_QV D vCl shU ad cA (NN mo) (va_A (x_w shU ad cA (NN mo) F A) sz) Q) 0 0 (va_A (x_w shU ad cA (NN mo) F A) sz) := by
  refine Met.ofW (cc := c_Li_findBestShifts) (maxL := 6) (ret := none) (by decide) rfl ?_
  intro p e s m args below meth c s₁ B hml hv
  obtain ⟨rfl, hsz, hP, hK, hD0, hN0⟩ := hv
  have hx := B.exec
  have hb := B.bytes
  have hr := B.returns
  have hts0 := atoms_spec (ws := (Cond.code y_Li_findBestShifts c_Li_findBestShifts 6 (none) :: gT)) B.pre
  have hts : ∀ w ∈ gT, w.before _ s = true := fun w h => hts0 w (List.mem_cons_of_mem _ h)
  have hown : s.vm.findClass R_Li = some m.cls := findClass_of_methodNamed B.named
  have hlocks := B.notSynchronized
  subst hsz
  have hS : x_S D vCl shU ad cA (NN mo) (va_A (x_w shU ad cA (NN mo) F A) s.heap.size) s F A s.heap [] := ⟨hK, hP, hD0.self, va_S.rf, hN0⟩
  have hA : ∀ q : Nat, s.heap.size ≤ q → va_A (x_w shU ad cA (NN mo) F A) s.heap.size q := fun q h => Or.inr h
  have C0 : x_C p s m [.ref (ad 5), .int (iI x1), .int (iI x2)].toArray meth c c_Li_findBestShifts 6 (none) gT R_Li := ⟨hx, hb, hr, hml, hown, hts, hlocks⟩
  generalize va_A (x_w shU ad cA (NN mo) F A) s.heap.size = A0 at hS hA ⊢
  have hl := lv_entry [.ref (ad 5), .int (iI x1), .int (iI x2)] (n := 6) (Nat.le_of_ble_eq_true rfl)
  rw [lg_entry_eq]
  generalize (lg_sl [.ref (ad 5), .int (iI x1), .int (iI x2)] ++ List.replicate (6 - (lg_sl [.ref (ad 5), .int (iI x1), .int (iI x2)]).length) Slot.unset).toArray = ls at hl ⊢
  have hl : lv_has ls 6 [(0, .ref (ad 5)), (1, .int (iI x1)), (2, .int (iI x2))] := hl
  refine lv_aload_n hx hb d_Li_findBestShifts_0 rfl (lv_at hl 0 rfl) ?_
  refine r_iconst hx hb d_Li_findBestShifts_1 ?_
  refine r_puti (j := 6) (v := 0) hx hb hts in_Li t_Li to_Li nm_Li hown hS 5 rfl rfl 6 (by decide) (hts _ tw_154) rfl (by decide +kernel) (setf_6 ad cA mo _ _ _) (by decide) d_Li_findBestShifts_2 (fun H locs hS => ?_)
  refine r_iconst hx hb d_Li_findBestShifts_5 ?_
  refine lv_istore_n (lv' := [(3, .int (iI 0)), (0, .ref (ad 5)), (1, .int (iI x1)), (2, .int (iI x2))]) hx hb d_Li_findBestShifts_6 rfl hl (by decide) rfl (fun ls hl => ?_)
  exact s_Li_findBestShifts_b7 C0 hA _ _ _ _ _ h _ _ _ hS (lv_sub hl [1, 2, 3, 0] rfl)
/-! Li_setSites -/
def w_Li_setSites_b15 (mo : Nat) (Q : (Nat → Int) → (Nat → Int → Int) → Prop) (x1 : Int) (x3 : Int) (x4 : Int) (F : Nat → Int) (A : Nat → Int → Int) : Prop := Lp4 (fun I15 x3 x4 F A => rg x4 ∧ ((x4 < 0 → Q F A) ∧ (¬ x4 < 0 → 0 ≤ x4 ∧ x4 < 60 ∧ rg x3 ∧ rg (A 21 x4) ∧ 0 ≤ (A 19 x4) ∧ (A 19 x4) < 60 ∧ rg (((ua A 22 x4 ((x1 + (A 20 x4)) + (min x3 (A 21 x4)))) 22 x4) - (A 6 (A 19 x4))) ∧ I15 (min x3 (A 21 x4)) (x4 + (-1)) (uf F 9 ((F 9) + ((Int.natAbs (((ua A 22 x4 ((x1 + (A 20 x4)) + (min x3 (A 21 x4)))) 22 x4) - (A 6 (A 19 x4))) : Nat) : Int))) (ua A 22 x4 ((x1 + (A 20 x4)) + (min x3 (A 21 x4))))))) x3 x4 F A
def w_Li_setSites (mo : Nat) (F : Nat → Int) (A : Nat → Int → Int) (x1 : Int) (x2 : Int) (Q : (Nat → Int) → (Nat → Int → Int) → Prop) : Prop := w_Li_setSites_b15 mo Q x1 x2 ((F 7) - 1) (uf F 9 0) A
set_option maxHeartbeats 4000000 in
set_option maxRecDepth 100000 in
theorem s_Li_setSites_b15 (C0 : x_C p s m args meth c c_Li_setSites 5 (none) gT R_Li) (hA : ∀ q : Nat, s.heap.size ≤ q → A0 q) {mo : Nat} {Q : (Nat → Int) → (Nat → Int → Int) → Prop} (x1 : Int) (x3 : Int) (x4 : Int) (F : Nat → Int) (A : Nat → Int → Int) (h : w_Li_setSites_b15 mo Q x1 x3 x4 F A) (H : Heap) (locs : List Loc) (ls : Array Slot) (hS : x_S D vCl shU ad cA (NN mo) A0 s F A H locs) (hl : lv_has ls 5 [(0, .ref (ad 5)), (1, .int (iI x1)), (3, .int (iI x3)), (4, .int (iI x4))]) : W p l e ({ frames := 1, cells := 0, slots := 0, locals := 32 } : Room) s m args below meth c H locs 0 0 (MQ below (x_QV D vCl shU ad cA (NN mo) A0 Q) args s 0 0 A0) (F0 m 15 ls []) := by
  obtain ⟨hx, hb, hr, hml, hown, hts, hlocks⟩ := id C0
  refine h (fun x3 x4 F A => ∀ (H : Heap) (locs : List Loc) (ls : Array Slot), x_S D vCl shU ad cA (NN mo) A0 s F A H locs → lv_has ls 5 [(0, .ref (ad 5)), (1, .int (iI x1)), (3, .int (iI x3)), (4, .int (iI x4))] → W p l e ({ frames := 1, cells := 0, slots := 0, locals := 32 } : Room) s m args below meth c H locs 0 0 (MQ below (x_QV D vCl shU ad cA (NN mo) A0 Q) args s 0 0 A0) (F0 m 15 ls [])) ?_ H locs ls hS hl
  intro x3 x4 F A h H locs ls hS hl
  refine lv_iload hx hb d_Li_setSites_15 (lv_at hl 3 rfl) ?_
  obtain ⟨g1, h⟩ := h
  refine r_if_lt (tgt := 91) hx hb g1 d_Li_setSites_17 (by decide) (fun hc => ?_) (fun hc => ?_)
  · replace h := h.1 hc
    exact r_vret hx hb hr hlocks hS h d_Li_setSites_91
  · replace h := h.2 hc
    refine lv_iload_n hx hb d_Li_setSites_20 rfl (lv_at hl 2 rfl) ?_
    refine lv_aload_n hx hb d_Li_setSites_21 rfl (lv_at hl 0 rfl) ?_
    refine r_getr (t2 := 27) hx hb hts in_Li hown hS 5 rfl rfl 3 (by decide) rfl (hts _ tw_151) d_Li_setSites_22 ?_
    refine lv_iload hx hb d_Li_setSites_25 (lv_at hl 3 rfl) ?_
    obtain ⟨g2, h⟩ := h
    obtain ⟨g3, h⟩ := h
    refine r_iald (id := 21) (i := x4) (z := A 21 x4) hx hb hS 27 rfl g2 g3 d_Li_setSites_27 rfl ?_
    obtain ⟨g4, h⟩ := h
    obtain ⟨g5, h⟩ := h
    refine r_mmin hx hb (hml.trans hl.1.symm) hown (hts _ tw_281) (hts _ tw_25) (hts _ tw_2) (hts _ tw_26) (Nat.le_of_ble_eq_true rfl) (Nat.le_of_ble_eq_true rfl) (Nat.zero_le _) (Nat.zero_le _) g4 g5 d_Li_setSites_28 ?_
    refine lv_istore_n (lv' := [(3, .int (iI (min x3 (A 21 x4)))), (0, .ref (ad 5)), (1, .int (iI x1)), (4, .int (iI x4))]) hx hb d_Li_setSites_31 rfl hl (by decide) rfl (fun ls hl => ?_)
    refine lv_aload_n hx hb d_Li_setSites_32 rfl (lv_at hl 1 rfl) ?_
    refine r_getr (t2 := 28) hx hb hts in_Li hown hS 5 rfl rfl 4 (by decide) rfl (hts _ tw_152) d_Li_setSites_33 ?_
    refine lv_iload hx hb d_Li_setSites_36 (lv_at hl 3 rfl) ?_
    refine lv_iload_n hx hb d_Li_setSites_38 rfl (lv_at hl 2 rfl) ?_
    refine lv_aload_n hx hb d_Li_setSites_39 rfl (lv_at hl 1 rfl) ?_
    refine r_getr (t2 := 26) hx hb hts in_Li hown hS 5 rfl rfl 2 (by decide) rfl (hts _ tw_150) d_Li_setSites_40 ?_
    refine lv_iload hx hb d_Li_setSites_43 (lv_at hl 3 rfl) ?_
    refine r_iald (id := 20) (i := x4) (z := A 20 x4) hx hb hS 26 rfl g2 g3 d_Li_setSites_45 rfl ?_
    refine r_iadd hx hb d_Li_setSites_46 ?_
    refine lv_iload_n hx hb d_Li_setSites_47 rfl (lv_at hl 0 rfl) ?_
    refine r_iadd hx hb d_Li_setSites_48 ?_
    refine r_iast (id := 22) (i := x4) (v := ((x1 + (A 20 x4)) + (min x3 (A 21 x4)))) hx hb hS 28 rfl g2 g3 (seta_22 ad cA mo _ _ _ _) d_Li_setSites_49 (fun H locs hS => ?_)
    refine lv_aload_n hx hb d_Li_setSites_50 rfl (lv_at hl 1 rfl) ?_
    refine lv_dup hx hb d_Li_setSites_51 rfl ?_
    refine r_geti (z := F 9) hx hb hts in_Li hown hS 5 rfl rfl 9 (by decide) rfl (hts _ tw_158) d_Li_setSites_52 rfl ?_
    refine lv_aload_n hx hb d_Li_setSites_55 rfl (lv_at hl 1 rfl) ?_
    refine r_getr (t2 := 28) hx hb hts in_Li hown hS 5 rfl rfl 4 (by decide) rfl (hts _ tw_152) d_Li_setSites_56 ?_
    refine lv_iload hx hb d_Li_setSites_59 (lv_at hl 3 rfl) ?_
    refine r_iald (id := 22) (i := x4) (z := (ua A 22 x4 ((x1 + (A 20 x4)) + (min x3 (A 21 x4)))) 22 x4) hx hb hS 28 rfl g2 g3 d_Li_setSites_61 rfl ?_
    refine lv_aload_n hx hb d_Li_setSites_62 rfl (lv_at hl 1 rfl) ?_
    refine r_getr (t2 := 2) hx hb hts in_Li hown hS 5 rfl rfl 0 (by decide) rfl (hts _ tw_148) d_Li_setSites_63 ?_
    refine r_getr (t2 := 12) hx hb hts in_Ce hown hS 2 rfl rfl 3 (by decide) rfl (hts _ tw_83) d_Li_setSites_66 ?_
    refine lv_aload_n hx hb d_Li_setSites_69 rfl (lv_at hl 1 rfl) ?_
    refine r_getr (t2 := 25) hx hb hts in_Li hown hS 5 rfl rfl 1 (by decide) rfl (hts _ tw_149) d_Li_setSites_70 ?_
    refine lv_iload hx hb d_Li_setSites_73 (lv_at hl 3 rfl) ?_
    refine r_iald (id := 19) (i := x4) (z := A 19 x4) hx hb hS 25 rfl g2 g3 d_Li_setSites_75 rfl ?_
    obtain ⟨g6, h⟩ := h
    obtain ⟨g7, h⟩ := h
    refine r_iald (id := 6) (i := (A 19 x4)) (z := A 6 (A 19 x4)) hx hb hS 12 rfl g6 g7 d_Li_setSites_76 rfl ?_
    refine r_isub hx hb d_Li_setSites_77 ?_
    obtain ⟨g8, h⟩ := h
    refine r_mabs hx hb (hml.trans hl.1.symm) hown (hts _ tw_291) (hts _ tw_251) (hts _ tw_2) (hts _ tw_252) (Nat.le_of_ble_eq_true rfl) (Nat.le_of_ble_eq_true rfl) (Nat.zero_le _) (Nat.zero_le _) g8 d_Li_setSites_78 ?_
    refine r_iadd hx hb d_Li_setSites_81 ?_
    refine r_puti (j := 9) (v := (F 9) + ((Int.natAbs (((ua A 22 x4 ((x1 + (A 20 x4)) + (min x3 (A 21 x4)))) 22 x4) - (A 6 (A 19 x4))) : Nat) : Int)) hx hb hts in_Li t_Li to_Li nm_Li hown hS 5 rfl rfl 9 (by decide) (hts _ tw_158) rfl (by decide +kernel) (setf_9 ad cA mo _ _ _) (by decide) d_Li_setSites_82 (fun H locs hS => ?_)
    refine r_iinc (k := 3) (z := x4) (lv' := [(4, .int (iI (x4 + (-1)))), (3, .int (iI (min x3 (A 21 x4)))), (0, .ref (ad 5)), (1, .int (iI x1))]) hx hb d_Li_setSites_85 hl rfl (by decide) rfl (fun ls hl => ?_)
    refine lv_goto (tgt := 15) hx hb d_Li_setSites_88 (by decide) ?_
    exact h _ _ _ hS (lv_sub hl [2, 3, 1, 0] rfl)
set_option maxHeartbeats 4000000 in
set_option maxRecDepth 100000 in
theorem ct_Li_setSites (l : Launch) (D : va_G) (ad : Nat → Nat) (cA : Nat → ClassId) (mo sz : Nat) (F : Nat → Int) (A : Nat → Int → Int) (x1 : Int) (x2 : Int) (Q : (Nat → Int) → (Nat → Int → Int) → Prop) (h : w_Li_setSites mo F A x1 x2 Q) : Met l y_Li_setSites (Cond.code y_Li_setSites c_Li_setSites 5 (none) :: gT) ({ frames := 1, cells := 0, slots := 0, locals := 32 } : Room) (va_Pc [.ref (ad 5), .int (iI x1), .int (iI x2)] (x_P D vCl shU ad cA (NN mo) sz F A)) (x_QV D vCl shU ad cA (NN mo) (va_A (x_w shU ad cA (NN mo) F A) sz) Q) 0 0 (va_A (x_w shU ad cA (NN mo) F A) sz) := by
  refine Met.ofW (cc := c_Li_setSites) (maxL := 5) (ret := none) (by decide) rfl ?_
  intro p e s m args below meth c s₁ B hml hv
  obtain ⟨rfl, hsz, hP, hK, hD0, hN0⟩ := hv
  have hx := B.exec
  have hb := B.bytes
  have hr := B.returns
  have hts0 := atoms_spec (ws := (Cond.code y_Li_setSites c_Li_setSites 5 (none) :: gT)) B.pre
  have hts : ∀ w ∈ gT, w.before _ s = true := fun w h => hts0 w (List.mem_cons_of_mem _ h)
  have hown : s.vm.findClass R_Li = some m.cls := findClass_of_methodNamed B.named
  have hlocks := B.notSynchronized
  subst hsz
  have hS : x_S D vCl shU ad cA (NN mo) (va_A (x_w shU ad cA (NN mo) F A) s.heap.size) s F A s.heap [] := ⟨hK, hP, hD0.self, va_S.rf, hN0⟩
  have hA : ∀ q : Nat, s.heap.size ≤ q → va_A (x_w shU ad cA (NN mo) F A) s.heap.size q := fun q h => Or.inr h
  have C0 : x_C p s m [.ref (ad 5), .int (iI x1), .int (iI x2)].toArray meth c c_Li_setSites 5 (none) gT R_Li := ⟨hx, hb, hr, hml, hown, hts, hlocks⟩
  generalize va_A (x_w shU ad cA (NN mo) F A) s.heap.size = A0 at hS hA ⊢
  have hl := lv_entry [.ref (ad 5), .int (iI x1), .int (iI x2)] (n := 5) (Nat.le_of_ble_eq_true rfl)
  rw [lg_entry_eq]
  generalize (lg_sl [.ref (ad 5), .int (iI x1), .int (iI x2)] ++ List.replicate (5 - (lg_sl [.ref (ad 5), .int (iI x1), .int (iI x2)]).length) Slot.unset).toArray = ls at hl ⊢
  have hl : lv_has ls 5 [(0, .ref (ad 5)), (1, .int (iI x1)), (2, .int (iI x2))] := hl
  refine lv_iload_n hx hb d_Li_setSites_0 rfl (lv_at hl 2 rfl) ?_
  refine lv_istore_n (lv' := [(3, .int (iI x2)), (0, .ref (ad 5)), (1, .int (iI x1)), (2, .int (iI x2))]) hx hb d_Li_setSites_1 rfl hl (by decide) rfl (fun ls hl => ?_)
  refine lv_aload_n hx hb d_Li_setSites_2 rfl (lv_at hl 1 rfl) ?_
  refine r_iconst hx hb d_Li_setSites_3 ?_
  refine r_puti (j := 9) (v := 0) hx hb hts in_Li t_Li to_Li nm_Li hown hS 5 rfl rfl 9 (by decide) (hts _ tw_158) rfl (by decide +kernel) (setf_9 ad cA mo _ _ _) (by decide) d_Li_setSites_4 (fun H locs hS => ?_)
  refine lv_aload_n hx hb d_Li_setSites_7 rfl (lv_at hl 1 rfl) ?_
  refine r_geti (z := F 7) hx hb hts in_Li hown hS 5 rfl rfl 7 (by decide) rfl (hts _ tw_155) d_Li_setSites_8 rfl ?_
  refine r_iconst hx hb d_Li_setSites_11 ?_
  refine r_isub hx hb d_Li_setSites_12 ?_
  refine lv_istore (lv' := [(4, .int (iI ((F 7) - 1))), (3, .int (iI x2)), (0, .ref (ad 5)), (1, .int (iI x1)), (2, .int (iI x2))]) hx hb d_Li_setSites_13 hl (by decide) rfl (fun ls hl => ?_)
  exact s_Li_setSites_b15 C0 hA _ _ _ _ _ h _ _ _ hS (lv_sub hl [2, 3, 1, 0] rfl)
/-! Li_layIn -/
def w_Li_layIn (mo : Nat) (F : Nat → Int) (A : Nat → Int → Int) (x1 : Int) (x2 : Int) (Q : Int → (Nat → Int) → (Nat → Int → Int) → Prop) : Prop := rg ((x2 - x1) - (F 8)) ∧ ((0 ≤ ((x2 - x1) - (F 8)) → w_Li_findBestShifts mo F A x1 ((x2 - x1) - (F 8)) (fun F2 A2 => w_Li_setSites mo F2 A2 x1 ((x2 - x1) - (F 8)) (fun F3 A3 => Q 1 F3 A3))) ∧ (¬ 0 ≤ ((x2 - x1) - (F 8)) → Q 0 F A))
set_option maxHeartbeats 4000000 in
set_option maxRecDepth 100000 in
theorem ct_Li_layIn (l : Launch) (D : va_G) (ad : Nat → Nat) (cA : Nat → ClassId) (mo sz : Nat) (F : Nat → Int) (A : Nat → Int → Int) (x1 : Int) (x2 : Int) (Q : Int → (Nat → Int) → (Nat → Int → Int) → Prop) (h : w_Li_layIn mo F A x1 x2 Q) : Met l y_Li_layIn (Cond.code y_Li_layIn c_Li_layIn 4 (some .boolean) :: gT) ({ frames := 2, cells := 0, slots := 0, locals := 57 } : Room) (va_Pc [.ref (ad 5), .int (iI x1), .int (iI x2)] (x_P D vCl shU ad cA (NN mo) sz F A)) (x_QI D vCl shU ad cA (NN mo) (va_A (x_w shU ad cA (NN mo) F A) sz) Q) 0 0 (va_A (x_w shU ad cA (NN mo) F A) sz) := by
  refine Met.ofW (cc := c_Li_layIn) (maxL := 4) (ret := some .boolean) (by decide) rfl ?_
  intro p e s m args below meth c s₁ B hml hv
  obtain ⟨rfl, hsz, hP, hK, hD0, hN0⟩ := hv
  have hx := B.exec
  have hb := B.bytes
  have hr := B.returns
  have hts0 := atoms_spec (ws := (Cond.code y_Li_layIn c_Li_layIn 4 (some .boolean) :: gT)) B.pre
  have hts : ∀ w ∈ gT, w.before _ s = true := fun w h => hts0 w (List.mem_cons_of_mem _ h)
  have hown : s.vm.findClass R_Li = some m.cls := findClass_of_methodNamed B.named
  have hlocks := B.notSynchronized
  subst hsz
  have hS : x_S D vCl shU ad cA (NN mo) (va_A (x_w shU ad cA (NN mo) F A) s.heap.size) s F A s.heap [] := ⟨hK, hP, hD0.self, va_S.rf, hN0⟩
  have hA : ∀ q : Nat, s.heap.size ≤ q → va_A (x_w shU ad cA (NN mo) F A) s.heap.size q := fun q h => Or.inr h
  have C0 : x_C p s m [.ref (ad 5), .int (iI x1), .int (iI x2)].toArray meth c c_Li_layIn 4 (some .boolean) gT R_Li := ⟨hx, hb, hr, hml, hown, hts, hlocks⟩
  generalize va_A (x_w shU ad cA (NN mo) F A) s.heap.size = A0 at hS hA ⊢
  have hl := lv_entry [.ref (ad 5), .int (iI x1), .int (iI x2)] (n := 4) (Nat.le_of_ble_eq_true rfl)
  rw [lg_entry_eq]
  generalize (lg_sl [.ref (ad 5), .int (iI x1), .int (iI x2)] ++ List.replicate (4 - (lg_sl [.ref (ad 5), .int (iI x1), .int (iI x2)]).length) Slot.unset).toArray = ls at hl ⊢
  have hl : lv_has ls 4 [(0, .ref (ad 5)), (1, .int (iI x1)), (2, .int (iI x2))] := hl
  refine lv_iload_n hx hb d_Li_layIn_0 rfl (lv_at hl 2 rfl) ?_
  refine lv_iload_n hx hb d_Li_layIn_1 rfl (lv_at hl 1 rfl) ?_
  refine r_isub hx hb d_Li_layIn_2 ?_
  refine lv_aload_n hx hb d_Li_layIn_3 rfl (lv_at hl 0 rfl) ?_
  refine r_geti (z := F 8) hx hb hts in_Li hown hS 5 rfl rfl 8 (by decide) rfl (hts _ tw_156) d_Li_layIn_4 rfl ?_
  refine r_isub hx hb d_Li_layIn_7 ?_
  refine lv_istore_n (lv' := [(3, .int (iI ((x2 - x1) - (F 8)))), (0, .ref (ad 5)), (1, .int (iI x1)), (2, .int (iI x2))]) hx hb d_Li_layIn_8 rfl hl (by decide) rfl (fun ls hl => ?_)
  refine lv_iload_n hx hb d_Li_layIn_9 rfl (lv_at hl 0 rfl) ?_
  obtain ⟨g1, h⟩ := h
  refine r_if_ge (tgt := 15) hx hb g1 d_Li_layIn_10 (by decide) (fun hc => ?_) (fun hc => ?_)
  · replace h := h.1 hc
    refine lv_aload_n hx hb d_Li_layIn_15 rfl (lv_at hl 1 rfl) ?_
    refine lv_iload_n hx hb d_Li_layIn_16 rfl (lv_at hl 2 rfl) ?_
    refine lv_iload_n hx hb d_Li_layIn_17 rfl (lv_at hl 0 rfl) ?_
    refine r_cv (va_runV (As := [.int (iI x1), .int (iI ((x2 - x1) - (F 8)))]) (rest := []) ⟨hx, hb, hml, hown, hts⟩ (ct_Li_findBestShifts l D ad cA mo _ _ _ _ _ _ h) (cwV 2 hts (gV tw_277 tw_279 tw_s_Li_findBestShifts tw_7 tw_280) rfl rfl rfl (by decide +kernel) ⟨Nat.le_of_ble_eq_true rfl, Nat.le_of_ble_eq_true rfl⟩) (x_preV hS 5 rfl rfl _) rfl rfl hl.1 rfl (lv_room (Nat.le_of_ble_eq_true rfl)) d_Li_layIn_18 ⟨Nat.zero_le _, Nat.zero_le _⟩) hS hA (fun F2 A2 H locs hS h => ?_)
    refine lv_aload_n hx hb d_Li_layIn_21 rfl (lv_at hl 1 rfl) ?_
    refine lv_iload_n hx hb d_Li_layIn_22 rfl (lv_at hl 2 rfl) ?_
    refine lv_iload_n hx hb d_Li_layIn_23 rfl (lv_at hl 0 rfl) ?_
    refine r_cv (va_runV (As := [.int (iI x1), .int (iI ((x2 - x1) - (F 8)))]) (rest := []) ⟨hx, hb, hml, hown, hts⟩ (ct_Li_setSites l D ad cA mo _ _ _ _ _ _ h) (cwV 2 hts (gV tw_287 tw_289 tw_s_Li_setSites tw_7 tw_290) rfl rfl rfl (by decide +kernel) ⟨Nat.le_of_ble_eq_true rfl, Nat.le_of_ble_eq_true rfl⟩) (x_preV hS 5 rfl rfl _) rfl rfl hl.1 rfl (lv_room (Nat.le_of_ble_eq_true rfl)) d_Li_layIn_24 ⟨Nat.zero_le _, Nat.zero_le _⟩) hS hA (fun F3 A3 H locs hS h => ?_)
    refine r_iconst hx hb d_Li_layIn_27 ?_
    exact r_zret (z := 1) hx hb hr hlocks (Or.inr rfl) hS h d_Li_layIn_28
  · replace h := h.2 hc
    refine r_iconst hx hb d_Li_layIn_13 ?_
    exact r_zret (z := 0) hx hb hr hlocks (Or.inl rfl) hS h d_Li_layIn_14
/-! Fi_layWith -/
def w_Fi_layWith (mo : Nat) (F : Nat → Int) (A : Nat → Int → Int) (x1 : Int) (x2 : Int) (Q : Int → (Nat → Int) → (Nat → Int → Int) → Prop) : Prop := w_Fi_gather mo F A x2 (fun F1 A1 => w_Li_add mo F1 A1 x1 (fun F2 A2 => 0 ≤ x2 ∧ x2 < (mo : Int) ∧ w_Li_layIn mo F2 A2 (A2 1 x2) (A2 2 x2) (fun z5 F5 A5 => (z5 = 0 ∨ z5 = 1) ∧ Q z5 F5 A5)))
set_option maxHeartbeats 4000000 in
set_option maxRecDepth 100000 in
theorem ct_Fi_layWith (l : Launch) (D : va_G) (ad : Nat → Nat) (cA : Nat → ClassId) (mo sz : Nat) (F : Nat → Int) (A : Nat → Int → Int) (x1 : Int) (x2 : Int) (Q : Int → (Nat → Int) → (Nat → Int → Int) → Prop) (h : w_Fi_layWith mo F A x1 x2 Q) : Met l y_Fi_layWith (Cond.code y_Fi_layWith c_Fi_layWith 3 (some .boolean) :: gT) ({ frames := 3, cells := 0, slots := 0, locals := 80 } : Room) (va_Pc [.ref (ad 4), .int (iI x1), .int (iI x2)] (x_P D vCl shU ad cA (NN mo) sz F A)) (x_QI D vCl shU ad cA (NN mo) (va_A (x_w shU ad cA (NN mo) F A) sz) Q) 0 0 (va_A (x_w shU ad cA (NN mo) F A) sz) := by
  refine Met.ofW (cc := c_Fi_layWith) (maxL := 3) (ret := some .boolean) (by decide) rfl ?_
  intro p e s m args below meth c s₁ B hml hv
  obtain ⟨rfl, hsz, hP, hK, hD0, hN0⟩ := hv
  have hx := B.exec
  have hb := B.bytes
  have hr := B.returns
  have hts0 := atoms_spec (ws := (Cond.code y_Fi_layWith c_Fi_layWith 3 (some .boolean) :: gT)) B.pre
  have hts : ∀ w ∈ gT, w.before _ s = true := fun w h => hts0 w (List.mem_cons_of_mem _ h)
  have hown : s.vm.findClass R_Fi = some m.cls := findClass_of_methodNamed B.named
  have hlocks := B.notSynchronized
  subst hsz
  have hS : x_S D vCl shU ad cA (NN mo) (va_A (x_w shU ad cA (NN mo) F A) s.heap.size) s F A s.heap [] := ⟨hK, hP, hD0.self, va_S.rf, hN0⟩
  have hA : ∀ q : Nat, s.heap.size ≤ q → va_A (x_w shU ad cA (NN mo) F A) s.heap.size q := fun q h => Or.inr h
  have C0 : x_C p s m [.ref (ad 4), .int (iI x1), .int (iI x2)].toArray meth c c_Fi_layWith 3 (some .boolean) gT R_Fi := ⟨hx, hb, hr, hml, hown, hts, hlocks⟩
  generalize va_A (x_w shU ad cA (NN mo) F A) s.heap.size = A0 at hS hA ⊢
  have hl := lv_entry [.ref (ad 4), .int (iI x1), .int (iI x2)] (n := 3) (Nat.le_of_ble_eq_true rfl)
  rw [lg_entry_eq]
  generalize (lg_sl [.ref (ad 4), .int (iI x1), .int (iI x2)] ++ List.replicate (3 - (lg_sl [.ref (ad 4), .int (iI x1), .int (iI x2)]).length) Slot.unset).toArray = ls at hl ⊢
  have hl : lv_has ls 3 [(0, .ref (ad 4)), (1, .int (iI x1)), (2, .int (iI x2))] := hl
  refine lv_aload_n hx hb d_Fi_layWith_0 rfl (lv_at hl 0 rfl) ?_
  refine lv_iload_n hx hb d_Fi_layWith_1 rfl (lv_at hl 2 rfl) ?_
  refine r_cv (va_runV (As := [.int (iI x2)]) (rest := []) ⟨hx, hb, hml, hown, hts⟩ (ct_Fi_gather l D ad cA mo _ _ _ _ _ h) (cwV 1 hts (gV tw_257 tw_259 tw_s_Fi_gather tw_6 tw_260) rfl rfl rfl (by decide +kernel) ⟨Nat.le_of_ble_eq_true rfl, Nat.le_of_ble_eq_true rfl⟩) (x_preV hS 4 rfl rfl _) rfl rfl hl.1 rfl (lv_room (Nat.le_of_ble_eq_true rfl)) d_Fi_layWith_2 ⟨Nat.zero_le _, Nat.zero_le _⟩) hS hA (fun F1 A1 H locs hS h => ?_)
  refine lv_aload_n hx hb d_Fi_layWith_5 rfl (lv_at hl 0 rfl) ?_
  refine r_getr (t2 := 5) hx hb hts in_Fi hown hS 4 rfl rfl 2 (by decide) rfl (hts _ tw_182) d_Fi_layWith_6 ?_
  refine lv_iload_n hx hb d_Fi_layWith_9 rfl (lv_at hl 1 rfl) ?_
  refine r_cv (va_runV (As := [.int (iI x1)]) (rest := []) ⟨hx, hb, hml, hown, hts⟩ (ct_Li_add l D ad cA mo _ _ _ _ _ h) (cwV 1 hts (gV tw_265 tw_266 tw_267 tw_7 tw_268) rfl rfl rfl (by decide +kernel) ⟨Nat.le_of_ble_eq_true rfl, Nat.le_of_ble_eq_true rfl⟩) (x_preV hS 5 rfl rfl _) rfl rfl hl.1 rfl (lv_room (Nat.le_of_ble_eq_true rfl)) d_Fi_layWith_10 ⟨Nat.zero_le _, Nat.zero_le _⟩) hS hA (fun F2 A2 H locs hS h => ?_)
  refine lv_aload_n hx hb d_Fi_layWith_13 rfl (lv_at hl 0 rfl) ?_
  refine r_getr (t2 := 5) hx hb hts in_Fi hown hS 4 rfl rfl 2 (by decide) rfl (hts _ tw_182) d_Fi_layWith_14 ?_
  refine lv_aload_n hx hb d_Fi_layWith_17 rfl (lv_at hl 0 rfl) ?_
  refine r_getr (t2 := 1) hx hb hts in_Fi hown hS 4 rfl rfl 0 (by decide) rfl (hts _ tw_180) d_Fi_layWith_18 ?_
  refine r_getr (t2 := 7) hx hb hts in_Gr hown hS 1 rfl rfl 3 (by decide) rfl (hts _ tw_51) d_Fi_layWith_21 ?_
  refine lv_iload_n hx hb d_Fi_layWith_24 rfl (lv_at hl 2 rfl) ?_
  obtain ⟨g3, h⟩ := h
  obtain ⟨g4, h⟩ := h
  refine r_iald (id := 1) (i := x2) (z := A2 1 x2) hx hb hS 7 rfl g3 g4 d_Fi_layWith_25 rfl ?_
  refine lv_aload_n hx hb d_Fi_layWith_26 rfl (lv_at hl 0 rfl) ?_
  refine r_getr (t2 := 1) hx hb hts in_Fi hown hS 4 rfl rfl 0 (by decide) rfl (hts _ tw_180) d_Fi_layWith_27 ?_
  refine r_getr (t2 := 8) hx hb hts in_Gr hown hS 1 rfl rfl 4 (by decide) rfl (hts _ tw_53) d_Fi_layWith_30 ?_
  refine lv_iload_n hx hb d_Fi_layWith_33 rfl (lv_at hl 2 rfl) ?_
  refine r_iald (id := 2) (i := x2) (z := A2 2 x2) hx hb hS 8 rfl g3 g4 d_Fi_layWith_34 rfl ?_
  refine r_ci (va_runV (As := [.int (iI (A2 1 x2)), .int (iI (A2 2 x2))]) (rest := []) ⟨hx, hb, hml, hown, hts⟩ (ct_Li_layIn l D ad cA mo _ _ _ _ _ _ h) (cwV 2 hts (gV tw_273 tw_274 tw_275 tw_7 tw_276) rfl rfl rfl (by decide +kernel) ⟨Nat.le_of_ble_eq_true rfl, Nat.le_of_ble_eq_true rfl⟩) (x_preV hS 5 rfl rfl _) rfl rfl hl.1 rfl (lv_room (Nat.le_of_ble_eq_true rfl)) d_Fi_layWith_35 ⟨Nat.zero_le _, Nat.zero_le _⟩) hS hA (fun z5 F5 A5 H locs hS h => ?_)
  obtain ⟨g6, h⟩ := h
  exact r_zret (z := z5) hx hb hr hlocks g6 hS h d_Fi_layWith_38
/-! Fi_cheapestPart -/
def w_Fi_cheapestPart_b101 (mo : Nat) (Q : Int → (Nat → Int) → (Nat → Int → Int) → Prop) (I7 : Int → Int → Int → (Nat → Int) → (Nat → Int → Int) → Prop) (x1 : Int) (x2 : Int) (x3 : Int) (x4 : Int) (F : Nat → Int) (A : Nat → Int → Int) : Prop := I7 x2 x3 (x4 + 1) F A
def w_Fi_cheapestPart_b95 (mo : Nat) (Q : Int → (Nat → Int) → (Nat → Int → Int) → Prop) (I7 : Int → Int → Int → (Nat → Int) → (Nat → Int → Int) → Prop) (x1 : Int) (x4 : Int) (x5 : Int) (F : Nat → Int) (A : Nat → Int → Int) : Prop := w_Fi_cheapestPart_b101 mo Q I7 x1 x4 x5 x4 F A
def w_Fi_cheapestPart_b38 (mo : Nat) (Q : Int → (Nat → Int) → (Nat → Int → Int) → Prop) (I7 : Int → Int → Int → (Nat → Int) → (Nat → Int → Int) → Prop) (x1 : Int) (x2 : Int) (x3 : Int) (x4 : Int) (F : Nat → Int) (A : Nat → Int → Int) : Prop := w_Fi_layWith mo F A x1 x4 (fun z1 F1 A1 => rg z1 ∧ ((z1 = 0 → w_Fi_cheapestPart_b101 mo Q I7 x1 x2 x3 x4 F1 A1) ∧ (¬ z1 = 0 → 0 ≤ x4 ∧ x4 < (mo : Int) ∧ w_Ce_rowCost mo F1 A1 x1 (A1 0 x4) (fun z5 => rg x2 ∧ ((x2 = (-1) → w_Fi_cheapestPart_b95 mo Q I7 x1 x4 (((F1 9) - (A1 18 x4)) + z5) F1 A1) ∧ (¬ x2 = (-1) → rg (((F1 9) - (A1 18 x4)) + z5) ∧ rg x3 ∧ ((x3 ≤ (((F1 9) - (A1 18 x4)) + z5) → w_Fi_cheapestPart_b101 mo Q I7 x1 x2 x3 x4 F1 A1) ∧ (¬ x3 ≤ (((F1 9) - (A1 18 x4)) + z5) → w_Fi_cheapestPart_b95 mo Q I7 x1 x4 (((F1 9) - (A1 18 x4)) + z5) F1 A1))))))))
def w_Fi_cheapestPart_b7 (mo : Nat) (Q : Int → (Nat → Int) → (Nat → Int → Int) → Prop) (x1 : Int) (x2 : Int) (x3 : Int) (x4 : Int) (F : Nat → Int) (A : Nat → Int → Int) : Prop := Lp5 (fun I7 x2 x3 x4 F A => rg x4 ∧ rg (F 3) ∧ (((F 3) ≤ x4 → Q x2 F A) ∧ (¬ (F 3) ≤ x4 → rg x2 ∧ ((x2 = (-1) → w_Fi_cheapestPart_b38 mo Q I7 x1 x2 x3 x4 F A) ∧ (¬ x2 = (-1) → w_Fi_costAtLeast mo F A x1 x4 (fun z12 => rg z12 ∧ rg x3 ∧ ((z12 < x3 → w_Fi_cheapestPart_b38 mo Q I7 x1 x2 x3 x4 F A) ∧ (¬ z12 < x3 → w_Fi_cheapestPart_b101 mo Q I7 x1 x2 x3 x4 F A)))))))) x2 x3 x4 F A
def w_Fi_cheapestPart (mo : Nat) (F : Nat → Int) (A : Nat → Int → Int) (x1 : Int) (Q : Int → (Nat → Int) → (Nat → Int → Int) → Prop) : Prop := w_Fi_cheapestPart_b7 mo Q x1 (-1) 0 0 F A
set_option maxHeartbeats 4000000 in
set_option maxRecDepth 100000 in
theorem s_Fi_cheapestPart_b101 (C0 : x_C p s m args meth c c_Fi_cheapestPart 6 (some .int) gT R_Fi) (hA : ∀ q : Nat, s.heap.size ≤ q → A0 q) {mo : Nat} {Q : Int → (Nat → Int) → (Nat → Int → Int) → Prop} {I7 : Int → Int → Int → (Nat → Int) → (Nat → Int → Int) → Prop} (x1 : Int) (x2 : Int) (x3 : Int) (x4 : Int) (F : Nat → Int) (A : Nat → Int → Int) (hI7 : ∀ (x2 : Int) (x3 : Int) (x4 : Int) (F : Nat → Int) (A : Nat → Int → Int), I7 x2 x3 x4 F A → ∀ (H : Heap) (locs : List Loc) (ls : Array Slot), x_S D vCl shU ad cA (NN mo) A0 s F A H locs → lv_has ls 6 [(0, .ref (ad 4)), (1, .int (iI x1)), (2, .int (iI x2)), (3, .int (iI x3)), (4, .int (iI x4))] → W p l e ({ frames := 4, cells := 0, slots := 0, locals := 102 } : Room) s m args below meth c H locs 0 0 (MQ below (x_QI D vCl shU ad cA (NN mo) A0 Q) args s 0 0 A0) (F0 m 7 ls [])) (h : w_Fi_cheapestPart_b101 mo Q I7 x1 x2 x3 x4 F A) (H : Heap) (locs : List Loc) (ls : Array Slot) (hS : x_S D vCl shU ad cA (NN mo) A0 s F A H locs) (hl : lv_has ls 6 [(0, .ref (ad 4)), (1, .int (iI x1)), (2, .int (iI x2)), (3, .int (iI x3)), (4, .int (iI x4))]) : W p l e ({ frames := 4, cells := 0, slots := 0, locals := 102 } : Room) s m args below meth c H locs 0 0 (MQ below (x_QI D vCl shU ad cA (NN mo) A0 Q) args s 0 0 A0) (F0 m 101 ls []) := by
  obtain ⟨hx, hb, hr, hml, hown, hts, hlocks⟩ := id C0
  refine r_iinc (k := 4) (z := x4) (lv' := [(4, .int (iI (x4 + 1))), (0, .ref (ad 4)), (1, .int (iI x1)), (2, .int (iI x2)), (3, .int (iI x3))]) hx hb d_Fi_cheapestPart_101 hl rfl (by decide) rfl (fun ls hl => ?_)
  refine lv_goto (tgt := 7) hx hb d_Fi_cheapestPart_104 (by decide) ?_
  exact hI7 _ _ _ _ _ h _ _ _ hS (lv_sub hl [1, 2, 3, 4, 0] rfl)
set_option maxHeartbeats 4000000 in
set_option maxRecDepth 100000 in
theorem s_Fi_cheapestPart_b95 (C0 : x_C p s m args meth c c_Fi_cheapestPart 6 (some .int) gT R_Fi) (hA : ∀ q : Nat, s.heap.size ≤ q → A0 q) {mo : Nat} {Q : Int → (Nat → Int) → (Nat → Int → Int) → Prop} {I7 : Int → Int → Int → (Nat → Int) → (Nat → Int → Int) → Prop} (x1 : Int) (x4 : Int) (x5 : Int) (F : Nat → Int) (A : Nat → Int → Int) (hI7 : ∀ (x2 : Int) (x3 : Int) (x4 : Int) (F : Nat → Int) (A : Nat → Int → Int), I7 x2 x3 x4 F A → ∀ (H : Heap) (locs : List Loc) (ls : Array Slot), x_S D vCl shU ad cA (NN mo) A0 s F A H locs → lv_has ls 6 [(0, .ref (ad 4)), (1, .int (iI x1)), (2, .int (iI x2)), (3, .int (iI x3)), (4, .int (iI x4))] → W p l e ({ frames := 4, cells := 0, slots := 0, locals := 102 } : Room) s m args below meth c H locs 0 0 (MQ below (x_QI D vCl shU ad cA (NN mo) A0 Q) args s 0 0 A0) (F0 m 7 ls [])) (h : w_Fi_cheapestPart_b95 mo Q I7 x1 x4 x5 F A) (H : Heap) (locs : List Loc) (ls : Array Slot) (hS : x_S D vCl shU ad cA (NN mo) A0 s F A H locs) (hl : lv_has ls 6 [(0, .ref (ad 4)), (1, .int (iI x1)), (4, .int (iI x4)), (5, .int (iI x5))]) : W p l e ({ frames := 4, cells := 0, slots := 0, locals := 102 } : Room) s m args below meth c H locs 0 0 (MQ below (x_QI D vCl shU ad cA (NN mo) A0 Q) args s 0 0 A0) (F0 m 95 ls []) := by
  obtain ⟨hx, hb, hr, hml, hown, hts, hlocks⟩ := id C0
  refine lv_iload hx hb d_Fi_cheapestPart_95 (lv_at hl 2 rfl) ?_
  refine lv_istore_n (lv' := [(2, .int (iI x4)), (0, .ref (ad 4)), (1, .int (iI x1)), (4, .int (iI x4)), (5, .int (iI x5))]) hx hb d_Fi_cheapestPart_97 rfl hl (by decide) rfl (fun ls hl => ?_)
  refine lv_iload hx hb d_Fi_cheapestPart_98 (lv_at hl 4 rfl) ?_
  refine lv_istore_n (lv' := [(3, .int (iI x5)), (2, .int (iI x4)), (0, .ref (ad 4)), (1, .int (iI x1)), (4, .int (iI x4)), (5, .int (iI x5))]) hx hb d_Fi_cheapestPart_100 rfl hl (by decide) rfl (fun ls hl => ?_)
  exact s_Fi_cheapestPart_b101 C0 hA _ _ _ _ _ _ hI7 h _ _ _ hS (lv_sub hl [2, 3, 1, 0, 4] rfl)
set_option maxHeartbeats 4000000 in
set_option maxRecDepth 100000 in
theorem s_Fi_cheapestPart_b38 (C0 : x_C p s m args meth c c_Fi_cheapestPart 6 (some .int) gT R_Fi) (hA : ∀ q : Nat, s.heap.size ≤ q → A0 q) {mo : Nat} {Q : Int → (Nat → Int) → (Nat → Int → Int) → Prop} {I7 : Int → Int → Int → (Nat → Int) → (Nat → Int → Int) → Prop} (x1 : Int) (x2 : Int) (x3 : Int) (x4 : Int) (F : Nat → Int) (A : Nat → Int → Int) (hI7 : ∀ (x2 : Int) (x3 : Int) (x4 : Int) (F : Nat → Int) (A : Nat → Int → Int), I7 x2 x3 x4 F A → ∀ (H : Heap) (locs : List Loc) (ls : Array Slot), x_S D vCl shU ad cA (NN mo) A0 s F A H locs → lv_has ls 6 [(0, .ref (ad 4)), (1, .int (iI x1)), (2, .int (iI x2)), (3, .int (iI x3)), (4, .int (iI x4))] → W p l e ({ frames := 4, cells := 0, slots := 0, locals := 102 } : Room) s m args below meth c H locs 0 0 (MQ below (x_QI D vCl shU ad cA (NN mo) A0 Q) args s 0 0 A0) (F0 m 7 ls [])) (h : w_Fi_cheapestPart_b38 mo Q I7 x1 x2 x3 x4 F A) (H : Heap) (locs : List Loc) (ls : Array Slot) (hS : x_S D vCl shU ad cA (NN mo) A0 s F A H locs) (hl : lv_has ls 6 [(0, .ref (ad 4)), (1, .int (iI x1)), (2, .int (iI x2)), (3, .int (iI x3)), (4, .int (iI x4))]) : W p l e ({ frames := 4, cells := 0, slots := 0, locals := 102 } : Room) s m args below meth c H locs 0 0 (MQ below (x_QI D vCl shU ad cA (NN mo) A0 Q) args s 0 0 A0) (F0 m 38 ls []) := by
  obtain ⟨hx, hb, hr, hml, hown, hts, hlocks⟩ := id C0
  refine lv_aload_n hx hb d_Fi_cheapestPart_38 rfl (lv_at hl 0 rfl) ?_
  refine lv_iload_n hx hb d_Fi_cheapestPart_39 rfl (lv_at hl 1 rfl) ?_
  refine lv_iload hx hb d_Fi_cheapestPart_40 (lv_at hl 4 rfl) ?_
  refine r_ci (va_runV (As := [.int (iI x1), .int (iI x4)]) (rest := []) ⟨hx, hb, hml, hown, hts⟩ (ct_Fi_layWith l D ad cA mo _ _ _ _ _ _ h) (cwV 2 hts (gV tw_253 tw_255 tw_s_Fi_layWith tw_6 tw_256) rfl rfl rfl (by decide +kernel) ⟨Nat.le_of_ble_eq_true rfl, Nat.le_of_ble_eq_true rfl⟩) (x_preV hS 4 rfl rfl _) rfl rfl hl.1 rfl (lv_room (Nat.le_of_ble_eq_true rfl)) d_Fi_cheapestPart_42 ⟨Nat.zero_le _, Nat.zero_le _⟩) hS hA (fun z1 F1 A1 H locs hS h => ?_)
  obtain ⟨g2, h⟩ := h
  refine r_if_eq (tgt := 101) hx hb g2 d_Fi_cheapestPart_45 (by decide) (fun hc => ?_) (fun hc => ?_)
  · replace h := h.1 hc
    exact s_Fi_cheapestPart_b101 C0 hA _ _ _ _ _ _ hI7 h _ _ _ hS (lv_sub hl [0, 1, 2, 3, 4] rfl)
  · replace h := h.2 hc
    refine lv_aload_n hx hb d_Fi_cheapestPart_48 rfl (lv_at hl 0 rfl) ?_
    refine r_getr (t2 := 5) hx hb hts in_Fi hown hS 4 rfl rfl 2 (by decide) rfl (hts _ tw_182) d_Fi_cheapestPart_49 ?_
    refine r_geti (z := F1 9) hx hb hts in_Li hown hS 5 rfl rfl 9 (by decide) rfl (hts _ tw_157) d_Fi_cheapestPart_52 rfl ?_
    refine lv_aload_n hx hb d_Fi_cheapestPart_55 rfl (lv_at hl 0 rfl) ?_
    refine r_getr (t2 := 24) hx hb hts in_Fi hown hS 4 rfl rfl 7 (by decide) rfl (hts _ tw_187) d_Fi_cheapestPart_56 ?_
    refine lv_iload hx hb d_Fi_cheapestPart_59 (lv_at hl 4 rfl) ?_
    obtain ⟨g3, h⟩ := h
    obtain ⟨g4, h⟩ := h
    refine r_iald (id := 18) (i := x4) (z := A1 18 x4) hx hb hS 24 rfl g3 g4 d_Fi_cheapestPart_61 rfl ?_
    refine r_isub hx hb d_Fi_cheapestPart_62 ?_
    refine lv_aload_n hx hb d_Fi_cheapestPart_63 rfl (lv_at hl 0 rfl) ?_
    refine r_getr (t2 := 2) hx hb hts in_Fi hown hS 4 rfl rfl 1 (by decide) rfl (hts _ tw_181) d_Fi_cheapestPart_64 ?_
    refine lv_iload_n hx hb d_Fi_cheapestPart_67 rfl (lv_at hl 1 rfl) ?_
    refine lv_aload_n hx hb d_Fi_cheapestPart_68 rfl (lv_at hl 0 rfl) ?_
    refine r_getr (t2 := 1) hx hb hts in_Fi hown hS 4 rfl rfl 0 (by decide) rfl (hts _ tw_180) d_Fi_cheapestPart_69 ?_
    refine r_getr (t2 := 6) hx hb hts in_Gr hown hS 1 rfl rfl 2 (by decide) rfl (hts _ tw_49) d_Fi_cheapestPart_72 ?_
    refine lv_iload hx hb d_Fi_cheapestPart_75 (lv_at hl 4 rfl) ?_
    refine r_iald (id := 0) (i := x4) (z := A1 0 x4) hx hb hS 6 rfl g3 g4 d_Fi_cheapestPart_77 rfl ?_
    refine r_ci (va_runV (As := [.int (iI x1), .int (iI (A1 0 x4))]) (rest := [.int (iI ((F1 9) - (A1 18 x4)))]) ⟨hx, hb, hml, hown, hts⟩ (ct_Ce_rowCost l D ad cA mo _ _ _ _ _ _ h) (cwV 2 hts (gV tw_246 tw_247 tw_248 tw_4 tw_249) rfl rfl rfl (by decide +kernel) ⟨Nat.le_of_ble_eq_true rfl, Nat.le_of_ble_eq_true rfl⟩) (x_preV hS 2 rfl rfl _) rfl rfl hl.1 rfl (lv_room (Nat.le_of_ble_eq_true rfl)) d_Fi_cheapestPart_78 ⟨Nat.zero_le _, Nat.zero_le _⟩) hS hA (fun z5 F5 A5 H locs hS h => ?_)
    obtain ⟨rfl, rfl, h⟩ := h
    refine r_iadd hx hb d_Fi_cheapestPart_81 ?_
    refine lv_istore (lv' := [(5, .int (iI (((F1 9) - (A1 18 x4)) + z5))), (0, .ref (ad 4)), (1, .int (iI x1)), (2, .int (iI x2)), (3, .int (iI x3)), (4, .int (iI x4))]) hx hb d_Fi_cheapestPart_82 hl (by decide) rfl (fun ls hl => ?_)
    refine lv_iload_n hx hb d_Fi_cheapestPart_84 rfl (lv_at hl 3 rfl) ?_
    refine r_iconst hx hb d_Fi_cheapestPart_85 ?_
    obtain ⟨g6, h⟩ := h
    refine r_icmp_eq (tgt := 95) hx hb g6 ⟨by omega, by omega⟩ d_Fi_cheapestPart_86 (by decide) (fun hc => ?_) (fun hc => ?_)
    · replace h := h.1 hc
      exact s_Fi_cheapestPart_b95 C0 hA _ _ _ _ _ hI7 h _ _ _ hS (lv_sub hl [1, 2, 5, 0] rfl)
    · replace h := h.2 hc
      refine lv_iload hx hb d_Fi_cheapestPart_89 (lv_at hl 0 rfl) ?_
      refine lv_iload_n hx hb d_Fi_cheapestPart_91 rfl (lv_at hl 4 rfl) ?_
      obtain ⟨g7, h⟩ := h
      obtain ⟨g8, h⟩ := h
      refine r_icmp_ge (tgt := 101) hx hb g7 g8 d_Fi_cheapestPart_92 (by decide) (fun hc => ?_) (fun hc => ?_)
      · replace h := h.1 hc
        exact s_Fi_cheapestPart_b101 C0 hA _ _ _ _ _ _ hI7 h _ _ _ hS (lv_sub hl [1, 2, 3, 4, 5] rfl)
      · replace h := h.2 hc
        exact s_Fi_cheapestPart_b95 C0 hA _ _ _ _ _ hI7 h _ _ _ hS (lv_sub hl [1, 2, 5, 0] rfl)
set_option maxHeartbeats 4000000 in
set_option maxRecDepth 100000 in
theorem s_Fi_cheapestPart_b7 (C0 : x_C p s m args meth c c_Fi_cheapestPart 6 (some .int) gT R_Fi) (hA : ∀ q : Nat, s.heap.size ≤ q → A0 q) {mo : Nat} {Q : Int → (Nat → Int) → (Nat → Int → Int) → Prop} (x1 : Int) (x2 : Int) (x3 : Int) (x4 : Int) (F : Nat → Int) (A : Nat → Int → Int) (h : w_Fi_cheapestPart_b7 mo Q x1 x2 x3 x4 F A) (H : Heap) (locs : List Loc) (ls : Array Slot) (hS : x_S D vCl shU ad cA (NN mo) A0 s F A H locs) (hl : lv_has ls 6 [(0, .ref (ad 4)), (1, .int (iI x1)), (2, .int (iI x2)), (3, .int (iI x3)), (4, .int (iI x4))]) : W p l e ({ frames := 4, cells := 0, slots := 0, locals := 102 } : Room) s m args below meth c H locs 0 0 (MQ below (x_QI D vCl shU ad cA (NN mo) A0 Q) args s 0 0 A0) (F0 m 7 ls []) := by
  obtain ⟨hx, hb, hr, hml, hown, hts, hlocks⟩ := id C0
  refine h (fun x2 x3 x4 F A => ∀ (H : Heap) (locs : List Loc) (ls : Array Slot), x_S D vCl shU ad cA (NN mo) A0 s F A H locs → lv_has ls 6 [(0, .ref (ad 4)), (1, .int (iI x1)), (2, .int (iI x2)), (3, .int (iI x3)), (4, .int (iI x4))] → W p l e ({ frames := 4, cells := 0, slots := 0, locals := 102 } : Room) s m args below meth c H locs 0 0 (MQ below (x_QI D vCl shU ad cA (NN mo) A0 Q) args s 0 0 A0) (F0 m 7 ls [])) ?_ H locs ls hS hl
  intro x2 x3 x4 F A h H locs ls hS hl
  refine lv_iload hx hb d_Fi_cheapestPart_7 (lv_at hl 4 rfl) ?_
  refine lv_aload_n hx hb d_Fi_cheapestPart_9 rfl (lv_at hl 0 rfl) ?_
  refine r_getr (t2 := 1) hx hb hts in_Fi hown hS 4 rfl rfl 0 (by decide) rfl (hts _ tw_180) d_Fi_cheapestPart_10 ?_
  refine r_geti (z := F 3) hx hb hts in_Gr hown hS 1 rfl rfl 5 (by decide) rfl (hts _ tw_55) d_Fi_cheapestPart_13 rfl ?_
  obtain ⟨g9, h⟩ := h
  obtain ⟨g10, h⟩ := h
  refine r_icmp_ge (tgt := 107) hx hb g9 g10 d_Fi_cheapestPart_16 (by decide) (fun hc => ?_) (fun hc => ?_)
  · replace h := h.1 hc
    refine lv_iload_n hx hb d_Fi_cheapestPart_107 rfl (lv_at hl 2 rfl) ?_
    exact r_iret (z := x2) hx hb hr hlocks hS h d_Fi_cheapestPart_108
  · replace h := h.2 hc
    refine lv_iload_n hx hb d_Fi_cheapestPart_19 rfl (lv_at hl 2 rfl) ?_
    refine r_iconst hx hb d_Fi_cheapestPart_20 ?_
    obtain ⟨g11, h⟩ := h
    refine r_icmp_eq (tgt := 38) hx hb g11 ⟨by omega, by omega⟩ d_Fi_cheapestPart_21 (by decide) (fun hc => ?_) (fun hc => ?_)
    · replace h := h.1 hc
      exact s_Fi_cheapestPart_b38 C0 hA _ _ _ _ _ _ (fun _ _ _ _ _ h => h) h _ _ _ hS (lv_sub hl [0, 1, 2, 3, 4] rfl)
    · replace h := h.2 hc
      refine lv_aload_n hx hb d_Fi_cheapestPart_24 rfl (lv_at hl 0 rfl) ?_
      refine lv_iload_n hx hb d_Fi_cheapestPart_25 rfl (lv_at hl 1 rfl) ?_
      refine lv_iload hx hb d_Fi_cheapestPart_26 (lv_at hl 4 rfl) ?_
      refine r_ci (va_runV (As := [.int (iI x1), .int (iI x4)]) (rest := []) ⟨hx, hb, hml, hown, hts⟩ (ct_Fi_costAtLeast l D ad cA mo _ _ _ _ _ _ h) (cwV 2 hts (gV tw_241 tw_243 tw_s_Fi_costAtLeast tw_6 tw_244) rfl rfl rfl (by decide +kernel) ⟨Nat.le_of_ble_eq_true rfl, Nat.le_of_ble_eq_true rfl⟩) (x_preV hS 4 rfl rfl _) rfl rfl hl.1 rfl (lv_room (Nat.le_of_ble_eq_true rfl)) d_Fi_cheapestPart_28 ⟨Nat.zero_le _, Nat.zero_le _⟩) hS hA (fun z12 F12 A12 H locs hS h => ?_)
      obtain ⟨rfl, rfl, h⟩ := h
      refine lv_iload_n hx hb d_Fi_cheapestPart_31 rfl (lv_at hl 3 rfl) ?_
      obtain ⟨g13, h⟩ := h
      obtain ⟨g14, h⟩ := h
      refine r_icmp_lt (tgt := 38) hx hb g13 g14 d_Fi_cheapestPart_32 (by decide) (fun hc => ?_) (fun hc => ?_)
      · replace h := h.1 hc
        exact s_Fi_cheapestPart_b38 C0 hA _ _ _ _ _ _ (fun _ _ _ _ _ h => h) h _ _ _ hS (lv_sub hl [0, 1, 2, 3, 4] rfl)
      · replace h := h.2 hc
        refine lv_goto (tgt := 101) hx hb d_Fi_cheapestPart_35 (by decide) ?_
        exact s_Fi_cheapestPart_b101 C0 hA _ _ _ _ _ _ (fun _ _ _ _ _ h => h) h _ _ _ hS (lv_sub hl [0, 1, 2, 3, 4] rfl)
set_option maxHeartbeats 4000000 in
set_option maxRecDepth 100000 in
theorem ct_Fi_cheapestPart (l : Launch) (D : va_G) (ad : Nat → Nat) (cA : Nat → ClassId) (mo sz : Nat) (F : Nat → Int) (A : Nat → Int → Int) (x1 : Int) (Q : Int → (Nat → Int) → (Nat → Int → Int) → Prop) (h : w_Fi_cheapestPart mo F A x1 Q) : Met l y_Fi_cheapestPart (Cond.code y_Fi_cheapestPart c_Fi_cheapestPart 6 (some .int) :: gT) ({ frames := 4, cells := 0, slots := 0, locals := 102 } : Room) (va_Pc [.ref (ad 4), .int (iI x1)] (x_P D vCl shU ad cA (NN mo) sz F A)) (x_QI D vCl shU ad cA (NN mo) (va_A (x_w shU ad cA (NN mo) F A) sz) Q) 0 0 (va_A (x_w shU ad cA (NN mo) F A) sz) := by
  refine Met.ofW (cc := c_Fi_cheapestPart) (maxL := 6) (ret := some .int) (by decide) rfl ?_
  intro p e s m args below meth c s₁ B hml hv
  obtain ⟨rfl, hsz, hP, hK, hD0, hN0⟩ := hv
  have hx := B.exec
  have hb := B.bytes
  have hr := B.returns
  have hts0 := atoms_spec (ws := (Cond.code y_Fi_cheapestPart c_Fi_cheapestPart 6 (some .int) :: gT)) B.pre
  have hts : ∀ w ∈ gT, w.before _ s = true := fun w h => hts0 w (List.mem_cons_of_mem _ h)
  have hown : s.vm.findClass R_Fi = some m.cls := findClass_of_methodNamed B.named
  have hlocks := B.notSynchronized
  subst hsz
  have hS : x_S D vCl shU ad cA (NN mo) (va_A (x_w shU ad cA (NN mo) F A) s.heap.size) s F A s.heap [] := ⟨hK, hP, hD0.self, va_S.rf, hN0⟩
  have hA : ∀ q : Nat, s.heap.size ≤ q → va_A (x_w shU ad cA (NN mo) F A) s.heap.size q := fun q h => Or.inr h
  have C0 : x_C p s m [.ref (ad 4), .int (iI x1)].toArray meth c c_Fi_cheapestPart 6 (some .int) gT R_Fi := ⟨hx, hb, hr, hml, hown, hts, hlocks⟩
  generalize va_A (x_w shU ad cA (NN mo) F A) s.heap.size = A0 at hS hA ⊢
  have hl := lv_entry [.ref (ad 4), .int (iI x1)] (n := 6) (Nat.le_of_ble_eq_true rfl)
  rw [lg_entry_eq]
  generalize (lg_sl [.ref (ad 4), .int (iI x1)] ++ List.replicate (6 - (lg_sl [.ref (ad 4), .int (iI x1)]).length) Slot.unset).toArray = ls at hl ⊢
  have hl : lv_has ls 6 [(0, .ref (ad 4)), (1, .int (iI x1))] := hl
  refine r_iconst hx hb d_Fi_cheapestPart_0 ?_
  refine lv_istore_n (lv' := [(2, .int (iI (-1))), (0, .ref (ad 4)), (1, .int (iI x1))]) hx hb d_Fi_cheapestPart_1 rfl hl (by decide) rfl (fun ls hl => ?_)
  refine r_iconst hx hb d_Fi_cheapestPart_2 ?_
  refine lv_istore_n (lv' := [(3, .int (iI 0)), (2, .int (iI (-1))), (0, .ref (ad 4)), (1, .int (iI x1))]) hx hb d_Fi_cheapestPart_3 rfl hl (by decide) rfl (fun ls hl => ?_)
  refine r_iconst hx hb d_Fi_cheapestPart_4 ?_
  refine lv_istore (lv' := [(4, .int (iI 0)), (3, .int (iI 0)), (2, .int (iI (-1))), (0, .ref (ad 4)), (1, .int (iI x1))]) hx hb d_Fi_cheapestPart_5 hl (by decide) rfl (fun ls hl => ?_)
  exact s_Fi_cheapestPart_b7 C0 hA _ _ _ _ _ _ h _ _ _ hS (lv_sub hl [3, 4, 2, 1, 0] rfl)
/-! Fi_append -/
def w_Fi_append_b32 (mo : Nat) (Q : (Nat → Int) → (Nat → Int → Int) → Prop) (x1 : Int) (x2 : Int) (F : Nat → Int) (A : Nat → Int → Int) : Prop := 0 ≤ x2 ∧ x2 < (mo : Int) ∧ 0 ≤ x1 ∧ x1 < 60 ∧ Q F (ua (ua A 17 x2 x1) 15 x1 (-1))
def w_Fi_append (mo : Nat) (F : Nat → Int) (A : Nat → Int → Int) (x1 : Int) (x2 : Int) (Q : (Nat → Int) → (Nat → Int → Int) → Prop) : Prop := 0 ≤ x2 ∧ x2 < (mo : Int) ∧ rg (A 17 x2) ∧ ((¬ (A 17 x2) = (-1) → 0 ≤ (A 17 x2) ∧ (A 17 x2) < 60 ∧ w_Fi_append_b32 mo Q x1 x2 F (ua A 15 (A 17 x2) x1)) ∧ ((A 17 x2) = (-1) → w_Fi_append_b32 mo Q x1 x2 F (ua A 16 x2 x1)))
set_option maxHeartbeats 4000000 in
set_option maxRecDepth 100000 in
theorem s_Fi_append_b32 (C0 : x_C p s m args meth c c_Fi_append 3 (none) gT R_Fi) (hA : ∀ q : Nat, s.heap.size ≤ q → A0 q) {mo : Nat} {Q : (Nat → Int) → (Nat → Int → Int) → Prop} (x1 : Int) (x2 : Int) (F : Nat → Int) (A : Nat → Int → Int) (h : w_Fi_append_b32 mo Q x1 x2 F A) (H : Heap) (locs : List Loc) (ls : Array Slot) (hS : x_S D vCl shU ad cA (NN mo) A0 s F A H locs) (hl : lv_has ls 3 [(0, .ref (ad 4)), (1, .int (iI x1)), (2, .int (iI x2))]) : W p l e ({ frames := 0, cells := 0, slots := 0, locals := 0 } : Room) s m args below meth c H locs 0 0 (MQ below (x_QV D vCl shU ad cA (NN mo) A0 Q) args s 0 0 A0) (F0 m 32 ls []) := by
  obtain ⟨hx, hb, hr, hml, hown, hts, hlocks⟩ := id C0
  refine lv_aload_n hx hb d_Fi_append_32 rfl (lv_at hl 0 rfl) ?_
  refine r_getr (t2 := 23) hx hb hts in_Fi hown hS 4 rfl rfl 6 (by decide) rfl (hts _ tw_186) d_Fi_append_33 ?_
  refine lv_iload_n hx hb d_Fi_append_36 rfl (lv_at hl 2 rfl) ?_
  refine lv_iload_n hx hb d_Fi_append_37 rfl (lv_at hl 1 rfl) ?_
  obtain ⟨g1, h⟩ := h
  obtain ⟨g2, h⟩ := h
  refine r_iast (id := 17) (i := x2) (v := x1) hx hb hS 23 rfl g1 g2 (seta_17 ad cA mo _ _ _ _) d_Fi_append_38 (fun H locs hS => ?_)
  refine lv_aload_n hx hb d_Fi_append_39 rfl (lv_at hl 0 rfl) ?_
  refine r_getr (t2 := 21) hx hb hts in_Fi hown hS 4 rfl rfl 4 (by decide) rfl (hts _ tw_184) d_Fi_append_40 ?_
  refine lv_iload_n hx hb d_Fi_append_43 rfl (lv_at hl 1 rfl) ?_
  refine r_iconst hx hb d_Fi_append_44 ?_
  obtain ⟨g3, h⟩ := h
  obtain ⟨g4, h⟩ := h
  refine r_iast (id := 15) (i := x1) (v := (-1)) hx hb hS 21 rfl g3 g4 (seta_15 ad cA mo _ _ _ _) d_Fi_append_45 (fun H locs hS => ?_)
  exact r_vret hx hb hr hlocks hS h d_Fi_append_46
set_option maxHeartbeats 4000000 in
set_option maxRecDepth 100000 in
theorem ct_Fi_append (l : Launch) (D : va_G) (ad : Nat → Nat) (cA : Nat → ClassId) (mo sz : Nat) (F : Nat → Int) (A : Nat → Int → Int) (x1 : Int) (x2 : Int) (Q : (Nat → Int) → (Nat → Int → Int) → Prop) (h : w_Fi_append mo F A x1 x2 Q) : Met l y_Fi_append (Cond.code y_Fi_append c_Fi_append 3 (none) :: gT) ({ frames := 0, cells := 0, slots := 0, locals := 0 } : Room) (va_Pc [.ref (ad 4), .int (iI x1), .int (iI x2)] (x_P D vCl shU ad cA (NN mo) sz F A)) (x_QV D vCl shU ad cA (NN mo) (va_A (x_w shU ad cA (NN mo) F A) sz) Q) 0 0 (va_A (x_w shU ad cA (NN mo) F A) sz) := by
  refine Met.ofW (cc := c_Fi_append) (maxL := 3) (ret := none) (by decide) rfl ?_
  intro p e s m args below meth c s₁ B hml hv
  obtain ⟨rfl, hsz, hP, hK, hD0, hN0⟩ := hv
  have hx := B.exec
  have hb := B.bytes
  have hr := B.returns
  have hts0 := atoms_spec (ws := (Cond.code y_Fi_append c_Fi_append 3 (none) :: gT)) B.pre
  have hts : ∀ w ∈ gT, w.before _ s = true := fun w h => hts0 w (List.mem_cons_of_mem _ h)
  have hown : s.vm.findClass R_Fi = some m.cls := findClass_of_methodNamed B.named
  have hlocks := B.notSynchronized
  subst hsz
  have hS : x_S D vCl shU ad cA (NN mo) (va_A (x_w shU ad cA (NN mo) F A) s.heap.size) s F A s.heap [] := ⟨hK, hP, hD0.self, va_S.rf, hN0⟩
  have hA : ∀ q : Nat, s.heap.size ≤ q → va_A (x_w shU ad cA (NN mo) F A) s.heap.size q := fun q h => Or.inr h
  have C0 : x_C p s m [.ref (ad 4), .int (iI x1), .int (iI x2)].toArray meth c c_Fi_append 3 (none) gT R_Fi := ⟨hx, hb, hr, hml, hown, hts, hlocks⟩
  generalize va_A (x_w shU ad cA (NN mo) F A) s.heap.size = A0 at hS hA ⊢
  have hl := lv_entry [.ref (ad 4), .int (iI x1), .int (iI x2)] (n := 3) (Nat.le_of_ble_eq_true rfl)
  rw [lg_entry_eq]
  generalize (lg_sl [.ref (ad 4), .int (iI x1), .int (iI x2)] ++ List.replicate (3 - (lg_sl [.ref (ad 4), .int (iI x1), .int (iI x2)]).length) Slot.unset).toArray = ls at hl ⊢
  have hl : lv_has ls 3 [(0, .ref (ad 4)), (1, .int (iI x1)), (2, .int (iI x2))] := hl
  refine lv_aload_n hx hb d_Fi_append_0 rfl (lv_at hl 0 rfl) ?_
  refine r_getr (t2 := 23) hx hb hts in_Fi hown hS 4 rfl rfl 6 (by decide) rfl (hts _ tw_186) d_Fi_append_1 ?_
  refine lv_iload_n hx hb d_Fi_append_4 rfl (lv_at hl 2 rfl) ?_
  obtain ⟨g5, h⟩ := h
  obtain ⟨g6, h⟩ := h
  refine r_iald (id := 17) (i := x2) (z := A 17 x2) hx hb hS 23 rfl g5 g6 d_Fi_append_5 rfl ?_
  refine r_iconst hx hb d_Fi_append_6 ?_
  obtain ⟨g7, h⟩ := h
  refine r_icmp_ne (tgt := 20) hx hb g7 ⟨by omega, by omega⟩ d_Fi_append_7 (by decide) (fun hc => ?_) (fun hc => ?_)
  · replace h := h.1 hc
    refine lv_aload_n hx hb d_Fi_append_20 rfl (lv_at hl 0 rfl) ?_
    refine r_getr (t2 := 21) hx hb hts in_Fi hown hS 4 rfl rfl 4 (by decide) rfl (hts _ tw_184) d_Fi_append_21 ?_
    refine lv_aload_n hx hb d_Fi_append_24 rfl (lv_at hl 0 rfl) ?_
    refine r_getr (t2 := 23) hx hb hts in_Fi hown hS 4 rfl rfl 6 (by decide) rfl (hts _ tw_186) d_Fi_append_25 ?_
    refine lv_iload_n hx hb d_Fi_append_28 rfl (lv_at hl 2 rfl) ?_
    refine r_iald (id := 17) (i := x2) (z := A 17 x2) hx hb hS 23 rfl g5 g6 d_Fi_append_29 rfl ?_
    refine lv_iload_n hx hb d_Fi_append_30 rfl (lv_at hl 1 rfl) ?_
    obtain ⟨g8, h⟩ := h
    obtain ⟨g9, h⟩ := h
    refine r_iast (id := 15) (i := (A 17 x2)) (v := x1) hx hb hS 21 rfl g8 g9 (seta_15 ad cA mo _ _ _ _) d_Fi_append_31 (fun H locs hS => ?_)
    exact s_Fi_append_b32 C0 hA _ _ _ _ h _ _ _ hS (lv_sub hl [0, 1, 2] rfl)
  · replace h := h.2 hc
    refine lv_aload_n hx hb d_Fi_append_10 rfl (lv_at hl 0 rfl) ?_
    refine r_getr (t2 := 22) hx hb hts in_Fi hown hS 4 rfl rfl 5 (by decide) rfl (hts _ tw_185) d_Fi_append_11 ?_
    refine lv_iload_n hx hb d_Fi_append_14 rfl (lv_at hl 2 rfl) ?_
    refine lv_iload_n hx hb d_Fi_append_15 rfl (lv_at hl 1 rfl) ?_
    refine r_iast (id := 16) (i := x2) (v := x1) hx hb hS 22 rfl g5 g6 (seta_16 ad cA mo _ _ _ _) d_Fi_append_16 (fun H locs hS => ?_)
    refine lv_goto (tgt := 32) hx hb d_Fi_append_17 (by decide) ?_
    exact s_Fi_append_b32 C0 hA _ _ _ _ h _ _ _ hS (lv_sub hl [0, 1, 2] rfl)
/-! Li_putCells -/
def w_Li_putCells_b2 (mo : Nat) (Q : (Nat → Int) → (Nat → Int → Int) → Prop) (x1 : Int) (x2 : Int) (F : Nat → Int) (A : Nat → Int → Int) : Prop := Lp3 (fun I2 x2 F A => rg x2 ∧ rg (F 7) ∧ (((F 7) ≤ x2 → Q F A) ∧ (¬ (F 7) ≤ x2 → 0 ≤ x2 ∧ x2 < 60 ∧ w_Ce_put mo F A (A 19 x2) (A 22 x2) x1 (fun F5 A5 => I2 (x2 + 1) F5 A5)))) x2 F A
def w_Li_putCells (mo : Nat) (F : Nat → Int) (A : Nat → Int → Int) (x1 : Int) (Q : (Nat → Int) → (Nat → Int → Int) → Prop) : Prop := w_Li_putCells_b2 mo Q x1 0 F A
set_option maxHeartbeats 4000000 in
set_option maxRecDepth 100000 in
theorem s_Li_putCells_b2 (C0 : x_C p s m args meth c c_Li_putCells 3 (none) gT R_Li) (hA : ∀ q : Nat, s.heap.size ≤ q → A0 q) {mo : Nat} {Q : (Nat → Int) → (Nat → Int → Int) → Prop} (x1 : Int) (x2 : Int) (F : Nat → Int) (A : Nat → Int → Int) (h : w_Li_putCells_b2 mo Q x1 x2 F A) (H : Heap) (locs : List Loc) (ls : Array Slot) (hS : x_S D vCl shU ad cA (NN mo) A0 s F A H locs) (hl : lv_has ls 3 [(0, .ref (ad 5)), (1, .int (iI x1)), (2, .int (iI x2))]) : W p l e ({ frames := 1, cells := 0, slots := 0, locals := 23 } : Room) s m args below meth c H locs 0 0 (MQ below (x_QV D vCl shU ad cA (NN mo) A0 Q) args s 0 0 A0) (F0 m 2 ls []) := by
  obtain ⟨hx, hb, hr, hml, hown, hts, hlocks⟩ := id C0
  refine h (fun x2 F A => ∀ (H : Heap) (locs : List Loc) (ls : Array Slot), x_S D vCl shU ad cA (NN mo) A0 s F A H locs → lv_has ls 3 [(0, .ref (ad 5)), (1, .int (iI x1)), (2, .int (iI x2))] → W p l e ({ frames := 1, cells := 0, slots := 0, locals := 23 } : Room) s m args below meth c H locs 0 0 (MQ below (x_QV D vCl shU ad cA (NN mo) A0 Q) args s 0 0 A0) (F0 m 2 ls [])) ?_ H locs ls hS hl
  intro x2 F A h H locs ls hS hl
  refine lv_iload_n hx hb d_Li_putCells_2 rfl (lv_at hl 2 rfl) ?_
  refine lv_aload_n hx hb d_Li_putCells_3 rfl (lv_at hl 0 rfl) ?_
  refine r_geti (z := F 7) hx hb hts in_Li hown hS 5 rfl rfl 7 (by decide) rfl (hts _ tw_155) d_Li_putCells_4 rfl ?_
  obtain ⟨g1, h⟩ := h
  obtain ⟨g2, h⟩ := h
  refine r_icmp_ge (tgt := 36) hx hb g1 g2 d_Li_putCells_7 (by decide) (fun hc => ?_) (fun hc => ?_)
  · replace h := h.1 hc
    exact r_vret hx hb hr hlocks hS h d_Li_putCells_36
  · replace h := h.2 hc
    refine lv_aload_n hx hb d_Li_putCells_10 rfl (lv_at hl 0 rfl) ?_
    refine r_getr (t2 := 2) hx hb hts in_Li hown hS 5 rfl rfl 0 (by decide) rfl (hts _ tw_148) d_Li_putCells_11 ?_
    refine lv_aload_n hx hb d_Li_putCells_14 rfl (lv_at hl 0 rfl) ?_
    refine r_getr (t2 := 25) hx hb hts in_Li hown hS 5 rfl rfl 1 (by decide) rfl (hts _ tw_149) d_Li_putCells_15 ?_
    refine lv_iload_n hx hb d_Li_putCells_18 rfl (lv_at hl 2 rfl) ?_
    obtain ⟨g3, h⟩ := h
    obtain ⟨g4, h⟩ := h
    refine r_iald (id := 19) (i := x2) (z := A 19 x2) hx hb hS 25 rfl g3 g4 d_Li_putCells_19 rfl ?_
    refine lv_aload_n hx hb d_Li_putCells_20 rfl (lv_at hl 0 rfl) ?_
    refine r_getr (t2 := 28) hx hb hts in_Li hown hS 5 rfl rfl 4 (by decide) rfl (hts _ tw_152) d_Li_putCells_21 ?_
    refine lv_iload_n hx hb d_Li_putCells_24 rfl (lv_at hl 2 rfl) ?_
    refine r_iald (id := 22) (i := x2) (z := A 22 x2) hx hb hS 28 rfl g3 g4 d_Li_putCells_25 rfl ?_
    refine lv_iload_n hx hb d_Li_putCells_26 rfl (lv_at hl 1 rfl) ?_
    refine r_cv (va_runV (As := [.int (iI (A 19 x2)), .int (iI (A 22 x2)), .int (iI x1)]) (rest := []) ⟨hx, hb, hml, hown, hts⟩ (ct_Ce_put l D ad cA mo _ _ _ _ _ _ _ h) (cwV 3 hts (gV tw_304 tw_305 tw_306 tw_4 tw_307) rfl rfl rfl (by decide +kernel) ⟨Nat.le_of_ble_eq_true rfl, Nat.le_of_ble_eq_true rfl⟩) (x_preV hS 2 rfl rfl _) rfl rfl hl.1 rfl (lv_room (Nat.le_of_ble_eq_true rfl)) d_Li_putCells_27 ⟨Nat.zero_le _, Nat.zero_le _⟩) hS hA (fun F5 A5 H locs hS h => ?_)
    refine r_iinc (k := 2) (z := x2) (lv' := [(2, .int (iI (x2 + 1))), (0, .ref (ad 5)), (1, .int (iI x1))]) hx hb d_Li_putCells_30 hl rfl (by decide) rfl (fun ls hl => ?_)
    refine lv_goto (tgt := 2) hx hb d_Li_putCells_33 (by decide) ?_
    exact h _ _ _ hS (lv_sub hl [1, 2, 0] rfl)
set_option maxHeartbeats 4000000 in
set_option maxRecDepth 100000 in
theorem ct_Li_putCells (l : Launch) (D : va_G) (ad : Nat → Nat) (cA : Nat → ClassId) (mo sz : Nat) (F : Nat → Int) (A : Nat → Int → Int) (x1 : Int) (Q : (Nat → Int) → (Nat → Int → Int) → Prop) (h : w_Li_putCells mo F A x1 Q) : Met l y_Li_putCells (Cond.code y_Li_putCells c_Li_putCells 3 (none) :: gT) ({ frames := 1, cells := 0, slots := 0, locals := 23 } : Room) (va_Pc [.ref (ad 5), .int (iI x1)] (x_P D vCl shU ad cA (NN mo) sz F A)) (x_QV D vCl shU ad cA (NN mo) (va_A (x_w shU ad cA (NN mo) F A) sz) Q) 0 0 (va_A (x_w shU ad cA (NN mo) F A) sz) := by
  refine Met.ofW (cc := c_Li_putCells) (maxL := 3) (ret := none) (by decide) rfl ?_
  intro p e s m args below meth c s₁ B hml hv
  obtain ⟨rfl, hsz, hP, hK, hD0, hN0⟩ := hv
  have hx := B.exec
  have hb := B.bytes
  have hr := B.returns
  have hts0 := atoms_spec (ws := (Cond.code y_Li_putCells c_Li_putCells 3 (none) :: gT)) B.pre
  have hts : ∀ w ∈ gT, w.before _ s = true := fun w h => hts0 w (List.mem_cons_of_mem _ h)
  have hown : s.vm.findClass R_Li = some m.cls := findClass_of_methodNamed B.named
  have hlocks := B.notSynchronized
  subst hsz
  have hS : x_S D vCl shU ad cA (NN mo) (va_A (x_w shU ad cA (NN mo) F A) s.heap.size) s F A s.heap [] := ⟨hK, hP, hD0.self, va_S.rf, hN0⟩
  have hA : ∀ q : Nat, s.heap.size ≤ q → va_A (x_w shU ad cA (NN mo) F A) s.heap.size q := fun q h => Or.inr h
  have C0 : x_C p s m [.ref (ad 5), .int (iI x1)].toArray meth c c_Li_putCells 3 (none) gT R_Li := ⟨hx, hb, hr, hml, hown, hts, hlocks⟩
  generalize va_A (x_w shU ad cA (NN mo) F A) s.heap.size = A0 at hS hA ⊢
  have hl := lv_entry [.ref (ad 5), .int (iI x1)] (n := 3) (Nat.le_of_ble_eq_true rfl)
  rw [lg_entry_eq]
  generalize (lg_sl [.ref (ad 5), .int (iI x1)] ++ List.replicate (3 - (lg_sl [.ref (ad 5), .int (iI x1)]).length) Slot.unset).toArray = ls at hl ⊢
  have hl : lv_has ls 3 [(0, .ref (ad 5)), (1, .int (iI x1))] := hl
  refine r_iconst hx hb d_Li_putCells_0 ?_
  refine lv_istore_n (lv' := [(2, .int (iI 0)), (0, .ref (ad 5)), (1, .int (iI x1))]) hx hb d_Li_putCells_1 rfl hl (by decide) rfl (fun ls hl => ?_)
  exact s_Li_putCells_b2 C0 hA _ _ _ _ h _ _ _ hS (lv_sub hl [1, 2, 0] rfl)
/-! Fi_settle -/
def w_Fi_settle (mo : Nat) (F : Nat → Int) (A : Nat → Int → Int) (x1 : Int) (Q : (Nat → Int) → (Nat → Int → Int) → Prop) : Prop := w_Fi_gather mo F A x1 (fun F1 A1 => 0 ≤ x1 ∧ x1 < (mo : Int) ∧ w_Li_layIn mo F1 A1 (A1 1 x1) (A1 2 x1) (fun z4 F4 A4 => rg z4 ∧ ((z4 = 0 → Q F4 A4) ∧ (¬ z4 = 0 → w_Li_putCells mo F4 (ua A4 18 x1 (F4 9)) (A4 0 x1) (fun F6 A6 => Q F6 A6)))))
set_option maxHeartbeats 4000000 in
set_option maxRecDepth 100000 in
theorem ct_Fi_settle (l : Launch) (D : va_G) (ad : Nat → Nat) (cA : Nat → ClassId) (mo sz : Nat) (F : Nat → Int) (A : Nat → Int → Int) (x1 : Int) (Q : (Nat → Int) → (Nat → Int → Int) → Prop) (h : w_Fi_settle mo F A x1 Q) : Met l y_Fi_settle (Cond.code y_Fi_settle c_Fi_settle 2 (none) :: gT) ({ frames := 3, cells := 0, slots := 0, locals := 80 } : Room) (va_Pc [.ref (ad 4), .int (iI x1)] (x_P D vCl shU ad cA (NN mo) sz F A)) (x_QV D vCl shU ad cA (NN mo) (va_A (x_w shU ad cA (NN mo) F A) sz) Q) 0 0 (va_A (x_w shU ad cA (NN mo) F A) sz) := by
  refine Met.ofW (cc := c_Fi_settle) (maxL := 2) (ret := none) (by decide) rfl ?_
  intro p e s m args below meth c s₁ B hml hv
  obtain ⟨rfl, hsz, hP, hK, hD0, hN0⟩ := hv
  have hx := B.exec
  have hb := B.bytes
  have hr := B.returns
  have hts0 := atoms_spec (ws := (Cond.code y_Fi_settle c_Fi_settle 2 (none) :: gT)) B.pre
  have hts : ∀ w ∈ gT, w.before _ s = true := fun w h => hts0 w (List.mem_cons_of_mem _ h)
  have hown : s.vm.findClass R_Fi = some m.cls := findClass_of_methodNamed B.named
  have hlocks := B.notSynchronized
  subst hsz
  have hS : x_S D vCl shU ad cA (NN mo) (va_A (x_w shU ad cA (NN mo) F A) s.heap.size) s F A s.heap [] := ⟨hK, hP, hD0.self, va_S.rf, hN0⟩
  have hA : ∀ q : Nat, s.heap.size ≤ q → va_A (x_w shU ad cA (NN mo) F A) s.heap.size q := fun q h => Or.inr h
  have C0 : x_C p s m [.ref (ad 4), .int (iI x1)].toArray meth c c_Fi_settle 2 (none) gT R_Fi := ⟨hx, hb, hr, hml, hown, hts, hlocks⟩
  generalize va_A (x_w shU ad cA (NN mo) F A) s.heap.size = A0 at hS hA ⊢
  have hl := lv_entry [.ref (ad 4), .int (iI x1)] (n := 2) (Nat.le_of_ble_eq_true rfl)
  rw [lg_entry_eq]
  generalize (lg_sl [.ref (ad 4), .int (iI x1)] ++ List.replicate (2 - (lg_sl [.ref (ad 4), .int (iI x1)]).length) Slot.unset).toArray = ls at hl ⊢
  have hl : lv_has ls 2 [(0, .ref (ad 4)), (1, .int (iI x1))] := hl
  refine lv_aload_n hx hb d_Fi_settle_0 rfl (lv_at hl 0 rfl) ?_
  refine lv_iload_n hx hb d_Fi_settle_1 rfl (lv_at hl 1 rfl) ?_
  refine r_cv (va_runV (As := [.int (iI x1)]) (rest := []) ⟨hx, hb, hml, hown, hts⟩ (ct_Fi_gather l D ad cA mo _ _ _ _ _ h) (cwV 1 hts (gV tw_257 tw_259 tw_s_Fi_gather tw_6 tw_260) rfl rfl rfl (by decide +kernel) ⟨Nat.le_of_ble_eq_true rfl, Nat.le_of_ble_eq_true rfl⟩) (x_preV hS 4 rfl rfl _) rfl rfl hl.1 rfl (lv_room (Nat.le_of_ble_eq_true rfl)) d_Fi_settle_2 ⟨Nat.zero_le _, Nat.zero_le _⟩) hS hA (fun F1 A1 H locs hS h => ?_)
  refine lv_aload_n hx hb d_Fi_settle_5 rfl (lv_at hl 0 rfl) ?_
  refine r_getr (t2 := 5) hx hb hts in_Fi hown hS 4 rfl rfl 2 (by decide) rfl (hts _ tw_182) d_Fi_settle_6 ?_
  refine lv_aload_n hx hb d_Fi_settle_9 rfl (lv_at hl 0 rfl) ?_
  refine r_getr (t2 := 1) hx hb hts in_Fi hown hS 4 rfl rfl 0 (by decide) rfl (hts _ tw_180) d_Fi_settle_10 ?_
  refine r_getr (t2 := 7) hx hb hts in_Gr hown hS 1 rfl rfl 3 (by decide) rfl (hts _ tw_51) d_Fi_settle_13 ?_
  refine lv_iload_n hx hb d_Fi_settle_16 rfl (lv_at hl 1 rfl) ?_
  obtain ⟨g2, h⟩ := h
  obtain ⟨g3, h⟩ := h
  refine r_iald (id := 1) (i := x1) (z := A1 1 x1) hx hb hS 7 rfl g2 g3 d_Fi_settle_17 rfl ?_
  refine lv_aload_n hx hb d_Fi_settle_18 rfl (lv_at hl 0 rfl) ?_
  refine r_getr (t2 := 1) hx hb hts in_Fi hown hS 4 rfl rfl 0 (by decide) rfl (hts _ tw_180) d_Fi_settle_19 ?_
  refine r_getr (t2 := 8) hx hb hts in_Gr hown hS 1 rfl rfl 4 (by decide) rfl (hts _ tw_53) d_Fi_settle_22 ?_
  refine lv_iload_n hx hb d_Fi_settle_25 rfl (lv_at hl 1 rfl) ?_
  refine r_iald (id := 2) (i := x1) (z := A1 2 x1) hx hb hS 8 rfl g2 g3 d_Fi_settle_26 rfl ?_
  refine r_ci (va_runV (As := [.int (iI (A1 1 x1)), .int (iI (A1 2 x1))]) (rest := []) ⟨hx, hb, hml, hown, hts⟩ (ct_Li_layIn l D ad cA mo _ _ _ _ _ _ h) (cwV 2 hts (gV tw_273 tw_274 tw_275 tw_7 tw_276) rfl rfl rfl (by decide +kernel) ⟨Nat.le_of_ble_eq_true rfl, Nat.le_of_ble_eq_true rfl⟩) (x_preV hS 5 rfl rfl _) rfl rfl hl.1 rfl (lv_room (Nat.le_of_ble_eq_true rfl)) d_Fi_settle_27 ⟨Nat.zero_le _, Nat.zero_le _⟩) hS hA (fun z4 F4 A4 H locs hS h => ?_)
  obtain ⟨g5, h⟩ := h
  refine r_if_eq (tgt := 62) hx hb g5 d_Fi_settle_30 (by decide) (fun hc => ?_) (fun hc => ?_)
  · replace h := h.1 hc
    exact r_vret hx hb hr hlocks hS h d_Fi_settle_62
  · replace h := h.2 hc
    refine lv_aload_n hx hb d_Fi_settle_33 rfl (lv_at hl 0 rfl) ?_
    refine r_getr (t2 := 24) hx hb hts in_Fi hown hS 4 rfl rfl 7 (by decide) rfl (hts _ tw_187) d_Fi_settle_34 ?_
    refine lv_iload_n hx hb d_Fi_settle_37 rfl (lv_at hl 1 rfl) ?_
    refine lv_aload_n hx hb d_Fi_settle_38 rfl (lv_at hl 0 rfl) ?_
    refine r_getr (t2 := 5) hx hb hts in_Fi hown hS 4 rfl rfl 2 (by decide) rfl (hts _ tw_182) d_Fi_settle_39 ?_
    refine r_geti (z := F4 9) hx hb hts in_Li hown hS 5 rfl rfl 9 (by decide) rfl (hts _ tw_157) d_Fi_settle_42 rfl ?_
    refine r_iast (id := 18) (i := x1) (v := (F4 9)) hx hb hS 24 rfl g2 g3 (seta_18 ad cA mo _ _ _ _) d_Fi_settle_45 (fun H locs hS => ?_)
    refine lv_aload_n hx hb d_Fi_settle_46 rfl (lv_at hl 0 rfl) ?_
    refine r_getr (t2 := 5) hx hb hts in_Fi hown hS 4 rfl rfl 2 (by decide) rfl (hts _ tw_182) d_Fi_settle_47 ?_
    refine lv_aload_n hx hb d_Fi_settle_50 rfl (lv_at hl 0 rfl) ?_
    refine r_getr (t2 := 1) hx hb hts in_Fi hown hS 4 rfl rfl 0 (by decide) rfl (hts _ tw_180) d_Fi_settle_51 ?_
    refine r_getr (t2 := 6) hx hb hts in_Gr hown hS 1 rfl rfl 2 (by decide) rfl (hts _ tw_49) d_Fi_settle_54 ?_
    refine lv_iload_n hx hb d_Fi_settle_57 rfl (lv_at hl 1 rfl) ?_
    refine r_iald (id := 0) (i := x1) (z := A4 0 x1) hx hb hS 6 rfl g2 g3 d_Fi_settle_58 rfl ?_
    refine r_cv (va_runV (As := [.int (iI (A4 0 x1))]) (rest := []) ⟨hx, hb, hml, hown, hts⟩ (ct_Li_putCells l D ad cA mo _ _ _ _ _ h) (cwV 1 hts (gV tw_300 tw_301 tw_302 tw_7 tw_303) rfl rfl rfl (by decide +kernel) ⟨Nat.le_of_ble_eq_true rfl, Nat.le_of_ble_eq_true rfl⟩) (x_preV hS 5 rfl rfl _) rfl rfl hl.1 rfl (lv_room (Nat.le_of_ble_eq_true rfl)) d_Fi_settle_59 ⟨Nat.zero_le _, Nat.zero_le _⟩) hS hA (fun F6 A6 H locs hS h => ?_)
    exact r_vret hx hb hr hlocks hS h d_Fi_settle_62
/-! Fi_placeAll -/
def w_Fi_placeAll_b10 (mo : Nat) (Q : Int → (Nat → Int) → (Nat → Int → Int) → Prop) (x1 : Int) (F : Nat → Int) (A : Nat → Int → Int) : Prop := Lp3 (fun I10 x1 F A => rg x1 ∧ rg (F 4) ∧ (((F 4) ≤ x1 → Q (-1) F A) ∧ (¬ (F 4) ≤ x1 → 0 ≤ x1 ∧ x1 < 60 ∧ w_Fi_cheapestPart mo F A (A 14 x1) (fun z5 F5 A5 => rg z5 ∧ ((¬ z5 = (-1) → w_Fi_append mo F5 A5 (A5 14 x1) z5 (fun F7 A7 => w_Fi_settle mo F7 A7 z5 (fun F8 A8 => I10 (x1 + 1) F8 A8))) ∧ (z5 = (-1) → Q (A5 14 x1) F5 A5)))))) x1 F A
def w_Fi_placeAll (mo : Nat) (F : Nat → Int) (A : Nat → Int → Int)  (Q : Int → (Nat → Int) → (Nat → Int → Int) → Prop) : Prop := w_Fi_emptyParts mo F A (fun F9 A9 => w_Fi_orderCells mo F9 A9 (fun F10 A10 => w_Fi_placeAll_b10 mo Q 0 F10 A10))
set_option maxHeartbeats 4000000 in
set_option maxRecDepth 100000 in
theorem s_Fi_placeAll_b10 (C0 : x_C p s m args meth c c_Fi_placeAll 3 (some .int) gT R_Fi) (hA : ∀ q : Nat, s.heap.size ≤ q → A0 q) {mo : Nat} {Q : Int → (Nat → Int) → (Nat → Int → Int) → Prop} (x1 : Int) (F : Nat → Int) (A : Nat → Int → Int) (h : w_Fi_placeAll_b10 mo Q x1 F A) (H : Heap) (locs : List Loc) (ls : Array Slot) (hS : x_S D vCl shU ad cA (NN mo) A0 s F A H locs) (hl : lv_has ls 3 [(0, .ref (ad 4)), (1, .int (iI x1))]) : W p l e ({ frames := 5, cells := 0, slots := 0, locals := 127 } : Room) s m args below meth c H locs 0 0 (MQ below (x_QI D vCl shU ad cA (NN mo) A0 Q) args s 0 0 A0) (F0 m 10 ls []) := by
  obtain ⟨hx, hb, hr, hml, hown, hts, hlocks⟩ := id C0
  refine h (fun x1 F A => ∀ (H : Heap) (locs : List Loc) (ls : Array Slot), x_S D vCl shU ad cA (NN mo) A0 s F A H locs → lv_has ls 3 [(0, .ref (ad 4)), (1, .int (iI x1))] → W p l e ({ frames := 5, cells := 0, slots := 0, locals := 127 } : Room) s m args below meth c H locs 0 0 (MQ below (x_QI D vCl shU ad cA (NN mo) A0 Q) args s 0 0 A0) (F0 m 10 ls [])) ?_ H locs ls hS hl
  intro x1 F A h H locs ls hS hl
  refine lv_iload_n hx hb d_Fi_placeAll_10 rfl (lv_at hl 1 rfl) ?_
  refine lv_aload_n hx hb d_Fi_placeAll_11 rfl (lv_at hl 0 rfl) ?_
  refine r_getr (t2 := 2) hx hb hts in_Fi hown hS 4 rfl rfl 1 (by decide) rfl (hts _ tw_181) d_Fi_placeAll_12 ?_
  refine r_geti (z := F 4) hx hb hts in_Ce hown hS 2 rfl rfl 8 (by decide) rfl (hts _ tw_92) d_Fi_placeAll_15 rfl ?_
  obtain ⟨g1, h⟩ := h
  obtain ⟨g2, h⟩ := h
  refine r_icmp_ge (tgt := 66) hx hb g1 g2 d_Fi_placeAll_18 (by decide) (fun hc => ?_) (fun hc => ?_)
  · replace h := h.1 hc
    refine r_iconst hx hb d_Fi_placeAll_66 ?_
    exact r_iret (z := (-1)) hx hb hr hlocks hS h d_Fi_placeAll_67
  · replace h := h.2 hc
    refine lv_aload_n hx hb d_Fi_placeAll_21 rfl (lv_at hl 0 rfl) ?_
    refine lv_aload_n hx hb d_Fi_placeAll_22 rfl (lv_at hl 0 rfl) ?_
    refine r_getr (t2 := 20) hx hb hts in_Fi hown hS 4 rfl rfl 3 (by decide) rfl (hts _ tw_183) d_Fi_placeAll_23 ?_
    refine lv_iload_n hx hb d_Fi_placeAll_26 rfl (lv_at hl 1 rfl) ?_
    obtain ⟨g3, h⟩ := h
    obtain ⟨g4, h⟩ := h
    refine r_iald (id := 14) (i := x1) (z := A 14 x1) hx hb hS 20 rfl g3 g4 d_Fi_placeAll_27 rfl ?_
    refine r_ci (va_runV (As := [.int (iI (A 14 x1))]) (rest := []) ⟨hx, hb, hml, hown, hts⟩ (ct_Fi_cheapestPart l D ad cA mo _ _ _ _ _ h) (cwV 1 hts (gV tw_237 tw_239 tw_s_Fi_cheapestPart tw_6 tw_240) rfl rfl rfl (by decide +kernel) ⟨Nat.le_of_ble_eq_true rfl, Nat.le_of_ble_eq_true rfl⟩) (x_preV hS 4 rfl rfl _) rfl rfl hl.1 rfl (lv_room (Nat.le_of_ble_eq_true rfl)) d_Fi_placeAll_28 ⟨Nat.zero_le _, Nat.zero_le _⟩) hS hA (fun z5 F5 A5 H locs hS h => ?_)
    refine lv_istore_n (lv' := [(2, .int (iI z5)), (0, .ref (ad 4)), (1, .int (iI x1))]) hx hb d_Fi_placeAll_31 rfl hl (by decide) rfl (fun ls hl => ?_)
    refine lv_iload_n hx hb d_Fi_placeAll_32 rfl (lv_at hl 0 rfl) ?_
    refine r_iconst hx hb d_Fi_placeAll_33 ?_
    obtain ⟨g6, h⟩ := h
    refine r_icmp_ne (tgt := 44) hx hb g6 ⟨by omega, by omega⟩ d_Fi_placeAll_34 (by decide) (fun hc => ?_) (fun hc => ?_)
    · replace h := h.1 hc
      refine lv_aload_n hx hb d_Fi_placeAll_44 rfl (lv_at hl 1 rfl) ?_
      refine lv_aload_n hx hb d_Fi_placeAll_45 rfl (lv_at hl 1 rfl) ?_
      refine r_getr (t2 := 20) hx hb hts in_Fi hown hS 4 rfl rfl 3 (by decide) rfl (hts _ tw_183) d_Fi_placeAll_46 ?_
      refine lv_iload_n hx hb d_Fi_placeAll_49 rfl (lv_at hl 2 rfl) ?_
      refine r_iald (id := 14) (i := x1) (z := A5 14 x1) hx hb hS 20 rfl g3 g4 d_Fi_placeAll_50 rfl ?_
      refine lv_iload_n hx hb d_Fi_placeAll_51 rfl (lv_at hl 0 rfl) ?_
      refine r_cv (va_runV (As := [.int (iI (A5 14 x1)), .int (iI z5)]) (rest := []) ⟨hx, hb, hml, hown, hts⟩ (ct_Fi_append l D ad cA mo _ _ _ _ _ _ h) (cwV 2 hts (gV tw_292 tw_294 tw_s_Fi_append tw_6 tw_295) rfl rfl rfl (by decide +kernel) ⟨Nat.le_of_ble_eq_true rfl, Nat.le_of_ble_eq_true rfl⟩) (x_preV hS 4 rfl rfl _) rfl rfl hl.1 rfl (lv_room (Nat.le_of_ble_eq_true rfl)) d_Fi_placeAll_52 ⟨Nat.zero_le _, Nat.zero_le _⟩) hS hA (fun F7 A7 H locs hS h => ?_)
      refine lv_aload_n hx hb d_Fi_placeAll_55 rfl (lv_at hl 1 rfl) ?_
      refine lv_iload_n hx hb d_Fi_placeAll_56 rfl (lv_at hl 0 rfl) ?_
      refine r_cv (va_runV (As := [.int (iI z5)]) (rest := []) ⟨hx, hb, hml, hown, hts⟩ (ct_Fi_settle l D ad cA mo _ _ _ _ _ h) (cwV 1 hts (gV tw_296 tw_298 tw_s_Fi_settle tw_6 tw_299) rfl rfl rfl (by decide +kernel) ⟨Nat.le_of_ble_eq_true rfl, Nat.le_of_ble_eq_true rfl⟩) (x_preV hS 4 rfl rfl _) rfl rfl hl.1 rfl (lv_room (Nat.le_of_ble_eq_true rfl)) d_Fi_placeAll_57 ⟨Nat.zero_le _, Nat.zero_le _⟩) hS hA (fun F8 A8 H locs hS h => ?_)
      refine r_iinc (k := 2) (z := x1) (lv' := [(1, .int (iI (x1 + 1))), (2, .int (iI z5)), (0, .ref (ad 4))]) hx hb d_Fi_placeAll_60 hl rfl (by decide) rfl (fun ls hl => ?_)
      refine lv_goto (tgt := 10) hx hb d_Fi_placeAll_63 (by decide) ?_
      exact h _ _ _ hS (lv_sub hl [2, 0] rfl)
    · replace h := h.2 hc
      refine lv_aload_n hx hb d_Fi_placeAll_37 rfl (lv_at hl 1 rfl) ?_
      refine r_getr (t2 := 20) hx hb hts in_Fi hown hS 4 rfl rfl 3 (by decide) rfl (hts _ tw_183) d_Fi_placeAll_38 ?_
      refine lv_iload_n hx hb d_Fi_placeAll_41 rfl (lv_at hl 2 rfl) ?_
      refine r_iald (id := 14) (i := x1) (z := A5 14 x1) hx hb hS 20 rfl g3 g4 d_Fi_placeAll_42 rfl ?_
      exact r_iret (z := (A5 14 x1)) hx hb hr hlocks hS h d_Fi_placeAll_43
set_option maxHeartbeats 4000000 in
set_option maxRecDepth 100000 in
theorem ct_Fi_placeAll (l : Launch) (D : va_G) (ad : Nat → Nat) (cA : Nat → ClassId) (mo sz : Nat) (F : Nat → Int) (A : Nat → Int → Int)  (Q : Int → (Nat → Int) → (Nat → Int → Int) → Prop) (h : w_Fi_placeAll mo F A  Q) : Met l y_Fi_placeAll (Cond.code y_Fi_placeAll c_Fi_placeAll 3 (some .int) :: gT) ({ frames := 5, cells := 0, slots := 0, locals := 127 } : Room) (va_Pc [.ref (ad 4)] (x_P D vCl shU ad cA (NN mo) sz F A)) (x_QI D vCl shU ad cA (NN mo) (va_A (x_w shU ad cA (NN mo) F A) sz) Q) 0 0 (va_A (x_w shU ad cA (NN mo) F A) sz) := by
  refine Met.ofW (cc := c_Fi_placeAll) (maxL := 3) (ret := some .int) (by decide) rfl ?_
  intro p e s m args below meth c s₁ B hml hv
  obtain ⟨rfl, hsz, hP, hK, hD0, hN0⟩ := hv
  have hx := B.exec
  have hb := B.bytes
  have hr := B.returns
  have hts0 := atoms_spec (ws := (Cond.code y_Fi_placeAll c_Fi_placeAll 3 (some .int) :: gT)) B.pre
  have hts : ∀ w ∈ gT, w.before _ s = true := fun w h => hts0 w (List.mem_cons_of_mem _ h)
  have hown : s.vm.findClass R_Fi = some m.cls := findClass_of_methodNamed B.named
  have hlocks := B.notSynchronized
  subst hsz
  have hS : x_S D vCl shU ad cA (NN mo) (va_A (x_w shU ad cA (NN mo) F A) s.heap.size) s F A s.heap [] := ⟨hK, hP, hD0.self, va_S.rf, hN0⟩
  have hA : ∀ q : Nat, s.heap.size ≤ q → va_A (x_w shU ad cA (NN mo) F A) s.heap.size q := fun q h => Or.inr h
  have C0 : x_C p s m [.ref (ad 4)].toArray meth c c_Fi_placeAll 3 (some .int) gT R_Fi := ⟨hx, hb, hr, hml, hown, hts, hlocks⟩
  generalize va_A (x_w shU ad cA (NN mo) F A) s.heap.size = A0 at hS hA ⊢
  have hl := lv_entry [.ref (ad 4)] (n := 3) (Nat.le_of_ble_eq_true rfl)
  rw [lg_entry_eq]
  generalize (lg_sl [.ref (ad 4)] ++ List.replicate (3 - (lg_sl [.ref (ad 4)]).length) Slot.unset).toArray = ls at hl ⊢
  have hl : lv_has ls 3 [(0, .ref (ad 4))] := hl
  refine lv_aload_n hx hb d_Fi_placeAll_0 rfl (lv_at hl 0 rfl) ?_
  refine r_cv (va_runV (As := []) (rest := []) ⟨hx, hb, hml, hown, hts⟩ (ct_Fi_emptyParts l D ad cA mo _ _ _ _ h) (cwV 0 hts (gV tw_229 tw_231 tw_s_Fi_emptyParts tw_6 tw_232) rfl rfl rfl (by decide +kernel) ⟨Nat.le_of_ble_eq_true rfl, Nat.le_of_ble_eq_true rfl⟩) (x_preV hS 4 rfl rfl _) rfl rfl hl.1 rfl (lv_room (Nat.le_of_ble_eq_true rfl)) d_Fi_placeAll_1 ⟨Nat.zero_le _, Nat.zero_le _⟩) hS hA (fun F9 A9 H locs hS h => ?_)
  refine lv_aload_n hx hb d_Fi_placeAll_4 rfl (lv_at hl 0 rfl) ?_
  refine r_cv (va_runV (As := []) (rest := []) ⟨hx, hb, hml, hown, hts⟩ (ct_Fi_orderCells l D ad cA mo _ _ _ _ h) (cwV 0 hts (gV tw_233 tw_235 tw_s_Fi_orderCells tw_6 tw_236) rfl rfl rfl (by decide +kernel) ⟨Nat.le_of_ble_eq_true rfl, Nat.le_of_ble_eq_true rfl⟩) (x_preV hS 4 rfl rfl _) rfl rfl hl.1 rfl (lv_room (Nat.le_of_ble_eq_true rfl)) d_Fi_placeAll_5 ⟨Nat.zero_le _, Nat.zero_le _⟩) hS hA (fun F10 A10 H locs hS h => ?_)
  refine r_iconst hx hb d_Fi_placeAll_8 ?_
  refine lv_istore_n (lv' := [(1, .int (iI 0)), (0, .ref (ad 4))]) hx hb d_Fi_placeAll_9 rfl hl (by decide) rfl (fun ls hl => ?_)
  exact s_Fi_placeAll_b10 C0 hA _ _ _ h _ _ _ hS (lv_sub hl [1, 0] rfl)
/-! Lr_run -/
def w_Lr_run_b19 (mo : Nat) (Q : Int → (Nat → Int) → (Nat → Int → Int) → Prop) (x1 : Int) (y1 : Int) (F : Nat → Int) (A : Nat → Int → Int) : Prop := (y1 = 0 ∨ y1 = 1) ∧ rg y1 ∧ ((y1 = 0 → Q (1 + x1) (uf F 0 y1) A) ∧ (¬ y1 = 0 → Q 0 (uf F 0 y1) A))
def w_Lr_run (mo : Nat) (F : Nat → Int) (A : Nat → Int → Int)  (Q : Int → (Nat → Int) → (Nat → Int → Int) → Prop) : Prop := w_Fi_placeAll mo F A (fun z3 F3 A3 => rg z3 ∧ ((¬ z3 = (-1) → w_Lr_run_b19 mo Q z3 0 F3 A3) ∧ (z3 = (-1) → w_Lr_run_b19 mo Q z3 1 F3 A3)))
set_option maxHeartbeats 4000000 in
set_option maxRecDepth 100000 in
theorem s_Lr_run_b19 (C0 : x_C p s m args meth c c_Lr_run 2 (some .int) gT R_Lr) (hA : ∀ q : Nat, s.heap.size ≤ q → A0 q) {mo : Nat} {Q : Int → (Nat → Int) → (Nat → Int → Int) → Prop} (x1 : Int) (y1 : Int) (F : Nat → Int) (A : Nat → Int → Int) (h : w_Lr_run_b19 mo Q x1 y1 F A) (H : Heap) (locs : List Loc) (ls : Array Slot) (hS : x_S D vCl shU ad cA (NN mo) A0 s F A H locs) (hl : lv_has ls 2 [(0, .ref (ad 0)), (1, .int (iI x1))]) : W p l e ({ frames := 6, cells := 0, slots := 0, locals := 149 } : Room) s m args below meth c H locs 0 0 (MQ below (x_QI D vCl shU ad cA (NN mo) A0 Q) args s 0 0 A0) (F0 m 19 ls [.int (iI y1), .ref (ad 0)]) := by
  obtain ⟨hx, hb, hr, hml, hown, hts, hlocks⟩ := id C0
  obtain ⟨g1, h⟩ := h
  refine r_putz (j := 0) (v := y1) hx hb hts in_Lr t_Lr to_Lr nm_Lr hown hS 0 rfl rfl 4 (by decide) (hts _ tw_209) rfl (by decide +kernel) g1 (setf_0 ad cA mo _ _ _) (by decide) d_Lr_run_19 (fun H locs hS => ?_)
  refine lv_aload_n hx hb d_Lr_run_22 rfl (lv_at hl 0 rfl) ?_
  refine r_geti (z := y1) hx hb hts in_Lr hown hS 0 rfl rfl 4 (by decide) rfl (hts _ tw_209) d_Lr_run_23 rfl ?_
  obtain ⟨g2, h⟩ := h
  refine r_if_eq (tgt := 33) hx hb g2 d_Lr_run_26 (by decide) (fun hc => ?_) (fun hc => ?_)
  · replace h := h.1 hc
    refine r_iconst hx hb d_Lr_run_33 ?_
    refine lv_iload_n hx hb d_Lr_run_34 rfl (lv_at hl 1 rfl) ?_
    refine r_iadd hx hb d_Lr_run_35 ?_
    exact r_iret (z := (1 + x1)) hx hb hr hlocks hS h d_Lr_run_36
  · replace h := h.2 hc
    refine r_iconst hx hb d_Lr_run_29 ?_
    refine lv_goto (tgt := 36) hx hb d_Lr_run_30 (by decide) ?_
    exact r_iret (z := 0) hx hb hr hlocks hS h d_Lr_run_36
set_option maxHeartbeats 4000000 in
set_option maxRecDepth 100000 in
theorem ct_Lr_run (l : Launch) (D : va_G) (ad : Nat → Nat) (cA : Nat → ClassId) (mo sz : Nat) (F : Nat → Int) (A : Nat → Int → Int)  (Q : Int → (Nat → Int) → (Nat → Int → Int) → Prop) (h : w_Lr_run mo F A  Q) : Met l y_Lr_run (Cond.code y_Lr_run c_Lr_run 2 (some .int) :: gT) ({ frames := 6, cells := 0, slots := 0, locals := 149 } : Room) (va_Pc [.ref (ad 0)] (x_P D vCl shU ad cA (NN mo) sz F A)) (x_QI D vCl shU ad cA (NN mo) (va_A (x_w shU ad cA (NN mo) F A) sz) Q) 0 0 (va_A (x_w shU ad cA (NN mo) F A) sz) := by
  refine Met.ofW (cc := c_Lr_run) (maxL := 2) (ret := some .int) (by decide) rfl ?_
  intro p e s m args below meth c s₁ B hml hv
  obtain ⟨rfl, hsz, hP, hK, hD0, hN0⟩ := hv
  have hx := B.exec
  have hb := B.bytes
  have hr := B.returns
  have hts0 := atoms_spec (ws := (Cond.code y_Lr_run c_Lr_run 2 (some .int) :: gT)) B.pre
  have hts : ∀ w ∈ gT, w.before _ s = true := fun w h => hts0 w (List.mem_cons_of_mem _ h)
  have hown : s.vm.findClass R_Lr = some m.cls := findClass_of_methodNamed B.named
  have hlocks := B.notSynchronized
  subst hsz
  have hS : x_S D vCl shU ad cA (NN mo) (va_A (x_w shU ad cA (NN mo) F A) s.heap.size) s F A s.heap [] := ⟨hK, hP, hD0.self, va_S.rf, hN0⟩
  have hA : ∀ q : Nat, s.heap.size ≤ q → va_A (x_w shU ad cA (NN mo) F A) s.heap.size q := fun q h => Or.inr h
  have C0 : x_C p s m [.ref (ad 0)].toArray meth c c_Lr_run 2 (some .int) gT R_Lr := ⟨hx, hb, hr, hml, hown, hts, hlocks⟩
  generalize va_A (x_w shU ad cA (NN mo) F A) s.heap.size = A0 at hS hA ⊢
  have hl := lv_entry [.ref (ad 0)] (n := 2) (Nat.le_of_ble_eq_true rfl)
  rw [lg_entry_eq]
  generalize (lg_sl [.ref (ad 0)] ++ List.replicate (2 - (lg_sl [.ref (ad 0)]).length) Slot.unset).toArray = ls at hl ⊢
  have hl : lv_has ls 2 [(0, .ref (ad 0))] := hl
  refine lv_aload_n hx hb d_Lr_run_0 rfl (lv_at hl 0 rfl) ?_
  refine r_getr (t2 := 4) hx hb hts in_Lr hown hS 0 rfl rfl 3 (by decide) rfl (hts _ tw_208) d_Lr_run_1 ?_
  refine r_ci (va_runV (As := []) (rest := []) ⟨hx, hb, hml, hown, hts⟩ (ct_Fi_placeAll l D ad cA mo _ _ _ _ h) (cwV 0 hts (gV tw_225 tw_226 tw_227 tw_6 tw_228) rfl rfl rfl (by decide +kernel) ⟨Nat.le_of_ble_eq_true rfl, Nat.le_of_ble_eq_true rfl⟩) (x_preV hS 4 rfl rfl _) rfl rfl hl.1 rfl (lv_room (Nat.le_of_ble_eq_true rfl)) d_Lr_run_4 ⟨Nat.zero_le _, Nat.zero_le _⟩) hS hA (fun z3 F3 A3 H locs hS h => ?_)
  refine lv_istore_n (lv' := [(1, .int (iI z3)), (0, .ref (ad 0))]) hx hb d_Lr_run_7 rfl hl (by decide) rfl (fun ls hl => ?_)
  refine lv_aload_n hx hb d_Lr_run_8 rfl (lv_at hl 1 rfl) ?_
  refine lv_iload_n hx hb d_Lr_run_9 rfl (lv_at hl 0 rfl) ?_
  refine r_iconst hx hb d_Lr_run_10 ?_
  obtain ⟨g4, h⟩ := h
  refine r_icmp_ne (tgt := 18) hx hb g4 ⟨by omega, by omega⟩ d_Lr_run_11 (by decide) (fun hc => ?_) (fun hc => ?_)
  · replace h := h.1 hc
    refine r_iconst hx hb d_Lr_run_18 ?_
    exact s_Lr_run_b19 C0 hA _ _ _ _ h _ _ _ hS (lv_sub hl [1, 0] rfl)
  · replace h := h.2 hc
    refine r_iconst hx hb d_Lr_run_14 ?_
    refine lv_goto (tgt := 19) hx hb d_Lr_run_15 (by decide) ?_
    exact s_Lr_run_b19 C0 hA _ _ _ _ h _ _ _ hS (lv_sub hl [1, 0] rfl)
end W22
