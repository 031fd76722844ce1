section W24
variable {p : Program} {l : Launch} {e : Env} {s : State} {m : MethodId} {args : Array Value} {below : List Frame} {meth : Method} {c : Code} {D : va_G} {ad : Nat → Nat} {cA : Nat → ClassId} {A0 : Nat → Prop}
/-! Lr_cell -/
def w_Lr_cell_b41 (mo : Nat) (Q : Int → (Nat → Int) → (Nat → Int → Int) → Prop) (QX : String → Prop) (F : Nat → Int) (A : Nat → Int → Int) : Prop := QX eA
def w_Lr_cell (mo : Nat) (F : Nat → Int) (A : Nat → Int → Int) (x1 : Int) (x3 : Int) (Q : Int → (Nat → Int) → (Nat → Int → Int) → Prop) (QX : String → Prop) : Prop := rg (F 4) ∧ (((F 4) < 60 → rL x1 ∧ ((x1 < 1 → w_Lr_cell_b41 mo Q QX F A) ∧ (¬ x1 < 1 → ((40 < x1 → w_Lr_cell_b41 mo Q QX F A) ∧ (¬ 40 < x1 → rg x3 ∧ ((x3 = 1 → w_Ce_add mo (uf F 0 0) A x1 (fun z4 F4 A4 => Q z4 F4 A4)) ∧ (¬ x3 = 1 → w_Lr_cell_b41 mo Q QX F A))))))) ∧ (¬ (F 4) < 60 → QX eS))
set_option maxHeartbeats 4000000 in
set_option maxRecDepth 100000 in
theorem s_Lr_cell_b41 (C0 : x_C p s m args meth c c_Lr_cell 4 (some .int) gT R_Lr) (hA : ∀ q : Nat, s.heap.size ≤ q → A0 q) (hlT : l.stackTraces = false) (hZ : y_Z A0 s) (hN : y_N s) (hne : c.exceptionTable.isEmpty = true) {mo : Nat} {Q : Int → (Nat → Int) → (Nat → Int → Int) → Prop} {QX : String → Prop} (F : Nat → Int) (A : Nat → Int → Int) (h : w_Lr_cell_b41 mo Q QX F A) (ls : Array Slot) (hS : x_S D vCl shU ad cA (NN mo) A0 s F A s.heap []) (hl : lv_has ls 4 []) : W p l e ({ frames := 6, cells := 1, slots := 6, locals := 90 } : Room) s m args below meth c s.heap [] 0 0 (y_MQ below (x_QI D vCl shU ad cA (NN mo) A0 Q) A0 QX args s) (F0 m 41 ls []) := by
  obtain ⟨hx, hb, hr, hml, hown, hts, hlocks⟩ := id C0
  exact y_throw (names := y_nms) (text := "no such width or height") (cls := eA) (ic := 80) hx hb hlT hown (by decide +kernel) (by decide +kernel) (hts _ tw_389) (hts _ tw_13) (y_str hN (by decide +kernel)) (y_words hts hZ yw_Lr_80) (hl.1.trans hml.symm) d_Lr_cell_41 d_Lr_cell_44 d_Lr_cell_45 d_Lr_cell_47 d_Lr_cell_50 hne (Nat.le_of_ble_eq_true rfl) (Nat.le_of_ble_eq_true rfl) (Nat.le_of_ble_eq_true rfl) (Nat.le_of_ble_eq_true rfl) hlocks h
set_option maxHeartbeats 4000000 in
set_option maxRecDepth 100000 in
theorem ct_Lr_cell (l : Launch) (hlT : l.stackTraces = false) (D : va_G) (ad : Nat → Nat) (cA : Nat → ClassId) (mo sz : Nat) (F : Nat → Int) (A : Nat → Int → Int) (x1 : Int) (x3 : Int) (Q : Int → (Nat → Int) → (Nat → Int → Int) → Prop) (QX : String → Prop) (h : w_Lr_cell mo F A x1 x3 Q QX) : y_Met l y_Lr_cell (Cond.code y_Lr_cell c_Lr_cell 4 (some .int) :: gT) ({ frames := 6, cells := 1, slots := 6, locals := 90 } : Room) (va_Pc [.ref (ad 0), .long (lI x1), .int (iI x3)] (y_P D vCl shU ad cA (NN mo) sz F A)) (x_QI D vCl shU ad cA (NN mo) (va_A (x_w shU ad cA (NN mo) F A) sz) Q) (va_A (x_w shU ad cA (NN mo) F A) sz) QX := by
  refine y_ofW (cc := c_Lr_cell) (maxL := 4) (ret := some .int) (by decide) rfl ?_
  intro p e s m args below meth c s₁ B hml hne hv
  obtain ⟨rfl, ⟨hsz, hP, hK, hD0, hN0⟩, hZ, hN⟩ := hv
  have hx := B.exec
  have hb := B.bytes
  have hr := B.returns
  have hts0 := atoms_spec (ws := (Cond.code y_Lr_cell c_Lr_cell 4 (some .int) :: gT)) B.pre
  have hts : ∀ w ∈ gT, w.before _ s = true := fun w h => hts0 w (List.mem_cons_of_mem _ h)
  have hown : s.vm.findClass R_Lr = some m.cls := findClass_of_methodNamed B.named
  have hlocks := B.notSynchronized
  subst hsz
  have hS : x_S D vCl shU ad cA (NN mo) (va_A (x_w shU ad cA (NN mo) F A) s.heap.size) s F A s.heap [] := ⟨hK, hP, hD0.self, va_S.rf, hN0⟩
  have hA : ∀ q : Nat, s.heap.size ≤ q → va_A (x_w shU ad cA (NN mo) F A) s.heap.size q := fun q h => Or.inr h
  have C0 : x_C p s m [.ref (ad 0), .long (lI x1), .int (iI x3)].toArray meth c c_Lr_cell 4 (some .int) gT R_Lr := ⟨hx, hb, hr, hml, hown, hts, hlocks⟩
  generalize va_A (x_w shU ad cA (NN mo) F A) s.heap.size = A0 at hS hA hZ ⊢
  have hl := lv_entry [.ref (ad 0), .long (lI x1), .int (iI x3)] (n := 4) (Nat.le_of_ble_eq_true rfl)
  rw [lg_entry_eq]
  generalize (lg_sl [.ref (ad 0), .long (lI x1), .int (iI x3)] ++ List.replicate (4 - (lg_sl [.ref (ad 0), .long (lI x1), .int (iI x3)]).length) Slot.unset).toArray = ls at hl ⊢
  have hl : lv_has ls 4 [(0, .ref (ad 0)), (1, .long (lI x1)), (3, .int (iI x3))] := hl
  refine lv_aload_n hx hb d_Lr_cell_0 rfl (lv_at hl 0 rfl) ?_
  refine r_getr (t2 := 2) hx hb hts in_Lr hown hS 0 rfl rfl 1 (by decide) rfl (hts _ tw_206) d_Lr_cell_1 ?_
  refine r_geti (z := F 4) hx hb hts in_Ce hown hS 2 rfl rfl 8 (by decide) rfl (hts _ tw_90) d_Lr_cell_4 rfl ?_
  refine r_bipush hx hb d_Lr_cell_7 (by decide +kernel) ?_
  obtain ⟨g1, h⟩ := h
  refine r_icmp_lt (tgt := 22) hx hb g1 ⟨by omega, by omega⟩ d_Lr_cell_9 (by decide) (fun hc => ?_) (fun hc => ?_)
  · replace h := h.1 hc
    refine lv_lload_n hx hb d_Lr_cell_22 rfl (lv_at hl 1 rfl) ?_
    refine r_lconst hx hb 1 d_Lr_cell_23 (by decide +kernel) ?_
    obtain ⟨g2, h⟩ := h
    refine r_lcmp_lt (tgt := 41) hx hb g2 ⟨by omega, by omega⟩ d_Lr_cell_24 d_Lr_cell_25 (by decide) (fun hc => ?_) (fun hc => ?_)
    · replace h := h.1 hc
      exact s_Lr_cell_b41 C0 hA hlT hZ hN hne _ _ h _ hS (lv_sub hl [] rfl)
    · replace h := h.2 hc
      refine lv_lload_n hx hb d_Lr_cell_28 rfl (lv_at hl 1 rfl) ?_
      refine r_ldc2 40 hx hb hown (v := 40) (hts _ tw_388) rfl d_Lr_cell_29 ?_
      refine r_lcmp_gt (tgt := 41) hx hb g2 ⟨by omega, by omega⟩ d_Lr_cell_32 d_Lr_cell_33 (by decide) (fun hc => ?_) (fun hc => ?_)
      · replace h := h.1 hc
        exact s_Lr_cell_b41 C0 hA hlT hZ hN hne _ _ h _ hS (lv_sub hl [] rfl)
      · replace h := h.2 hc
        refine lv_iload_n hx hb d_Lr_cell_36 rfl (lv_at hl 2 rfl) ?_
        refine r_iconst hx hb d_Lr_cell_37 ?_
        obtain ⟨g3, h⟩ := h
        refine r_icmp_eq (tgt := 51) hx hb g3 ⟨by omega, by omega⟩ d_Lr_cell_38 (by decide) (fun hc => ?_) (fun hc => ?_)
        · replace h := h.1 hc
          refine lv_aload_n hx hb d_Lr_cell_51 rfl (lv_at hl 0 rfl) ?_
          refine r_iconst hx hb d_Lr_cell_52 ?_
          refine r_putz (j := 0) (v := 0) hx hb hts in_Lr t_Lr to_Lr nm_Lr hown hS 0 rfl rfl 4 (by decide) (hts _ tw_209) rfl (by decide +kernel) (Or.inl rfl) (setf_0 ad cA mo _ _ _) (by decide) d_Lr_cell_53 (fun H locs hS => ?_)
          refine lv_aload_n hx hb d_Lr_cell_56 rfl (lv_at hl 0 rfl) ?_
          refine r_getr (t2 := 2) hx hb hts in_Lr hown hS 0 rfl rfl 1 (by decide) rfl (hts _ tw_206) d_Lr_cell_57 ?_
          refine lv_lload_n hx hb d_Lr_cell_60 rfl (lv_at hl 1 rfl) ?_
          refine r_l2i hx hb d_Lr_cell_61 ?_
          refine r_ci (va_runV (As := [.int (iI x1)]) (rest := []) ⟨hx, hb, hml, hown, hts⟩ (ct_Ce_add l D ad cA mo _ _ _ _ _ h) (cwV 1 hts (gV tw_405 tw_406 tw_407 tw_4 tw_408) rfl rfl rfl (by decide +kernel) ⟨Nat.le_of_ble_eq_true rfl, Nat.le_of_ble_eq_true rfl⟩) (x_preV hS 2 rfl rfl _) rfl rfl hl.1 rfl (lv_room (Nat.le_of_ble_eq_true rfl)) d_Lr_cell_62 ⟨Nat.zero_le _, Nat.zero_le _⟩) hS hA (fun z4 F4 A4 H locs hS h => ?_)
          exact (y_ret (r_iret (z := z4) hx hb hr hlocks hS h d_Lr_cell_65))
        · replace h := h.2 hc
          exact s_Lr_cell_b41 C0 hA hlT hZ hN hne _ _ h _ hS (lv_sub hl [] rfl)
  · replace h := h.2 hc
    exact y_throw (names := y_nms) (text := "there are as many cells as there can be") (cls := eS) (ic := 71) hx hb hlT hown (by decide +kernel) (by decide +kernel) (hts _ tw_320) (hts _ tw_12) (y_str hN (by decide +kernel)) (y_words hts hZ yw_Lr_71) (hl.1.trans hml.symm) d_Lr_cell_12 d_Lr_cell_15 d_Lr_cell_16 d_Lr_cell_18 d_Lr_cell_21 hne (Nat.le_of_ble_eq_true rfl) (Nat.le_of_ble_eq_true rfl) (Nat.le_of_ble_eq_true rfl) (Nat.le_of_ble_eq_true rfl) hlocks h
/-! Lr_requireCell -/
def w_Lr_requireCell_b15 (mo : Nat) (F : Nat → Int) (A : Nat → Int → Int) (Q : Prop) (QX : String → Prop)  : Prop := QX eB
def w_Lr_requireCell (mo : Nat) (F : Nat → Int) (A : Nat → Int → Int) (x1 : Int) (Q : Prop) (QX : String → Prop) : Prop := rg x1 ∧ ((x1 < 0 → w_Lr_requireCell_b15 mo F A Q QX) ∧ (¬ x1 < 0 → rg (F 4) ∧ ((x1 < (F 4) → Q) ∧ (¬ x1 < (F 4) → w_Lr_requireCell_b15 mo F A Q QX))))
set_option maxHeartbeats 4000000 in
set_option maxRecDepth 100000 in
theorem s_Lr_requireCell_b15 (C0 : x_C p s m args meth c c_Lr_requireCell 2 (none) gT R_Lr) (hA : ∀ q : Nat, s.heap.size ≤ q → A0 q) (hlT : l.stackTraces = false) (hZ : y_Z A0 s) (hN : y_N s) (hne : c.exceptionTable.isEmpty = true) {mo : Nat} {F : Nat → Int} {A : Nat → Int → Int} {Q : Prop} {QX : String → Prop}  (h : w_Lr_requireCell_b15 mo F A Q QX) (ls : Array Slot) (hS : x_S D vCl shU ad cA (NN mo) A0 s F A s.heap []) (hl : lv_has ls 2 []) : W p l e ({ frames := 6, cells := 1, slots := 6, locals := 90 } : Room) s m args below meth c s.heap [] 0 0 (y_MQ below (y_Qp Q) (fun _ => False) QX args s) (F0 m 15 ls []) := by
  obtain ⟨hx, hb, hr, hml, hown, hts, hlocks⟩ := id C0
  exact y_throw (names := y_nms) (text := "no such cell") (cls := eB) (ic := 99) hx hb hlT hown (by decide +kernel) (by decide +kernel) (hts _ tw_421) (hts _ tw_14) (y_str hN (by decide +kernel)) (y_words hts hZ yw_Lr_99) (hl.1.trans hml.symm) d_Lr_requireCell_15 d_Lr_requireCell_18 d_Lr_requireCell_19 d_Lr_requireCell_21 d_Lr_requireCell_24 hne (Nat.le_of_ble_eq_true rfl) (Nat.le_of_ble_eq_true rfl) (Nat.le_of_ble_eq_true rfl) (Nat.le_of_ble_eq_true rfl) hlocks h
set_option maxHeartbeats 4000000 in
set_option maxRecDepth 100000 in
theorem ct_Lr_requireCell (l : Launch) (hlT : l.stackTraces = false) (D : va_G) (ad : Nat → Nat) (cA : Nat → ClassId) (mo sz : Nat) (F : Nat → Int) (A : Nat → Int → Int) (x1 : Int) (Q : Prop) (QX : String → Prop) (h : w_Lr_requireCell mo F A x1 Q QX) : y_Met l y_Lr_requireCell (Cond.code y_Lr_requireCell c_Lr_requireCell 2 (none) :: gT) ({ frames := 6, cells := 1, slots := 6, locals := 90 } : Room) (va_Pc [.ref (ad 0), .int (iI x1)] (y_P D vCl shU ad cA (NN mo) sz F A)) (y_Qp Q) (fun _ => False) QX := by
  refine y_ofW (cc := c_Lr_requireCell) (maxL := 2) (ret := none) (by decide) rfl ?_
  intro p e s m args below meth c s₁ B hml hne hv
  obtain ⟨rfl, ⟨hsz, hP, hK, hD0, hN0⟩, hZ, hN⟩ := hv
  have hx := B.exec
  have hb := B.bytes
  have hr := B.returns
  have hts0 := atoms_spec (ws := (Cond.code y_Lr_requireCell c_Lr_requireCell 2 (none) :: gT)) B.pre
  have hts : ∀ w ∈ gT, w.before _ s = true := fun w h => hts0 w (List.mem_cons_of_mem _ h)
  have hown : s.vm.findClass R_Lr = some m.cls := findClass_of_methodNamed B.named
  have hlocks := B.notSynchronized
  subst hsz
  have hS : x_S D vCl shU ad cA (NN mo) (va_A (x_w shU ad cA (NN mo) F A) s.heap.size) s F A s.heap [] := ⟨hK, hP, hD0.self, va_S.rf, hN0⟩
  have hA : ∀ q : Nat, s.heap.size ≤ q → va_A (x_w shU ad cA (NN mo) F A) s.heap.size q := fun q h => Or.inr h
  have C0 : x_C p s m [.ref (ad 0), .int (iI x1)].toArray meth c c_Lr_requireCell 2 (none) gT R_Lr := ⟨hx, hb, hr, hml, hown, hts, hlocks⟩
  generalize va_A (x_w shU ad cA (NN mo) F A) s.heap.size = A0 at hS hA hZ ⊢
  have hl := lv_entry [.ref (ad 0), .int (iI x1)] (n := 2) (Nat.le_of_ble_eq_true rfl)
  rw [lg_entry_eq]
  generalize (lg_sl [.ref (ad 0), .int (iI x1)] ++ List.replicate (2 - (lg_sl [.ref (ad 0), .int (iI x1)]).length) Slot.unset).toArray = ls at hl ⊢
  have hl : lv_has ls 2 [(0, .ref (ad 0)), (1, .int (iI x1))] := hl
  refine lv_iload_n hx hb d_Lr_requireCell_0 rfl (lv_at hl 1 rfl) ?_
  obtain ⟨g1, h⟩ := h
  refine r_if_lt (tgt := 15) hx hb g1 d_Lr_requireCell_1 (by decide) (fun hc => ?_) (fun hc => ?_)
  · replace h := h.1 hc
    exact s_Lr_requireCell_b15 C0 hA hlT hZ hN hne  h _ hS (lv_sub hl [] rfl)
  · replace h := h.2 hc
    refine lv_iload_n hx hb d_Lr_requireCell_4 rfl (lv_at hl 1 rfl) ?_
    refine lv_aload_n hx hb d_Lr_requireCell_5 rfl (lv_at hl 0 rfl) ?_
    refine r_getr (t2 := 2) hx hb hts in_Lr hown hS 0 rfl rfl 1 (by decide) rfl (hts _ tw_206) d_Lr_requireCell_6 ?_
    refine r_geti (z := F 4) hx hb hts in_Ce hown hS 2 rfl rfl 8 (by decide) rfl (hts _ tw_90) d_Lr_requireCell_9 rfl ?_
    obtain ⟨g2, h⟩ := h
    refine r_icmp_lt (tgt := 25) hx hb g1 g2 d_Lr_requireCell_12 (by decide) (fun hc => ?_) (fun hc => ?_)
    · replace h := h.1 hc
      exact y_rp hx hb hr hlocks h d_Lr_requireCell_25
    · replace h := h.2 hc
      exact s_Lr_requireCell_b15 C0 hA hlT hZ hN hne  h _ hS (lv_sub hl [] rfl)
/-! Lr_requireRow -/
def w_Lr_requireRow_b15 (mo : Nat) (F : Nat → Int) (A : Nat → Int → Int) (Q : Prop) (QX : String → Prop)  : Prop := QX eB
def w_Lr_requireRow (mo : Nat) (F : Nat → Int) (A : Nat → Int → Int) (x1 : Int) (Q : Prop) (QX : String → Prop) : Prop := rg x1 ∧ ((x1 < 0 → w_Lr_requireRow_b15 mo F A Q QX) ∧ (¬ x1 < 0 → rg (F 1) ∧ ((x1 < (F 1) → Q) ∧ (¬ x1 < (F 1) → w_Lr_requireRow_b15 mo F A Q QX))))
set_option maxHeartbeats 4000000 in
set_option maxRecDepth 100000 in
theorem s_Lr_requireRow_b15 (C0 : x_C p s m args meth c c_Lr_requireRow 2 (none) gT R_Lr) (hA : ∀ q : Nat, s.heap.size ≤ q → A0 q) (hlT : l.stackTraces = false) (hZ : y_Z A0 s) (hN : y_N s) (hne : c.exceptionTable.isEmpty = true) {mo : Nat} {F : Nat → Int} {A : Nat → Int → Int} {Q : Prop} {QX : String → Prop}  (h : w_Lr_requireRow_b15 mo F A Q QX) (ls : Array Slot) (hS : x_S D vCl shU ad cA (NN mo) A0 s F A s.heap []) (hl : lv_has ls 2 []) : W p l e ({ frames := 6, cells := 1, slots := 6, locals := 90 } : Room) s m args below meth c s.heap [] 0 0 (y_MQ below (y_Qp Q) (fun _ => False) QX args s) (F0 m 15 ls []) := by
  obtain ⟨hx, hb, hr, hml, hown, hts, hlocks⟩ := id C0
  exact y_throw (names := y_nms) (text := "no such row") (cls := eB) (ic := 99) hx hb hlT hown (by decide +kernel) (by decide +kernel) (hts _ tw_421) (hts _ tw_14) (y_str hN (by decide +kernel)) (y_words hts hZ yw_Lr_99) (hl.1.trans hml.symm) d_Lr_requireRow_15 d_Lr_requireRow_18 d_Lr_requireRow_19 d_Lr_requireRow_21 d_Lr_requireRow_24 hne (Nat.le_of_ble_eq_true rfl) (Nat.le_of_ble_eq_true rfl) (Nat.le_of_ble_eq_true rfl) (Nat.le_of_ble_eq_true rfl) hlocks h
set_option maxHeartbeats 4000000 in
set_option maxRecDepth 100000 in
theorem ct_Lr_requireRow (l : Launch) (hlT : l.stackTraces = false) (D : va_G) (ad : Nat → Nat) (cA : Nat → ClassId) (mo sz : Nat) (F : Nat → Int) (A : Nat → Int → Int) (x1 : Int) (Q : Prop) (QX : String → Prop) (h : w_Lr_requireRow mo F A x1 Q QX) : y_Met l y_Lr_requireRow (Cond.code y_Lr_requireRow c_Lr_requireRow 2 (none) :: gT) ({ frames := 6, cells := 1, slots := 6, locals := 90 } : Room) (va_Pc [.ref (ad 0), .int (iI x1)] (y_P D vCl shU ad cA (NN mo) sz F A)) (y_Qp Q) (fun _ => False) QX := by
  refine y_ofW (cc := c_Lr_requireRow) (maxL := 2) (ret := none) (by decide) rfl ?_
  intro p e s m args below meth c s₁ B hml hne hv
  obtain ⟨rfl, ⟨hsz, hP, hK, hD0, hN0⟩, hZ, hN⟩ := hv
  have hx := B.exec
  have hb := B.bytes
  have hr := B.returns
  have hts0 := atoms_spec (ws := (Cond.code y_Lr_requireRow c_Lr_requireRow 2 (none) :: gT)) B.pre
  have hts : ∀ w ∈ gT, w.before _ s = true := fun w h => hts0 w (List.mem_cons_of_mem _ h)
  have hown : s.vm.findClass R_Lr = some m.cls := findClass_of_methodNamed B.named
  have hlocks := B.notSynchronized
  subst hsz
  have hS : x_S D vCl shU ad cA (NN mo) (va_A (x_w shU ad cA (NN mo) F A) s.heap.size) s F A s.heap [] := ⟨hK, hP, hD0.self, va_S.rf, hN0⟩
  have hA : ∀ q : Nat, s.heap.size ≤ q → va_A (x_w shU ad cA (NN mo) F A) s.heap.size q := fun q h => Or.inr h
  have C0 : x_C p s m [.ref (ad 0), .int (iI x1)].toArray meth c c_Lr_requireRow 2 (none) gT R_Lr := ⟨hx, hb, hr, hml, hown, hts, hlocks⟩
  generalize va_A (x_w shU ad cA (NN mo) F A) s.heap.size = A0 at hS hA hZ ⊢
  have hl := lv_entry [.ref (ad 0), .int (iI x1)] (n := 2) (Nat.le_of_ble_eq_true rfl)
  rw [lg_entry_eq]
  generalize (lg_sl [.ref (ad 0), .int (iI x1)] ++ List.replicate (2 - (lg_sl [.ref (ad 0), .int (iI x1)]).length) Slot.unset).toArray = ls at hl ⊢
  have hl : lv_has ls 2 [(0, .ref (ad 0)), (1, .int (iI x1))] := hl
  refine lv_iload_n hx hb d_Lr_requireRow_0 rfl (lv_at hl 1 rfl) ?_
  obtain ⟨g1, h⟩ := h
  refine r_if_lt (tgt := 15) hx hb g1 d_Lr_requireRow_1 (by decide) (fun hc => ?_) (fun hc => ?_)
  · replace h := h.1 hc
    exact s_Lr_requireRow_b15 C0 hA hlT hZ hN hne  h _ hS (lv_sub hl [] rfl)
  · replace h := h.2 hc
    refine lv_iload_n hx hb d_Lr_requireRow_4 rfl (lv_at hl 1 rfl) ?_
    refine lv_aload_n hx hb d_Lr_requireRow_5 rfl (lv_at hl 0 rfl) ?_
    refine r_getr (t2 := 1) hx hb hts in_Lr hown hS 0 rfl rfl 0 (by decide) rfl (hts _ tw_205) d_Lr_requireRow_6 ?_
    refine r_geti (z := F 1) hx hb hts in_Gr hown hS 1 rfl rfl 0 (by decide) rfl (hts _ tw_45) d_Lr_requireRow_9 rfl ?_
    obtain ⟨g2, h⟩ := h
    refine r_icmp_lt (tgt := 25) hx hb g1 g2 d_Lr_requireRow_12 (by decide) (fun hc => ?_) (fun hc => ?_)
    · replace h := h.1 hc
      exact y_rp hx hb hr hlocks h d_Lr_requireRow_25
    · replace h := h.2 hc
      exact s_Lr_requireRow_b15 C0 hA hlT hZ hN hne  h _ hS (lv_sub hl [] rfl)
/-! Lr_want -/
def w_Lr_want_b30 (mo : Nat) (Q : Int → (Nat → Int) → (Nat → Int → Int) → Prop) (QX : String → Prop) (F : Nat → Int) (A : Nat → Int → Int) : Prop := QX eB
def w_Lr_want (mo : Nat) (F : Nat → Int) (A : Nat → Int → Int) (x1 : Int) (x2 : Int) (x4 : Int) (Q : Int → (Nat → Int) → (Nat → Int → Int) → Prop) (QX : String → Prop) : Prop := w_Lr_requireCell mo F A x1 (w_Lr_requireRow mo F A x4 (rL x2 ∧ ((x2 < 0 → w_Lr_want_b30 mo Q QX F A) ∧ (¬ x2 < 0 → rg (F 2) ∧ rL (F 2) ∧ ((x2 < (F 2) → w_Ce_setWanted mo F A x1 x2 x4 (fun z6 F6 A6 => w_Lr_noteChange mo F6 A6 z6 (fun z7 F7 A7 => (z7 = 0 ∨ z7 = 1) ∧ Q z7 F7 A7))) ∧ (¬ x2 < (F 2) → w_Lr_want_b30 mo Q QX F A))))) QX) QX
set_option maxHeartbeats 4000000 in
set_option maxRecDepth 100000 in
theorem s_Lr_want_b30 (C0 : x_C p s m args meth c c_Lr_want 5 (some .boolean) gT R_Lr) (hA : ∀ q : Nat, s.heap.size ≤ q → A0 q) (hlT : l.stackTraces = false) (hZ : y_Z A0 s) (hN : y_N s) (hne : c.exceptionTable.isEmpty = true) {mo : Nat} {Q : Int → (Nat → Int) → (Nat → Int → Int) → Prop} {QX : String → Prop} (F : Nat → Int) (A : Nat → Int → Int) (h : w_Lr_want_b30 mo Q QX F A) (ls : Array Slot) (hS : x_S D vCl shU ad cA (NN mo) A0 s F A s.heap []) (hl : lv_has ls 5 []) : W p l e ({ frames := 7, cells := 1, slots := 6, locals := 111 } : Room) s m args below meth c s.heap [] 0 0 (y_MQ below (x_QI D vCl shU ad cA (NN mo) A0 Q) A0 QX args s) (F0 m 30 ls []) := by
  obtain ⟨hx, hb, hr, hml, hown, hts, hlocks⟩ := id C0
  exact y_throw (names := y_nms) (text := "no such site") (cls := eB) (ic := 99) hx hb hlT hown (by decide +kernel) (by decide +kernel) (hts _ tw_421) (hts _ tw_14) (y_str hN (by decide +kernel)) (y_words hts hZ yw_Lr_99) (hl.1.trans hml.symm) d_Lr_want_30 d_Lr_want_33 d_Lr_want_34 d_Lr_want_36 d_Lr_want_39 hne (Nat.le_of_ble_eq_true rfl) (Nat.le_of_ble_eq_true rfl) (Nat.le_of_ble_eq_true rfl) (Nat.le_of_ble_eq_true rfl) hlocks h
set_option maxHeartbeats 4000000 in
set_option maxRecDepth 100000 in
theorem ct_Lr_want (l : Launch) (hlT : l.stackTraces = false) (D : va_G) (ad : Nat → Nat) (cA : Nat → ClassId) (mo sz : Nat) (F : Nat → Int) (A : Nat → Int → Int) (x1 : Int) (x2 : Int) (x4 : Int) (Q : Int → (Nat → Int) → (Nat → Int → Int) → Prop) (QX : String → Prop) (h : w_Lr_want mo F A x1 x2 x4 Q QX) : y_Met l y_Lr_want (Cond.code y_Lr_want c_Lr_want 5 (some .boolean) :: gT) ({ frames := 7, cells := 1, slots := 6, locals := 111 } : Room) (va_Pc [.ref (ad 0), .int (iI x1), .long (lI x2), .int (iI x4)] (y_P D vCl shU ad cA (NN mo) sz F A)) (x_QI D vCl shU ad cA (NN mo) (va_A (x_w shU ad cA (NN mo) F A) sz) Q) (va_A (x_w shU ad cA (NN mo) F A) sz) QX := by
  refine y_ofW (cc := c_Lr_want) (maxL := 5) (ret := some .boolean) (by decide) rfl ?_
  intro p e s m args below meth c s₁ B hml hne hv
  obtain ⟨rfl, ⟨hsz, hP, hK, hD0, hN0⟩, hZ, hN⟩ := hv
  have hx := B.exec
  have hb := B.bytes
  have hr := B.returns
  have hts0 := atoms_spec (ws := (Cond.code y_Lr_want c_Lr_want 5 (some .boolean) :: gT)) B.pre
  have hts : ∀ w ∈ gT, w.before _ s = true := fun w h => hts0 w (List.mem_cons_of_mem _ h)
  have hown : s.vm.findClass R_Lr = some m.cls := findClass_of_methodNamed B.named
  have hlocks := B.notSynchronized
  subst hsz
  have hS : x_S D vCl shU ad cA (NN mo) (va_A (x_w shU ad cA (NN mo) F A) s.heap.size) s F A s.heap [] := ⟨hK, hP, hD0.self, va_S.rf, hN0⟩
  have hA : ∀ q : Nat, s.heap.size ≤ q → va_A (x_w shU ad cA (NN mo) F A) s.heap.size q := fun q h => Or.inr h
  have C0 : x_C p s m [.ref (ad 0), .int (iI x1), .long (lI x2), .int (iI x4)].toArray meth c c_Lr_want 5 (some .boolean) gT R_Lr := ⟨hx, hb, hr, hml, hown, hts, hlocks⟩
  generalize va_A (x_w shU ad cA (NN mo) F A) s.heap.size = A0 at hS hA hZ ⊢
  have hl := lv_entry [.ref (ad 0), .int (iI x1), .long (lI x2), .int (iI x4)] (n := 5) (Nat.le_of_ble_eq_true rfl)
  rw [lg_entry_eq]
  generalize (lg_sl [.ref (ad 0), .int (iI x1), .long (lI x2), .int (iI x4)] ++ List.replicate (5 - (lg_sl [.ref (ad 0), .int (iI x1), .long (lI x2), .int (iI x4)]).length) Slot.unset).toArray = ls at hl ⊢
  have hl : lv_has ls 5 [(0, .ref (ad 0)), (1, .int (iI x1)), (2, .long (lI x2)), (4, .int (iI x4))] := hl
  refine lv_aload_n hx hb d_Lr_want_0 rfl (lv_at hl 0 rfl) ?_
  refine lv_iload_n hx hb d_Lr_want_1 rfl (lv_at hl 1 rfl) ?_
  refine y_cp (y_runV (As := [.int (iI x1)]) (rest := []) ⟨hx, hb, hml, hown, hts⟩ (ct_Lr_requireCell l hlT D ad cA mo _ _ _ _ _ _ h) (cwV 1 hts (gV tw_417 tw_419 tw_s_Lr_requireCell tw_1 tw_420) rfl rfl rfl (by decide +kernel) ⟨Nat.le_of_ble_eq_true rfl, Nat.le_of_ble_eq_true rfl⟩) (y_preV hS hZ hN 0 rfl rfl _) rfl rfl hl.1 rfl (lv_room (Nat.le_of_ble_eq_true rfl)) d_Lr_want_2 ⟨Nat.le_of_ble_eq_true rfl, Nat.le_of_ble_eq_true rfl⟩) hne hlocks (fun h => ?_)
  refine lv_aload_n hx hb d_Lr_want_5 rfl (lv_at hl 0 rfl) ?_
  refine lv_iload hx hb d_Lr_want_6 (lv_at hl 3 rfl) ?_
  refine y_cp (y_runV (As := [.int (iI x4)]) (rest := []) ⟨hx, hb, hml, hown, hts⟩ (ct_Lr_requireRow l hlT D ad cA mo _ _ _ _ _ _ h) (cwV 1 hts (gV tw_437 tw_439 tw_s_Lr_requireRow tw_1 tw_440) rfl rfl rfl (by decide +kernel) ⟨Nat.le_of_ble_eq_true rfl, Nat.le_of_ble_eq_true rfl⟩) (y_preV hS hZ hN 0 rfl rfl _) rfl rfl hl.1 rfl (lv_room (Nat.le_of_ble_eq_true rfl)) d_Lr_want_8 ⟨Nat.le_of_ble_eq_true rfl, Nat.le_of_ble_eq_true rfl⟩) hne hlocks (fun h => ?_)
  refine lv_lload_n hx hb d_Lr_want_11 rfl (lv_at hl 2 rfl) ?_
  refine r_lconst hx hb 0 d_Lr_want_12 (by decide +kernel) ?_
  obtain ⟨g3, h⟩ := h
  refine r_lcmp_lt (tgt := 30) hx hb g3 ⟨by omega, by omega⟩ d_Lr_want_13 d_Lr_want_14 (by decide) (fun hc => ?_) (fun hc => ?_)
  · replace h := h.1 hc
    exact s_Lr_want_b30 C0 hA hlT hZ hN hne _ _ h _ hS (lv_sub hl [] rfl)
  · replace h := h.2 hc
    refine lv_lload_n hx hb d_Lr_want_17 rfl (lv_at hl 2 rfl) ?_
    refine lv_aload_n hx hb d_Lr_want_18 rfl (lv_at hl 0 rfl) ?_
    refine r_getr (t2 := 1) hx hb hts in_Lr hown hS 0 rfl rfl 0 (by decide) rfl (hts _ tw_205) d_Lr_want_19 ?_
    refine r_geti (z := F 2) hx hb hts in_Gr hown hS 1 rfl rfl 1 (by decide) rfl (hts _ tw_47) d_Lr_want_22 rfl ?_
    obtain ⟨g4, h⟩ := h
    refine r_i2l hx hb g4 d_Lr_want_25 ?_
    obtain ⟨g5, h⟩ := h
    refine r_lcmp_lt (tgt := 40) hx hb g3 g5 d_Lr_want_26 d_Lr_want_27 (by decide) (fun hc => ?_) (fun hc => ?_)
    · replace h := h.1 hc
      refine lv_aload_n hx hb d_Lr_want_40 rfl (lv_at hl 0 rfl) ?_
      refine lv_aload_n hx hb d_Lr_want_41 rfl (lv_at hl 0 rfl) ?_
      refine r_getr (t2 := 2) hx hb hts in_Lr hown hS 0 rfl rfl 1 (by decide) rfl (hts _ tw_206) d_Lr_want_42 ?_
      refine lv_iload_n hx hb d_Lr_want_45 rfl (lv_at hl 1 rfl) ?_
      refine lv_lload_n hx hb d_Lr_want_46 rfl (lv_at hl 2 rfl) ?_
      refine r_l2i hx hb d_Lr_want_47 ?_
      refine lv_iload hx hb d_Lr_want_48 (lv_at hl 3 rfl) ?_
      refine r_ci (va_runV (As := [.int (iI x1), .int (iI x2), .int (iI x4)]) (rest := [.ref (ad 0)]) ⟨hx, hb, hml, hown, hts⟩ (ct_Ce_setWanted l D ad cA mo _ _ _ _ _ _ _ h) (cwV 3 hts (gV tw_443 tw_444 tw_445 tw_4 tw_446) rfl rfl rfl (by decide +kernel) ⟨Nat.le_of_ble_eq_true rfl, Nat.le_of_ble_eq_true rfl⟩) (x_preV hS 2 rfl rfl _) rfl rfl hl.1 rfl (lv_room (Nat.le_of_ble_eq_true rfl)) d_Lr_want_50 ⟨Nat.zero_le _, Nat.zero_le _⟩) hS hA (fun z6 F6 A6 H locs hS h => ?_)
      refine r_ci (va_runV (As := [.int (iI z6)]) (rest := []) ⟨hx, hb, hml, hown, hts⟩ (ct_Lr_noteChange l D ad cA mo _ _ _ _ _ h) (cwV 1 hts (gV tw_447 tw_449 tw_s_Lr_noteChange tw_1 tw_450) rfl rfl rfl (by decide +kernel) ⟨Nat.le_of_ble_eq_true rfl, Nat.le_of_ble_eq_true rfl⟩) (x_preV hS 0 rfl rfl _) rfl rfl hl.1 rfl (lv_room (Nat.le_of_ble_eq_true rfl)) d_Lr_want_53 ⟨Nat.zero_le _, Nat.zero_le _⟩) hS hA (fun z7 F7 A7 H locs hS h => ?_)
      obtain ⟨g8, h⟩ := h
      exact (y_ret (r_zret (z := z7) hx hb hr hlocks g8 hS h d_Lr_want_56))
    · replace h := h.2 hc
      exact s_Lr_want_b30 C0 hA hlT hZ hN hne _ _ h _ hS (lv_sub hl [] rfl)
/-! Lr_bar -/
def w_Lr_bar_b45 (mo : Nat) (Q : Int → (Nat → Int) → (Nat → Int → Int) → Prop) (QX : String → Prop) (F : Nat → Int) (A : Nat → Int → Int) : Prop := QX eB
def w_Lr_bar (mo : Nat) (F : Nat → Int) (A : Nat → Int → Int) (x1 : Int) (x2 : Int) (x4 : Int) (Q : Int → (Nat → Int) → (Nat → Int → Int) → Prop) (QX : String → Prop) : Prop := w_Lr_requireRow mo F A x1 (rL x2 ∧ ((x2 < 0 → w_Lr_bar_b45 mo Q QX F A) ∧ (¬ x2 < 0 → rg (F 2) ∧ rL (F 2) ∧ (((F 2) < x2 → w_Lr_bar_b45 mo Q QX F A) ∧ (¬ (F 2) < x2 → rL x4 ∧ ((x4 < x2 → w_Lr_bar_b45 mo Q QX F A) ∧ (¬ x4 < x2 → ((x4 ≤ (F 2) → w_Gr_cut mo F A x1 x2 x4 (fun z6 F6 A6 => w_Lr_noteChange mo F6 A6 z6 (fun z7 F7 A7 => (z7 = 0 ∨ z7 = 1) ∧ Q z7 F7 A7))) ∧ (¬ x4 ≤ (F 2) → w_Lr_bar_b45 mo Q QX F A))))))))) QX
set_option maxHeartbeats 4000000 in
set_option maxRecDepth 100000 in
theorem s_Lr_bar_b45 (C0 : x_C p s m args meth c c_Lr_bar 6 (some .boolean) gT R_Lr) (hA : ∀ q : Nat, s.heap.size ≤ q → A0 q) (hlT : l.stackTraces = false) (hZ : y_Z A0 s) (hN : y_N s) (hne : c.exceptionTable.isEmpty = true) {mo : Nat} {Q : Int → (Nat → Int) → (Nat → Int → Int) → Prop} {QX : String → Prop} (F : Nat → Int) (A : Nat → Int → Int) (h : w_Lr_bar_b45 mo Q QX F A) (ls : Array Slot) (hS : x_S D vCl shU ad cA (NN mo) A0 s F A s.heap []) (hl : lv_has ls 6 []) : W p l e ({ frames := 7, cells := 1, slots := 6, locals := 164 } : Room) s m args below meth c s.heap [] 0 0 (y_MQ below (x_QI D vCl shU ad cA (NN mo) A0 Q) A0 QX args s) (F0 m 45 ls []) := by
  obtain ⟨hx, hb, hr, hml, hown, hts, hlocks⟩ := id C0
  exact y_throw (names := y_nms) (text := "no such sites") (cls := eB) (ic := 99) hx hb hlT hown (by decide +kernel) (by decide +kernel) (hts _ tw_421) (hts _ tw_14) (y_str hN (by decide +kernel)) (y_words hts hZ yw_Lr_99) (hl.1.trans hml.symm) d_Lr_bar_45 d_Lr_bar_48 d_Lr_bar_49 d_Lr_bar_51 d_Lr_bar_54 hne (Nat.le_of_ble_eq_true rfl) (Nat.le_of_ble_eq_true rfl) (Nat.le_of_ble_eq_true rfl) (Nat.le_of_ble_eq_true rfl) hlocks h
set_option maxHeartbeats 4000000 in
set_option maxRecDepth 100000 in
theorem ct_Lr_bar (l : Launch) (hlT : l.stackTraces = false) (D : va_G) (ad : Nat → Nat) (cA : Nat → ClassId) (mo sz : Nat) (F : Nat → Int) (A : Nat → Int → Int) (x1 : Int) (x2 : Int) (x4 : Int) (Q : Int → (Nat → Int) → (Nat → Int → Int) → Prop) (QX : String → Prop) (h : w_Lr_bar mo F A x1 x2 x4 Q QX) : y_Met l y_Lr_bar (Cond.code y_Lr_bar c_Lr_bar 6 (some .boolean) :: gT) ({ frames := 7, cells := 1, slots := 6, locals := 164 } : Room) (va_Pc [.ref (ad 0), .int (iI x1), .long (lI x2), .long (lI x4)] (y_P D vCl shU ad cA (NN mo) sz F A)) (x_QI D vCl shU ad cA (NN mo) (va_A (x_w shU ad cA (NN mo) F A) sz) Q) (va_A (x_w shU ad cA (NN mo) F A) sz) QX := by
  refine y_ofW (cc := c_Lr_bar) (maxL := 6) (ret := some .boolean) (by decide) rfl ?_
  intro p e s m args below meth c s₁ B hml hne hv
  obtain ⟨rfl, ⟨hsz, hP, hK, hD0, hN0⟩, hZ, hN⟩ := hv
  have hx := B.exec
  have hb := B.bytes
  have hr := B.returns
  have hts0 := atoms_spec (ws := (Cond.code y_Lr_bar c_Lr_bar 6 (some .boolean) :: gT)) B.pre
  have hts : ∀ w ∈ gT, w.before _ s = true := fun w h => hts0 w (List.mem_cons_of_mem _ h)
  have hown : s.vm.findClass R_Lr = some m.cls := findClass_of_methodNamed B.named
  have hlocks := B.notSynchronized
  subst hsz
  have hS : x_S D vCl shU ad cA (NN mo) (va_A (x_w shU ad cA (NN mo) F A) s.heap.size) s F A s.heap [] := ⟨hK, hP, hD0.self, va_S.rf, hN0⟩
  have hA : ∀ q : Nat, s.heap.size ≤ q → va_A (x_w shU ad cA (NN mo) F A) s.heap.size q := fun q h => Or.inr h
  have C0 : x_C p s m [.ref (ad 0), .int (iI x1), .long (lI x2), .long (lI x4)].toArray meth c c_Lr_bar 6 (some .boolean) gT R_Lr := ⟨hx, hb, hr, hml, hown, hts, hlocks⟩
  generalize va_A (x_w shU ad cA (NN mo) F A) s.heap.size = A0 at hS hA hZ ⊢
  have hl := lv_entry [.ref (ad 0), .int (iI x1), .long (lI x2), .long (lI x4)] (n := 6) (Nat.le_of_ble_eq_true rfl)
  rw [lg_entry_eq]
  generalize (lg_sl [.ref (ad 0), .int (iI x1), .long (lI x2), .long (lI x4)] ++ List.replicate (6 - (lg_sl [.ref (ad 0), .int (iI x1), .long (lI x2), .long (lI x4)]).length) Slot.unset).toArray = ls at hl ⊢
  have hl : lv_has ls 6 [(0, .ref (ad 0)), (1, .int (iI x1)), (2, .long (lI x2)), (4, .long (lI x4))] := hl
  refine lv_aload_n hx hb d_Lr_bar_0 rfl (lv_at hl 0 rfl) ?_
  refine lv_iload_n hx hb d_Lr_bar_1 rfl (lv_at hl 1 rfl) ?_
  refine y_cp (y_runV (As := [.int (iI x1)]) (rest := []) ⟨hx, hb, hml, hown, hts⟩ (ct_Lr_requireRow l hlT D ad cA mo _ _ _ _ _ _ h) (cwV 1 hts (gV tw_437 tw_439 tw_s_Lr_requireRow tw_1 tw_440) rfl rfl rfl (by decide +kernel) ⟨Nat.le_of_ble_eq_true rfl, Nat.le_of_ble_eq_true rfl⟩) (y_preV hS hZ hN 0 rfl rfl _) rfl rfl hl.1 rfl (lv_room (Nat.le_of_ble_eq_true rfl)) d_Lr_bar_2 ⟨Nat.le_of_ble_eq_true rfl, Nat.le_of_ble_eq_true rfl⟩) hne hlocks (fun h => ?_)
  refine lv_lload_n hx hb d_Lr_bar_5 rfl (lv_at hl 2 rfl) ?_
  refine r_lconst hx hb 0 d_Lr_bar_6 (by decide +kernel) ?_
  obtain ⟨g2, h⟩ := h
  refine r_lcmp_lt (tgt := 45) hx hb g2 ⟨by omega, by omega⟩ d_Lr_bar_7 d_Lr_bar_8 (by decide) (fun hc => ?_) (fun hc => ?_)
  · replace h := h.1 hc
    exact s_Lr_bar_b45 C0 hA hlT hZ hN hne _ _ h _ hS (lv_sub hl [] rfl)
  · replace h := h.2 hc
    refine lv_lload_n hx hb d_Lr_bar_11 rfl (lv_at hl 2 rfl) ?_
    refine lv_aload_n hx hb d_Lr_bar_12 rfl (lv_at hl 0 rfl) ?_
    refine r_getr (t2 := 1) hx hb hts in_Lr hown hS 0 rfl rfl 0 (by decide) rfl (hts _ tw_205) d_Lr_bar_13 ?_
    refine r_geti (z := F 2) hx hb hts in_Gr hown hS 1 rfl rfl 1 (by decide) rfl (hts _ tw_47) d_Lr_bar_16 rfl ?_
    obtain ⟨g3, h⟩ := h
    refine r_i2l hx hb g3 d_Lr_bar_19 ?_
    obtain ⟨g4, h⟩ := h
    refine r_lcmp_gt (tgt := 45) hx hb g2 g4 d_Lr_bar_20 d_Lr_bar_21 (by decide) (fun hc => ?_) (fun hc => ?_)
    · replace h := h.1 hc
      exact s_Lr_bar_b45 C0 hA hlT hZ hN hne _ _ h _ hS (lv_sub hl [] rfl)
    · replace h := h.2 hc
      refine lv_lload hx hb d_Lr_bar_24 (lv_at hl 3 rfl) ?_
      refine lv_lload_n hx hb d_Lr_bar_26 rfl (lv_at hl 2 rfl) ?_
      obtain ⟨g5, h⟩ := h
      refine r_lcmp_lt (tgt := 45) hx hb g5 g2 d_Lr_bar_27 d_Lr_bar_28 (by decide) (fun hc => ?_) (fun hc => ?_)
      · replace h := h.1 hc
        exact s_Lr_bar_b45 C0 hA hlT hZ hN hne _ _ h _ hS (lv_sub hl [] rfl)
      · replace h := h.2 hc
        refine lv_lload hx hb d_Lr_bar_31 (lv_at hl 3 rfl) ?_
        refine lv_aload_n hx hb d_Lr_bar_33 rfl (lv_at hl 0 rfl) ?_
        refine r_getr (t2 := 1) hx hb hts in_Lr hown hS 0 rfl rfl 0 (by decide) rfl (hts _ tw_205) d_Lr_bar_34 ?_
        refine r_geti (z := F 2) hx hb hts in_Gr hown hS 1 rfl rfl 1 (by decide) rfl (hts _ tw_47) d_Lr_bar_37 rfl ?_
        refine r_i2l hx hb g3 d_Lr_bar_40 ?_
        refine r_lcmp_le (tgt := 55) hx hb g5 g4 d_Lr_bar_41 d_Lr_bar_42 (by decide) (fun hc => ?_) (fun hc => ?_)
        · replace h := h.1 hc
          refine lv_aload_n hx hb d_Lr_bar_55 rfl (lv_at hl 0 rfl) ?_
          refine lv_aload_n hx hb d_Lr_bar_56 rfl (lv_at hl 0 rfl) ?_
          refine r_getr (t2 := 1) hx hb hts in_Lr hown hS 0 rfl rfl 0 (by decide) rfl (hts _ tw_205) d_Lr_bar_57 ?_
          refine lv_iload_n hx hb d_Lr_bar_60 rfl (lv_at hl 1 rfl) ?_
          refine lv_lload_n hx hb d_Lr_bar_61 rfl (lv_at hl 2 rfl) ?_
          refine r_l2i hx hb d_Lr_bar_62 ?_
          refine lv_lload hx hb d_Lr_bar_63 (lv_at hl 3 rfl) ?_
          refine r_l2i hx hb d_Lr_bar_65 ?_
          refine r_ci (va_runV (As := [.int (iI x1), .int (iI x2), .int (iI x4)]) (rest := [.ref (ad 0)]) ⟨hx, hb, hml, hown, hts⟩ (ct_Gr_cut l D ad cA mo _ _ _ _ _ _ _ h) (cwV 3 hts (gV tw_459 tw_460 tw_461 tw_3 tw_462) rfl rfl rfl (by decide +kernel) ⟨Nat.le_of_ble_eq_true rfl, Nat.le_of_ble_eq_true rfl⟩) (x_preV hS 1 rfl rfl _) rfl rfl hl.1 rfl (lv_room (Nat.le_of_ble_eq_true rfl)) d_Lr_bar_66 ⟨Nat.zero_le _, Nat.zero_le _⟩) hS hA (fun z6 F6 A6 H locs hS h => ?_)
          refine r_ci (va_runV (As := [.int (iI z6)]) (rest := []) ⟨hx, hb, hml, hown, hts⟩ (ct_Lr_noteChange l D ad cA mo _ _ _ _ _ h) (cwV 1 hts (gV tw_447 tw_449 tw_s_Lr_noteChange tw_1 tw_450) rfl rfl rfl (by decide +kernel) ⟨Nat.le_of_ble_eq_true rfl, Nat.le_of_ble_eq_true rfl⟩) (x_preV hS 0 rfl rfl _) rfl rfl hl.1 rfl (lv_room (Nat.le_of_ble_eq_true rfl)) d_Lr_bar_69 ⟨Nat.zero_le _, Nat.zero_le _⟩) hS hA (fun z7 F7 A7 H locs hS h => ?_)
          obtain ⟨g8, h⟩ := h
          exact (y_ret (r_zret (z := z7) hx hb hr hlocks g8 hS h d_Lr_bar_72))
        · replace h := h.2 hc
          exact s_Lr_bar_b45 C0 hA hlT hZ hN hne _ _ h _ hS (lv_sub hl [] rfl)
/-! Lr_requireKinds -/
def w_Lr_requireKinds_b18 (mo : Nat) (F : Nat → Int) (A : Nat → Int → Int) (Q : Prop) (QX : String → Prop)  : Prop := QX eA
def w_Lr_requireKinds (mo : Nat) (F : Nat → Int) (A : Nat → Int → Int) (x0 : Int) (x1 : Int) (Q : Prop) (QX : String → Prop) : Prop := rg x0 ∧ ((x0 < 0 → w_Lr_requireKinds_b18 mo F A Q QX) ∧ (¬ x0 < 0 → ((4 ≤ x0 → w_Lr_requireKinds_b18 mo F A Q QX) ∧ (¬ 4 ≤ x0 → rg x1 ∧ ((x1 < 0 → w_Lr_requireKinds_b18 mo F A Q QX) ∧ (¬ x1 < 0 → ((x1 < 4 → Q) ∧ (¬ x1 < 4 → w_Lr_requireKinds_b18 mo F A Q QX))))))))
set_option maxHeartbeats 4000000 in
set_option maxRecDepth 100000 in
theorem s_Lr_requireKinds_b18 (C0 : x_C p s m args meth c c_Lr_requireKinds 2 (none) gT R_Lr) (hA : ∀ q : Nat, s.heap.size ≤ q → A0 q) (hlT : l.stackTraces = false) (hZ : y_Z A0 s) (hN : y_N s) (hne : c.exceptionTable.isEmpty = true) {mo : Nat} {F : Nat → Int} {A : Nat → Int → Int} {Q : Prop} {QX : String → Prop}  (h : w_Lr_requireKinds_b18 mo F A Q QX) (ls : Array Slot) (hS : x_S D vCl shU ad cA (NN mo) A0 s F A s.heap []) (hl : lv_has ls 2 []) : W p l e ({ frames := 6, cells := 1, slots := 6, locals := 90 } : Room) s m args below meth c s.heap [] 0 0 (y_MQ below (y_Qp Q) (fun _ => False) QX args s) (F0 m 18 ls []) := by
  obtain ⟨hx, hb, hr, hml, hown, hts, hlocks⟩ := id C0
  exact y_throw (names := y_nms) (text := "no such kind") (cls := eA) (ic := 80) hx hb hlT hown (by decide +kernel) (by decide +kernel) (hts _ tw_389) (hts _ tw_13) (y_str hN (by decide +kernel)) (y_words hts hZ yw_Lr_80) (hl.1.trans hml.symm) d_Lr_requireKinds_18 d_Lr_requireKinds_21 d_Lr_requireKinds_22 d_Lr_requireKinds_24 d_Lr_requireKinds_27 hne (Nat.le_of_ble_eq_true rfl) (Nat.le_of_ble_eq_true rfl) (Nat.le_of_ble_eq_true rfl) (Nat.le_of_ble_eq_true rfl) hlocks h
set_option maxHeartbeats 4000000 in
set_option maxRecDepth 100000 in
theorem ct_Lr_requireKinds (l : Launch) (hlT : l.stackTraces = false) (D : va_G) (ad : Nat → Nat) (cA : Nat → ClassId) (mo sz : Nat) (F : Nat → Int) (A : Nat → Int → Int) (x0 : Int) (x1 : Int) (Q : Prop) (QX : String → Prop) (h : w_Lr_requireKinds mo F A x0 x1 Q QX) : y_Met l y_Lr_requireKinds (Cond.code y_Lr_requireKinds c_Lr_requireKinds 2 (none) :: gT) ({ frames := 6, cells := 1, slots := 6, locals := 90 } : Room) (va_Pc [.int (iI x0), .int (iI x1)] (y_P D vCl shU ad cA (NN mo) sz F A)) (y_Qp Q) (fun _ => False) QX := by
  refine y_ofW (cc := c_Lr_requireKinds) (maxL := 2) (ret := none) (by decide) rfl ?_
  intro p e s m args below meth c s₁ B hml hne hv
  obtain ⟨rfl, ⟨hsz, hP, hK, hD0, hN0⟩, hZ, hN⟩ := hv
  have hx := B.exec
  have hb := B.bytes
  have hr := B.returns
  have hts0 := atoms_spec (ws := (Cond.code y_Lr_requireKinds c_Lr_requireKinds 2 (none) :: gT)) B.pre
  have hts : ∀ w ∈ gT, w.before _ s = true := fun w h => hts0 w (List.mem_cons_of_mem _ h)
  have hown : s.vm.findClass R_Lr = some m.cls := findClass_of_methodNamed B.named
  have hlocks := B.notSynchronized
  subst hsz
  have hS : x_S D vCl shU ad cA (NN mo) (va_A (x_w shU ad cA (NN mo) F A) s.heap.size) s F A s.heap [] := ⟨hK, hP, hD0.self, va_S.rf, hN0⟩
  have hA : ∀ q : Nat, s.heap.size ≤ q → va_A (x_w shU ad cA (NN mo) F A) s.heap.size q := fun q h => Or.inr h
  have C0 : x_C p s m [.int (iI x0), .int (iI x1)].toArray meth c c_Lr_requireKinds 2 (none) gT R_Lr := ⟨hx, hb, hr, hml, hown, hts, hlocks⟩
  generalize va_A (x_w shU ad cA (NN mo) F A) s.heap.size = A0 at hS hA hZ ⊢
  have hl := lv_entry [.int (iI x0), .int (iI x1)] (n := 2) (Nat.le_of_ble_eq_true rfl)
  rw [lg_entry_eq]
  generalize (lg_sl [.int (iI x0), .int (iI x1)] ++ List.replicate (2 - (lg_sl [.int (iI x0), .int (iI x1)]).length) Slot.unset).toArray = ls at hl ⊢
  have hl : lv_has ls 2 [(0, .int (iI x0)), (1, .int (iI x1))] := hl
  refine lv_iload_n hx hb d_Lr_requireKinds_0 rfl (lv_at hl 0 rfl) ?_
  obtain ⟨g1, h⟩ := h
  refine r_if_lt (tgt := 18) hx hb g1 d_Lr_requireKinds_1 (by decide) (fun hc => ?_) (fun hc => ?_)
  · replace h := h.1 hc
    exact s_Lr_requireKinds_b18 C0 hA hlT hZ hN hne  h _ hS (lv_sub hl [] rfl)
  · replace h := h.2 hc
    refine lv_iload_n hx hb d_Lr_requireKinds_4 rfl (lv_at hl 0 rfl) ?_
    refine r_iconst hx hb d_Lr_requireKinds_5 ?_
    refine r_icmp_ge (tgt := 18) hx hb g1 ⟨by omega, by omega⟩ d_Lr_requireKinds_6 (by decide) (fun hc => ?_) (fun hc => ?_)
    · replace h := h.1 hc
      exact s_Lr_requireKinds_b18 C0 hA hlT hZ hN hne  h _ hS (lv_sub hl [] rfl)
    · replace h := h.2 hc
      refine lv_iload_n hx hb d_Lr_requireKinds_9 rfl (lv_at hl 1 rfl) ?_
      obtain ⟨g2, h⟩ := h
      refine r_if_lt (tgt := 18) hx hb g2 d_Lr_requireKinds_10 (by decide) (fun hc => ?_) (fun hc => ?_)
      · replace h := h.1 hc
        exact s_Lr_requireKinds_b18 C0 hA hlT hZ hN hne  h _ hS (lv_sub hl [] rfl)
      · replace h := h.2 hc
        refine lv_iload_n hx hb d_Lr_requireKinds_13 rfl (lv_at hl 1 rfl) ?_
        refine r_iconst hx hb d_Lr_requireKinds_14 ?_
        refine r_icmp_lt (tgt := 28) hx hb g2 ⟨by omega, by omega⟩ d_Lr_requireKinds_15 (by decide) (fun hc => ?_) (fun hc => ?_)
        · replace h := h.1 hc
          exact y_rp hx hb hr hlocks h d_Lr_requireKinds_28
        · replace h := h.2 hc
          exact s_Lr_requireKinds_b18 C0 hA hlT hZ hN hne  h _ hS (lv_sub hl [] rfl)
/-! Lr_kind -/
def w_Lr_kind (mo : Nat) (F : Nat → Int) (A : Nat → Int → Int) (x1 : Int) (x2 : Int) (x3 : Int) (Q : Int → (Nat → Int) → (Nat → Int → Int) → Prop) (QX : String → Prop) : Prop := w_Lr_requireCell mo F A x1 (w_Lr_requireKinds mo F A x2 x3 (w_Ce_setKinds mo F A x1 x2 x3 (fun z3 F3 A3 => w_Lr_noteChange mo F3 A3 z3 (fun z4 F4 A4 => (z4 = 0 ∨ z4 = 1) ∧ Q z4 F4 A4))) QX) QX
set_option maxHeartbeats 4000000 in
set_option maxRecDepth 100000 in
theorem ct_Lr_kind (l : Launch) (hlT : l.stackTraces = false) (D : va_G) (ad : Nat → Nat) (cA : Nat → ClassId) (mo sz : Nat) (F : Nat → Int) (A : Nat → Int → Int) (x1 : Int) (x2 : Int) (x3 : Int) (Q : Int → (Nat → Int) → (Nat → Int → Int) → Prop) (QX : String → Prop) (h : w_Lr_kind mo F A x1 x2 x3 Q QX) : y_Met l y_Lr_kind (Cond.code y_Lr_kind c_Lr_kind 4 (some .boolean) :: gT) ({ frames := 7, cells := 1, slots := 6, locals := 111 } : Room) (va_Pc [.ref (ad 0), .int (iI x1), .int (iI x2), .int (iI x3)] (y_P D vCl shU ad cA (NN mo) sz F A)) (x_QI D vCl shU ad cA (NN mo) (va_A (x_w shU ad cA (NN mo) F A) sz) Q) (va_A (x_w shU ad cA (NN mo) F A) sz) QX := by
  refine y_ofW (cc := c_Lr_kind) (maxL := 4) (ret := some .boolean) (by decide) rfl ?_
  intro p e s m args below meth c s₁ B hml hne hv
  obtain ⟨rfl, ⟨hsz, hP, hK, hD0, hN0⟩, hZ, hN⟩ := hv
  have hx := B.exec
  have hb := B.bytes
  have hr := B.returns
  have hts0 := atoms_spec (ws := (Cond.code y_Lr_kind c_Lr_kind 4 (some .boolean) :: gT)) B.pre
  have hts : ∀ w ∈ gT, w.before _ s = true := fun w h => hts0 w (List.mem_cons_of_mem _ h)
  have hown : s.vm.findClass R_Lr = some m.cls := findClass_of_methodNamed B.named
  have hlocks := B.notSynchronized
  subst hsz
  have hS : x_S D vCl shU ad cA (NN mo) (va_A (x_w shU ad cA (NN mo) F A) s.heap.size) s F A s.heap [] := ⟨hK, hP, hD0.self, va_S.rf, hN0⟩
  have hA : ∀ q : Nat, s.heap.size ≤ q → va_A (x_w shU ad cA (NN mo) F A) s.heap.size q := fun q h => Or.inr h
  have C0 : x_C p s m [.ref (ad 0), .int (iI x1), .int (iI x2), .int (iI x3)].toArray meth c c_Lr_kind 4 (some .boolean) gT R_Lr := ⟨hx, hb, hr, hml, hown, hts, hlocks⟩
  generalize va_A (x_w shU ad cA (NN mo) F A) s.heap.size = A0 at hS hA hZ ⊢
  have hl := lv_entry [.ref (ad 0), .int (iI x1), .int (iI x2), .int (iI x3)] (n := 4) (Nat.le_of_ble_eq_true rfl)
  rw [lg_entry_eq]
  generalize (lg_sl [.ref (ad 0), .int (iI x1), .int (iI x2), .int (iI x3)] ++ List.replicate (4 - (lg_sl [.ref (ad 0), .int (iI x1), .int (iI x2), .int (iI x3)]).length) Slot.unset).toArray = ls at hl ⊢
  have hl : lv_has ls 4 [(0, .ref (ad 0)), (1, .int (iI x1)), (2, .int (iI x2)), (3, .int (iI x3))] := hl
  refine lv_aload_n hx hb d_Lr_kind_0 rfl (lv_at hl 0 rfl) ?_
  refine lv_iload_n hx hb d_Lr_kind_1 rfl (lv_at hl 1 rfl) ?_
  refine y_cp (y_runV (As := [.int (iI x1)]) (rest := []) ⟨hx, hb, hml, hown, hts⟩ (ct_Lr_requireCell l hlT D ad cA mo _ _ _ _ _ _ h) (cwV 1 hts (gV tw_417 tw_419 tw_s_Lr_requireCell tw_1 tw_420) rfl rfl rfl (by decide +kernel) ⟨Nat.le_of_ble_eq_true rfl, Nat.le_of_ble_eq_true rfl⟩) (y_preV hS hZ hN 0 rfl rfl _) rfl rfl hl.1 rfl (lv_room (Nat.le_of_ble_eq_true rfl)) d_Lr_kind_2 ⟨Nat.le_of_ble_eq_true rfl, Nat.le_of_ble_eq_true rfl⟩) hne hlocks (fun h => ?_)
  refine lv_iload_n hx hb d_Lr_kind_5 rfl (lv_at hl 2 rfl) ?_
  refine lv_iload_n hx hb d_Lr_kind_6 rfl (lv_at hl 3 rfl) ?_
  refine y_cp (y_runS (As := [.int (iI x2), .int (iI x3)]) (rest := []) ⟨hx, hb, hml, hown, hts⟩ (ct_Lr_requireKinds l hlT D ad cA mo _ _ _ _ _ _ _ h) (cwS 2 hts (gS tw_490 tw_491 tw_1 tw_492) rfl rfl rfl (by decide +kernel) ⟨Nat.le_of_ble_eq_true rfl, Nat.le_of_ble_eq_true rfl⟩) (y_preS hS hZ hN _) rfl rfl hl.1 rfl (lv_room (Nat.le_of_ble_eq_true rfl)) d_Lr_kind_7 ⟨Nat.le_of_ble_eq_true rfl, Nat.le_of_ble_eq_true rfl⟩) hne hlocks (fun h => ?_)
  refine lv_aload_n hx hb d_Lr_kind_10 rfl (lv_at hl 0 rfl) ?_
  refine lv_aload_n hx hb d_Lr_kind_11 rfl (lv_at hl 0 rfl) ?_
  refine r_getr (t2 := 2) hx hb hts in_Lr hown hS 0 rfl rfl 1 (by decide) rfl (hts _ tw_206) d_Lr_kind_12 ?_
  refine lv_iload_n hx hb d_Lr_kind_15 rfl (lv_at hl 1 rfl) ?_
  refine lv_iload_n hx hb d_Lr_kind_16 rfl (lv_at hl 2 rfl) ?_
  refine lv_iload_n hx hb d_Lr_kind_17 rfl (lv_at hl 3 rfl) ?_
  refine r_ci (va_runV (As := [.int (iI x1), .int (iI x2), .int (iI x3)]) (rest := [.ref (ad 0)]) ⟨hx, hb, hml, hown, hts⟩ (ct_Ce_setKinds l D ad cA mo _ _ _ _ _ _ _ h) (cwV 3 hts (gV tw_494 tw_495 tw_496 tw_4 tw_497) rfl rfl rfl (by decide +kernel) ⟨Nat.le_of_ble_eq_true rfl, Nat.le_of_ble_eq_true rfl⟩) (x_preV hS 2 rfl rfl _) rfl rfl hl.1 rfl (lv_room (Nat.le_of_ble_eq_true rfl)) d_Lr_kind_18 ⟨Nat.zero_le _, Nat.zero_le _⟩) hS hA (fun z3 F3 A3 H locs hS h => ?_)
  refine r_ci (va_runV (As := [.int (iI z3)]) (rest := []) ⟨hx, hb, hml, hown, hts⟩ (ct_Lr_noteChange l D ad cA mo _ _ _ _ _ h) (cwV 1 hts (gV tw_447 tw_449 tw_s_Lr_noteChange tw_1 tw_450) rfl rfl rfl (by decide +kernel) ⟨Nat.le_of_ble_eq_true rfl, Nat.le_of_ble_eq_true rfl⟩) (x_preV hS 0 rfl rfl _) rfl rfl hl.1 rfl (lv_room (Nat.le_of_ble_eq_true rfl)) d_Lr_kind_21 ⟨Nat.zero_le _, Nat.zero_le _⟩) hS hA (fun z4 F4 A4 H locs hS h => ?_)
  obtain ⟨g5, h⟩ := h
  exact (y_ret (r_zret (z := z4) hx hb hr hlocks g5 hS h d_Lr_kind_24))
/-! Lr_space -/
def w_Lr_space_b19 (mo : Nat) (Q : Int → (Nat → Int) → (Nat → Int → Int) → Prop) (QX : String → Prop) (F : Nat → Int) (A : Nat → Int → Int) : Prop := QX eA
def w_Lr_space (mo : Nat) (F : Nat → Int) (A : Nat → Int → Int) (x1 : Int) (x2 : Int) (x3 : Int) (Q : Int → (Nat → Int) → (Nat → Int → Int) → Prop) (QX : String → Prop) : Prop := w_Lr_requireKinds mo F A x1 x2 (rL x3 ∧ ((x3 < 0 → w_Lr_space_b19 mo Q QX F A) ∧ (¬ x3 < 0 → ((x3 ≤ 20 → w_Ce_setSpace mo F A x1 x2 x3 (fun z3 F3 A3 => w_Lr_noteChange mo F3 A3 z3 (fun z4 F4 A4 => (z4 = 0 ∨ z4 = 1) ∧ Q z4 F4 A4))) ∧ (¬ x3 ≤ 20 → w_Lr_space_b19 mo Q QX F A))))) QX
set_option maxHeartbeats 4000000 in
set_option maxRecDepth 100000 in
theorem s_Lr_space_b19 (C0 : x_C p s m args meth c c_Lr_space 5 (some .boolean) gT R_Lr) (hA : ∀ q : Nat, s.heap.size ≤ q → A0 q) (hlT : l.stackTraces = false) (hZ : y_Z A0 s) (hN : y_N s) (hne : c.exceptionTable.isEmpty = true) {mo : Nat} {Q : Int → (Nat → Int) → (Nat → Int → Int) → Prop} {QX : String → Prop} (F : Nat → Int) (A : Nat → Int → Int) (h : w_Lr_space_b19 mo Q QX F A) (ls : Array Slot) (hS : x_S D vCl shU ad cA (NN mo) A0 s F A s.heap []) (hl : lv_has ls 5 []) : W p l e ({ frames := 7, cells := 1, slots := 6, locals := 111 } : Room) s m args below meth c s.heap [] 0 0 (y_MQ below (x_QI D vCl shU ad cA (NN mo) A0 Q) A0 QX args s) (F0 m 19 ls []) := by
  obtain ⟨hx, hb, hr, hml, hown, hts, hlocks⟩ := id C0
  exact y_throw (names := y_nms) (text := "no such space") (cls := eA) (ic := 80) hx hb hlT hown (by decide +kernel) (by decide +kernel) (hts _ tw_389) (hts _ tw_13) (y_str hN (by decide +kernel)) (y_words hts hZ yw_Lr_80) (hl.1.trans hml.symm) d_Lr_space_19 d_Lr_space_22 d_Lr_space_23 d_Lr_space_25 d_Lr_space_28 hne (Nat.le_of_ble_eq_true rfl) (Nat.le_of_ble_eq_true rfl) (Nat.le_of_ble_eq_true rfl) (Nat.le_of_ble_eq_true rfl) hlocks h
set_option maxHeartbeats 4000000 in
set_option maxRecDepth 100000 in
theorem ct_Lr_space (l : Launch) (hlT : l.stackTraces = false) (D : va_G) (ad : Nat → Nat) (cA : Nat → ClassId) (mo sz : Nat) (F : Nat → Int) (A : Nat → Int → Int) (x1 : Int) (x2 : Int) (x3 : Int) (Q : Int → (Nat → Int) → (Nat → Int → Int) → Prop) (QX : String → Prop) (h : w_Lr_space mo F A x1 x2 x3 Q QX) : y_Met l y_Lr_space (Cond.code y_Lr_space c_Lr_space 5 (some .boolean) :: gT) ({ frames := 7, cells := 1, slots := 6, locals := 111 } : Room) (va_Pc [.ref (ad 0), .int (iI x1), .int (iI x2), .long (lI x3)] (y_P D vCl shU ad cA (NN mo) sz F A)) (x_QI D vCl shU ad cA (NN mo) (va_A (x_w shU ad cA (NN mo) F A) sz) Q) (va_A (x_w shU ad cA (NN mo) F A) sz) QX := by
  refine y_ofW (cc := c_Lr_space) (maxL := 5) (ret := some .boolean) (by decide) rfl ?_
  intro p e s m args below meth c s₁ B hml hne hv
  obtain ⟨rfl, ⟨hsz, hP, hK, hD0, hN0⟩, hZ, hN⟩ := hv
  have hx := B.exec
  have hb := B.bytes
  have hr := B.returns
  have hts0 := atoms_spec (ws := (Cond.code y_Lr_space c_Lr_space 5 (some .boolean) :: gT)) B.pre
  have hts : ∀ w ∈ gT, w.before _ s = true := fun w h => hts0 w (List.mem_cons_of_mem _ h)
  have hown : s.vm.findClass R_Lr = some m.cls := findClass_of_methodNamed B.named
  have hlocks := B.notSynchronized
  subst hsz
  have hS : x_S D vCl shU ad cA (NN mo) (va_A (x_w shU ad cA (NN mo) F A) s.heap.size) s F A s.heap [] := ⟨hK, hP, hD0.self, va_S.rf, hN0⟩
  have hA : ∀ q : Nat, s.heap.size ≤ q → va_A (x_w shU ad cA (NN mo) F A) s.heap.size q := fun q h => Or.inr h
  have C0 : x_C p s m [.ref (ad 0), .int (iI x1), .int (iI x2), .long (lI x3)].toArray meth c c_Lr_space 5 (some .boolean) gT R_Lr := ⟨hx, hb, hr, hml, hown, hts, hlocks⟩
  generalize va_A (x_w shU ad cA (NN mo) F A) s.heap.size = A0 at hS hA hZ ⊢
  have hl := lv_entry [.ref (ad 0), .int (iI x1), .int (iI x2), .long (lI x3)] (n := 5) (Nat.le_of_ble_eq_true rfl)
  rw [lg_entry_eq]
  generalize (lg_sl [.ref (ad 0), .int (iI x1), .int (iI x2), .long (lI x3)] ++ List.replicate (5 - (lg_sl [.ref (ad 0), .int (iI x1), .int (iI x2), .long (lI x3)]).length) Slot.unset).toArray = ls at hl ⊢
  have hl : lv_has ls 5 [(0, .ref (ad 0)), (1, .int (iI x1)), (2, .int (iI x2)), (3, .long (lI x3))] := hl
  refine lv_iload_n hx hb d_Lr_space_0 rfl (lv_at hl 1 rfl) ?_
  refine lv_iload_n hx hb d_Lr_space_1 rfl (lv_at hl 2 rfl) ?_
  refine y_cp (y_runS (As := [.int (iI x1), .int (iI x2)]) (rest := []) ⟨hx, hb, hml, hown, hts⟩ (ct_Lr_requireKinds l hlT D ad cA mo _ _ _ _ _ _ _ h) (cwS 2 hts (gS tw_490 tw_491 tw_1 tw_492) rfl rfl rfl (by decide +kernel) ⟨Nat.le_of_ble_eq_true rfl, Nat.le_of_ble_eq_true rfl⟩) (y_preS hS hZ hN _) rfl rfl hl.1 rfl (lv_room (Nat.le_of_ble_eq_true rfl)) d_Lr_space_2 ⟨Nat.le_of_ble_eq_true rfl, Nat.le_of_ble_eq_true rfl⟩) hne hlocks (fun h => ?_)
  refine lv_lload_n hx hb d_Lr_space_5 rfl (lv_at hl 3 rfl) ?_
  refine r_lconst hx hb 0 d_Lr_space_6 (by decide +kernel) ?_
  obtain ⟨g2, h⟩ := h
  refine r_lcmp_lt (tgt := 19) hx hb g2 ⟨by omega, by omega⟩ d_Lr_space_7 d_Lr_space_8 (by decide) (fun hc => ?_) (fun hc => ?_)
  · replace h := h.1 hc
    exact s_Lr_space_b19 C0 hA hlT hZ hN hne _ _ h _ hS (lv_sub hl [] rfl)
  · replace h := h.2 hc
    refine lv_lload_n hx hb d_Lr_space_11 rfl (lv_at hl 3 rfl) ?_
    refine r_ldc2 20 hx hb hown (v := 20) (hts _ tw_505) rfl d_Lr_space_12 ?_
    refine r_lcmp_le (tgt := 29) hx hb g2 ⟨by omega, by omega⟩ d_Lr_space_15 d_Lr_space_16 (by decide) (fun hc => ?_) (fun hc => ?_)
    · replace h := h.1 hc
      refine lv_aload_n hx hb d_Lr_space_29 rfl (lv_at hl 0 rfl) ?_
      refine lv_aload_n hx hb d_Lr_space_30 rfl (lv_at hl 0 rfl) ?_
      refine r_getr (t2 := 2) hx hb hts in_Lr hown hS 0 rfl rfl 1 (by decide) rfl (hts _ tw_206) d_Lr_space_31 ?_
      refine lv_iload_n hx hb d_Lr_space_34 rfl (lv_at hl 1 rfl) ?_
      refine lv_iload_n hx hb d_Lr_space_35 rfl (lv_at hl 2 rfl) ?_
      refine lv_lload_n hx hb d_Lr_space_36 rfl (lv_at hl 3 rfl) ?_
      refine r_l2i hx hb d_Lr_space_37 ?_
      refine r_ci (va_runV (As := [.int (iI x1), .int (iI x2), .int (iI x3)]) (rest := [.ref (ad 0)]) ⟨hx, hb, hml, hown, hts⟩ (ct_Ce_setSpace l D ad cA mo _ _ _ _ _ _ _ h) (cwV 3 hts (gV tw_507 tw_508 tw_509 tw_4 tw_510) rfl rfl rfl (by decide +kernel) ⟨Nat.le_of_ble_eq_true rfl, Nat.le_of_ble_eq_true rfl⟩) (x_preV hS 2 rfl rfl _) rfl rfl hl.1 rfl (lv_room (Nat.le_of_ble_eq_true rfl)) d_Lr_space_38 ⟨Nat.zero_le _, Nat.zero_le _⟩) hS hA (fun z3 F3 A3 H locs hS h => ?_)
      refine r_ci (va_runV (As := [.int (iI z3)]) (rest := []) ⟨hx, hb, hml, hown, hts⟩ (ct_Lr_noteChange l D ad cA mo _ _ _ _ _ h) (cwV 1 hts (gV tw_447 tw_449 tw_s_Lr_noteChange tw_1 tw_450) rfl rfl rfl (by decide +kernel) ⟨Nat.le_of_ble_eq_true rfl, Nat.le_of_ble_eq_true rfl⟩) (x_preV hS 0 rfl rfl _) rfl rfl hl.1 rfl (lv_room (Nat.le_of_ble_eq_true rfl)) d_Lr_space_41 ⟨Nat.zero_le _, Nat.zero_le _⟩) hS hA (fun z4 F4 A4 H locs hS h => ?_)
      obtain ⟨g5, h⟩ := h
      exact (y_ret (r_zret (z := z4) hx hb hr hlocks g5 hS h d_Lr_space_44))
    · replace h := h.2 hc
      exact s_Lr_space_b19 C0 hA hlT hZ hN hne _ _ h _ hS (lv_sub hl [] rfl)
/-! Lr_requirePlaces -/
def w_Lr_requirePlaces (mo : Nat) (F : Nat → Int) (A : Nat → Int → Int)  (Q : Prop) (QX : String → Prop) : Prop := rg (F 0) ∧ ((¬ (F 0) = 0 → Q) ∧ ((F 0) = 0 → QX eS))
set_option maxHeartbeats 4000000 in
set_option maxRecDepth 100000 in
theorem ct_Lr_requirePlaces (l : Launch) (hlT : l.stackTraces = false) (D : va_G) (ad : Nat → Nat) (cA : Nat → ClassId) (mo sz : Nat) (F : Nat → Int) (A : Nat → Int → Int)  (Q : Prop) (QX : String → Prop) (h : w_Lr_requirePlaces mo F A  Q QX) : y_Met l y_Lr_requirePlaces (Cond.code y_Lr_requirePlaces c_Lr_requirePlaces 1 (none) :: gT) ({ frames := 6, cells := 1, slots := 6, locals := 90 } : Room) (va_Pc [.ref (ad 0)] (y_P D vCl shU ad cA (NN mo) sz F A)) (y_Qp Q) (fun _ => False) QX := by
  refine y_ofW (cc := c_Lr_requirePlaces) (maxL := 1) (ret := none) (by decide) rfl ?_
  intro p e s m args below meth c s₁ B hml hne hv
  obtain ⟨rfl, ⟨hsz, hP, hK, hD0, hN0⟩, hZ, hN⟩ := hv
  have hx := B.exec
  have hb := B.bytes
  have hr := B.returns
  have hts0 := atoms_spec (ws := (Cond.code y_Lr_requirePlaces c_Lr_requirePlaces 1 (none) :: gT)) B.pre
  have hts : ∀ w ∈ gT, w.before _ s = true := fun w h => hts0 w (List.mem_cons_of_mem _ h)
  have hown : s.vm.findClass R_Lr = some m.cls := findClass_of_methodNamed B.named
  have hlocks := B.notSynchronized
  subst hsz
  have hS : x_S D vCl shU ad cA (NN mo) (va_A (x_w shU ad cA (NN mo) F A) s.heap.size) s F A s.heap [] := ⟨hK, hP, hD0.self, va_S.rf, hN0⟩
  have hA : ∀ q : Nat, s.heap.size ≤ q → va_A (x_w shU ad cA (NN mo) F A) s.heap.size q := fun q h => Or.inr h
  have C0 : x_C p s m [.ref (ad 0)].toArray meth c c_Lr_requirePlaces 1 (none) gT R_Lr := ⟨hx, hb, hr, hml, hown, hts, hlocks⟩
  generalize va_A (x_w shU ad cA (NN mo) F A) s.heap.size = A0 at hS hA hZ ⊢
  have hl := lv_entry [.ref (ad 0)] (n := 1) (Nat.le_of_ble_eq_true rfl)
  rw [lg_entry_eq]
  generalize (lg_sl [.ref (ad 0)] ++ List.replicate (1 - (lg_sl [.ref (ad 0)]).length) Slot.unset).toArray = ls at hl ⊢
  have hl : lv_has ls 1 [(0, .ref (ad 0))] := hl
  refine lv_aload_n hx hb d_Lr_requirePlaces_0 rfl (lv_at hl 0 rfl) ?_
  refine r_geti (z := F 0) hx hb hts in_Lr hown hS 0 rfl rfl 4 (by decide) rfl (hts _ tw_209) d_Lr_requirePlaces_1 rfl ?_
  obtain ⟨g1, h⟩ := h
  refine r_if_ne (tgt := 17) hx hb g1 d_Lr_requirePlaces_4 (by decide) (fun hc => ?_) (fun hc => ?_)
  · replace h := h.1 hc
    exact y_rp hx hb hr hlocks h d_Lr_requirePlaces_17
  · replace h := h.2 hc
    exact y_throw (names := y_nms) (text := "cells have no places") (cls := eS) (ic := 71) hx hb hlT hown (by decide +kernel) (by decide +kernel) (hts _ tw_320) (hts _ tw_12) (y_str hN (by decide +kernel)) (y_words hts hZ yw_Lr_71) (hl.1.trans hml.symm) d_Lr_requirePlaces_7 d_Lr_requirePlaces_10 d_Lr_requirePlaces_11 d_Lr_requirePlaces_13 d_Lr_requirePlaces_16 hne (Nat.le_of_ble_eq_true rfl) (Nat.le_of_ble_eq_true rfl) (Nat.le_of_ble_eq_true rfl) (Nat.le_of_ble_eq_true rfl) hlocks h
/-! Lr_at -/
def w_Lr_at (mo : Nat) (F : Nat → Int) (A : Nat → Int → Int) (x1 : Int) (Q : Int → Prop) (QX : String → Prop) : Prop := w_Lr_requireCell mo F A x1 (w_Lr_requirePlaces mo F A (0 ≤ x1 ∧ x1 < 60 ∧ rg (A 8 x1) ∧ Q (A 8 x1)) QX) QX
set_option maxHeartbeats 4000000 in
set_option maxRecDepth 100000 in
theorem ct_Lr_at (l : Launch) (hlT : l.stackTraces = false) (D : va_G) (ad : Nat → Nat) (cA : Nat → ClassId) (mo sz : Nat) (F : Nat → Int) (A : Nat → Int → Int) (x1 : Int) (Q : Int → Prop) (QX : String → Prop) (h : w_Lr_at mo F A x1 Q QX) : y_Met l y_Lr_at (Cond.code y_Lr_at c_Lr_at 2 (some .long) :: gT) ({ frames := 7, cells := 1, slots := 6, locals := 111 } : Room) (va_Pc [.ref (ad 0), .int (iI x1)] (y_P D vCl shU ad cA (NN mo) sz F A)) (x_QL D vCl shU ad cA (NN mo) (va_A (x_w shU ad cA (NN mo) F A) sz) (fun z F1 A1 => F = F1 ∧ A = A1 ∧ Q z)) (va_A (x_w shU ad cA (NN mo) F A) sz) QX := by
  refine y_ofW (cc := c_Lr_at) (maxL := 2) (ret := some .long) (by decide) rfl ?_
  intro p e s m args below meth c s₁ B hml hne hv
  obtain ⟨rfl, ⟨hsz, hP, hK, hD0, hN0⟩, hZ, hN⟩ := hv
  have hx := B.exec
  have hb := B.bytes
  have hr := B.returns
  have hts0 := atoms_spec (ws := (Cond.code y_Lr_at c_Lr_at 2 (some .long) :: gT)) B.pre
  have hts : ∀ w ∈ gT, w.before _ s = true := fun w h => hts0 w (List.mem_cons_of_mem _ h)
  have hown : s.vm.findClass R_Lr = some m.cls := findClass_of_methodNamed B.named
  have hlocks := B.notSynchronized
  subst hsz
  have hS : x_S D vCl shU ad cA (NN mo) (va_A (x_w shU ad cA (NN mo) F A) s.heap.size) s F A s.heap [] := ⟨hK, hP, hD0.self, va_S.rf, hN0⟩
  have hA : ∀ q : Nat, s.heap.size ≤ q → va_A (x_w shU ad cA (NN mo) F A) s.heap.size q := fun q h => Or.inr h
  have C0 : x_C p s m [.ref (ad 0), .int (iI x1)].toArray meth c c_Lr_at 2 (some .long) gT R_Lr := ⟨hx, hb, hr, hml, hown, hts, hlocks⟩
  generalize va_A (x_w shU ad cA (NN mo) F A) s.heap.size = A0 at hS hA hZ ⊢
  have hl := lv_entry [.ref (ad 0), .int (iI x1)] (n := 2) (Nat.le_of_ble_eq_true rfl)
  rw [lg_entry_eq]
  generalize (lg_sl [.ref (ad 0), .int (iI x1)] ++ List.replicate (2 - (lg_sl [.ref (ad 0), .int (iI x1)]).length) Slot.unset).toArray = ls at hl ⊢
  have hl : lv_has ls 2 [(0, .ref (ad 0)), (1, .int (iI x1))] := hl
  refine lv_aload_n hx hb d_Lr_at_0 rfl (lv_at hl 0 rfl) ?_
  refine lv_iload_n hx hb d_Lr_at_1 rfl (lv_at hl 1 rfl) ?_
  refine y_cp (y_runV (As := [.int (iI x1)]) (rest := []) ⟨hx, hb, hml, hown, hts⟩ (ct_Lr_requireCell l hlT D ad cA mo _ _ _ _ _ _ h) (cwV 1 hts (gV tw_417 tw_419 tw_s_Lr_requireCell tw_1 tw_420) rfl rfl rfl (by decide +kernel) ⟨Nat.le_of_ble_eq_true rfl, Nat.le_of_ble_eq_true rfl⟩) (y_preV hS hZ hN 0 rfl rfl _) rfl rfl hl.1 rfl (lv_room (Nat.le_of_ble_eq_true rfl)) d_Lr_at_2 ⟨Nat.le_of_ble_eq_true rfl, Nat.le_of_ble_eq_true rfl⟩) hne hlocks (fun h => ?_)
  refine lv_aload_n hx hb d_Lr_at_5 rfl (lv_at hl 0 rfl) ?_
  refine y_cp (y_runV (As := []) (rest := []) ⟨hx, hb, hml, hown, hts⟩ (ct_Lr_requirePlaces l hlT D ad cA mo _ _ _ _ _ h) (cwV 0 hts (gV tw_518 tw_520 tw_s_Lr_requirePlaces tw_1 tw_521) rfl rfl rfl (by decide +kernel) ⟨Nat.le_of_ble_eq_true rfl, Nat.le_of_ble_eq_true rfl⟩) (y_preV hS hZ hN 0 rfl rfl _) rfl rfl hl.1 rfl (lv_room (Nat.le_of_ble_eq_true rfl)) d_Lr_at_6 ⟨Nat.le_of_ble_eq_true rfl, Nat.le_of_ble_eq_true rfl⟩) hne hlocks (fun h => ?_)
  refine lv_aload_n hx hb d_Lr_at_9 rfl (lv_at hl 0 rfl) ?_
  refine r_getr (t2 := 2) hx hb hts in_Lr hown hS 0 rfl rfl 1 (by decide) rfl (hts _ tw_206) d_Lr_at_10 ?_
  refine r_getr (t2 := 14) hx hb hts in_Ce hown hS 2 rfl rfl 5 (by decide) rfl (hts _ tw_86) d_Lr_at_13 ?_
  refine lv_iload_n hx hb d_Lr_at_16 rfl (lv_at hl 1 rfl) ?_
  obtain ⟨g3, h⟩ := h
  obtain ⟨g4, h⟩ := h
  refine r_iald (id := 8) (i := x1) (z := A 8 x1) hx hb hS 14 rfl g3 g4 d_Lr_at_17 rfl ?_
  obtain ⟨g5, h⟩ := h
  refine r_i2l hx hb g5 d_Lr_at_18 ?_
  exact (y_ret (r_lret (z := (A 8 x1)) hx hb hr hlocks hS ⟨rfl, rfl, h⟩ d_Lr_at_19))
/-! Lr_rowOf -/
def w_Lr_rowOf (mo : Nat) (F : Nat → Int) (A : Nat → Int → Int) (x1 : Int) (Q : Int → Prop) (QX : String → Prop) : Prop := w_Lr_requireCell mo F A x1 (w_Lr_requirePlaces mo F A (0 ≤ x1 ∧ x1 < 60 ∧ Q (A 9 x1)) QX) QX
set_option maxHeartbeats 4000000 in
set_option maxRecDepth 100000 in
theorem ct_Lr_rowOf (l : Launch) (hlT : l.stackTraces = false) (D : va_G) (ad : Nat → Nat) (cA : Nat → ClassId) (mo sz : Nat) (F : Nat → Int) (A : Nat → Int → Int) (x1 : Int) (Q : Int → Prop) (QX : String → Prop) (h : w_Lr_rowOf mo F A x1 Q QX) : y_Met l y_Lr_rowOf (Cond.code y_Lr_rowOf c_Lr_rowOf 2 (some .int) :: gT) ({ frames := 7, cells := 1, slots := 6, locals := 111 } : Room) (va_Pc [.ref (ad 0), .int (iI x1)] (y_P D vCl shU ad cA (NN mo) sz F A)) (x_QI D vCl shU ad cA (NN mo) (va_A (x_w shU ad cA (NN mo) F A) sz) (fun z F1 A1 => F = F1 ∧ A = A1 ∧ Q z)) (va_A (x_w shU ad cA (NN mo) F A) sz) QX := by
  refine y_ofW (cc := c_Lr_rowOf) (maxL := 2) (ret := some .int) (by decide) rfl ?_
  intro p e s m args below meth c s₁ B hml hne hv
  obtain ⟨rfl, ⟨hsz, hP, hK, hD0, hN0⟩, hZ, hN⟩ := hv
  have hx := B.exec
  have hb := B.bytes
  have hr := B.returns
  have hts0 := atoms_spec (ws := (Cond.code y_Lr_rowOf c_Lr_rowOf 2 (some .int) :: gT)) B.pre
  have hts : ∀ w ∈ gT, w.before _ s = true := fun w h => hts0 w (List.mem_cons_of_mem _ h)
  have hown : s.vm.findClass R_Lr = some m.cls := findClass_of_methodNamed B.named
  have hlocks := B.notSynchronized
  subst hsz
  have hS : x_S D vCl shU ad cA (NN mo) (va_A (x_w shU ad cA (NN mo) F A) s.heap.size) s F A s.heap [] := ⟨hK, hP, hD0.self, va_S.rf, hN0⟩
  have hA : ∀ q : Nat, s.heap.size ≤ q → va_A (x_w shU ad cA (NN mo) F A) s.heap.size q := fun q h => Or.inr h
  have C0 : x_C p s m [.ref (ad 0), .int (iI x1)].toArray meth c c_Lr_rowOf 2 (some .int) gT R_Lr := ⟨hx, hb, hr, hml, hown, hts, hlocks⟩
  generalize va_A (x_w shU ad cA (NN mo) F A) s.heap.size = A0 at hS hA hZ ⊢
  have hl := lv_entry [.ref (ad 0), .int (iI x1)] (n := 2) (Nat.le_of_ble_eq_true rfl)
  rw [lg_entry_eq]
  generalize (lg_sl [.ref (ad 0), .int (iI x1)] ++ List.replicate (2 - (lg_sl [.ref (ad 0), .int (iI x1)]).length) Slot.unset).toArray = ls at hl ⊢
  have hl : lv_has ls 2 [(0, .ref (ad 0)), (1, .int (iI x1))] := hl
  refine lv_aload_n hx hb d_Lr_rowOf_0 rfl (lv_at hl 0 rfl) ?_
  refine lv_iload_n hx hb d_Lr_rowOf_1 rfl (lv_at hl 1 rfl) ?_
  refine y_cp (y_runV (As := [.int (iI x1)]) (rest := []) ⟨hx, hb, hml, hown, hts⟩ (ct_Lr_requireCell l hlT D ad cA mo _ _ _ _ _ _ h) (cwV 1 hts (gV tw_417 tw_419 tw_s_Lr_requireCell tw_1 tw_420) rfl rfl rfl (by decide +kernel) ⟨Nat.le_of_ble_eq_true rfl, Nat.le_of_ble_eq_true rfl⟩) (y_preV hS hZ hN 0 rfl rfl _) rfl rfl hl.1 rfl (lv_room (Nat.le_of_ble_eq_true rfl)) d_Lr_rowOf_2 ⟨Nat.le_of_ble_eq_true rfl, Nat.le_of_ble_eq_true rfl⟩) hne hlocks (fun h => ?_)
  refine lv_aload_n hx hb d_Lr_rowOf_5 rfl (lv_at hl 0 rfl) ?_
  refine y_cp (y_runV (As := []) (rest := []) ⟨hx, hb, hml, hown, hts⟩ (ct_Lr_requirePlaces l hlT D ad cA mo _ _ _ _ _ h) (cwV 0 hts (gV tw_518 tw_520 tw_s_Lr_requirePlaces tw_1 tw_521) rfl rfl rfl (by decide +kernel) ⟨Nat.le_of_ble_eq_true rfl, Nat.le_of_ble_eq_true rfl⟩) (y_preV hS hZ hN 0 rfl rfl _) rfl rfl hl.1 rfl (lv_room (Nat.le_of_ble_eq_true rfl)) d_Lr_rowOf_6 ⟨Nat.le_of_ble_eq_true rfl, Nat.le_of_ble_eq_true rfl⟩) hne hlocks (fun h => ?_)
  refine lv_aload_n hx hb d_Lr_rowOf_9 rfl (lv_at hl 0 rfl) ?_
  refine r_getr (t2 := 2) hx hb hts in_Lr hown hS 0 rfl rfl 1 (by decide) rfl (hts _ tw_206) d_Lr_rowOf_10 ?_
  refine r_getr (t2 := 15) hx hb hts in_Ce hown hS 2 rfl rfl 6 (by decide) rfl (hts _ tw_88) d_Lr_rowOf_13 ?_
  refine lv_iload_n hx hb d_Lr_rowOf_16 rfl (lv_at hl 1 rfl) ?_
  obtain ⟨g3, h⟩ := h
  obtain ⟨g4, h⟩ := h
  refine r_iald (id := 9) (i := x1) (z := A 9 x1) hx hb hS 15 rfl g3 g4 d_Lr_rowOf_17 rfl ?_
  exact (y_ret (r_iret (z := (A 9 x1)) hx hb hr hlocks hS ⟨rfl, rfl, h⟩ d_Lr_rowOf_18))
/-! Lr_moved -/
def w_Lr_moved (mo : Nat) (F : Nat → Int) (A : Nat → Int → Int)  (Q : Int → Prop) (QX : String → Prop) : Prop := w_Lr_requirePlaces mo F A (w_Ce_wayFromWanted mo F A (fun z2 => Q z2)) QX
set_option maxHeartbeats 4000000 in
set_option maxRecDepth 100000 in
theorem ct_Lr_moved (l : Launch) (hlT : l.stackTraces = false) (D : va_G) (ad : Nat → Nat) (cA : Nat → ClassId) (mo sz : Nat) (F : Nat → Int) (A : Nat → Int → Int)  (Q : Int → Prop) (QX : String → Prop) (h : w_Lr_moved mo F A  Q QX) : y_Met l y_Lr_moved (Cond.code y_Lr_moved c_Lr_moved 1 (some .long) :: gT) ({ frames := 7, cells := 1, slots := 6, locals := 110 } : Room) (va_Pc [.ref (ad 0)] (y_P D vCl shU ad cA (NN mo) sz F A)) (x_QL D vCl shU ad cA (NN mo) (va_A (x_w shU ad cA (NN mo) F A) sz) (fun z F1 A1 => F = F1 ∧ A = A1 ∧ Q z)) (va_A (x_w shU ad cA (NN mo) F A) sz) QX := by
  refine y_ofW (cc := c_Lr_moved) (maxL := 1) (ret := some .long) (by decide) rfl ?_
  intro p e s m args below meth c s₁ B hml hne hv
  obtain ⟨rfl, ⟨hsz, hP, hK, hD0, hN0⟩, hZ, hN⟩ := hv
  have hx := B.exec
  have hb := B.bytes
  have hr := B.returns
  have hts0 := atoms_spec (ws := (Cond.code y_Lr_moved c_Lr_moved 1 (some .long) :: gT)) B.pre
  have hts : ∀ w ∈ gT, w.before _ s = true := fun w h => hts0 w (List.mem_cons_of_mem _ h)
  have hown : s.vm.findClass R_Lr = some m.cls := findClass_of_methodNamed B.named
  have hlocks := B.notSynchronized
  subst hsz
  have hS : x_S D vCl shU ad cA (NN mo) (va_A (x_w shU ad cA (NN mo) F A) s.heap.size) s F A s.heap [] := ⟨hK, hP, hD0.self, va_S.rf, hN0⟩
  have hA : ∀ q : Nat, s.heap.size ≤ q → va_A (x_w shU ad cA (NN mo) F A) s.heap.size q := fun q h => Or.inr h
  have C0 : x_C p s m [.ref (ad 0)].toArray meth c c_Lr_moved 1 (some .long) gT R_Lr := ⟨hx, hb, hr, hml, hown, hts, hlocks⟩
  generalize va_A (x_w shU ad cA (NN mo) F A) s.heap.size = A0 at hS hA hZ ⊢
  have hl := lv_entry [.ref (ad 0)] (n := 1) (Nat.le_of_ble_eq_true rfl)
  rw [lg_entry_eq]
  generalize (lg_sl [.ref (ad 0)] ++ List.replicate (1 - (lg_sl [.ref (ad 0)]).length) Slot.unset).toArray = ls at hl ⊢
  have hl : lv_has ls 1 [(0, .ref (ad 0))] := hl
  refine lv_aload_n hx hb d_Lr_moved_0 rfl (lv_at hl 0 rfl) ?_
  refine y_cp (y_runV (As := []) (rest := []) ⟨hx, hb, hml, hown, hts⟩ (ct_Lr_requirePlaces l hlT D ad cA mo _ _ _ _ _ h) (cwV 0 hts (gV tw_518 tw_520 tw_s_Lr_requirePlaces tw_1 tw_521) rfl rfl rfl (by decide +kernel) ⟨Nat.le_of_ble_eq_true rfl, Nat.le_of_ble_eq_true rfl⟩) (y_preV hS hZ hN 0 rfl rfl _) rfl rfl hl.1 rfl (lv_room (Nat.le_of_ble_eq_true rfl)) d_Lr_moved_1 ⟨Nat.le_of_ble_eq_true rfl, Nat.le_of_ble_eq_true rfl⟩) hne hlocks (fun h => ?_)
  refine lv_aload_n hx hb d_Lr_moved_4 rfl (lv_at hl 0 rfl) ?_
  refine r_getr (t2 := 2) hx hb hts in_Lr hown hS 0 rfl rfl 1 (by decide) rfl (hts _ tw_206) d_Lr_moved_5 ?_
  refine r_cl (va_runV (As := []) (rest := []) ⟨hx, hb, hml, hown, hts⟩ (ct_Ce_wayFromWanted l D ad cA mo _ _ _ _ h) (cwV 0 hts (gV tw_537 tw_538 tw_539 tw_4 tw_540) rfl rfl rfl (by decide +kernel) ⟨Nat.le_of_ble_eq_true rfl, Nat.le_of_ble_eq_true rfl⟩) (x_preV hS 2 rfl rfl _) rfl rfl hl.1 rfl (lv_room (Nat.le_of_ble_eq_true rfl)) d_Lr_moved_8 ⟨Nat.zero_le _, Nat.zero_le _⟩) hS hA (fun z2 F2 A2 H locs hS h => ?_)
  obtain ⟨rfl, rfl, h⟩ := h
  exact (y_ret (r_lret (z := z2) hx hb hr hlocks hS ⟨rfl, rfl, h⟩ d_Lr_moved_11))
/-! Lr_mirrored -/
def w_Lr_mirrored (mo : Nat) (F : Nat → Int) (A : Nat → Int → Int) (x1 : Int) (Q : Int → Prop) (QX : String → Prop) : Prop := w_Lr_requireCell mo F A x1 (w_Lr_requirePlaces mo F A (0 ≤ x1 ∧ x1 < 60 ∧ 0 ≤ (A 9 x1) ∧ (A 9 x1) < 2147483648 ∧ rg ((A 9 x1) % 2) ∧ ((¬ ((A 9 x1) % 2) = 1 → Q 0) ∧ (((A 9 x1) % 2) = 1 → Q 1))) QX) QX
set_option maxHeartbeats 4000000 in
set_option maxRecDepth 100000 in
theorem ct_Lr_mirrored (l : Launch) (hlT : l.stackTraces = false) (D : va_G) (ad : Nat → Nat) (cA : Nat → ClassId) (mo sz : Nat) (F : Nat → Int) (A : Nat → Int → Int) (x1 : Int) (Q : Int → Prop) (QX : String → Prop) (h : w_Lr_mirrored mo F A x1 Q QX) : y_Met l y_Lr_mirrored (Cond.code y_Lr_mirrored c_Lr_mirrored 2 (some .boolean) :: gT) ({ frames := 7, cells := 1, slots := 6, locals := 111 } : Room) (va_Pc [.ref (ad 0), .int (iI x1)] (y_P D vCl shU ad cA (NN mo) sz F A)) (x_QI D vCl shU ad cA (NN mo) (va_A (x_w shU ad cA (NN mo) F A) sz) (fun z F1 A1 => F = F1 ∧ A = A1 ∧ Q z)) (va_A (x_w shU ad cA (NN mo) F A) sz) QX := by
  refine y_ofW (cc := c_Lr_mirrored) (maxL := 2) (ret := some .boolean) (by decide) rfl ?_
  intro p e s m args below meth c s₁ B hml hne hv
  obtain ⟨rfl, ⟨hsz, hP, hK, hD0, hN0⟩, hZ, hN⟩ := hv
  have hx := B.exec
  have hb := B.bytes
  have hr := B.returns
  have hts0 := atoms_spec (ws := (Cond.code y_Lr_mirrored c_Lr_mirrored 2 (some .boolean) :: gT)) B.pre
  have hts : ∀ w ∈ gT, w.before _ s = true := fun w h => hts0 w (List.mem_cons_of_mem _ h)
  have hown : s.vm.findClass R_Lr = some m.cls := findClass_of_methodNamed B.named
  have hlocks := B.notSynchronized
  subst hsz
  have hS : x_S D vCl shU ad cA (NN mo) (va_A (x_w shU ad cA (NN mo) F A) s.heap.size) s F A s.heap [] := ⟨hK, hP, hD0.self, va_S.rf, hN0⟩
  have hA : ∀ q : Nat, s.heap.size ≤ q → va_A (x_w shU ad cA (NN mo) F A) s.heap.size q := fun q h => Or.inr h
  have C0 : x_C p s m [.ref (ad 0), .int (iI x1)].toArray meth c c_Lr_mirrored 2 (some .boolean) gT R_Lr := ⟨hx, hb, hr, hml, hown, hts, hlocks⟩
  generalize va_A (x_w shU ad cA (NN mo) F A) s.heap.size = A0 at hS hA hZ ⊢
  have hl := lv_entry [.ref (ad 0), .int (iI x1)] (n := 2) (Nat.le_of_ble_eq_true rfl)
  rw [lg_entry_eq]
  generalize (lg_sl [.ref (ad 0), .int (iI x1)] ++ List.replicate (2 - (lg_sl [.ref (ad 0), .int (iI x1)]).length) Slot.unset).toArray = ls at hl ⊢
  have hl : lv_has ls 2 [(0, .ref (ad 0)), (1, .int (iI x1))] := hl
  refine lv_aload_n hx hb d_Lr_mirrored_0 rfl (lv_at hl 0 rfl) ?_
  refine lv_iload_n hx hb d_Lr_mirrored_1 rfl (lv_at hl 1 rfl) ?_
  refine y_cp (y_runV (As := [.int (iI x1)]) (rest := []) ⟨hx, hb, hml, hown, hts⟩ (ct_Lr_requireCell l hlT D ad cA mo _ _ _ _ _ _ h) (cwV 1 hts (gV tw_417 tw_419 tw_s_Lr_requireCell tw_1 tw_420) rfl rfl rfl (by decide +kernel) ⟨Nat.le_of_ble_eq_true rfl, Nat.le_of_ble_eq_true rfl⟩) (y_preV hS hZ hN 0 rfl rfl _) rfl rfl hl.1 rfl (lv_room (Nat.le_of_ble_eq_true rfl)) d_Lr_mirrored_2 ⟨Nat.le_of_ble_eq_true rfl, Nat.le_of_ble_eq_true rfl⟩) hne hlocks (fun h => ?_)
  refine lv_aload_n hx hb d_Lr_mirrored_5 rfl (lv_at hl 0 rfl) ?_
  refine y_cp (y_runV (As := []) (rest := []) ⟨hx, hb, hml, hown, hts⟩ (ct_Lr_requirePlaces l hlT D ad cA mo _ _ _ _ _ h) (cwV 0 hts (gV tw_518 tw_520 tw_s_Lr_requirePlaces tw_1 tw_521) rfl rfl rfl (by decide +kernel) ⟨Nat.le_of_ble_eq_true rfl, Nat.le_of_ble_eq_true rfl⟩) (y_preV hS hZ hN 0 rfl rfl _) rfl rfl hl.1 rfl (lv_room (Nat.le_of_ble_eq_true rfl)) d_Lr_mirrored_6 ⟨Nat.le_of_ble_eq_true rfl, Nat.le_of_ble_eq_true rfl⟩) hne hlocks (fun h => ?_)
  refine lv_aload_n hx hb d_Lr_mirrored_9 rfl (lv_at hl 0 rfl) ?_
  refine r_getr (t2 := 2) hx hb hts in_Lr hown hS 0 rfl rfl 1 (by decide) rfl (hts _ tw_206) d_Lr_mirrored_10 ?_
  refine r_getr (t2 := 15) hx hb hts in_Ce hown hS 2 rfl rfl 6 (by decide) rfl (hts _ tw_88) d_Lr_mirrored_13 ?_
  refine lv_iload_n hx hb d_Lr_mirrored_16 rfl (lv_at hl 1 rfl) ?_
  obtain ⟨g3, h⟩ := h
  obtain ⟨g4, h⟩ := h
  refine r_iald (id := 9) (i := x1) (z := A 9 x1) hx hb hS 15 rfl g3 g4 d_Lr_mirrored_17 rfl ?_
  refine r_iconst hx hb d_Lr_mirrored_18 ?_
  obtain ⟨g5, h⟩ := h
  obtain ⟨g6, h⟩ := h
  refine r_irem hx hb 2 g5 g6 (by decide) (by decide) d_Lr_mirrored_19 ?_
  refine r_iconst hx hb d_Lr_mirrored_20 ?_
  obtain ⟨g7, h⟩ := h
  refine r_icmp_ne (tgt := 28) hx hb g7 ⟨by omega, by omega⟩ d_Lr_mirrored_21 (by decide) (fun hc => ?_) (fun hc => ?_)
  · replace h := h.1 hc
    refine r_iconst hx hb d_Lr_mirrored_28 ?_
    exact (y_ret (r_zret (z := 0) hx hb hr hlocks (Or.inl rfl) hS ⟨rfl, rfl, h⟩ d_Lr_mirrored_29))
  · replace h := h.2 hc
    refine r_iconst hx hb d_Lr_mirrored_24 ?_
    refine lv_goto (tgt := 29) hx hb d_Lr_mirrored_25 (by decide) ?_
    exact (y_ret (r_zret (z := 1) hx hb hr hlocks (Or.inr rfl) hS ⟨rfl, rfl, h⟩ d_Lr_mirrored_29))
/-! Lr_improve -/
def w_Lr_improve_b20 (mo : Nat) (Q : Int → (Nat → Int) → (Nat → Int → Int) → Prop) (QX : String → Prop) (x1 : Int) (x2 : Int) (F : Nat → Int) (A : Nat → Int → Int) : Prop := Lp3 (fun I20 x2 F A => rg x2 ∧ rg x1 ∧ ((x1 ≤ x2 → Q x2 F A) ∧ (¬ x1 ≤ x2 → w_Ne_exchangeFirstPair mo F A (fun z3 F3 A3 => rg z3 ∧ ((z3 = 0 → Q x2 F3 A3) ∧ (¬ z3 = 0 → I20 (x2 + 1) F3 A3)))))) x2 F A
def w_Lr_improve (mo : Nat) (F : Nat → Int) (A : Nat → Int → Int) (x1 : Int) (Q : Int → (Nat → Int) → (Nat → Int → Int) → Prop) (QX : String → Prop) : Prop := w_Lr_requirePlaces mo F A (rg x1 ∧ ((0 ≤ x1 → w_Lr_improve_b20 mo Q QX x1 0 F A) ∧ (¬ 0 ≤ x1 → QX eA))) QX
set_option maxHeartbeats 4000000 in
set_option maxRecDepth 100000 in
theorem s_Lr_improve_b20 (C0 : x_C p s m args meth c c_Lr_improve 3 (some .int) gT R_Lr) (hA : ∀ q : Nat, s.heap.size ≤ q → A0 q) (hlT : l.stackTraces = false) (hZ : y_Z A0 s) (hN : y_N s) (hne : c.exceptionTable.isEmpty = true) {mo : Nat} {Q : Int → (Nat → Int) → (Nat → Int → Int) → Prop} {QX : String → Prop} (x1 : Int) (x2 : Int) (F : Nat → Int) (A : Nat → Int → Int) (h : w_Lr_improve_b20 mo Q QX x1 x2 F A) (H : Heap) (locs : List Loc) (ls : Array Slot) (hS : x_S D vCl shU ad cA (NN mo) A0 s F A H locs) (hl : lv_has ls 3 [(0, .ref (ad 0)), (1, .int (iI x1)), (2, .int (iI x2))]) : W p l e ({ frames := 7, cells := 1, slots := 6, locals := 110 } : Room) s m args below meth c H locs 0 0 (y_MQ below (x_QI D vCl shU ad cA (NN mo) A0 Q) A0 QX args s) (F0 m 20 ls []) := by
  obtain ⟨hx, hb, hr, hml, hown, hts, hlocks⟩ := id C0
  refine h (fun x2 F A => ∀ (H : Heap) (locs : List Loc) (ls : Array Slot), x_S D vCl shU ad cA (NN mo) A0 s F A H locs → lv_has ls 3 [(0, .ref (ad 0)), (1, .int (iI x1)), (2, .int (iI x2))] → W p l e ({ frames := 7, cells := 1, slots := 6, locals := 110 } : Room) s m args below meth c H locs 0 0 (y_MQ below (x_QI D vCl shU ad cA (NN mo) A0 Q) A0 QX args s) (F0 m 20 ls [])) ?_ H locs ls hS hl
  intro x2 F A h H locs ls hS hl
  refine lv_iload_n hx hb d_Lr_improve_20 rfl (lv_at hl 2 rfl) ?_
  refine lv_iload_n hx hb d_Lr_improve_21 rfl (lv_at hl 1 rfl) ?_
  obtain ⟨g1, h⟩ := h
  obtain ⟨g2, h⟩ := h
  refine r_icmp_ge (tgt := 41) hx hb g1 g2 d_Lr_improve_22 (by decide) (fun hc => ?_) (fun hc => ?_)
  · replace h := h.1 hc
    refine lv_iload_n hx hb d_Lr_improve_41 rfl (lv_at hl 2 rfl) ?_
    exact (y_ret (r_iret (z := x2) hx hb hr hlocks hS h d_Lr_improve_42))
  · replace h := h.2 hc
    refine lv_aload_n hx hb d_Lr_improve_25 rfl (lv_at hl 0 rfl) ?_
    refine r_getr (t2 := 3) hx hb hts in_Lr hown hS 0 rfl rfl 2 (by decide) rfl (hts _ tw_207) d_Lr_improve_26 ?_
    refine r_ci (va_runV (As := []) (rest := []) ⟨hx, hb, hml, hown, hts⟩ (ct_Ne_exchangeFirstPair l D ad cA mo _ _ _ _ h) (cwV 0 hts (gV tw_557 tw_558 tw_559 tw_5 tw_560) rfl rfl rfl (by decide +kernel) ⟨Nat.le_of_ble_eq_true rfl, Nat.le_of_ble_eq_true rfl⟩) (x_preV hS 3 rfl rfl _) rfl rfl hl.1 rfl (lv_room (Nat.le_of_ble_eq_true rfl)) d_Lr_improve_29 ⟨Nat.zero_le _, Nat.zero_le _⟩) hS hA (fun z3 F3 A3 H locs hS h => ?_)
    obtain ⟨g4, h⟩ := h
    refine r_if_eq (tgt := 41) hx hb g4 d_Lr_improve_32 (by decide) (fun hc => ?_) (fun hc => ?_)
    · replace h := h.1 hc
      refine lv_iload_n hx hb d_Lr_improve_41 rfl (lv_at hl 2 rfl) ?_
      exact (y_ret (r_iret (z := x2) hx hb hr hlocks hS h d_Lr_improve_42))
    · replace h := h.2 hc
      refine r_iinc (k := 2) (z := x2) (lv' := [(2, .int (iI (x2 + 1))), (0, .ref (ad 0)), (1, .int (iI x1))]) hx hb d_Lr_improve_35 hl rfl (by decide) rfl (fun ls hl => ?_)
      refine lv_goto (tgt := 20) hx hb d_Lr_improve_38 (by decide) ?_
      exact h _ _ _ hS (lv_sub hl [1, 2, 0] rfl)
set_option maxHeartbeats 4000000 in
set_option maxRecDepth 100000 in
theorem ct_Lr_improve (l : Launch) (hlT : l.stackTraces = false) (D : va_G) (ad : Nat → Nat) (cA : Nat → ClassId) (mo sz : Nat) (F : Nat → Int) (A : Nat → Int → Int) (x1 : Int) (Q : Int → (Nat → Int) → (Nat → Int → Int) → Prop) (QX : String → Prop) (h : w_Lr_improve mo F A x1 Q QX) : y_Met l y_Lr_improve (Cond.code y_Lr_improve c_Lr_improve 3 (some .int) :: gT) ({ frames := 7, cells := 1, slots := 6, locals := 110 } : Room) (va_Pc [.ref (ad 0), .int (iI x1)] (y_P D vCl shU ad cA (NN mo) sz F A)) (x_QI D vCl shU ad cA (NN mo) (va_A (x_w shU ad cA (NN mo) F A) sz) Q) (va_A (x_w shU ad cA (NN mo) F A) sz) QX := by
  refine y_ofW (cc := c_Lr_improve) (maxL := 3) (ret := some .int) (by decide) rfl ?_
  intro p e s m args below meth c s₁ B hml hne hv
  obtain ⟨rfl, ⟨hsz, hP, hK, hD0, hN0⟩, hZ, hN⟩ := hv
  have hx := B.exec
  have hb := B.bytes
  have hr := B.returns
  have hts0 := atoms_spec (ws := (Cond.code y_Lr_improve c_Lr_improve 3 (some .int) :: gT)) B.pre
  have hts : ∀ w ∈ gT, w.before _ s = true := fun w h => hts0 w (List.mem_cons_of_mem _ h)
  have hown : s.vm.findClass R_Lr = some m.cls := findClass_of_methodNamed B.named
  have hlocks := B.notSynchronized
  subst hsz
  have hS : x_S D vCl shU ad cA (NN mo) (va_A (x_w shU ad cA (NN mo) F A) s.heap.size) s F A s.heap [] := ⟨hK, hP, hD0.self, va_S.rf, hN0⟩
  have hA : ∀ q : Nat, s.heap.size ≤ q → va_A (x_w shU ad cA (NN mo) F A) s.heap.size q := fun q h => Or.inr h
  have C0 : x_C p s m [.ref (ad 0), .int (iI x1)].toArray meth c c_Lr_improve 3 (some .int) gT R_Lr := ⟨hx, hb, hr, hml, hown, hts, hlocks⟩
  generalize va_A (x_w shU ad cA (NN mo) F A) s.heap.size = A0 at hS hA hZ ⊢
  have hl := lv_entry [.ref (ad 0), .int (iI x1)] (n := 3) (Nat.le_of_ble_eq_true rfl)
  rw [lg_entry_eq]
  generalize (lg_sl [.ref (ad 0), .int (iI x1)] ++ List.replicate (3 - (lg_sl [.ref (ad 0), .int (iI x1)]).length) Slot.unset).toArray = ls at hl ⊢
  have hl : lv_has ls 3 [(0, .ref (ad 0)), (1, .int (iI x1))] := hl
  refine lv_aload_n hx hb d_Lr_improve_0 rfl (lv_at hl 0 rfl) ?_
  refine y_cp (y_runV (As := []) (rest := []) ⟨hx, hb, hml, hown, hts⟩ (ct_Lr_requirePlaces l hlT D ad cA mo _ _ _ _ _ h) (cwV 0 hts (gV tw_518 tw_520 tw_s_Lr_requirePlaces tw_1 tw_521) rfl rfl rfl (by decide +kernel) ⟨Nat.le_of_ble_eq_true rfl, Nat.le_of_ble_eq_true rfl⟩) (y_preV hS hZ hN 0 rfl rfl _) rfl rfl hl.1 rfl (lv_room (Nat.le_of_ble_eq_true rfl)) d_Lr_improve_1 ⟨Nat.le_of_ble_eq_true rfl, Nat.le_of_ble_eq_true rfl⟩) hne hlocks (fun h => ?_)
  refine lv_iload_n hx hb d_Lr_improve_4 rfl (lv_at hl 1 rfl) ?_
  obtain ⟨g6, h⟩ := h
  refine r_if_ge (tgt := 18) hx hb g6 d_Lr_improve_5 (by decide) (fun hc => ?_) (fun hc => ?_)
  · replace h := h.1 hc
    refine r_iconst hx hb d_Lr_improve_18 ?_
    refine lv_istore_n (lv' := [(2, .int (iI 0)), (0, .ref (ad 0)), (1, .int (iI x1))]) hx hb d_Lr_improve_19 rfl hl (by decide) rfl (fun ls hl => ?_)
    exact s_Lr_improve_b20 C0 hA hlT hZ hN hne _ _ _ _ h _ _ _ hS (lv_sub hl [1, 2, 0] rfl)
  · replace h := h.2 hc
    exact y_throw (names := y_nms) (text := "steps are below 0") (cls := eA) (ic := 80) hx hb hlT hown (by decide +kernel) (by decide +kernel) (hts _ tw_389) (hts _ tw_13) (y_str hN (by decide +kernel)) (y_words hts hZ yw_Lr_80) (hl.1.trans hml.symm) d_Lr_improve_8 d_Lr_improve_11 d_Lr_improve_12 d_Lr_improve_14 d_Lr_improve_17 hne (Nat.le_of_ble_eq_true rfl) (Nat.le_of_ble_eq_true rfl) (Nat.le_of_ble_eq_true rfl) (Nat.le_of_ble_eq_true rfl) hlocks h
/-! Lr_net -/
def w_Lr_net (mo : Nat) (F : Nat → Int) (A : Nat → Int → Int) (x1 : Int) (x2 : Int) (Q : Int → (Nat → Int) → (Nat → Int → Int) → Prop) (QX : String → Prop) : Prop := w_Lr_requireCell mo F A x1 (w_Lr_requireCell mo F A x2 (rg (F 5) ∧ (((F 5) < 80 → rg x1 ∧ rg x2 ∧ ((¬ x1 = x2 → w_Ne_add mo F A x1 x2 (fun z6 F6 A6 => Q z6 F6 A6)) ∧ (x1 = x2 → QX eA))) ∧ (¬ (F 5) < 80 → QX eS))) QX) QX
set_option maxHeartbeats 4000000 in
set_option maxRecDepth 100000 in
theorem ct_Lr_net (l : Launch) (hlT : l.stackTraces = false) (D : va_G) (ad : Nat → Nat) (cA : Nat → ClassId) (mo sz : Nat) (F : Nat → Int) (A : Nat → Int → Int) (x1 : Int) (x2 : Int) (Q : Int → (Nat → Int) → (Nat → Int → Int) → Prop) (QX : String → Prop) (h : w_Lr_net mo F A x1 x2 Q QX) : y_Met l y_Lr_net (Cond.code y_Lr_net c_Lr_net 3 (some .int) :: gT) ({ frames := 7, cells := 1, slots := 6, locals := 111 } : Room) (va_Pc [.ref (ad 0), .int (iI x1), .int (iI x2)] (y_P D vCl shU ad cA (NN mo) sz F A)) (x_QI D vCl shU ad cA (NN mo) (va_A (x_w shU ad cA (NN mo) F A) sz) Q) (va_A (x_w shU ad cA (NN mo) F A) sz) QX := by
  refine y_ofW (cc := c_Lr_net) (maxL := 3) (ret := some .int) (by decide) rfl ?_
  intro p e s m args below meth c s₁ B hml hne hv
  obtain ⟨rfl, ⟨hsz, hP, hK, hD0, hN0⟩, hZ, hN⟩ := hv
  have hx := B.exec
  have hb := B.bytes
  have hr := B.returns
  have hts0 := atoms_spec (ws := (Cond.code y_Lr_net c_Lr_net 3 (some .int) :: gT)) B.pre
  have hts : ∀ w ∈ gT, w.before _ s = true := fun w h => hts0 w (List.mem_cons_of_mem _ h)
  have hown : s.vm.findClass R_Lr = some m.cls := findClass_of_methodNamed B.named
  have hlocks := B.notSynchronized
  subst hsz
  have hS : x_S D vCl shU ad cA (NN mo) (va_A (x_w shU ad cA (NN mo) F A) s.heap.size) s F A s.heap [] := ⟨hK, hP, hD0.self, va_S.rf, hN0⟩
  have hA : ∀ q : Nat, s.heap.size ≤ q → va_A (x_w shU ad cA (NN mo) F A) s.heap.size q := fun q h => Or.inr h
  have C0 : x_C p s m [.ref (ad 0), .int (iI x1), .int (iI x2)].toArray meth c c_Lr_net 3 (some .int) gT R_Lr := ⟨hx, hb, hr, hml, hown, hts, hlocks⟩
  generalize va_A (x_w shU ad cA (NN mo) F A) s.heap.size = A0 at hS hA hZ ⊢
  have hl := lv_entry [.ref (ad 0), .int (iI x1), .int (iI x2)] (n := 3) (Nat.le_of_ble_eq_true rfl)
  rw [lg_entry_eq]
  generalize (lg_sl [.ref (ad 0), .int (iI x1), .int (iI x2)] ++ List.replicate (3 - (lg_sl [.ref (ad 0), .int (iI x1), .int (iI x2)]).length) Slot.unset).toArray = ls at hl ⊢
  have hl : lv_has ls 3 [(0, .ref (ad 0)), (1, .int (iI x1)), (2, .int (iI x2))] := hl
  refine lv_aload_n hx hb d_Lr_net_0 rfl (lv_at hl 0 rfl) ?_
  refine lv_iload_n hx hb d_Lr_net_1 rfl (lv_at hl 1 rfl) ?_
  refine y_cp (y_runV (As := [.int (iI x1)]) (rest := []) ⟨hx, hb, hml, hown, hts⟩ (ct_Lr_requireCell l hlT D ad cA mo _ _ _ _ _ _ h) (cwV 1 hts (gV tw_417 tw_419 tw_s_Lr_requireCell tw_1 tw_420) rfl rfl rfl (by decide +kernel) ⟨Nat.le_of_ble_eq_true rfl, Nat.le_of_ble_eq_true rfl⟩) (y_preV hS hZ hN 0 rfl rfl _) rfl rfl hl.1 rfl (lv_room (Nat.le_of_ble_eq_true rfl)) d_Lr_net_2 ⟨Nat.le_of_ble_eq_true rfl, Nat.le_of_ble_eq_true rfl⟩) hne hlocks (fun h => ?_)
  refine lv_aload_n hx hb d_Lr_net_5 rfl (lv_at hl 0 rfl) ?_
  refine lv_iload_n hx hb d_Lr_net_6 rfl (lv_at hl 2 rfl) ?_
  refine y_cp (y_runV (As := [.int (iI x2)]) (rest := []) ⟨hx, hb, hml, hown, hts⟩ (ct_Lr_requireCell l hlT D ad cA mo _ _ _ _ _ _ h) (cwV 1 hts (gV tw_417 tw_419 tw_s_Lr_requireCell tw_1 tw_420) rfl rfl rfl (by decide +kernel) ⟨Nat.le_of_ble_eq_true rfl, Nat.le_of_ble_eq_true rfl⟩) (y_preV hS hZ hN 0 rfl rfl _) rfl rfl hl.1 rfl (lv_room (Nat.le_of_ble_eq_true rfl)) d_Lr_net_7 ⟨Nat.le_of_ble_eq_true rfl, Nat.le_of_ble_eq_true rfl⟩) hne hlocks (fun h => ?_)
  refine lv_aload_n hx hb d_Lr_net_10 rfl (lv_at hl 0 rfl) ?_
  refine r_getr (t2 := 3) hx hb hts in_Lr hown hS 0 rfl rfl 2 (by decide) rfl (hts _ tw_207) d_Lr_net_11 ?_
  refine r_geti (z := F 5) hx hb hts in_Ne hown hS 3 rfl rfl 4 (by decide) rfl (hts _ tw_124) d_Lr_net_14 rfl ?_
  refine r_bipush hx hb d_Lr_net_17 (by decide +kernel) ?_
  obtain ⟨g3, h⟩ := h
  refine r_icmp_lt (tgt := 32) hx hb g3 ⟨by omega, by omega⟩ d_Lr_net_19 (by decide) (fun hc => ?_) (fun hc => ?_)
  · replace h := h.1 hc
    refine lv_iload_n hx hb d_Lr_net_32 rfl (lv_at hl 1 rfl) ?_
    refine lv_iload_n hx hb d_Lr_net_33 rfl (lv_at hl 2 rfl) ?_
    obtain ⟨g4, h⟩ := h
    obtain ⟨g5, h⟩ := h
    refine r_icmp_ne (tgt := 47) hx hb g4 g5 d_Lr_net_34 (by decide) (fun hc => ?_) (fun hc => ?_)
    · replace h := h.1 hc
      refine lv_aload_n hx hb d_Lr_net_47 rfl (lv_at hl 0 rfl) ?_
      refine r_getr (t2 := 3) hx hb hts in_Lr hown hS 0 rfl rfl 2 (by decide) rfl (hts _ tw_207) d_Lr_net_48 ?_
      refine lv_iload_n hx hb d_Lr_net_51 rfl (lv_at hl 1 rfl) ?_
      refine lv_iload_n hx hb d_Lr_net_52 rfl (lv_at hl 2 rfl) ?_
      refine r_ci (va_runV (As := [.int (iI x1), .int (iI x2)]) (rest := []) ⟨hx, hb, hml, hown, hts⟩ (ct_Ne_add l D ad cA mo _ _ _ _ _ _ h) (cwV 2 hts (gV tw_591 tw_592 tw_593 tw_5 tw_594) rfl rfl rfl (by decide +kernel) ⟨Nat.le_of_ble_eq_true rfl, Nat.le_of_ble_eq_true rfl⟩) (x_preV hS 3 rfl rfl _) rfl rfl hl.1 rfl (lv_room (Nat.le_of_ble_eq_true rfl)) d_Lr_net_53 ⟨Nat.zero_le _, Nat.zero_le _⟩) hS hA (fun z6 F6 A6 H locs hS h => ?_)
      exact (y_ret (r_iret (z := z6) hx hb hr hlocks hS h d_Lr_net_56))
    · replace h := h.2 hc
      exact y_throw (names := y_nms) (text := "both cells are the same") (cls := eA) (ic := 80) hx hb hlT hown (by decide +kernel) (by decide +kernel) (hts _ tw_389) (hts _ tw_13) (y_str hN (by decide +kernel)) (y_words hts hZ yw_Lr_80) (hl.1.trans hml.symm) d_Lr_net_37 d_Lr_net_40 d_Lr_net_41 d_Lr_net_43 d_Lr_net_46 hne (Nat.le_of_ble_eq_true rfl) (Nat.le_of_ble_eq_true rfl) (Nat.le_of_ble_eq_true rfl) (Nat.le_of_ble_eq_true rfl) hlocks h
  · replace h := h.2 hc
    exact y_throw (names := y_nms) (text := "there are as many nets as there can be") (cls := eS) (ic := 71) hx hb hlT hown (by decide +kernel) (by decide +kernel) (hts _ tw_320) (hts _ tw_12) (y_str hN (by decide +kernel)) (y_words hts hZ yw_Lr_71) (hl.1.trans hml.symm) d_Lr_net_22 d_Lr_net_25 d_Lr_net_26 d_Lr_net_28 d_Lr_net_31 hne (Nat.le_of_ble_eq_true rfl) (Nat.le_of_ble_eq_true rfl) (Nat.le_of_ble_eq_true rfl) (Nat.le_of_ble_eq_true rfl) hlocks h
/-! Lr_wire -/
def w_Lr_wire (mo : Nat) (F : Nat → Int) (A : Nat → Int → Int)  (Q : Int → Prop) (QX : String → Prop) : Prop := w_Lr_requirePlaces mo F A (w_Ne_length mo F A (fun z2 => Q z2)) QX
set_option maxHeartbeats 4000000 in
set_option maxRecDepth 100000 in
theorem ct_Lr_wire (l : Launch) (hlT : l.stackTraces = false) (D : va_G) (ad : Nat → Nat) (cA : Nat → ClassId) (mo sz : Nat) (F : Nat → Int) (A : Nat → Int → Int)  (Q : Int → Prop) (QX : String → Prop) (h : w_Lr_wire mo F A  Q QX) : y_Met l y_Lr_wire (Cond.code y_Lr_wire c_Lr_wire 1 (some .long) :: gT) ({ frames := 7, cells := 1, slots := 6, locals := 110 } : Room) (va_Pc [.ref (ad 0)] (y_P D vCl shU ad cA (NN mo) sz F A)) (x_QL D vCl shU ad cA (NN mo) (va_A (x_w shU ad cA (NN mo) F A) sz) (fun z F1 A1 => F = F1 ∧ A = A1 ∧ Q z)) (va_A (x_w shU ad cA (NN mo) F A) sz) QX := by
  refine y_ofW (cc := c_Lr_wire) (maxL := 1) (ret := some .long) (by decide) rfl ?_
  intro p e s m args below meth c s₁ B hml hne hv
  obtain ⟨rfl, ⟨hsz, hP, hK, hD0, hN0⟩, hZ, hN⟩ := hv
  have hx := B.exec
  have hb := B.bytes
  have hr := B.returns
  have hts0 := atoms_spec (ws := (Cond.code y_Lr_wire c_Lr_wire 1 (some .long) :: gT)) B.pre
  have hts : ∀ w ∈ gT, w.before _ s = true := fun w h => hts0 w (List.mem_cons_of_mem _ h)
  have hown : s.vm.findClass R_Lr = some m.cls := findClass_of_methodNamed B.named
  have hlocks := B.notSynchronized
  subst hsz
  have hS : x_S D vCl shU ad cA (NN mo) (va_A (x_w shU ad cA (NN mo) F A) s.heap.size) s F A s.heap [] := ⟨hK, hP, hD0.self, va_S.rf, hN0⟩
  have hA : ∀ q : Nat, s.heap.size ≤ q → va_A (x_w shU ad cA (NN mo) F A) s.heap.size q := fun q h => Or.inr h
  have C0 : x_C p s m [.ref (ad 0)].toArray meth c c_Lr_wire 1 (some .long) gT R_Lr := ⟨hx, hb, hr, hml, hown, hts, hlocks⟩
  generalize va_A (x_w shU ad cA (NN mo) F A) s.heap.size = A0 at hS hA hZ ⊢
  have hl := lv_entry [.ref (ad 0)] (n := 1) (Nat.le_of_ble_eq_true rfl)
  rw [lg_entry_eq]
  generalize (lg_sl [.ref (ad 0)] ++ List.replicate (1 - (lg_sl [.ref (ad 0)]).length) Slot.unset).toArray = ls at hl ⊢
  have hl : lv_has ls 1 [(0, .ref (ad 0))] := hl
  refine lv_aload_n hx hb d_Lr_wire_0 rfl (lv_at hl 0 rfl) ?_
  refine y_cp (y_runV (As := []) (rest := []) ⟨hx, hb, hml, hown, hts⟩ (ct_Lr_requirePlaces l hlT D ad cA mo _ _ _ _ _ h) (cwV 0 hts (gV tw_518 tw_520 tw_s_Lr_requirePlaces tw_1 tw_521) rfl rfl rfl (by decide +kernel) ⟨Nat.le_of_ble_eq_true rfl, Nat.le_of_ble_eq_true rfl⟩) (y_preV hS hZ hN 0 rfl rfl _) rfl rfl hl.1 rfl (lv_room (Nat.le_of_ble_eq_true rfl)) d_Lr_wire_1 ⟨Nat.le_of_ble_eq_true rfl, Nat.le_of_ble_eq_true rfl⟩) hne hlocks (fun h => ?_)
  refine lv_aload_n hx hb d_Lr_wire_4 rfl (lv_at hl 0 rfl) ?_
  refine r_getr (t2 := 3) hx hb hts in_Lr hown hS 0 rfl rfl 2 (by decide) rfl (hts _ tw_207) d_Lr_wire_5 ?_
  refine r_cl (va_runV (As := []) (rest := []) ⟨hx, hb, hml, hown, hts⟩ (ct_Ne_length l D ad cA mo _ _ _ _ h) (cwV 0 hts (gV tw_606 tw_607 tw_608 tw_5 tw_609) rfl rfl rfl (by decide +kernel) ⟨Nat.le_of_ble_eq_true rfl, Nat.le_of_ble_eq_true rfl⟩) (x_preV hS 3 rfl rfl _) rfl rfl hl.1 rfl (lv_room (Nat.le_of_ble_eq_true rfl)) d_Lr_wire_8 ⟨Nat.zero_le _, Nat.zero_le _⟩) hS hA (fun z2 F2 A2 H locs hS h => ?_)
  obtain ⟨rfl, rfl, h⟩ := h
  exact (y_ret (r_lret (z := z2) hx hb hr hlocks hS ⟨rfl, rfl, h⟩ d_Lr_wire_11))
/-! Lr_overlap -/
def w_Lr_overlap_b59 (mo : Nat) (F : Nat → Int) (A : Nat → Int → Int) (Q : Int → Prop) (QX : String → Prop) (I6 : Int → Prop) (x1 : Int) (x2 : Int) : Prop := Lp1 (fun I59 x2 => rg x2 ∧ rg (F 4) ∧ (((F 4) ≤ x2 → I6 (x1 + 1)) ∧ (¬ (F 4) ≤ x2 → w_Ce_shareSite mo F A x1 x2 (fun z3 => rg z3 ∧ ((z3 = 0 → I59 (x2 + 1)) ∧ (¬ z3 = 0 → Q 1)))))) x2
def w_Lr_overlap_b6 (mo : Nat) (F : Nat → Int) (A : Nat → Int → Int) (Q : Int → Prop) (QX : String → Prop) (x1 : Int) : Prop := Lp1 (fun I6 x1 => rg x1 ∧ rg (F 4) ∧ (((F 4) ≤ x1 → Q 0) ∧ (¬ (F 4) ≤ x1 → 0 ≤ x1 ∧ x1 < 60 ∧ w_Ce_end mo F A x1 (fun z9 => w_Gr_isFree mo F A (A 9 x1) (A 8 x1) z9 (fun z10 => rg z10 ∧ ((¬ z10 = 0 → w_Lr_overlap_b59 mo F A Q QX I6 x1 (x1 + 1)) ∧ (z10 = 0 → Q 1))))))) x1
def w_Lr_overlap (mo : Nat) (F : Nat → Int) (A : Nat → Int → Int)  (Q : Int → Prop) (QX : String → Prop) : Prop := w_Lr_requirePlaces mo F A (w_Lr_overlap_b6 mo F A Q QX 0) QX
set_option maxHeartbeats 4000000 in
set_option maxRecDepth 100000 in
theorem s_Lr_overlap_b59 (C0 : x_C p s m args meth c c_Lr_overlap 3 (some .boolean) gT R_Lr) (hA : ∀ q : Nat, s.heap.size ≤ q → A0 q) (hlT : l.stackTraces = false) (hZ : y_Z A0 s) (hN : y_N s) (hne : c.exceptionTable.isEmpty = true) {mo : Nat} {F : Nat → Int} {A : Nat → Int → Int} {Q : Int → Prop} {QX : String → Prop} {I6 : Int → Prop} (x1 : Int) (x2 : Int) (hI6 : ∀ (x1 : Int), I6 x1 → ∀ (H : Heap) (locs : List Loc) (ls : Array Slot), x_S D vCl shU ad cA (NN mo) A0 s F A H locs → lv_has ls 3 [(0, .ref (ad 0)), (1, .int (iI x1))] → W p l e ({ frames := 7, cells := 1, slots := 6, locals := 110 } : Room) s m args below meth c H locs 0 0 (y_MQ below (x_QI D vCl shU ad cA (NN mo) A0 (fun z F1 A1 => F = F1 ∧ A = A1 ∧ Q z)) A0 QX args s) (F0 m 6 ls [])) (h : w_Lr_overlap_b59 mo F A Q QX I6 x1 x2) (H : Heap) (locs : List Loc) (ls : Array Slot) (hS : x_S D vCl shU ad cA (NN mo) A0 s F A H locs) (hl : lv_has ls 3 [(0, .ref (ad 0)), (1, .int (iI x1)), (2, .int (iI x2))]) : W p l e ({ frames := 7, cells := 1, slots := 6, locals := 110 } : Room) s m args below meth c H locs 0 0 (y_MQ below (x_QI D vCl shU ad cA (NN mo) A0 (fun z F1 A1 => F = F1 ∧ A = A1 ∧ Q z)) A0 QX args s) (F0 m 59 ls []) := by
  obtain ⟨hx, hb, hr, hml, hown, hts, hlocks⟩ := id C0
  refine h (fun x2 => ∀ (H : Heap) (locs : List Loc) (ls : Array Slot), x_S D vCl shU ad cA (NN mo) A0 s F A H locs → lv_has ls 3 [(0, .ref (ad 0)), (1, .int (iI x1)), (2, .int (iI x2))] → W p l e ({ frames := 7, cells := 1, slots := 6, locals := 110 } : Room) s m args below meth c H locs 0 0 (y_MQ below (x_QI D vCl shU ad cA (NN mo) A0 (fun z F1 A1 => F = F1 ∧ A = A1 ∧ Q z)) A0 QX args s) (F0 m 59 ls [])) ?_ H locs ls hS hl
  intro x2 h H locs ls hS hl
  refine lv_iload_n hx hb d_Lr_overlap_59 rfl (lv_at hl 2 rfl) ?_
  refine lv_aload_n hx hb d_Lr_overlap_60 rfl (lv_at hl 0 rfl) ?_
  refine r_getr (t2 := 2) hx hb hts in_Lr hown hS 0 rfl rfl 1 (by decide) rfl (hts _ tw_206) d_Lr_overlap_61 ?_
  refine r_geti (z := F 4) hx hb hts in_Ce hown hS 2 rfl rfl 8 (by decide) rfl (hts _ tw_90) d_Lr_overlap_64 rfl ?_
  obtain ⟨g1, h⟩ := h
  obtain ⟨g2, h⟩ := h
  refine r_icmp_ge (tgt := 90) hx hb g1 g2 d_Lr_overlap_67 (by decide) (fun hc => ?_) (fun hc => ?_)
  · replace h := h.1 hc
    refine r_iinc (k := 1) (z := x1) (lv' := [(1, .int (iI (x1 + 1))), (0, .ref (ad 0)), (2, .int (iI x2))]) hx hb d_Lr_overlap_90 hl rfl (by decide) rfl (fun ls hl => ?_)
    refine lv_goto (tgt := 6) hx hb d_Lr_overlap_93 (by decide) ?_
    exact hI6 _ h _ _ _ hS (lv_sub hl [1, 0] rfl)
  · replace h := h.2 hc
    refine lv_aload_n hx hb d_Lr_overlap_70 rfl (lv_at hl 0 rfl) ?_
    refine r_getr (t2 := 2) hx hb hts in_Lr hown hS 0 rfl rfl 1 (by decide) rfl (hts _ tw_206) d_Lr_overlap_71 ?_
    refine lv_iload_n hx hb d_Lr_overlap_74 rfl (lv_at hl 1 rfl) ?_
    refine lv_iload_n hx hb d_Lr_overlap_75 rfl (lv_at hl 2 rfl) ?_
    refine r_ci (va_runV (As := [.int (iI x1), .int (iI x2)]) (rest := []) ⟨hx, hb, hml, hown, hts⟩ (ct_Ce_shareSite l D ad cA mo _ _ _ _ _ _ h) (cwV 2 hts (gV tw_622 tw_623 tw_624 tw_4 tw_625) rfl rfl rfl (by decide +kernel) ⟨Nat.le_of_ble_eq_true rfl, Nat.le_of_ble_eq_true rfl⟩) (x_preV hS 2 rfl rfl _) rfl rfl hl.1 rfl (lv_room (Nat.le_of_ble_eq_true rfl)) d_Lr_overlap_76 ⟨Nat.zero_le _, Nat.zero_le _⟩) hS hA (fun z3 F3 A3 H locs hS h => ?_)
    obtain ⟨rfl, rfl, h⟩ := h
    obtain ⟨g4, h⟩ := h
    refine r_if_eq (tgt := 84) hx hb g4 d_Lr_overlap_79 (by decide) (fun hc => ?_) (fun hc => ?_)
    · replace h := h.1 hc
      refine r_iinc (k := 2) (z := x2) (lv' := [(2, .int (iI (x2 + 1))), (0, .ref (ad 0)), (1, .int (iI x1))]) hx hb d_Lr_overlap_84 hl rfl (by decide) rfl (fun ls hl => ?_)
      refine lv_goto (tgt := 59) hx hb d_Lr_overlap_87 (by decide) ?_
      exact h _ _ _ hS (lv_sub hl [1, 2, 0] rfl)
    · replace h := h.2 hc
      refine r_iconst hx hb d_Lr_overlap_82 ?_
      exact (y_ret (r_zret (z := 1) hx hb hr hlocks (Or.inr rfl) hS ⟨rfl, rfl, h⟩ d_Lr_overlap_83))
set_option maxHeartbeats 4000000 in
set_option maxRecDepth 100000 in
theorem s_Lr_overlap_b6 (C0 : x_C p s m args meth c c_Lr_overlap 3 (some .boolean) gT R_Lr) (hA : ∀ q : Nat, s.heap.size ≤ q → A0 q) (hlT : l.stackTraces = false) (hZ : y_Z A0 s) (hN : y_N s) (hne : c.exceptionTable.isEmpty = true) {mo : Nat} {F : Nat → Int} {A : Nat → Int → Int} {Q : Int → Prop} {QX : String → Prop} (x1 : Int) (h : w_Lr_overlap_b6 mo F A Q QX x1) (H : Heap) (locs : List Loc) (ls : Array Slot) (hS : x_S D vCl shU ad cA (NN mo) A0 s F A H locs) (hl : lv_has ls 3 [(0, .ref (ad 0)), (1, .int (iI x1))]) : W p l e ({ frames := 7, cells := 1, slots := 6, locals := 110 } : Room) s m args below meth c H locs 0 0 (y_MQ below (x_QI D vCl shU ad cA (NN mo) A0 (fun z F1 A1 => F = F1 ∧ A = A1 ∧ Q z)) A0 QX args s) (F0 m 6 ls []) := by
  obtain ⟨hx, hb, hr, hml, hown, hts, hlocks⟩ := id C0
  refine h (fun x1 => ∀ (H : Heap) (locs : List Loc) (ls : Array Slot), x_S D vCl shU ad cA (NN mo) A0 s F A H locs → lv_has ls 3 [(0, .ref (ad 0)), (1, .int (iI x1))] → W p l e ({ frames := 7, cells := 1, slots := 6, locals := 110 } : Room) s m args below meth c H locs 0 0 (y_MQ below (x_QI D vCl shU ad cA (NN mo) A0 (fun z F1 A1 => F = F1 ∧ A = A1 ∧ Q z)) A0 QX args s) (F0 m 6 ls [])) ?_ H locs ls hS hl
  intro x1 h H locs ls hS hl
  refine lv_iload_n hx hb d_Lr_overlap_6 rfl (lv_at hl 1 rfl) ?_
  refine lv_aload_n hx hb d_Lr_overlap_7 rfl (lv_at hl 0 rfl) ?_
  refine r_getr (t2 := 2) hx hb hts in_Lr hown hS 0 rfl rfl 1 (by decide) rfl (hts _ tw_206) d_Lr_overlap_8 ?_
  refine r_geti (z := F 4) hx hb hts in_Ce hown hS 2 rfl rfl 8 (by decide) rfl (hts _ tw_90) d_Lr_overlap_11 rfl ?_
  obtain ⟨g5, h⟩ := h
  obtain ⟨g6, h⟩ := h
  refine r_icmp_ge (tgt := 96) hx hb g5 g6 d_Lr_overlap_14 (by decide) (fun hc => ?_) (fun hc => ?_)
  · replace h := h.1 hc
    refine r_iconst hx hb d_Lr_overlap_96 ?_
    exact (y_ret (r_zret (z := 0) hx hb hr hlocks (Or.inl rfl) hS ⟨rfl, rfl, h⟩ d_Lr_overlap_97))
  · replace h := h.2 hc
    refine lv_aload_n hx hb d_Lr_overlap_17 rfl (lv_at hl 0 rfl) ?_
    refine r_getr (t2 := 1) hx hb hts in_Lr hown hS 0 rfl rfl 0 (by decide) rfl (hts _ tw_205) d_Lr_overlap_18 ?_
    refine lv_aload_n hx hb d_Lr_overlap_21 rfl (lv_at hl 0 rfl) ?_
    refine r_getr (t2 := 2) hx hb hts in_Lr hown hS 0 rfl rfl 1 (by decide) rfl (hts _ tw_206) d_Lr_overlap_22 ?_
    refine r_getr (t2 := 15) hx hb hts in_Ce hown hS 2 rfl rfl 6 (by decide) rfl (hts _ tw_88) d_Lr_overlap_25 ?_
    refine lv_iload_n hx hb d_Lr_overlap_28 rfl (lv_at hl 1 rfl) ?_
    obtain ⟨g7, h⟩ := h
    obtain ⟨g8, h⟩ := h
    refine r_iald (id := 9) (i := x1) (z := A 9 x1) hx hb hS 15 rfl g7 g8 d_Lr_overlap_29 rfl ?_
    refine lv_aload_n hx hb d_Lr_overlap_30 rfl (lv_at hl 0 rfl) ?_
    refine r_getr (t2 := 2) hx hb hts in_Lr hown hS 0 rfl rfl 1 (by decide) rfl (hts _ tw_206) d_Lr_overlap_31 ?_
    refine r_getr (t2 := 14) hx hb hts in_Ce hown hS 2 rfl rfl 5 (by decide) rfl (hts _ tw_86) d_Lr_overlap_34 ?_
    refine lv_iload_n hx hb d_Lr_overlap_37 rfl (lv_at hl 1 rfl) ?_
    refine r_iald (id := 8) (i := x1) (z := A 8 x1) hx hb hS 14 rfl g7 g8 d_Lr_overlap_38 rfl ?_
    refine lv_aload_n hx hb d_Lr_overlap_39 rfl (lv_at hl 0 rfl) ?_
    refine r_getr (t2 := 2) hx hb hts in_Lr hown hS 0 rfl rfl 1 (by decide) rfl (hts _ tw_206) d_Lr_overlap_40 ?_
    refine lv_iload_n hx hb d_Lr_overlap_43 rfl (lv_at hl 1 rfl) ?_
    refine r_ci (va_runV (As := [.int (iI x1)]) (rest := [.int (iI (A 8 x1)), .int (iI (A 9 x1)), .ref (ad 1)]) ⟨hx, hb, hml, hown, hts⟩ (ct_Ce_end l D ad cA mo _ _ _ _ _ h) (cwV 1 hts (gV tw_617 tw_574 tw_575 tw_4 tw_576) rfl rfl rfl (by decide +kernel) ⟨Nat.le_of_ble_eq_true rfl, Nat.le_of_ble_eq_true rfl⟩) (x_preV hS 2 rfl rfl _) rfl rfl hl.1 rfl (lv_room (Nat.le_of_ble_eq_true rfl)) d_Lr_overlap_44 ⟨Nat.zero_le _, Nat.zero_le _⟩) hS hA (fun z9 F9 A9 H locs hS h => ?_)
    obtain ⟨rfl, rfl, h⟩ := h
    refine r_ci (va_runV (As := [.int (iI (A 9 x1)), .int (iI (A 8 x1)), .int (iI z9)]) (rest := []) ⟨hx, hb, hml, hown, hts⟩ (ct_Gr_isFree l D ad cA mo _ _ _ _ _ _ _ h) (cwV 3 hts (gV tw_618 tw_619 tw_620 tw_3 tw_621) rfl rfl rfl (by decide +kernel) ⟨Nat.le_of_ble_eq_true rfl, Nat.le_of_ble_eq_true rfl⟩) (x_preV hS 1 rfl rfl _) rfl rfl hl.1 rfl (lv_room (Nat.le_of_ble_eq_true rfl)) d_Lr_overlap_47 ⟨Nat.zero_le _, Nat.zero_le _⟩) hS hA (fun z10 F10 A10 H locs hS h => ?_)
    obtain ⟨rfl, rfl, h⟩ := h
    obtain ⟨g11, h⟩ := h
    refine r_if_ne (tgt := 55) hx hb g11 d_Lr_overlap_50 (by decide) (fun hc => ?_) (fun hc => ?_)
    · replace h := h.1 hc
      refine lv_iload_n hx hb d_Lr_overlap_55 rfl (lv_at hl 1 rfl) ?_
      refine r_iconst hx hb d_Lr_overlap_56 ?_
      refine r_iadd hx hb d_Lr_overlap_57 ?_
      refine lv_istore_n (lv' := [(2, .int (iI (x1 + 1))), (0, .ref (ad 0)), (1, .int (iI x1))]) hx hb d_Lr_overlap_58 rfl hl (by decide) rfl (fun ls hl => ?_)
      exact s_Lr_overlap_b59 C0 hA hlT hZ hN hne _ _ (fun _ h => h) h _ _ _ hS (lv_sub hl [1, 2, 0] rfl)
    · replace h := h.2 hc
      refine r_iconst hx hb d_Lr_overlap_53 ?_
      exact (y_ret (r_zret (z := 1) hx hb hr hlocks (Or.inr rfl) hS ⟨rfl, rfl, h⟩ d_Lr_overlap_54))
set_option maxHeartbeats 4000000 in
set_option maxRecDepth 100000 in
theorem ct_Lr_overlap (l : Launch) (hlT : l.stackTraces = false) (D : va_G) (ad : Nat → Nat) (cA : Nat → ClassId) (mo sz : Nat) (F : Nat → Int) (A : Nat → Int → Int)  (Q : Int → Prop) (QX : String → Prop) (h : w_Lr_overlap mo F A  Q QX) : y_Met l y_Lr_overlap (Cond.code y_Lr_overlap c_Lr_overlap 3 (some .boolean) :: gT) ({ frames := 7, cells := 1, slots := 6, locals := 110 } : Room) (va_Pc [.ref (ad 0)] (y_P D vCl shU ad cA (NN mo) sz F A)) (x_QI D vCl shU ad cA (NN mo) (va_A (x_w shU ad cA (NN mo) F A) sz) (fun z F1 A1 => F = F1 ∧ A = A1 ∧ Q z)) (va_A (x_w shU ad cA (NN mo) F A) sz) QX := by
  refine y_ofW (cc := c_Lr_overlap) (maxL := 3) (ret := some .boolean) (by decide) rfl ?_
  intro p e s m args below meth c s₁ B hml hne hv
  obtain ⟨rfl, ⟨hsz, hP, hK, hD0, hN0⟩, hZ, hN⟩ := hv
  have hx := B.exec
  have hb := B.bytes
  have hr := B.returns
  have hts0 := atoms_spec (ws := (Cond.code y_Lr_overlap c_Lr_overlap 3 (some .boolean) :: gT)) B.pre
  have hts : ∀ w ∈ gT, w.before _ s = true := fun w h => hts0 w (List.mem_cons_of_mem _ h)
  have hown : s.vm.findClass R_Lr = some m.cls := findClass_of_methodNamed B.named
  have hlocks := B.notSynchronized
  subst hsz
  have hS : x_S D vCl shU ad cA (NN mo) (va_A (x_w shU ad cA (NN mo) F A) s.heap.size) s F A s.heap [] := ⟨hK, hP, hD0.self, va_S.rf, hN0⟩
  have hA : ∀ q : Nat, s.heap.size ≤ q → va_A (x_w shU ad cA (NN mo) F A) s.heap.size q := fun q h => Or.inr h
  have C0 : x_C p s m [.ref (ad 0)].toArray meth c c_Lr_overlap 3 (some .boolean) gT R_Lr := ⟨hx, hb, hr, hml, hown, hts, hlocks⟩
  generalize va_A (x_w shU ad cA (NN mo) F A) s.heap.size = A0 at hS hA hZ ⊢
  have hl := lv_entry [.ref (ad 0)] (n := 3) (Nat.le_of_ble_eq_true rfl)
  rw [lg_entry_eq]
  generalize (lg_sl [.ref (ad 0)] ++ List.replicate (3 - (lg_sl [.ref (ad 0)]).length) Slot.unset).toArray = ls at hl ⊢
  have hl : lv_has ls 3 [(0, .ref (ad 0))] := hl
  refine lv_aload_n hx hb d_Lr_overlap_0 rfl (lv_at hl 0 rfl) ?_
  refine y_cp (y_runV (As := []) (rest := []) ⟨hx, hb, hml, hown, hts⟩ (ct_Lr_requirePlaces l hlT D ad cA mo _ _ _ _ _ h) (cwV 0 hts (gV tw_518 tw_520 tw_s_Lr_requirePlaces tw_1 tw_521) rfl rfl rfl (by decide +kernel) ⟨Nat.le_of_ble_eq_true rfl, Nat.le_of_ble_eq_true rfl⟩) (y_preV hS hZ hN 0 rfl rfl _) rfl rfl hl.1 rfl (lv_room (Nat.le_of_ble_eq_true rfl)) d_Lr_overlap_1 ⟨Nat.le_of_ble_eq_true rfl, Nat.le_of_ble_eq_true rfl⟩) hne hlocks (fun h => ?_)
  refine r_iconst hx hb d_Lr_overlap_4 ?_
  refine lv_istore_n (lv' := [(1, .int (iI 0)), (0, .ref (ad 0))]) hx hb d_Lr_overlap_5 rfl hl (by decide) rfl (fun ls hl => ?_)
  exact s_Lr_overlap_b6 C0 hA hlT hZ hN hne _ h _ _ _ hS (lv_sub hl [1, 0] rfl)
end W24
