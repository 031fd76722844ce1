section W25
variable {p : Program} {l : Launch} {e : Env} {s : State} {m : MethodId} {args : Array Value} {below : List Frame} {meth : Method} {c : Code} {D : va_G} {ad : Nat → Nat} {cA : Nat → ClassId} {A0 : Nat → Prop}
/-! La_cell2 -/
def w_La_cell2 (mo : Nat) (F : Nat → Int) (A : Nat → Int → Int) (x1 : Int) (x3 : Int) (Q : Int → (Nat → Int) → (Nat → Int → Int) → Prop) : Prop := w_Lr_cell mo F A x1 x3 (fun z1 F1 A1 => rg z1 ∧ (0 : Int) ≤ 0 ∧ (0 : Int) < 1 ∧ Q 0 F1 (ua A1 42 0 z1)) (fun E => (E = eS ∧ Q 1 F A) ∨ (E = eA ∧ Q 2 F A))
set_option maxHeartbeats 4000000 in
set_option maxRecDepth 100000 in
theorem ct_La_cell2 (l : Launch) (hlT : l.stackTraces = false) (D : va_G) (ad : Nat → Nat) (cA : Nat → ClassId) (mo sz : Nat) (F : Nat → Int) (A : Nat → Int → Int) (x1 : Int) (x3 : Int) (Q : Int → (Nat → Int) → (Nat → Int → Int) → Prop) (h : w_La_cell2 mo F A x1 x3 Q) : Met l y_La_cell2 (Cond.codeWith y_La_cell2 c_La_cell2 6 (some .int) [((0 : Nat), (11 : Nat), (14 : Nat), (13 : Nat)), ((0 : Nat), (11 : Nat), (18 : Nat), (15 : Nat))] :: gT) ({ frames := 7, cells := 1, slots := 6, locals := 113 } : Room) (va_Pc [.ref (ad 0), .long (lI x1), .int (iI x3), .ref (ad 49)] (y_P D vCl shU ad cA (NN mo) sz F A)) (x_QI D vCl shU ad cA (NN mo) (va_A (x_w shU ad cA (NN mo) F A) sz) Q) 1 6 (va_A (x_w shU ad cA (NN mo) F A) sz) := by
  refine va_MetW (cc := c_La_cell2) (maxL := 6) (ret := some .int) (hh := [((0 : Nat), (11 : Nat), (14 : Nat), (13 : Nat)), ((0 : Nat), (11 : Nat), (18 : Nat), (15 : Nat))]) (by decide) rfl ?_
  intro p e s m args below meth c s₁ B hml hv
  obtain ⟨rfl, ⟨hsz, hP, hK, hD0, hN0⟩, hZ, hN⟩ := hv
  have hx := B.exec
  have hb := B.bytes
  have hr := B.returns
  have hts0 := atoms_spec (ws := (Cond.codeWith y_La_cell2 c_La_cell2 6 (some .int) [((0 : Nat), (11 : Nat), (14 : Nat), (13 : Nat)), ((0 : Nat), (11 : Nat), (18 : Nat), (15 : Nat))] :: gT)) B.pre
  have hts : ∀ w ∈ gT, w.before _ s = true := fun w h => hts0 w (List.mem_cons_of_mem _ h)
  have hown : s.vm.findClass R_La = some m.cls := findClass_of_methodNamed B.named
  have hlocks := B.notSynchronized
  subst hsz
  have htab : c.exceptionTable.toList = List.map y_ent [((0 : Nat), (11 : Nat), (14 : Nat), (13 : Nat)), ((0 : Nat), (11 : Nat), (18 : Nat), (15 : Nat))] := by
    obtain ⟨m9, meth9, c9, n1, n2, n3, -, -, n4, -, -, -⟩ := Cond.codeWith_spec (hts0 _ List.mem_cons_self)
    cases B.named.symm.trans n1
    cases B.method.symm.trans n2
    cases (Stand.of_body B).code.symm.trans n3
    exact y_tab n4
  have hS : x_S D vCl shU ad cA (NN mo) (va_A (x_w shU ad cA (NN mo) F A) s.heap.size) s F A s.heap [] := ⟨hK, hP, hD0.self, va_S.rf, hN0⟩
  have hA : ∀ q : Nat, s.heap.size ≤ q → va_A (x_w shU ad cA (NN mo) F A) s.heap.size q := fun q h => Or.inr h
  have C0 : x_C p s m [.ref (ad 0), .long (lI x1), .int (iI x3), .ref (ad 49)].toArray meth c c_La_cell2 6 (some .int) gT R_La := ⟨hx, hb, hr, hml, hown, hts, hlocks⟩
  generalize va_A (x_w shU ad cA (NN mo) F A) s.heap.size = A0 at hS hA hZ ⊢
  have hl := lv_entry [.ref (ad 0), .long (lI x1), .int (iI x3), .ref (ad 49)] (n := 6) (Nat.le_of_ble_eq_true rfl)
  rw [lg_entry_eq]
  generalize (lg_sl [.ref (ad 0), .long (lI x1), .int (iI x3), .ref (ad 49)] ++ List.replicate (6 - (lg_sl [.ref (ad 0), .long (lI x1), .int (iI x3), .ref (ad 49)]).length) Slot.unset).toArray = ls at hl ⊢
  have hl : lv_has ls 6 [(0, .ref (ad 0)), (1, .long (lI x1)), (3, .int (iI x3)), (4, .ref (ad 49))] := hl
  refine lv_aload hx hb d_La_cell2_0 (lv_at hl 3 rfl) ?_
  refine r_iconst hx hb d_La_cell2_2 ?_
  refine lv_aload_n hx hb d_La_cell2_3 rfl (lv_at hl 0 rfl) ?_
  refine lv_lload_n hx hb d_La_cell2_4 rfl (lv_at hl 1 rfl) ?_
  refine lv_iload_n hx hb d_La_cell2_5 rfl (lv_at hl 2 rfl) ?_
  refine y_ci (y_runV (As := [.long (lI x1), .int (iI x3)]) (rest := [.int (iI 0), .ref (ad 49)]) ⟨hx, hb, hml, hown, hts⟩ (ct_Lr_cell l hlT D ad cA mo _ _ _ _ _ _ _ h) (cwV 2 hts (gV tw_316 tw_317 tw_318 tw_1 tw_319) rfl rfl rfl (by decide +kernel) ⟨Nat.le_of_ble_eq_true rfl, Nat.le_of_ble_eq_true rfl⟩) (y_preV hS hZ hN 0 rfl rfl _) rfl rfl hl.1 rfl (lv_room (Nat.le_of_ble_eq_true rfl)) d_La_cell2_6 ⟨Nat.le_of_ble_eq_true rfl, Nat.le_of_ble_eq_true rfl⟩) hS hA (fun E T hE hS => ?_) (fun z1 F1 A1 H locs hS h => ?_)
  · rcases hE with ⟨rfl, h⟩ | ⟨rfl, h⟩
    · refine y_into (nm := eS) hown [] (y_ent (0, 11, 14, 13)) [y_ent (0, 11, 18, 15)] htab (fun z hz => by cases hz) (by decide +kernel) (by decide +kernel) (hts _ tw_314) (y_zat hZ (by decide +kernel)) (fun q => ?_)
      refine lv_astore (lv' := [(5, .ref q), (0, .ref (ad 0)), (1, .long (lI x1)), (3, .int (iI x3)), (4, .ref (ad 49))]) hx hb d_La_cell2_14 hl (by decide) rfl (fun ls hl => ?_)
      refine r_iconst hx hb d_La_cell2_16 ?_
      exact r_iret (z := 1) hx hb hr hlocks hS h d_La_cell2_17
    · refine y_into (nm := eA) hown [y_ent (0, 11, 14, 13)] (y_ent (0, 11, 18, 15)) [] htab (fun z hz => by simp only [List.mem_cons, List.not_mem_nil, or_false] at hz; rcases hz with rfl <;> first | exact ⟨by decide +kernel, by decide +kernel, eS, hts _ tw_314, hN.1.1⟩) (by decide +kernel) (by decide +kernel) (hts _ tw_315) (y_zat hZ (by decide +kernel)) (fun q => ?_)
      refine lv_astore (lv' := [(5, .ref q), (0, .ref (ad 0)), (1, .long (lI x1)), (3, .int (iI x3)), (4, .ref (ad 49))]) hx hb d_La_cell2_18 hl (by decide) rfl (fun ls hl => ?_)
      refine r_iconst hx hb d_La_cell2_20 ?_
      exact r_iret (z := 2) hx hb hr hlocks hS h d_La_cell2_21
  · skip
    obtain ⟨g2, h⟩ := h
    refine r_i2l hx hb g2 d_La_cell2_9 ?_
    obtain ⟨g3, h⟩ := h
    obtain ⟨g4, h⟩ := h
    refine r_last (id := 42) (i := 0) (v := z1) hx hb hS 49 rfl g3 g4 (seta_42 ad cA mo _ _ _ _) d_La_cell2_10 (fun H locs hS => ?_)
    refine lv_goto (tgt := 22) hx hb d_La_cell2_11 (by decide) ?_
    refine r_iconst hx hb d_La_cell2_22 ?_
    refine W.widen (k := 1) (n := 6) (Nat.zero_le _) (Nat.zero_le _) ?_
    exact r_iret (z := 0) hx hb hr hlocks hS h d_La_cell2_23
/-! La_want -/
def w_La_want_b19 (mo : Nat) (Q : Int → (Nat → Int) → (Nat → Int → Int) → Prop) (y1 : Int) (y2 : Int) (F : Nat → Int) (A : Nat → Int → Int) : Prop := 0 ≤ y1 ∧ y1 < 1 ∧ Q 0 F (ua A 42 y1 y2)
def w_La_want (mo : Nat) (F : Nat → Int) (A : Nat → Int → Int) (x1 : Int) (x2 : Int) (x4 : Int) (Q : Int → (Nat → Int) → (Nat → Int → Int) → Prop) : Prop := w_Lr_want mo F A x1 x2 x4 (fun z3 F3 A3 => rg z3 ∧ ((z3 = 0 → w_La_want_b19 mo Q 0 0 F3 A3) ∧ (¬ z3 = 0 → w_La_want_b19 mo Q 0 1 F3 A3))) (fun E => (E = eB ∧ Q 1 F A))
set_option maxHeartbeats 4000000 in
set_option maxRecDepth 100000 in
theorem s_La_want_b19 (C0 : x_C p s m args meth c c_La_want 7 (some .int) gT R_La) (hA : ∀ q : Nat, s.heap.size ≤ q → A0 q) {mo : Nat} {Q : Int → (Nat → Int) → (Nat → Int → Int) → Prop} (y1 : Int) (y2 : Int) (F : Nat → Int) (A : Nat → Int → Int) (h : w_La_want_b19 mo Q y1 y2 F A) (H : Heap) (locs : List Loc) (ls : Array Slot) (hS : x_S D vCl shU ad cA (NN mo) A0 s F A H locs) (hl : lv_has ls 7 []) : W p l e ({ frames := 8, cells := 1, slots := 6, locals := 135 } : Room) s m args below meth c H locs 0 0 (MQ below (x_QI D vCl shU ad cA (NN mo) A0 Q) args s 1 6 A0) (F0 m 19 ls [.long (lI y2), .int (iI y1), .ref (ad 49)]) := by
  obtain ⟨hx, hb, hr, hml, hown, hts, hlocks⟩ := id C0
  obtain ⟨g1, h⟩ := h
  obtain ⟨g2, h⟩ := h
  refine r_last (id := 42) (i := y1) (v := y2) hx hb hS 49 rfl g1 g2 (seta_42 ad cA mo _ _ _ _) d_La_want_19 (fun H locs hS => ?_)
  refine lv_goto (tgt := 27) hx hb d_La_want_20 (by decide) ?_
  refine r_iconst hx hb d_La_want_27 ?_
  refine W.widen (k := 1) (n := 6) (Nat.zero_le _) (Nat.zero_le _) ?_
  exact r_iret (z := 0) hx hb hr hlocks hS h d_La_want_28
set_option maxHeartbeats 4000000 in
set_option maxRecDepth 100000 in
theorem ct_La_want (l : Launch) (hlT : l.stackTraces = false) (D : va_G) (ad : Nat → Nat) (cA : Nat → ClassId) (mo sz : Nat) (F : Nat → Int) (A : Nat → Int → Int) (x1 : Int) (x2 : Int) (x4 : Int) (Q : Int → (Nat → Int) → (Nat → Int → Int) → Prop) (h : w_La_want mo F A x1 x2 x4 Q) : Met l y_La_want (Cond.codeWith y_La_want c_La_want 7 (some .int) [((0 : Nat), (20 : Nat), (23 : Nat), (21 : Nat))] :: gT) ({ frames := 8, cells := 1, slots := 6, locals := 135 } : Room) (va_Pc [.ref (ad 0), .int (iI x1), .long (lI x2), .int (iI x4), .ref (ad 49)] (y_P D vCl shU ad cA (NN mo) sz F A)) (x_QI D vCl shU ad cA (NN mo) (va_A (x_w shU ad cA (NN mo) F A) sz) Q) 1 6 (va_A (x_w shU ad cA (NN mo) F A) sz) := by
  refine va_MetW (cc := c_La_want) (maxL := 7) (ret := some .int) (hh := [((0 : Nat), (20 : Nat), (23 : Nat), (21 : Nat))]) (by decide) rfl ?_
  intro p e s m args below meth c s₁ B hml hv
  obtain ⟨rfl, ⟨hsz, hP, hK, hD0, hN0⟩, hZ, hN⟩ := hv
  have hx := B.exec
  have hb := B.bytes
  have hr := B.returns
  have hts0 := atoms_spec (ws := (Cond.codeWith y_La_want c_La_want 7 (some .int) [((0 : Nat), (20 : Nat), (23 : Nat), (21 : Nat))] :: gT)) B.pre
  have hts : ∀ w ∈ gT, w.before _ s = true := fun w h => hts0 w (List.mem_cons_of_mem _ h)
  have hown : s.vm.findClass R_La = some m.cls := findClass_of_methodNamed B.named
  have hlocks := B.notSynchronized
  subst hsz
  have htab : c.exceptionTable.toList = List.map y_ent [((0 : Nat), (20 : Nat), (23 : Nat), (21 : Nat))] := by
    obtain ⟨m9, meth9, c9, n1, n2, n3, -, -, n4, -, -, -⟩ := Cond.codeWith_spec (hts0 _ List.mem_cons_self)
    cases B.named.symm.trans n1
    cases B.method.symm.trans n2
    cases (Stand.of_body B).code.symm.trans n3
    exact y_tab n4
  have hS : x_S D vCl shU ad cA (NN mo) (va_A (x_w shU ad cA (NN mo) F A) s.heap.size) s F A s.heap [] := ⟨hK, hP, hD0.self, va_S.rf, hN0⟩
  have hA : ∀ q : Nat, s.heap.size ≤ q → va_A (x_w shU ad cA (NN mo) F A) s.heap.size q := fun q h => Or.inr h
  have C0 : x_C p s m [.ref (ad 0), .int (iI x1), .long (lI x2), .int (iI x4), .ref (ad 49)].toArray meth c c_La_want 7 (some .int) gT R_La := ⟨hx, hb, hr, hml, hown, hts, hlocks⟩
  generalize va_A (x_w shU ad cA (NN mo) F A) s.heap.size = A0 at hS hA hZ ⊢
  have hl := lv_entry [.ref (ad 0), .int (iI x1), .long (lI x2), .int (iI x4), .ref (ad 49)] (n := 7) (Nat.le_of_ble_eq_true rfl)
  rw [lg_entry_eq]
  generalize (lg_sl [.ref (ad 0), .int (iI x1), .long (lI x2), .int (iI x4), .ref (ad 49)] ++ List.replicate (7 - (lg_sl [.ref (ad 0), .int (iI x1), .long (lI x2), .int (iI x4), .ref (ad 49)]).length) Slot.unset).toArray = ls at hl ⊢
  have hl : lv_has ls 7 [(0, .ref (ad 0)), (1, .int (iI x1)), (2, .long (lI x2)), (4, .int (iI x4)), (5, .ref (ad 49))] := hl
  refine lv_aload hx hb d_La_want_0 (lv_at hl 4 rfl) ?_
  refine r_iconst hx hb d_La_want_2 ?_
  refine lv_aload_n hx hb d_La_want_3 rfl (lv_at hl 0 rfl) ?_
  refine lv_iload_n hx hb d_La_want_4 rfl (lv_at hl 1 rfl) ?_
  refine lv_lload_n hx hb d_La_want_5 rfl (lv_at hl 2 rfl) ?_
  refine lv_iload hx hb d_La_want_6 (lv_at hl 3 rfl) ?_
  refine y_ci (y_runV (As := [.int (iI x1), .long (lI x2), .int (iI x4)]) (rest := [.int (iI 0), .ref (ad 49)]) ⟨hx, hb, hml, hown, hts⟩ (ct_Lr_want l hlT D ad cA mo _ _ _ _ _ _ _ _ h) (cwV 3 hts (gV tw_413 tw_414 tw_415 tw_1 tw_416) rfl rfl rfl (by decide +kernel) ⟨Nat.le_of_ble_eq_true rfl, Nat.le_of_ble_eq_true rfl⟩) (y_preV hS hZ hN 0 rfl rfl _) rfl rfl hl.1 rfl (lv_room (Nat.le_of_ble_eq_true rfl)) d_La_want_8 ⟨Nat.le_of_ble_eq_true rfl, Nat.le_of_ble_eq_true rfl⟩) hS hA (fun E T hE hS => ?_) (fun z3 F3 A3 H locs hS h => ?_)
  · obtain ⟨rfl, h⟩ := hE
    · refine y_into (nm := eB) hown [] (y_ent (0, 20, 23, 21)) [] htab (fun z hz => by cases hz) (by decide +kernel) (by decide +kernel) (hts _ tw_412) (y_zat hZ (by decide +kernel)) (fun q => ?_)
      refine lv_astore (lv' := [(6, .ref q), (0, .ref (ad 0)), (1, .int (iI x1)), (2, .long (lI x2)), (4, .int (iI x4)), (5, .ref (ad 49))]) hx hb d_La_want_23 hl (by decide) rfl (fun ls hl => ?_)
      refine r_iconst hx hb d_La_want_25 ?_
      exact r_iret (z := 1) hx hb hr hlocks hS h d_La_want_26
  · skip
    obtain ⟨g4, h⟩ := h
    refine r_if_eq (tgt := 18) hx hb g4 d_La_want_11 (by decide) (fun hc => ?_) (fun hc => ?_)
    · replace h := h.1 hc
      refine r_lconst hx hb 0 d_La_want_18 (by decide +kernel) ?_
      exact s_La_want_b19 C0 hA _ _ _ _ h _ _ _ hS (lv_sub hl [] rfl)
    · replace h := h.2 hc
      refine r_lconst hx hb 1 d_La_want_14 (by decide +kernel) ?_
      refine lv_goto (tgt := 19) hx hb d_La_want_15 (by decide) ?_
      exact s_La_want_b19 C0 hA _ _ _ _ h _ _ _ hS (lv_sub hl [] rfl)
/-! La_bar -/
def w_La_bar_b19 (mo : Nat) (Q : Int → (Nat → Int) → (Nat → Int → Int) → Prop) (y1 : Int) (y2 : Int) (F : Nat → Int) (A : Nat → Int → Int) : Prop := 0 ≤ y1 ∧ y1 < 1 ∧ Q 0 F (ua A 42 y1 y2)
def w_La_bar (mo : Nat) (F : Nat → Int) (A : Nat → Int → Int) (x1 : Int) (x2 : Int) (x4 : Int) (Q : Int → (Nat → Int) → (Nat → Int → Int) → Prop) : Prop := w_Lr_bar mo F A x1 x2 x4 (fun z3 F3 A3 => rg z3 ∧ ((z3 = 0 → w_La_bar_b19 mo Q 0 0 F3 A3) ∧ (¬ z3 = 0 → w_La_bar_b19 mo Q 0 1 F3 A3))) (fun E => (E = eB ∧ Q 1 F A))
set_option maxHeartbeats 4000000 in
set_option maxRecDepth 100000 in
theorem s_La_bar_b19 (C0 : x_C p s m args meth c c_La_bar 8 (some .int) gT R_La) (hA : ∀ q : Nat, s.heap.size ≤ q → A0 q) {mo : Nat} {Q : Int → (Nat → Int) → (Nat → Int → Int) → Prop} (y1 : Int) (y2 : Int) (F : Nat → Int) (A : Nat → Int → Int) (h : w_La_bar_b19 mo Q y1 y2 F A) (H : Heap) (locs : List Loc) (ls : Array Slot) (hS : x_S D vCl shU ad cA (NN mo) A0 s F A H locs) (hl : lv_has ls 8 []) : W p l e ({ frames := 8, cells := 1, slots := 6, locals := 189 } : Room) s m args below meth c H locs 0 0 (MQ below (x_QI D vCl shU ad cA (NN mo) A0 Q) args s 1 6 A0) (F0 m 19 ls [.long (lI y2), .int (iI y1), .ref (ad 49)]) := by
  obtain ⟨hx, hb, hr, hml, hown, hts, hlocks⟩ := id C0
  obtain ⟨g1, h⟩ := h
  obtain ⟨g2, h⟩ := h
  refine r_last (id := 42) (i := y1) (v := y2) hx hb hS 49 rfl g1 g2 (seta_42 ad cA mo _ _ _ _) d_La_bar_19 (fun H locs hS => ?_)
  refine lv_goto (tgt := 27) hx hb d_La_bar_20 (by decide) ?_
  refine r_iconst hx hb d_La_bar_27 ?_
  refine W.widen (k := 1) (n := 6) (Nat.zero_le _) (Nat.zero_le _) ?_
  exact r_iret (z := 0) hx hb hr hlocks hS h d_La_bar_28
set_option maxHeartbeats 4000000 in
set_option maxRecDepth 100000 in
theorem ct_La_bar (l : Launch) (hlT : l.stackTraces = false) (D : va_G) (ad : Nat → Nat) (cA : Nat → ClassId) (mo sz : Nat) (F : Nat → Int) (A : Nat → Int → Int) (x1 : Int) (x2 : Int) (x4 : Int) (Q : Int → (Nat → Int) → (Nat → Int → Int) → Prop) (h : w_La_bar mo F A x1 x2 x4 Q) : Met l y_La_bar (Cond.codeWith y_La_bar c_La_bar 8 (some .int) [((0 : Nat), (20 : Nat), (23 : Nat), (21 : Nat))] :: gT) ({ frames := 8, cells := 1, slots := 6, locals := 189 } : Room) (va_Pc [.ref (ad 0), .int (iI x1), .long (lI x2), .long (lI x4), .ref (ad 49)] (y_P D vCl shU ad cA (NN mo) sz F A)) (x_QI D vCl shU ad cA (NN mo) (va_A (x_w shU ad cA (NN mo) F A) sz) Q) 1 6 (va_A (x_w shU ad cA (NN mo) F A) sz) := by
  refine va_MetW (cc := c_La_bar) (maxL := 8) (ret := some .int) (hh := [((0 : Nat), (20 : Nat), (23 : Nat), (21 : Nat))]) (by decide) rfl ?_
  intro p e s m args below meth c s₁ B hml hv
  obtain ⟨rfl, ⟨hsz, hP, hK, hD0, hN0⟩, hZ, hN⟩ := hv
  have hx := B.exec
  have hb := B.bytes
  have hr := B.returns
  have hts0 := atoms_spec (ws := (Cond.codeWith y_La_bar c_La_bar 8 (some .int) [((0 : Nat), (20 : Nat), (23 : Nat), (21 : Nat))] :: gT)) B.pre
  have hts : ∀ w ∈ gT, w.before _ s = true := fun w h => hts0 w (List.mem_cons_of_mem _ h)
  have hown : s.vm.findClass R_La = some m.cls := findClass_of_methodNamed B.named
  have hlocks := B.notSynchronized
  subst hsz
  have htab : c.exceptionTable.toList = List.map y_ent [((0 : Nat), (20 : Nat), (23 : Nat), (21 : Nat))] := by
    obtain ⟨m9, meth9, c9, n1, n2, n3, -, -, n4, -, -, -⟩ := Cond.codeWith_spec (hts0 _ List.mem_cons_self)
    cases B.named.symm.trans n1
    cases B.method.symm.trans n2
    cases (Stand.of_body B).code.symm.trans n3
    exact y_tab n4
  have hS : x_S D vCl shU ad cA (NN mo) (va_A (x_w shU ad cA (NN mo) F A) s.heap.size) s F A s.heap [] := ⟨hK, hP, hD0.self, va_S.rf, hN0⟩
  have hA : ∀ q : Nat, s.heap.size ≤ q → va_A (x_w shU ad cA (NN mo) F A) s.heap.size q := fun q h => Or.inr h
  have C0 : x_C p s m [.ref (ad 0), .int (iI x1), .long (lI x2), .long (lI x4), .ref (ad 49)].toArray meth c c_La_bar 8 (some .int) gT R_La := ⟨hx, hb, hr, hml, hown, hts, hlocks⟩
  generalize va_A (x_w shU ad cA (NN mo) F A) s.heap.size = A0 at hS hA hZ ⊢
  have hl := lv_entry [.ref (ad 0), .int (iI x1), .long (lI x2), .long (lI x4), .ref (ad 49)] (n := 8) (Nat.le_of_ble_eq_true rfl)
  rw [lg_entry_eq]
  generalize (lg_sl [.ref (ad 0), .int (iI x1), .long (lI x2), .long (lI x4), .ref (ad 49)] ++ List.replicate (8 - (lg_sl [.ref (ad 0), .int (iI x1), .long (lI x2), .long (lI x4), .ref (ad 49)]).length) Slot.unset).toArray = ls at hl ⊢
  have hl : lv_has ls 8 [(0, .ref (ad 0)), (1, .int (iI x1)), (2, .long (lI x2)), (4, .long (lI x4)), (6, .ref (ad 49))] := hl
  refine lv_aload hx hb d_La_bar_0 (lv_at hl 4 rfl) ?_
  refine r_iconst hx hb d_La_bar_2 ?_
  refine lv_aload_n hx hb d_La_bar_3 rfl (lv_at hl 0 rfl) ?_
  refine lv_iload_n hx hb d_La_bar_4 rfl (lv_at hl 1 rfl) ?_
  refine lv_lload_n hx hb d_La_bar_5 rfl (lv_at hl 2 rfl) ?_
  refine lv_lload hx hb d_La_bar_6 (lv_at hl 3 rfl) ?_
  refine y_ci (y_runV (As := [.int (iI x1), .long (lI x2), .long (lI x4)]) (rest := [.int (iI 0), .ref (ad 49)]) ⟨hx, hb, hml, hown, hts⟩ (ct_Lr_bar l hlT D ad cA mo _ _ _ _ _ _ _ _ h) (cwV 3 hts (gV tw_454 tw_455 tw_456 tw_1 tw_457) rfl rfl rfl (by decide +kernel) ⟨Nat.le_of_ble_eq_true rfl, Nat.le_of_ble_eq_true rfl⟩) (y_preV hS hZ hN 0 rfl rfl _) rfl rfl hl.1 rfl (lv_room (Nat.le_of_ble_eq_true rfl)) d_La_bar_8 ⟨Nat.le_of_ble_eq_true rfl, Nat.le_of_ble_eq_true rfl⟩) hS hA (fun E T hE hS => ?_) (fun z3 F3 A3 H locs hS h => ?_)
  · obtain ⟨rfl, h⟩ := hE
    · refine y_into (nm := eB) hown [] (y_ent (0, 20, 23, 21)) [] htab (fun z hz => by cases hz) (by decide +kernel) (by decide +kernel) (hts _ tw_412) (y_zat hZ (by decide +kernel)) (fun q => ?_)
      refine lv_astore (lv' := [(7, .ref q), (0, .ref (ad 0)), (1, .int (iI x1)), (2, .long (lI x2)), (4, .long (lI x4)), (6, .ref (ad 49))]) hx hb d_La_bar_23 hl (by decide) rfl (fun ls hl => ?_)
      refine r_iconst hx hb d_La_bar_25 ?_
      exact r_iret (z := 1) hx hb hr hlocks hS h d_La_bar_26
  · skip
    obtain ⟨g4, h⟩ := h
    refine r_if_eq (tgt := 18) hx hb g4 d_La_bar_11 (by decide) (fun hc => ?_) (fun hc => ?_)
    · replace h := h.1 hc
      refine r_lconst hx hb 0 d_La_bar_18 (by decide +kernel) ?_
      exact s_La_bar_b19 C0 hA _ _ _ _ h _ _ _ hS (lv_sub hl [] rfl)
    · replace h := h.2 hc
      refine r_lconst hx hb 1 d_La_bar_14 (by decide +kernel) ?_
      refine lv_goto (tgt := 19) hx hb d_La_bar_15 (by decide) ?_
      exact s_La_bar_b19 C0 hA _ _ _ _ h _ _ _ hS (lv_sub hl [] rfl)
/-! La_kind -/
def w_La_kind_b18 (mo : Nat) (Q : Int → (Nat → Int) → (Nat → Int → Int) → Prop) (y1 : Int) (y2 : Int) (F : Nat → Int) (A : Nat → Int → Int) : Prop := 0 ≤ y1 ∧ y1 < 1 ∧ Q 0 F (ua A 42 y1 y2)
def w_La_kind (mo : Nat) (F : Nat → Int) (A : Nat → Int → Int) (x1 : Int) (x2 : Int) (x3 : Int) (Q : Int → (Nat → Int) → (Nat → Int → Int) → Prop) : Prop := w_Lr_kind mo F A x1 x2 x3 (fun z3 F3 A3 => rg z3 ∧ ((z3 = 0 → w_La_kind_b18 mo Q 0 0 F3 A3) ∧ (¬ z3 = 0 → w_La_kind_b18 mo Q 0 1 F3 A3))) (fun E => (E = eB ∧ Q 1 F A) ∨ (E = eA ∧ Q 2 F A))
set_option maxHeartbeats 4000000 in
set_option maxRecDepth 100000 in
theorem s_La_kind_b18 (C0 : x_C p s m args meth c c_La_kind 6 (some .int) gT R_La) (hA : ∀ q : Nat, s.heap.size ≤ q → A0 q) {mo : Nat} {Q : Int → (Nat → Int) → (Nat → Int → Int) → Prop} (y1 : Int) (y2 : Int) (F : Nat → Int) (A : Nat → Int → Int) (h : w_La_kind_b18 mo Q y1 y2 F A) (H : Heap) (locs : List Loc) (ls : Array Slot) (hS : x_S D vCl shU ad cA (NN mo) A0 s F A H locs) (hl : lv_has ls 6 []) : W p l e ({ frames := 8, cells := 1, slots := 6, locals := 134 } : Room) s m args below meth c H locs 0 0 (MQ below (x_QI D vCl shU ad cA (NN mo) A0 Q) args s 1 6 A0) (F0 m 18 ls [.long (lI y2), .int (iI y1), .ref (ad 49)]) := by
  obtain ⟨hx, hb, hr, hml, hown, hts, hlocks⟩ := id C0
  obtain ⟨g1, h⟩ := h
  obtain ⟨g2, h⟩ := h
  refine r_last (id := 42) (i := y1) (v := y2) hx hb hS 49 rfl g1 g2 (seta_42 ad cA mo _ _ _ _) d_La_kind_18 (fun H locs hS => ?_)
  refine lv_goto (tgt := 30) hx hb d_La_kind_19 (by decide) ?_
  refine r_iconst hx hb d_La_kind_30 ?_
  refine W.widen (k := 1) (n := 6) (Nat.zero_le _) (Nat.zero_le _) ?_
  exact r_iret (z := 0) hx hb hr hlocks hS h d_La_kind_31
set_option maxHeartbeats 4000000 in
set_option maxRecDepth 100000 in
theorem ct_La_kind (l : Launch) (hlT : l.stackTraces = false) (D : va_G) (ad : Nat → Nat) (cA : Nat → ClassId) (mo sz : Nat) (F : Nat → Int) (A : Nat → Int → Int) (x1 : Int) (x2 : Int) (x3 : Int) (Q : Int → (Nat → Int) → (Nat → Int → Int) → Prop) (h : w_La_kind mo F A x1 x2 x3 Q) : Met l y_La_kind (Cond.codeWith y_La_kind c_La_kind 6 (some .int) [((0 : Nat), (19 : Nat), (22 : Nat), (21 : Nat)), ((0 : Nat), (19 : Nat), (26 : Nat), (15 : Nat))] :: gT) ({ frames := 8, cells := 1, slots := 6, locals := 134 } : Room) (va_Pc [.ref (ad 0), .int (iI x1), .int (iI x2), .int (iI x3), .ref (ad 49)] (y_P D vCl shU ad cA (NN mo) sz F A)) (x_QI D vCl shU ad cA (NN mo) (va_A (x_w shU ad cA (NN mo) F A) sz) Q) 1 6 (va_A (x_w shU ad cA (NN mo) F A) sz) := by
  refine va_MetW (cc := c_La_kind) (maxL := 6) (ret := some .int) (hh := [((0 : Nat), (19 : Nat), (22 : Nat), (21 : Nat)), ((0 : Nat), (19 : Nat), (26 : Nat), (15 : Nat))]) (by decide) rfl ?_
  intro p e s m args below meth c s₁ B hml hv
  obtain ⟨rfl, ⟨hsz, hP, hK, hD0, hN0⟩, hZ, hN⟩ := hv
  have hx := B.exec
  have hb := B.bytes
  have hr := B.returns
  have hts0 := atoms_spec (ws := (Cond.codeWith y_La_kind c_La_kind 6 (some .int) [((0 : Nat), (19 : Nat), (22 : Nat), (21 : Nat)), ((0 : Nat), (19 : Nat), (26 : Nat), (15 : Nat))] :: gT)) B.pre
  have hts : ∀ w ∈ gT, w.before _ s = true := fun w h => hts0 w (List.mem_cons_of_mem _ h)
  have hown : s.vm.findClass R_La = some m.cls := findClass_of_methodNamed B.named
  have hlocks := B.notSynchronized
  subst hsz
  have htab : c.exceptionTable.toList = List.map y_ent [((0 : Nat), (19 : Nat), (22 : Nat), (21 : Nat)), ((0 : Nat), (19 : Nat), (26 : Nat), (15 : Nat))] := by
    obtain ⟨m9, meth9, c9, n1, n2, n3, -, -, n4, -, -, -⟩ := Cond.codeWith_spec (hts0 _ List.mem_cons_self)
    cases B.named.symm.trans n1
    cases B.method.symm.trans n2
    cases (Stand.of_body B).code.symm.trans n3
    exact y_tab n4
  have hS : x_S D vCl shU ad cA (NN mo) (va_A (x_w shU ad cA (NN mo) F A) s.heap.size) s F A s.heap [] := ⟨hK, hP, hD0.self, va_S.rf, hN0⟩
  have hA : ∀ q : Nat, s.heap.size ≤ q → va_A (x_w shU ad cA (NN mo) F A) s.heap.size q := fun q h => Or.inr h
  have C0 : x_C p s m [.ref (ad 0), .int (iI x1), .int (iI x2), .int (iI x3), .ref (ad 49)].toArray meth c c_La_kind 6 (some .int) gT R_La := ⟨hx, hb, hr, hml, hown, hts, hlocks⟩
  generalize va_A (x_w shU ad cA (NN mo) F A) s.heap.size = A0 at hS hA hZ ⊢
  have hl := lv_entry [.ref (ad 0), .int (iI x1), .int (iI x2), .int (iI x3), .ref (ad 49)] (n := 6) (Nat.le_of_ble_eq_true rfl)
  rw [lg_entry_eq]
  generalize (lg_sl [.ref (ad 0), .int (iI x1), .int (iI x2), .int (iI x3), .ref (ad 49)] ++ List.replicate (6 - (lg_sl [.ref (ad 0), .int (iI x1), .int (iI x2), .int (iI x3), .ref (ad 49)]).length) Slot.unset).toArray = ls at hl ⊢
  have hl : lv_has ls 6 [(0, .ref (ad 0)), (1, .int (iI x1)), (2, .int (iI x2)), (3, .int (iI x3)), (4, .ref (ad 49))] := hl
  refine lv_aload hx hb d_La_kind_0 (lv_at hl 4 rfl) ?_
  refine r_iconst hx hb d_La_kind_2 ?_
  refine lv_aload_n hx hb d_La_kind_3 rfl (lv_at hl 0 rfl) ?_
  refine lv_iload_n hx hb d_La_kind_4 rfl (lv_at hl 1 rfl) ?_
  refine lv_iload_n hx hb d_La_kind_5 rfl (lv_at hl 2 rfl) ?_
  refine lv_iload_n hx hb d_La_kind_6 rfl (lv_at hl 3 rfl) ?_
  refine y_ci (y_runV (As := [.int (iI x1), .int (iI x2), .int (iI x3)]) (rest := [.int (iI 0), .ref (ad 49)]) ⟨hx, hb, hml, hown, hts⟩ (ct_Lr_kind l hlT D ad cA mo _ _ _ _ _ _ _ _ h) (cwV 3 hts (gV tw_486 tw_487 tw_488 tw_1 tw_489) rfl rfl rfl (by decide +kernel) ⟨Nat.le_of_ble_eq_true rfl, Nat.le_of_ble_eq_true rfl⟩) (y_preV hS hZ hN 0 rfl rfl _) rfl rfl hl.1 rfl (lv_room (Nat.le_of_ble_eq_true rfl)) d_La_kind_7 ⟨Nat.le_of_ble_eq_true rfl, Nat.le_of_ble_eq_true rfl⟩) hS hA (fun E T hE hS => ?_) (fun z3 F3 A3 H locs hS h => ?_)
  · rcases hE with ⟨rfl, h⟩ | ⟨rfl, h⟩
    · refine y_into (nm := eB) hown [] (y_ent (0, 19, 22, 21)) [y_ent (0, 19, 26, 15)] htab (fun z hz => by cases hz) (by decide +kernel) (by decide +kernel) (hts _ tw_412) (y_zat hZ (by decide +kernel)) (fun q => ?_)
      refine lv_astore (lv' := [(5, .ref q), (0, .ref (ad 0)), (1, .int (iI x1)), (2, .int (iI x2)), (3, .int (iI x3)), (4, .ref (ad 49))]) hx hb d_La_kind_22 hl (by decide) rfl (fun ls hl => ?_)
      refine r_iconst hx hb d_La_kind_24 ?_
      exact r_iret (z := 1) hx hb hr hlocks hS h d_La_kind_25
    · refine y_into (nm := eA) hown [y_ent (0, 19, 22, 21)] (y_ent (0, 19, 26, 15)) [] htab (fun z hz => by simp only [List.mem_cons, List.not_mem_nil, or_false] at hz; rcases hz with rfl <;> first | exact ⟨by decide +kernel, by decide +kernel, eB, hts _ tw_412, hN.1.2.1⟩) (by decide +kernel) (by decide +kernel) (hts _ tw_315) (y_zat hZ (by decide +kernel)) (fun q => ?_)
      refine lv_astore (lv' := [(5, .ref q), (0, .ref (ad 0)), (1, .int (iI x1)), (2, .int (iI x2)), (3, .int (iI x3)), (4, .ref (ad 49))]) hx hb d_La_kind_26 hl (by decide) rfl (fun ls hl => ?_)
      refine r_iconst hx hb d_La_kind_28 ?_
      exact r_iret (z := 2) hx hb hr hlocks hS h d_La_kind_29
  · skip
    obtain ⟨g4, h⟩ := h
    refine r_if_eq (tgt := 17) hx hb g4 d_La_kind_10 (by decide) (fun hc => ?_) (fun hc => ?_)
    · replace h := h.1 hc
      refine r_lconst hx hb 0 d_La_kind_17 (by decide +kernel) ?_
      exact s_La_kind_b18 C0 hA _ _ _ _ h _ _ _ hS (lv_sub hl [] rfl)
    · replace h := h.2 hc
      refine r_lconst hx hb 1 d_La_kind_13 (by decide +kernel) ?_
      refine lv_goto (tgt := 18) hx hb d_La_kind_14 (by decide) ?_
      exact s_La_kind_b18 C0 hA _ _ _ _ h _ _ _ hS (lv_sub hl [] rfl)
/-! La_space -/
def w_La_space_b18 (mo : Nat) (Q : Int → (Nat → Int) → (Nat → Int → Int) → Prop) (y1 : Int) (y2 : Int) (F : Nat → Int) (A : Nat → Int → Int) : Prop := 0 ≤ y1 ∧ y1 < 1 ∧ Q 0 F (ua A 42 y1 y2)
def w_La_space (mo : Nat) (F : Nat → Int) (A : Nat → Int → Int) (x1 : Int) (x2 : Int) (x3 : Int) (Q : Int → (Nat → Int) → (Nat → Int → Int) → Prop) : Prop := w_Lr_space mo F A x1 x2 x3 (fun z3 F3 A3 => rg z3 ∧ ((z3 = 0 → w_La_space_b18 mo Q 0 0 F3 A3) ∧ (¬ z3 = 0 → w_La_space_b18 mo Q 0 1 F3 A3))) (fun E => (E = eA ∧ Q 1 F A))
set_option maxHeartbeats 4000000 in
set_option maxRecDepth 100000 in
theorem s_La_space_b18 (C0 : x_C p s m args meth c c_La_space 7 (some .int) gT R_La) (hA : ∀ q : Nat, s.heap.size ≤ q → A0 q) {mo : Nat} {Q : Int → (Nat → Int) → (Nat → Int → Int) → Prop} (y1 : Int) (y2 : Int) (F : Nat → Int) (A : Nat → Int → Int) (h : w_La_space_b18 mo Q y1 y2 F A) (H : Heap) (locs : List Loc) (ls : Array Slot) (hS : x_S D vCl shU ad cA (NN mo) A0 s F A H locs) (hl : lv_has ls 7 []) : W p l e ({ frames := 8, cells := 1, slots := 6, locals := 135 } : Room) s m args below meth c H locs 0 0 (MQ below (x_QI D vCl shU ad cA (NN mo) A0 Q) args s 1 6 A0) (F0 m 18 ls [.long (lI y2), .int (iI y1), .ref (ad 49)]) := by
  obtain ⟨hx, hb, hr, hml, hown, hts, hlocks⟩ := id C0
  obtain ⟨g1, h⟩ := h
  obtain ⟨g2, h⟩ := h
  refine r_last (id := 42) (i := y1) (v := y2) hx hb hS 49 rfl g1 g2 (seta_42 ad cA mo _ _ _ _) d_La_space_18 (fun H locs hS => ?_)
  refine lv_goto (tgt := 26) hx hb d_La_space_19 (by decide) ?_
  refine r_iconst hx hb d_La_space_26 ?_
  refine W.widen (k := 1) (n := 6) (Nat.zero_le _) (Nat.zero_le _) ?_
  exact r_iret (z := 0) hx hb hr hlocks hS h d_La_space_27
set_option maxHeartbeats 4000000 in
set_option maxRecDepth 100000 in
theorem ct_La_space (l : Launch) (hlT : l.stackTraces = false) (D : va_G) (ad : Nat → Nat) (cA : Nat → ClassId) (mo sz : Nat) (F : Nat → Int) (A : Nat → Int → Int) (x1 : Int) (x2 : Int) (x3 : Int) (Q : Int → (Nat → Int) → (Nat → Int → Int) → Prop) (h : w_La_space mo F A x1 x2 x3 Q) : Met l y_La_space (Cond.codeWith y_La_space c_La_space 7 (some .int) [((0 : Nat), (19 : Nat), (22 : Nat), (15 : Nat))] :: gT) ({ frames := 8, cells := 1, slots := 6, locals := 135 } : Room) (va_Pc [.ref (ad 0), .int (iI x1), .int (iI x2), .long (lI x3), .ref (ad 49)] (y_P D vCl shU ad cA (NN mo) sz F A)) (x_QI D vCl shU ad cA (NN mo) (va_A (x_w shU ad cA (NN mo) F A) sz) Q) 1 6 (va_A (x_w shU ad cA (NN mo) F A) sz) := by
  refine va_MetW (cc := c_La_space) (maxL := 7) (ret := some .int) (hh := [((0 : Nat), (19 : Nat), (22 : Nat), (15 : Nat))]) (by decide) rfl ?_
  intro p e s m args below meth c s₁ B hml hv
  obtain ⟨rfl, ⟨hsz, hP, hK, hD0, hN0⟩, hZ, hN⟩ := hv
  have hx := B.exec
  have hb := B.bytes
  have hr := B.returns
  have hts0 := atoms_spec (ws := (Cond.codeWith y_La_space c_La_space 7 (some .int) [((0 : Nat), (19 : Nat), (22 : Nat), (15 : Nat))] :: gT)) B.pre
  have hts : ∀ w ∈ gT, w.before _ s = true := fun w h => hts0 w (List.mem_cons_of_mem _ h)
  have hown : s.vm.findClass R_La = some m.cls := findClass_of_methodNamed B.named
  have hlocks := B.notSynchronized
  subst hsz
  have htab : c.exceptionTable.toList = List.map y_ent [((0 : Nat), (19 : Nat), (22 : Nat), (15 : Nat))] := by
    obtain ⟨m9, meth9, c9, n1, n2, n3, -, -, n4, -, -, -⟩ := Cond.codeWith_spec (hts0 _ List.mem_cons_self)
    cases B.named.symm.trans n1
    cases B.method.symm.trans n2
    cases (Stand.of_body B).code.symm.trans n3
    exact y_tab n4
  have hS : x_S D vCl shU ad cA (NN mo) (va_A (x_w shU ad cA (NN mo) F A) s.heap.size) s F A s.heap [] := ⟨hK, hP, hD0.self, va_S.rf, hN0⟩
  have hA : ∀ q : Nat, s.heap.size ≤ q → va_A (x_w shU ad cA (NN mo) F A) s.heap.size q := fun q h => Or.inr h
  have C0 : x_C p s m [.ref (ad 0), .int (iI x1), .int (iI x2), .long (lI x3), .ref (ad 49)].toArray meth c c_La_space 7 (some .int) gT R_La := ⟨hx, hb, hr, hml, hown, hts, hlocks⟩
  generalize va_A (x_w shU ad cA (NN mo) F A) s.heap.size = A0 at hS hA hZ ⊢
  have hl := lv_entry [.ref (ad 0), .int (iI x1), .int (iI x2), .long (lI x3), .ref (ad 49)] (n := 7) (Nat.le_of_ble_eq_true rfl)
  rw [lg_entry_eq]
  generalize (lg_sl [.ref (ad 0), .int (iI x1), .int (iI x2), .long (lI x3), .ref (ad 49)] ++ List.replicate (7 - (lg_sl [.ref (ad 0), .int (iI x1), .int (iI x2), .long (lI x3), .ref (ad 49)]).length) Slot.unset).toArray = ls at hl ⊢
  have hl : lv_has ls 7 [(0, .ref (ad 0)), (1, .int (iI x1)), (2, .int (iI x2)), (3, .long (lI x3)), (5, .ref (ad 49))] := hl
  refine lv_aload hx hb d_La_space_0 (lv_at hl 4 rfl) ?_
  refine r_iconst hx hb d_La_space_2 ?_
  refine lv_aload_n hx hb d_La_space_3 rfl (lv_at hl 0 rfl) ?_
  refine lv_iload_n hx hb d_La_space_4 rfl (lv_at hl 1 rfl) ?_
  refine lv_iload_n hx hb d_La_space_5 rfl (lv_at hl 2 rfl) ?_
  refine lv_lload_n hx hb d_La_space_6 rfl (lv_at hl 3 rfl) ?_
  refine y_ci (y_runV (As := [.int (iI x1), .int (iI x2), .long (lI x3)]) (rest := [.int (iI 0), .ref (ad 49)]) ⟨hx, hb, hml, hown, hts⟩ (ct_Lr_space l hlT D ad cA mo _ _ _ _ _ _ _ _ h) (cwV 3 hts (gV tw_501 tw_502 tw_503 tw_1 tw_504) rfl rfl rfl (by decide +kernel) ⟨Nat.le_of_ble_eq_true rfl, Nat.le_of_ble_eq_true rfl⟩) (y_preV hS hZ hN 0 rfl rfl _) rfl rfl hl.1 rfl (lv_room (Nat.le_of_ble_eq_true rfl)) d_La_space_7 ⟨Nat.le_of_ble_eq_true rfl, Nat.le_of_ble_eq_true rfl⟩) hS hA (fun E T hE hS => ?_) (fun z3 F3 A3 H locs hS h => ?_)
  · obtain ⟨rfl, h⟩ := hE
    · refine y_into (nm := eA) hown [] (y_ent (0, 19, 22, 15)) [] htab (fun z hz => by cases hz) (by decide +kernel) (by decide +kernel) (hts _ tw_315) (y_zat hZ (by decide +kernel)) (fun q => ?_)
      refine lv_astore (lv' := [(6, .ref q), (0, .ref (ad 0)), (1, .int (iI x1)), (2, .int (iI x2)), (3, .long (lI x3)), (5, .ref (ad 49))]) hx hb d_La_space_22 hl (by decide) rfl (fun ls hl => ?_)
      refine r_iconst hx hb d_La_space_24 ?_
      exact r_iret (z := 1) hx hb hr hlocks hS h d_La_space_25
  · skip
    obtain ⟨g4, h⟩ := h
    refine r_if_eq (tgt := 17) hx hb g4 d_La_space_10 (by decide) (fun hc => ?_) (fun hc => ?_)
    · replace h := h.1 hc
      refine r_lconst hx hb 0 d_La_space_17 (by decide +kernel) ?_
      exact s_La_space_b18 C0 hA _ _ _ _ h _ _ _ hS (lv_sub hl [] rfl)
    · replace h := h.2 hc
      refine r_lconst hx hb 1 d_La_space_13 (by decide +kernel) ?_
      refine lv_goto (tgt := 18) hx hb d_La_space_14 (by decide) ?_
      exact s_La_space_b18 C0 hA _ _ _ _ h _ _ _ hS (lv_sub hl [] rfl)
/-! La_at -/
def w_La_at (mo : Nat) (F : Nat → Int) (A : Nat → Int → Int) (x1 : Int) (Q : Int → (Nat → Int) → (Nat → Int → Int) → Prop) : Prop := w_Lr_at mo F A x1 (fun z1 => (0 : Int) ≤ 0 ∧ (0 : Int) < 1 ∧ Q 0 F (ua A 42 0 z1)) (fun E => (E = eB ∧ Q 1 F A) ∨ (E = eS ∧ Q 2 F A))
set_option maxHeartbeats 4000000 in
set_option maxRecDepth 100000 in
theorem ct_La_at (l : Launch) (hlT : l.stackTraces = false) (D : va_G) (ad : Nat → Nat) (cA : Nat → ClassId) (mo sz : Nat) (F : Nat → Int) (A : Nat → Int → Int) (x1 : Int) (Q : Int → (Nat → Int) → (Nat → Int → Int) → Prop) (h : w_La_at mo F A x1 Q) : Met l y_La_at (Cond.codeWith y_La_at c_La_at 4 (some .int) [((0 : Nat), (8 : Nat), (11 : Nat), (21 : Nat)), ((0 : Nat), (8 : Nat), (14 : Nat), (13 : Nat))] :: gT) ({ frames := 8, cells := 1, slots := 6, locals := 132 } : Room) (va_Pc [.ref (ad 0), .int (iI x1), .ref (ad 49)] (y_P D vCl shU ad cA (NN mo) sz F A)) (x_QI D vCl shU ad cA (NN mo) (va_A (x_w shU ad cA (NN mo) F A) sz) Q) 1 6 (va_A (x_w shU ad cA (NN mo) F A) sz) := by
  refine va_MetW (cc := c_La_at) (maxL := 4) (ret := some .int) (hh := [((0 : Nat), (8 : Nat), (11 : Nat), (21 : Nat)), ((0 : Nat), (8 : Nat), (14 : Nat), (13 : Nat))]) (by decide) rfl ?_
  intro p e s m args below meth c s₁ B hml hv
  obtain ⟨rfl, ⟨hsz, hP, hK, hD0, hN0⟩, hZ, hN⟩ := hv
  have hx := B.exec
  have hb := B.bytes
  have hr := B.returns
  have hts0 := atoms_spec (ws := (Cond.codeWith y_La_at c_La_at 4 (some .int) [((0 : Nat), (8 : Nat), (11 : Nat), (21 : Nat)), ((0 : Nat), (8 : Nat), (14 : Nat), (13 : Nat))] :: gT)) B.pre
  have hts : ∀ w ∈ gT, w.before _ s = true := fun w h => hts0 w (List.mem_cons_of_mem _ h)
  have hown : s.vm.findClass R_La = some m.cls := findClass_of_methodNamed B.named
  have hlocks := B.notSynchronized
  subst hsz
  have htab : c.exceptionTable.toList = List.map y_ent [((0 : Nat), (8 : Nat), (11 : Nat), (21 : Nat)), ((0 : Nat), (8 : Nat), (14 : Nat), (13 : Nat))] := by
    obtain ⟨m9, meth9, c9, n1, n2, n3, -, -, n4, -, -, -⟩ := Cond.codeWith_spec (hts0 _ List.mem_cons_self)
    cases B.named.symm.trans n1
    cases B.method.symm.trans n2
    cases (Stand.of_body B).code.symm.trans n3
    exact y_tab n4
  have hS : x_S D vCl shU ad cA (NN mo) (va_A (x_w shU ad cA (NN mo) F A) s.heap.size) s F A s.heap [] := ⟨hK, hP, hD0.self, va_S.rf, hN0⟩
  have hA : ∀ q : Nat, s.heap.size ≤ q → va_A (x_w shU ad cA (NN mo) F A) s.heap.size q := fun q h => Or.inr h
  have C0 : x_C p s m [.ref (ad 0), .int (iI x1), .ref (ad 49)].toArray meth c c_La_at 4 (some .int) gT R_La := ⟨hx, hb, hr, hml, hown, hts, hlocks⟩
  generalize va_A (x_w shU ad cA (NN mo) F A) s.heap.size = A0 at hS hA hZ ⊢
  have hl := lv_entry [.ref (ad 0), .int (iI x1), .ref (ad 49)] (n := 4) (Nat.le_of_ble_eq_true rfl)
  rw [lg_entry_eq]
  generalize (lg_sl [.ref (ad 0), .int (iI x1), .ref (ad 49)] ++ List.replicate (4 - (lg_sl [.ref (ad 0), .int (iI x1), .ref (ad 49)]).length) Slot.unset).toArray = ls at hl ⊢
  have hl : lv_has ls 4 [(0, .ref (ad 0)), (1, .int (iI x1)), (2, .ref (ad 49))] := hl
  refine lv_aload_n hx hb d_La_at_0 rfl (lv_at hl 2 rfl) ?_
  refine r_iconst hx hb d_La_at_1 ?_
  refine lv_aload_n hx hb d_La_at_2 rfl (lv_at hl 0 rfl) ?_
  refine lv_iload_n hx hb d_La_at_3 rfl (lv_at hl 1 rfl) ?_
  refine y_cl (y_runV (As := [.int (iI x1)]) (rest := [.int (iI 0), .ref (ad 49)]) ⟨hx, hb, hml, hown, hts⟩ (ct_Lr_at l hlT D ad cA mo _ _ _ _ _ _ h) (cwV 1 hts (gV tw_514 tw_515 tw_516 tw_1 tw_517) rfl rfl rfl (by decide +kernel) ⟨Nat.le_of_ble_eq_true rfl, Nat.le_of_ble_eq_true rfl⟩) (y_preV hS hZ hN 0 rfl rfl _) rfl rfl hl.1 rfl (lv_room (Nat.le_of_ble_eq_true rfl)) d_La_at_4 ⟨Nat.le_of_ble_eq_true rfl, Nat.le_of_ble_eq_true rfl⟩) hS hA (fun E T hE hS => ?_) (fun z1 F1 A1 H locs hS h => ?_)
  · rcases hE with ⟨rfl, h⟩ | ⟨rfl, h⟩
    · refine y_into (nm := eB) hown [] (y_ent (0, 8, 11, 21)) [y_ent (0, 8, 14, 13)] htab (fun z hz => by cases hz) (by decide +kernel) (by decide +kernel) (hts _ tw_412) (y_zat hZ (by decide +kernel)) (fun q => ?_)
      refine lv_astore_n (lv' := [(3, .ref q), (0, .ref (ad 0)), (1, .int (iI x1)), (2, .ref (ad 49))]) hx hb d_La_at_11 rfl hl (by decide) rfl (fun ls hl => ?_)
      refine r_iconst hx hb d_La_at_12 ?_
      exact r_iret (z := 1) hx hb hr hlocks hS h d_La_at_13
    · refine y_into (nm := eS) hown [y_ent (0, 8, 11, 21)] (y_ent (0, 8, 14, 13)) [] htab (fun z hz => by simp only [List.mem_cons, List.not_mem_nil, or_false] at hz; rcases hz with rfl <;> first | exact ⟨by decide +kernel, by decide +kernel, eB, hts _ tw_412, hN.1.2.2⟩) (by decide +kernel) (by decide +kernel) (hts _ tw_314) (y_zat hZ (by decide +kernel)) (fun q => ?_)
      refine lv_astore_n (lv' := [(3, .ref q), (0, .ref (ad 0)), (1, .int (iI x1)), (2, .ref (ad 49))]) hx hb d_La_at_14 rfl hl (by decide) rfl (fun ls hl => ?_)
      refine r_iconst hx hb d_La_at_15 ?_
      exact r_iret (z := 2) hx hb hr hlocks hS h d_La_at_16
  · obtain ⟨rfl, rfl, h⟩ := h
    obtain ⟨g2, h⟩ := h
    obtain ⟨g3, h⟩ := h
    refine r_last (id := 42) (i := 0) (v := z1) hx hb hS 49 rfl g2 g3 (seta_42 ad cA mo _ _ _ _) d_La_at_7 (fun H locs hS => ?_)
    refine lv_goto (tgt := 17) hx hb d_La_at_8 (by decide) ?_
    refine r_iconst hx hb d_La_at_17 ?_
    refine W.widen (k := 1) (n := 6) (Nat.zero_le _) (Nat.zero_le _) ?_
    exact r_iret (z := 0) hx hb hr hlocks hS h d_La_at_18
/-! La_rowOf -/
def w_La_rowOf (mo : Nat) (F : Nat → Int) (A : Nat → Int → Int) (x1 : Int) (Q : Int → (Nat → Int) → (Nat → Int → Int) → Prop) : Prop := w_Lr_rowOf mo F A x1 (fun z1 => rg z1 ∧ (0 : Int) ≤ 0 ∧ (0 : Int) < 1 ∧ Q 0 F (ua A 42 0 z1)) (fun E => (E = eB ∧ Q 1 F A) ∨ (E = eS ∧ Q 2 F A))
set_option maxHeartbeats 4000000 in
set_option maxRecDepth 100000 in
theorem ct_La_rowOf (l : Launch) (hlT : l.stackTraces = false) (D : va_G) (ad : Nat → Nat) (cA : Nat → ClassId) (mo sz : Nat) (F : Nat → Int) (A : Nat → Int → Int) (x1 : Int) (Q : Int → (Nat → Int) → (Nat → Int → Int) → Prop) (h : w_La_rowOf mo F A x1 Q) : Met l y_La_rowOf (Cond.codeWith y_La_rowOf c_La_rowOf 4 (some .int) [((0 : Nat), (9 : Nat), (12 : Nat), (21 : Nat)), ((0 : Nat), (9 : Nat), (15 : Nat), (13 : Nat))] :: gT) ({ frames := 8, cells := 1, slots := 6, locals := 132 } : Room) (va_Pc [.ref (ad 0), .int (iI x1), .ref (ad 49)] (y_P D vCl shU ad cA (NN mo) sz F A)) (x_QI D vCl shU ad cA (NN mo) (va_A (x_w shU ad cA (NN mo) F A) sz) Q) 1 6 (va_A (x_w shU ad cA (NN mo) F A) sz) := by
  refine va_MetW (cc := c_La_rowOf) (maxL := 4) (ret := some .int) (hh := [((0 : Nat), (9 : Nat), (12 : Nat), (21 : Nat)), ((0 : Nat), (9 : Nat), (15 : Nat), (13 : Nat))]) (by decide) rfl ?_
  intro p e s m args below meth c s₁ B hml hv
  obtain ⟨rfl, ⟨hsz, hP, hK, hD0, hN0⟩, hZ, hN⟩ := hv
  have hx := B.exec
  have hb := B.bytes
  have hr := B.returns
  have hts0 := atoms_spec (ws := (Cond.codeWith y_La_rowOf c_La_rowOf 4 (some .int) [((0 : Nat), (9 : Nat), (12 : Nat), (21 : Nat)), ((0 : Nat), (9 : Nat), (15 : Nat), (13 : Nat))] :: gT)) B.pre
  have hts : ∀ w ∈ gT, w.before _ s = true := fun w h => hts0 w (List.mem_cons_of_mem _ h)
  have hown : s.vm.findClass R_La = some m.cls := findClass_of_methodNamed B.named
  have hlocks := B.notSynchronized
  subst hsz
  have htab : c.exceptionTable.toList = List.map y_ent [((0 : Nat), (9 : Nat), (12 : Nat), (21 : Nat)), ((0 : Nat), (9 : Nat), (15 : Nat), (13 : Nat))] := by
    obtain ⟨m9, meth9, c9, n1, n2, n3, -, -, n4, -, -, -⟩ := Cond.codeWith_spec (hts0 _ List.mem_cons_self)
    cases B.named.symm.trans n1
    cases B.method.symm.trans n2
    cases (Stand.of_body B).code.symm.trans n3
    exact y_tab n4
  have hS : x_S D vCl shU ad cA (NN mo) (va_A (x_w shU ad cA (NN mo) F A) s.heap.size) s F A s.heap [] := ⟨hK, hP, hD0.self, va_S.rf, hN0⟩
  have hA : ∀ q : Nat, s.heap.size ≤ q → va_A (x_w shU ad cA (NN mo) F A) s.heap.size q := fun q h => Or.inr h
  have C0 : x_C p s m [.ref (ad 0), .int (iI x1), .ref (ad 49)].toArray meth c c_La_rowOf 4 (some .int) gT R_La := ⟨hx, hb, hr, hml, hown, hts, hlocks⟩
  generalize va_A (x_w shU ad cA (NN mo) F A) s.heap.size = A0 at hS hA hZ ⊢
  have hl := lv_entry [.ref (ad 0), .int (iI x1), .ref (ad 49)] (n := 4) (Nat.le_of_ble_eq_true rfl)
  rw [lg_entry_eq]
  generalize (lg_sl [.ref (ad 0), .int (iI x1), .ref (ad 49)] ++ List.replicate (4 - (lg_sl [.ref (ad 0), .int (iI x1), .ref (ad 49)]).length) Slot.unset).toArray = ls at hl ⊢
  have hl : lv_has ls 4 [(0, .ref (ad 0)), (1, .int (iI x1)), (2, .ref (ad 49))] := hl
  refine lv_aload_n hx hb d_La_rowOf_0 rfl (lv_at hl 2 rfl) ?_
  refine r_iconst hx hb d_La_rowOf_1 ?_
  refine lv_aload_n hx hb d_La_rowOf_2 rfl (lv_at hl 0 rfl) ?_
  refine lv_iload_n hx hb d_La_rowOf_3 rfl (lv_at hl 1 rfl) ?_
  refine y_ci (y_runV (As := [.int (iI x1)]) (rest := [.int (iI 0), .ref (ad 49)]) ⟨hx, hb, hml, hown, hts⟩ (ct_Lr_rowOf l hlT D ad cA mo _ _ _ _ _ _ h) (cwV 1 hts (gV tw_526 tw_527 tw_528 tw_1 tw_529) rfl rfl rfl (by decide +kernel) ⟨Nat.le_of_ble_eq_true rfl, Nat.le_of_ble_eq_true rfl⟩) (y_preV hS hZ hN 0 rfl rfl _) rfl rfl hl.1 rfl (lv_room (Nat.le_of_ble_eq_true rfl)) d_La_rowOf_4 ⟨Nat.le_of_ble_eq_true rfl, Nat.le_of_ble_eq_true rfl⟩) hS hA (fun E T hE hS => ?_) (fun z1 F1 A1 H locs hS h => ?_)
  · rcases hE with ⟨rfl, h⟩ | ⟨rfl, h⟩
    · refine y_into (nm := eB) hown [] (y_ent (0, 9, 12, 21)) [y_ent (0, 9, 15, 13)] htab (fun z hz => by cases hz) (by decide +kernel) (by decide +kernel) (hts _ tw_412) (y_zat hZ (by decide +kernel)) (fun q => ?_)
      refine lv_astore_n (lv' := [(3, .ref q), (0, .ref (ad 0)), (1, .int (iI x1)), (2, .ref (ad 49))]) hx hb d_La_rowOf_12 rfl hl (by decide) rfl (fun ls hl => ?_)
      refine r_iconst hx hb d_La_rowOf_13 ?_
      exact r_iret (z := 1) hx hb hr hlocks hS h d_La_rowOf_14
    · refine y_into (nm := eS) hown [y_ent (0, 9, 12, 21)] (y_ent (0, 9, 15, 13)) [] htab (fun z hz => by simp only [List.mem_cons, List.not_mem_nil, or_false] at hz; rcases hz with rfl <;> first | exact ⟨by decide +kernel, by decide +kernel, eB, hts _ tw_412, hN.1.2.2⟩) (by decide +kernel) (by decide +kernel) (hts _ tw_314) (y_zat hZ (by decide +kernel)) (fun q => ?_)
      refine lv_astore_n (lv' := [(3, .ref q), (0, .ref (ad 0)), (1, .int (iI x1)), (2, .ref (ad 49))]) hx hb d_La_rowOf_15 rfl hl (by decide) rfl (fun ls hl => ?_)
      refine r_iconst hx hb d_La_rowOf_16 ?_
      exact r_iret (z := 2) hx hb hr hlocks hS h d_La_rowOf_17
  · obtain ⟨rfl, rfl, h⟩ := h
    obtain ⟨g2, h⟩ := h
    refine r_i2l hx hb g2 d_La_rowOf_7 ?_
    obtain ⟨g3, h⟩ := h
    obtain ⟨g4, h⟩ := h
    refine r_last (id := 42) (i := 0) (v := z1) hx hb hS 49 rfl g3 g4 (seta_42 ad cA mo _ _ _ _) d_La_rowOf_8 (fun H locs hS => ?_)
    refine lv_goto (tgt := 18) hx hb d_La_rowOf_9 (by decide) ?_
    refine r_iconst hx hb d_La_rowOf_18 ?_
    refine W.widen (k := 1) (n := 6) (Nat.zero_le _) (Nat.zero_le _) ?_
    exact r_iret (z := 0) hx hb hr hlocks hS h d_La_rowOf_19
/-! La_moved -/
def w_La_moved (mo : Nat) (F : Nat → Int) (A : Nat → Int → Int)  (Q : Int → (Nat → Int) → (Nat → Int → Int) → Prop) : Prop := w_Lr_moved mo F A (fun z1 => (0 : Int) ≤ 0 ∧ (0 : Int) < 1 ∧ Q 0 F (ua A 42 0 z1)) (fun E => (E = eS ∧ Q 1 F A))
set_option maxHeartbeats 4000000 in
set_option maxRecDepth 100000 in
theorem ct_La_moved (l : Launch) (hlT : l.stackTraces = false) (D : va_G) (ad : Nat → Nat) (cA : Nat → ClassId) (mo sz : Nat) (F : Nat → Int) (A : Nat → Int → Int)  (Q : Int → (Nat → Int) → (Nat → Int → Int) → Prop) (h : w_La_moved mo F A  Q) : Met l y_La_moved (Cond.codeWith y_La_moved c_La_moved 3 (some .int) [((0 : Nat), (7 : Nat), (10 : Nat), (13 : Nat))] :: gT) ({ frames := 8, cells := 1, slots := 6, locals := 130 } : Room) (va_Pc [.ref (ad 0), .ref (ad 49)] (y_P D vCl shU ad cA (NN mo) sz F A)) (x_QI D vCl shU ad cA (NN mo) (va_A (x_w shU ad cA (NN mo) F A) sz) Q) 1 6 (va_A (x_w shU ad cA (NN mo) F A) sz) := by
  refine va_MetW (cc := c_La_moved) (maxL := 3) (ret := some .int) (hh := [((0 : Nat), (7 : Nat), (10 : Nat), (13 : Nat))]) (by decide) rfl ?_
  intro p e s m args below meth c s₁ B hml hv
  obtain ⟨rfl, ⟨hsz, hP, hK, hD0, hN0⟩, hZ, hN⟩ := hv
  have hx := B.exec
  have hb := B.bytes
  have hr := B.returns
  have hts0 := atoms_spec (ws := (Cond.codeWith y_La_moved c_La_moved 3 (some .int) [((0 : Nat), (7 : Nat), (10 : Nat), (13 : Nat))] :: gT)) B.pre
  have hts : ∀ w ∈ gT, w.before _ s = true := fun w h => hts0 w (List.mem_cons_of_mem _ h)
  have hown : s.vm.findClass R_La = some m.cls := findClass_of_methodNamed B.named
  have hlocks := B.notSynchronized
  subst hsz
  have htab : c.exceptionTable.toList = List.map y_ent [((0 : Nat), (7 : Nat), (10 : Nat), (13 : Nat))] := by
    obtain ⟨m9, meth9, c9, n1, n2, n3, -, -, n4, -, -, -⟩ := Cond.codeWith_spec (hts0 _ List.mem_cons_self)
    cases B.named.symm.trans n1
    cases B.method.symm.trans n2
    cases (Stand.of_body B).code.symm.trans n3
    exact y_tab n4
  have hS : x_S D vCl shU ad cA (NN mo) (va_A (x_w shU ad cA (NN mo) F A) s.heap.size) s F A s.heap [] := ⟨hK, hP, hD0.self, va_S.rf, hN0⟩
  have hA : ∀ q : Nat, s.heap.size ≤ q → va_A (x_w shU ad cA (NN mo) F A) s.heap.size q := fun q h => Or.inr h
  have C0 : x_C p s m [.ref (ad 0), .ref (ad 49)].toArray meth c c_La_moved 3 (some .int) gT R_La := ⟨hx, hb, hr, hml, hown, hts, hlocks⟩
  generalize va_A (x_w shU ad cA (NN mo) F A) s.heap.size = A0 at hS hA hZ ⊢
  have hl := lv_entry [.ref (ad 0), .ref (ad 49)] (n := 3) (Nat.le_of_ble_eq_true rfl)
  rw [lg_entry_eq]
  generalize (lg_sl [.ref (ad 0), .ref (ad 49)] ++ List.replicate (3 - (lg_sl [.ref (ad 0), .ref (ad 49)]).length) Slot.unset).toArray = ls at hl ⊢
  have hl : lv_has ls 3 [(0, .ref (ad 0)), (1, .ref (ad 49))] := hl
  refine lv_aload_n hx hb d_La_moved_0 rfl (lv_at hl 1 rfl) ?_
  refine r_iconst hx hb d_La_moved_1 ?_
  refine lv_aload_n hx hb d_La_moved_2 rfl (lv_at hl 0 rfl) ?_
  refine y_cl (y_runV (As := []) (rest := [.int (iI 0), .ref (ad 49)]) ⟨hx, hb, hml, hown, hts⟩ (ct_Lr_moved l hlT D ad cA mo _ _ _ _ _ h) (cwV 0 hts (gV tw_533 tw_534 tw_535 tw_1 tw_536) rfl rfl rfl (by decide +kernel) ⟨Nat.le_of_ble_eq_true rfl, Nat.le_of_ble_eq_true rfl⟩) (y_preV hS hZ hN 0 rfl rfl _) rfl rfl hl.1 rfl (lv_room (Nat.le_of_ble_eq_true rfl)) d_La_moved_3 ⟨Nat.le_of_ble_eq_true rfl, Nat.le_of_ble_eq_true rfl⟩) hS hA (fun E T hE hS => ?_) (fun z1 F1 A1 H locs hS h => ?_)
  · obtain ⟨rfl, h⟩ := hE
    · refine y_into (nm := eS) hown [] (y_ent (0, 7, 10, 13)) [] htab (fun z hz => by cases hz) (by decide +kernel) (by decide +kernel) (hts _ tw_314) (y_zat hZ (by decide +kernel)) (fun q => ?_)
      refine lv_astore_n (lv' := [(2, .ref q), (0, .ref (ad 0)), (1, .ref (ad 49))]) hx hb d_La_moved_10 rfl hl (by decide) rfl (fun ls hl => ?_)
      refine r_iconst hx hb d_La_moved_11 ?_
      exact r_iret (z := 1) hx hb hr hlocks hS h d_La_moved_12
  · obtain ⟨rfl, rfl, h⟩ := h
    obtain ⟨g2, h⟩ := h
    obtain ⟨g3, h⟩ := h
    refine r_last (id := 42) (i := 0) (v := z1) hx hb hS 49 rfl g2 g3 (seta_42 ad cA mo _ _ _ _) d_La_moved_6 (fun H locs hS => ?_)
    refine lv_goto (tgt := 13) hx hb d_La_moved_7 (by decide) ?_
    refine r_iconst hx hb d_La_moved_13 ?_
    refine W.widen (k := 1) (n := 6) (Nat.zero_le _) (Nat.zero_le _) ?_
    exact r_iret (z := 0) hx hb hr hlocks hS h d_La_moved_14
/-! La_mirrored -/
def w_La_mirrored_b15 (mo : Nat) (Q : Int → (Nat → Int) → (Nat → Int → Int) → Prop) (y1 : Int) (y2 : Int) (F : Nat → Int) (A : Nat → Int → Int) : Prop := 0 ≤ y1 ∧ y1 < 1 ∧ Q 0 F (ua A 42 y1 y2)
def w_La_mirrored (mo : Nat) (F : Nat → Int) (A : Nat → Int → Int) (x1 : Int) (Q : Int → (Nat → Int) → (Nat → Int → Int) → Prop) : Prop := w_Lr_mirrored mo F A x1 (fun z3 => rg z3 ∧ ((z3 = 0 → w_La_mirrored_b15 mo Q 0 0 F A) ∧ (¬ z3 = 0 → w_La_mirrored_b15 mo Q 0 1 F A))) (fun E => (E = eB ∧ Q 1 F A) ∨ (E = eS ∧ Q 2 F A))
set_option maxHeartbeats 4000000 in
set_option maxRecDepth 100000 in
theorem s_La_mirrored_b15 (C0 : x_C p s m args meth c c_La_mirrored 4 (some .int) gT R_La) (hA : ∀ q : Nat, s.heap.size ≤ q → A0 q) {mo : Nat} {Q : Int → (Nat → Int) → (Nat → Int → Int) → Prop} (y1 : Int) (y2 : Int) (F : Nat → Int) (A : Nat → Int → Int) (h : w_La_mirrored_b15 mo Q y1 y2 F A) (H : Heap) (locs : List Loc) (ls : Array Slot) (hS : x_S D vCl shU ad cA (NN mo) A0 s F A H locs) (hl : lv_has ls 4 []) : W p l e ({ frames := 8, cells := 1, slots := 6, locals := 132 } : Room) s m args below meth c H locs 0 0 (MQ below (x_QI D vCl shU ad cA (NN mo) A0 Q) args s 1 6 A0) (F0 m 15 ls [.long (lI y2), .int (iI y1), .ref (ad 49)]) := by
  obtain ⟨hx, hb, hr, hml, hown, hts, hlocks⟩ := id C0
  obtain ⟨g1, h⟩ := h
  obtain ⟨g2, h⟩ := h
  refine r_last (id := 42) (i := y1) (v := y2) hx hb hS 49 rfl g1 g2 (seta_42 ad cA mo _ _ _ _) d_La_mirrored_15 (fun H locs hS => ?_)
  refine lv_goto (tgt := 25) hx hb d_La_mirrored_16 (by decide) ?_
  refine r_iconst hx hb d_La_mirrored_25 ?_
  refine W.widen (k := 1) (n := 6) (Nat.zero_le _) (Nat.zero_le _) ?_
  exact r_iret (z := 0) hx hb hr hlocks hS h d_La_mirrored_26
set_option maxHeartbeats 4000000 in
set_option maxRecDepth 100000 in
theorem ct_La_mirrored (l : Launch) (hlT : l.stackTraces = false) (D : va_G) (ad : Nat → Nat) (cA : Nat → ClassId) (mo sz : Nat) (F : Nat → Int) (A : Nat → Int → Int) (x1 : Int) (Q : Int → (Nat → Int) → (Nat → Int → Int) → Prop) (h : w_La_mirrored mo F A x1 Q) : Met l y_La_mirrored (Cond.codeWith y_La_mirrored c_La_mirrored 4 (some .int) [((0 : Nat), (16 : Nat), (19 : Nat), (21 : Nat)), ((0 : Nat), (16 : Nat), (22 : Nat), (13 : Nat))] :: gT) ({ frames := 8, cells := 1, slots := 6, locals := 132 } : Room) (va_Pc [.ref (ad 0), .int (iI x1), .ref (ad 49)] (y_P D vCl shU ad cA (NN mo) sz F A)) (x_QI D vCl shU ad cA (NN mo) (va_A (x_w shU ad cA (NN mo) F A) sz) Q) 1 6 (va_A (x_w shU ad cA (NN mo) F A) sz) := by
  refine va_MetW (cc := c_La_mirrored) (maxL := 4) (ret := some .int) (hh := [((0 : Nat), (16 : Nat), (19 : Nat), (21 : Nat)), ((0 : Nat), (16 : Nat), (22 : Nat), (13 : Nat))]) (by decide) rfl ?_
  intro p e s m args below meth c s₁ B hml hv
  obtain ⟨rfl, ⟨hsz, hP, hK, hD0, hN0⟩, hZ, hN⟩ := hv
  have hx := B.exec
  have hb := B.bytes
  have hr := B.returns
  have hts0 := atoms_spec (ws := (Cond.codeWith y_La_mirrored c_La_mirrored 4 (some .int) [((0 : Nat), (16 : Nat), (19 : Nat), (21 : Nat)), ((0 : Nat), (16 : Nat), (22 : Nat), (13 : Nat))] :: gT)) B.pre
  have hts : ∀ w ∈ gT, w.before _ s = true := fun w h => hts0 w (List.mem_cons_of_mem _ h)
  have hown : s.vm.findClass R_La = some m.cls := findClass_of_methodNamed B.named
  have hlocks := B.notSynchronized
  subst hsz
  have htab : c.exceptionTable.toList = List.map y_ent [((0 : Nat), (16 : Nat), (19 : Nat), (21 : Nat)), ((0 : Nat), (16 : Nat), (22 : Nat), (13 : Nat))] := by
    obtain ⟨m9, meth9, c9, n1, n2, n3, -, -, n4, -, -, -⟩ := Cond.codeWith_spec (hts0 _ List.mem_cons_self)
    cases B.named.symm.trans n1
    cases B.method.symm.trans n2
    cases (Stand.of_body B).code.symm.trans n3
    exact y_tab n4
  have hS : x_S D vCl shU ad cA (NN mo) (va_A (x_w shU ad cA (NN mo) F A) s.heap.size) s F A s.heap [] := ⟨hK, hP, hD0.self, va_S.rf, hN0⟩
  have hA : ∀ q : Nat, s.heap.size ≤ q → va_A (x_w shU ad cA (NN mo) F A) s.heap.size q := fun q h => Or.inr h
  have C0 : x_C p s m [.ref (ad 0), .int (iI x1), .ref (ad 49)].toArray meth c c_La_mirrored 4 (some .int) gT R_La := ⟨hx, hb, hr, hml, hown, hts, hlocks⟩
  generalize va_A (x_w shU ad cA (NN mo) F A) s.heap.size = A0 at hS hA hZ ⊢
  have hl := lv_entry [.ref (ad 0), .int (iI x1), .ref (ad 49)] (n := 4) (Nat.le_of_ble_eq_true rfl)
  rw [lg_entry_eq]
  generalize (lg_sl [.ref (ad 0), .int (iI x1), .ref (ad 49)] ++ List.replicate (4 - (lg_sl [.ref (ad 0), .int (iI x1), .ref (ad 49)]).length) Slot.unset).toArray = ls at hl ⊢
  have hl : lv_has ls 4 [(0, .ref (ad 0)), (1, .int (iI x1)), (2, .ref (ad 49))] := hl
  refine lv_aload_n hx hb d_La_mirrored_0 rfl (lv_at hl 2 rfl) ?_
  refine r_iconst hx hb d_La_mirrored_1 ?_
  refine lv_aload_n hx hb d_La_mirrored_2 rfl (lv_at hl 0 rfl) ?_
  refine lv_iload_n hx hb d_La_mirrored_3 rfl (lv_at hl 1 rfl) ?_
  refine y_ci (y_runV (As := [.int (iI x1)]) (rest := [.int (iI 0), .ref (ad 49)]) ⟨hx, hb, hml, hown, hts⟩ (ct_Lr_mirrored l hlT D ad cA mo _ _ _ _ _ _ h) (cwV 1 hts (gV tw_545 tw_546 tw_547 tw_1 tw_548) rfl rfl rfl (by decide +kernel) ⟨Nat.le_of_ble_eq_true rfl, Nat.le_of_ble_eq_true rfl⟩) (y_preV hS hZ hN 0 rfl rfl _) rfl rfl hl.1 rfl (lv_room (Nat.le_of_ble_eq_true rfl)) d_La_mirrored_4 ⟨Nat.le_of_ble_eq_true rfl, Nat.le_of_ble_eq_true rfl⟩) hS hA (fun E T hE hS => ?_) (fun z3 F3 A3 H locs hS h => ?_)
  · rcases hE with ⟨rfl, h⟩ | ⟨rfl, h⟩
    · refine y_into (nm := eB) hown [] (y_ent (0, 16, 19, 21)) [y_ent (0, 16, 22, 13)] htab (fun z hz => by cases hz) (by decide +kernel) (by decide +kernel) (hts _ tw_412) (y_zat hZ (by decide +kernel)) (fun q => ?_)
      refine lv_astore_n (lv' := [(3, .ref q), (0, .ref (ad 0)), (1, .int (iI x1)), (2, .ref (ad 49))]) hx hb d_La_mirrored_19 rfl hl (by decide) rfl (fun ls hl => ?_)
      refine r_iconst hx hb d_La_mirrored_20 ?_
      exact r_iret (z := 1) hx hb hr hlocks hS h d_La_mirrored_21
    · refine y_into (nm := eS) hown [y_ent (0, 16, 19, 21)] (y_ent (0, 16, 22, 13)) [] htab (fun z hz => by simp only [List.mem_cons, List.not_mem_nil, or_false] at hz; rcases hz with rfl <;> first | exact ⟨by decide +kernel, by decide +kernel, eB, hts _ tw_412, hN.1.2.2⟩) (by decide +kernel) (by decide +kernel) (hts _ tw_314) (y_zat hZ (by decide +kernel)) (fun q => ?_)
      refine lv_astore_n (lv' := [(3, .ref q), (0, .ref (ad 0)), (1, .int (iI x1)), (2, .ref (ad 49))]) hx hb d_La_mirrored_22 rfl hl (by decide) rfl (fun ls hl => ?_)
      refine r_iconst hx hb d_La_mirrored_23 ?_
      exact r_iret (z := 2) hx hb hr hlocks hS h d_La_mirrored_24
  · obtain ⟨rfl, rfl, h⟩ := h
    obtain ⟨g4, h⟩ := h
    refine r_if_eq (tgt := 14) hx hb g4 d_La_mirrored_7 (by decide) (fun hc => ?_) (fun hc => ?_)
    · replace h := h.1 hc
      refine r_lconst hx hb 0 d_La_mirrored_14 (by decide +kernel) ?_
      exact s_La_mirrored_b15 C0 hA _ _ _ _ h _ _ _ hS (lv_sub hl [] rfl)
    · replace h := h.2 hc
      refine r_lconst hx hb 1 d_La_mirrored_10 (by decide +kernel) ?_
      refine lv_goto (tgt := 15) hx hb d_La_mirrored_11 (by decide) ?_
      exact s_La_mirrored_b15 C0 hA _ _ _ _ h _ _ _ hS (lv_sub hl [] rfl)
/-! La_improve -/
def w_La_improve (mo : Nat) (F : Nat → Int) (A : Nat → Int → Int) (x1 : Int) (Q : Int → (Nat → Int) → (Nat → Int → Int) → Prop) : Prop := w_Lr_improve mo F A x1 (fun z1 F1 A1 => rg z1 ∧ (0 : Int) ≤ 0 ∧ (0 : Int) < 1 ∧ Q 0 F1 (ua A1 42 0 z1)) (fun E => (E = eS ∧ Q 1 F A) ∨ (E = eA ∧ Q 2 F A))
set_option maxHeartbeats 4000000 in
set_option maxRecDepth 100000 in
theorem ct_La_improve (l : Launch) (hlT : l.stackTraces = false) (D : va_G) (ad : Nat → Nat) (cA : Nat → ClassId) (mo sz : Nat) (F : Nat → Int) (A : Nat → Int → Int) (x1 : Int) (Q : Int → (Nat → Int) → (Nat → Int → Int) → Prop) (h : w_La_improve mo F A x1 Q) : Met l y_La_improve (Cond.codeWith y_La_improve c_La_improve 4 (some .int) [((0 : Nat), (9 : Nat), (12 : Nat), (13 : Nat)), ((0 : Nat), (9 : Nat), (15 : Nat), (15 : Nat))] :: gT) ({ frames := 8, cells := 1, slots := 6, locals := 132 } : Room) (va_Pc [.ref (ad 0), .int (iI x1), .ref (ad 49)] (y_P D vCl shU ad cA (NN mo) sz F A)) (x_QI D vCl shU ad cA (NN mo) (va_A (x_w shU ad cA (NN mo) F A) sz) Q) 1 6 (va_A (x_w shU ad cA (NN mo) F A) sz) := by
  refine va_MetW (cc := c_La_improve) (maxL := 4) (ret := some .int) (hh := [((0 : Nat), (9 : Nat), (12 : Nat), (13 : Nat)), ((0 : Nat), (9 : Nat), (15 : Nat), (15 : Nat))]) (by decide) rfl ?_
  intro p e s m args below meth c s₁ B hml hv
  obtain ⟨rfl, ⟨hsz, hP, hK, hD0, hN0⟩, hZ, hN⟩ := hv
  have hx := B.exec
  have hb := B.bytes
  have hr := B.returns
  have hts0 := atoms_spec (ws := (Cond.codeWith y_La_improve c_La_improve 4 (some .int) [((0 : Nat), (9 : Nat), (12 : Nat), (13 : Nat)), ((0 : Nat), (9 : Nat), (15 : Nat), (15 : Nat))] :: gT)) B.pre
  have hts : ∀ w ∈ gT, w.before _ s = true := fun w h => hts0 w (List.mem_cons_of_mem _ h)
  have hown : s.vm.findClass R_La = some m.cls := findClass_of_methodNamed B.named
  have hlocks := B.notSynchronized
  subst hsz
  have htab : c.exceptionTable.toList = List.map y_ent [((0 : Nat), (9 : Nat), (12 : Nat), (13 : Nat)), ((0 : Nat), (9 : Nat), (15 : Nat), (15 : Nat))] := by
    obtain ⟨m9, meth9, c9, n1, n2, n3, -, -, n4, -, -, -⟩ := Cond.codeWith_spec (hts0 _ List.mem_cons_self)
    cases B.named.symm.trans n1
    cases B.method.symm.trans n2
    cases (Stand.of_body B).code.symm.trans n3
    exact y_tab n4
  have hS : x_S D vCl shU ad cA (NN mo) (va_A (x_w shU ad cA (NN mo) F A) s.heap.size) s F A s.heap [] := ⟨hK, hP, hD0.self, va_S.rf, hN0⟩
  have hA : ∀ q : Nat, s.heap.size ≤ q → va_A (x_w shU ad cA (NN mo) F A) s.heap.size q := fun q h => Or.inr h
  have C0 : x_C p s m [.ref (ad 0), .int (iI x1), .ref (ad 49)].toArray meth c c_La_improve 4 (some .int) gT R_La := ⟨hx, hb, hr, hml, hown, hts, hlocks⟩
  generalize va_A (x_w shU ad cA (NN mo) F A) s.heap.size = A0 at hS hA hZ ⊢
  have hl := lv_entry [.ref (ad 0), .int (iI x1), .ref (ad 49)] (n := 4) (Nat.le_of_ble_eq_true rfl)
  rw [lg_entry_eq]
  generalize (lg_sl [.ref (ad 0), .int (iI x1), .ref (ad 49)] ++ List.replicate (4 - (lg_sl [.ref (ad 0), .int (iI x1), .ref (ad 49)]).length) Slot.unset).toArray = ls at hl ⊢
  have hl : lv_has ls 4 [(0, .ref (ad 0)), (1, .int (iI x1)), (2, .ref (ad 49))] := hl
  refine lv_aload_n hx hb d_La_improve_0 rfl (lv_at hl 2 rfl) ?_
  refine r_iconst hx hb d_La_improve_1 ?_
  refine lv_aload_n hx hb d_La_improve_2 rfl (lv_at hl 0 rfl) ?_
  refine lv_iload_n hx hb d_La_improve_3 rfl (lv_at hl 1 rfl) ?_
  refine y_ci (y_runV (As := [.int (iI x1)]) (rest := [.int (iI 0), .ref (ad 49)]) ⟨hx, hb, hml, hown, hts⟩ (ct_Lr_improve l hlT D ad cA mo _ _ _ _ _ _ h) (cwV 1 hts (gV tw_552 tw_553 tw_554 tw_1 tw_555) rfl rfl rfl (by decide +kernel) ⟨Nat.le_of_ble_eq_true rfl, Nat.le_of_ble_eq_true rfl⟩) (y_preV hS hZ hN 0 rfl rfl _) rfl rfl hl.1 rfl (lv_room (Nat.le_of_ble_eq_true rfl)) d_La_improve_4 ⟨Nat.le_of_ble_eq_true rfl, Nat.le_of_ble_eq_true rfl⟩) hS hA (fun E T hE hS => ?_) (fun z1 F1 A1 H locs hS h => ?_)
  · rcases hE with ⟨rfl, h⟩ | ⟨rfl, h⟩
    · refine y_into (nm := eS) hown [] (y_ent (0, 9, 12, 13)) [y_ent (0, 9, 15, 15)] htab (fun z hz => by cases hz) (by decide +kernel) (by decide +kernel) (hts _ tw_314) (y_zat hZ (by decide +kernel)) (fun q => ?_)
      refine lv_astore_n (lv' := [(3, .ref q), (0, .ref (ad 0)), (1, .int (iI x1)), (2, .ref (ad 49))]) hx hb d_La_improve_12 rfl hl (by decide) rfl (fun ls hl => ?_)
      refine r_iconst hx hb d_La_improve_13 ?_
      exact r_iret (z := 1) hx hb hr hlocks hS h d_La_improve_14
    · refine y_into (nm := eA) hown [y_ent (0, 9, 12, 13)] (y_ent (0, 9, 15, 15)) [] htab (fun z hz => by simp only [List.mem_cons, List.not_mem_nil, or_false] at hz; rcases hz with rfl <;> first | exact ⟨by decide +kernel, by decide +kernel, eS, hts _ tw_314, hN.1.1⟩) (by decide +kernel) (by decide +kernel) (hts _ tw_315) (y_zat hZ (by decide +kernel)) (fun q => ?_)
      refine lv_astore_n (lv' := [(3, .ref q), (0, .ref (ad 0)), (1, .int (iI x1)), (2, .ref (ad 49))]) hx hb d_La_improve_15 rfl hl (by decide) rfl (fun ls hl => ?_)
      refine r_iconst hx hb d_La_improve_16 ?_
      exact r_iret (z := 2) hx hb hr hlocks hS h d_La_improve_17
  · skip
    obtain ⟨g2, h⟩ := h
    refine r_i2l hx hb g2 d_La_improve_7 ?_
    obtain ⟨g3, h⟩ := h
    obtain ⟨g4, h⟩ := h
    refine r_last (id := 42) (i := 0) (v := z1) hx hb hS 49 rfl g3 g4 (seta_42 ad cA mo _ _ _ _) d_La_improve_8 (fun H locs hS => ?_)
    refine lv_goto (tgt := 18) hx hb d_La_improve_9 (by decide) ?_
    refine r_iconst hx hb d_La_improve_18 ?_
    refine W.widen (k := 1) (n := 6) (Nat.zero_le _) (Nat.zero_le _) ?_
    exact r_iret (z := 0) hx hb hr hlocks hS h d_La_improve_19
/-! La_net -/
def w_La_net (mo : Nat) (F : Nat → Int) (A : Nat → Int → Int) (x1 : Int) (x2 : Int) (Q : Int → (Nat → Int) → (Nat → Int → Int) → Prop) : Prop := w_Lr_net mo F A x1 x2 (fun z1 F1 A1 => rg z1 ∧ (0 : Int) ≤ 0 ∧ (0 : Int) < 1 ∧ Q 0 F1 (ua A1 42 0 z1)) (fun E => (E = eB ∧ Q 1 F A) ∨ (E = eS ∧ Q 2 F A) ∨ (E = eA ∧ Q 3 F A))
set_option maxHeartbeats 4000000 in
set_option maxRecDepth 100000 in
theorem ct_La_net (l : Launch) (hlT : l.stackTraces = false) (D : va_G) (ad : Nat → Nat) (cA : Nat → ClassId) (mo sz : Nat) (F : Nat → Int) (A : Nat → Int → Int) (x1 : Int) (x2 : Int) (Q : Int → (Nat → Int) → (Nat → Int → Int) → Prop) (h : w_La_net mo F A x1 x2 Q) : Met l y_La_net (Cond.codeWith y_La_net c_La_net 5 (some .int) [((0 : Nat), (10 : Nat), (13 : Nat), (21 : Nat)), ((0 : Nat), (10 : Nat), (17 : Nat), (13 : Nat)), ((0 : Nat), (10 : Nat), (21 : Nat), (15 : Nat))] :: gT) ({ frames := 8, cells := 1, slots := 6, locals := 133 } : Room) (va_Pc [.ref (ad 0), .int (iI x1), .int (iI x2), .ref (ad 49)] (y_P D vCl shU ad cA (NN mo) sz F A)) (x_QI D vCl shU ad cA (NN mo) (va_A (x_w shU ad cA (NN mo) F A) sz) Q) 1 6 (va_A (x_w shU ad cA (NN mo) F A) sz) := by
  refine va_MetW (cc := c_La_net) (maxL := 5) (ret := some .int) (hh := [((0 : Nat), (10 : Nat), (13 : Nat), (21 : Nat)), ((0 : Nat), (10 : Nat), (17 : Nat), (13 : Nat)), ((0 : Nat), (10 : Nat), (21 : Nat), (15 : Nat))]) (by decide) rfl ?_
  intro p e s m args below meth c s₁ B hml hv
  obtain ⟨rfl, ⟨hsz, hP, hK, hD0, hN0⟩, hZ, hN⟩ := hv
  have hx := B.exec
  have hb := B.bytes
  have hr := B.returns
  have hts0 := atoms_spec (ws := (Cond.codeWith y_La_net c_La_net 5 (some .int) [((0 : Nat), (10 : Nat), (13 : Nat), (21 : Nat)), ((0 : Nat), (10 : Nat), (17 : Nat), (13 : Nat)), ((0 : Nat), (10 : Nat), (21 : Nat), (15 : Nat))] :: gT)) B.pre
  have hts : ∀ w ∈ gT, w.before _ s = true := fun w h => hts0 w (List.mem_cons_of_mem _ h)
  have hown : s.vm.findClass R_La = some m.cls := findClass_of_methodNamed B.named
  have hlocks := B.notSynchronized
  subst hsz
  have htab : c.exceptionTable.toList = List.map y_ent [((0 : Nat), (10 : Nat), (13 : Nat), (21 : Nat)), ((0 : Nat), (10 : Nat), (17 : Nat), (13 : Nat)), ((0 : Nat), (10 : Nat), (21 : Nat), (15 : Nat))] := by
    obtain ⟨m9, meth9, c9, n1, n2, n3, -, -, n4, -, -, -⟩ := Cond.codeWith_spec (hts0 _ List.mem_cons_self)
    cases B.named.symm.trans n1
    cases B.method.symm.trans n2
    cases (Stand.of_body B).code.symm.trans n3
    exact y_tab n4
  have hS : x_S D vCl shU ad cA (NN mo) (va_A (x_w shU ad cA (NN mo) F A) s.heap.size) s F A s.heap [] := ⟨hK, hP, hD0.self, va_S.rf, hN0⟩
  have hA : ∀ q : Nat, s.heap.size ≤ q → va_A (x_w shU ad cA (NN mo) F A) s.heap.size q := fun q h => Or.inr h
  have C0 : x_C p s m [.ref (ad 0), .int (iI x1), .int (iI x2), .ref (ad 49)].toArray meth c c_La_net 5 (some .int) gT R_La := ⟨hx, hb, hr, hml, hown, hts, hlocks⟩
  generalize va_A (x_w shU ad cA (NN mo) F A) s.heap.size = A0 at hS hA hZ ⊢
  have hl := lv_entry [.ref (ad 0), .int (iI x1), .int (iI x2), .ref (ad 49)] (n := 5) (Nat.le_of_ble_eq_true rfl)
  rw [lg_entry_eq]
  generalize (lg_sl [.ref (ad 0), .int (iI x1), .int (iI x2), .ref (ad 49)] ++ List.replicate (5 - (lg_sl [.ref (ad 0), .int (iI x1), .int (iI x2), .ref (ad 49)]).length) Slot.unset).toArray = ls at hl ⊢
  have hl : lv_has ls 5 [(0, .ref (ad 0)), (1, .int (iI x1)), (2, .int (iI x2)), (3, .ref (ad 49))] := hl
  refine lv_aload_n hx hb d_La_net_0 rfl (lv_at hl 3 rfl) ?_
  refine r_iconst hx hb d_La_net_1 ?_
  refine lv_aload_n hx hb d_La_net_2 rfl (lv_at hl 0 rfl) ?_
  refine lv_iload_n hx hb d_La_net_3 rfl (lv_at hl 1 rfl) ?_
  refine lv_iload_n hx hb d_La_net_4 rfl (lv_at hl 2 rfl) ?_
  refine y_ci (y_runV (As := [.int (iI x1), .int (iI x2)]) (rest := [.int (iI 0), .ref (ad 49)]) ⟨hx, hb, hml, hown, hts⟩ (ct_Lr_net l hlT D ad cA mo _ _ _ _ _ _ _ h) (cwV 2 hts (gV tw_585 tw_586 tw_587 tw_1 tw_588) rfl rfl rfl (by decide +kernel) ⟨Nat.le_of_ble_eq_true rfl, Nat.le_of_ble_eq_true rfl⟩) (y_preV hS hZ hN 0 rfl rfl _) rfl rfl hl.1 rfl (lv_room (Nat.le_of_ble_eq_true rfl)) d_La_net_5 ⟨Nat.le_of_ble_eq_true rfl, Nat.le_of_ble_eq_true rfl⟩) hS hA (fun E T hE hS => ?_) (fun z1 F1 A1 H locs hS h => ?_)
  · rcases hE with ⟨rfl, h⟩ | ⟨rfl, h⟩ | ⟨rfl, h⟩
    · refine y_into (nm := eB) hown [] (y_ent (0, 10, 13, 21)) [y_ent (0, 10, 17, 13), y_ent (0, 10, 21, 15)] htab (fun z hz => by cases hz) (by decide +kernel) (by decide +kernel) (hts _ tw_412) (y_zat hZ (by decide +kernel)) (fun q => ?_)
      refine lv_astore (lv' := [(4, .ref q), (0, .ref (ad 0)), (1, .int (iI x1)), (2, .int (iI x2)), (3, .ref (ad 49))]) hx hb d_La_net_13 hl (by decide) rfl (fun ls hl => ?_)
      refine r_iconst hx hb d_La_net_15 ?_
      exact r_iret (z := 1) hx hb hr hlocks hS h d_La_net_16
    · refine y_into (nm := eS) hown [y_ent (0, 10, 13, 21)] (y_ent (0, 10, 17, 13)) [y_ent (0, 10, 21, 15)] htab (fun z hz => by simp only [List.mem_cons, List.not_mem_nil, or_false] at hz; rcases hz with rfl <;> first | exact ⟨by decide +kernel, by decide +kernel, eB, hts _ tw_412, hN.1.2.2⟩) (by decide +kernel) (by decide +kernel) (hts _ tw_314) (y_zat hZ (by decide +kernel)) (fun q => ?_)
      refine lv_astore (lv' := [(4, .ref q), (0, .ref (ad 0)), (1, .int (iI x1)), (2, .int (iI x2)), (3, .ref (ad 49))]) hx hb d_La_net_17 hl (by decide) rfl (fun ls hl => ?_)
      refine r_iconst hx hb d_La_net_19 ?_
      exact r_iret (z := 2) hx hb hr hlocks hS h d_La_net_20
    · refine y_into (nm := eA) hown [y_ent (0, 10, 13, 21), y_ent (0, 10, 17, 13)] (y_ent (0, 10, 21, 15)) [] htab (fun z hz => by simp only [List.mem_cons, List.not_mem_nil, or_false] at hz; rcases hz with rfl | rfl <;> first | exact ⟨by decide +kernel, by decide +kernel, eB, hts _ tw_412, hN.1.2.1⟩ | exact ⟨by decide +kernel, by decide +kernel, eS, hts _ tw_314, hN.1.1⟩) (by decide +kernel) (by decide +kernel) (hts _ tw_315) (y_zat hZ (by decide +kernel)) (fun q => ?_)
      refine lv_astore (lv' := [(4, .ref q), (0, .ref (ad 0)), (1, .int (iI x1)), (2, .int (iI x2)), (3, .ref (ad 49))]) hx hb d_La_net_21 hl (by decide) rfl (fun ls hl => ?_)
      refine r_iconst hx hb d_La_net_23 ?_
      exact r_iret (z := 3) hx hb hr hlocks hS h d_La_net_24
  · skip
    obtain ⟨g2, h⟩ := h
    refine r_i2l hx hb g2 d_La_net_8 ?_
    obtain ⟨g3, h⟩ := h
    obtain ⟨g4, h⟩ := h
    refine r_last (id := 42) (i := 0) (v := z1) hx hb hS 49 rfl g3 g4 (seta_42 ad cA mo _ _ _ _) d_La_net_9 (fun H locs hS => ?_)
    refine lv_goto (tgt := 25) hx hb d_La_net_10 (by decide) ?_
    refine r_iconst hx hb d_La_net_25 ?_
    refine W.widen (k := 1) (n := 6) (Nat.zero_le _) (Nat.zero_le _) ?_
    exact r_iret (z := 0) hx hb hr hlocks hS h d_La_net_26
/-! La_wire -/
def w_La_wire (mo : Nat) (F : Nat → Int) (A : Nat → Int → Int)  (Q : Int → (Nat → Int) → (Nat → Int → Int) → Prop) : Prop := w_Lr_wire mo F A (fun z1 => (0 : Int) ≤ 0 ∧ (0 : Int) < 1 ∧ Q 0 F (ua A 42 0 z1)) (fun E => (E = eS ∧ Q 1 F A))
set_option maxHeartbeats 4000000 in
set_option maxRecDepth 100000 in
theorem ct_La_wire (l : Launch) (hlT : l.stackTraces = false) (D : va_G) (ad : Nat → Nat) (cA : Nat → ClassId) (mo sz : Nat) (F : Nat → Int) (A : Nat → Int → Int)  (Q : Int → (Nat → Int) → (Nat → Int → Int) → Prop) (h : w_La_wire mo F A  Q) : Met l y_La_wire (Cond.codeWith y_La_wire c_La_wire 3 (some .int) [((0 : Nat), (7 : Nat), (10 : Nat), (13 : Nat))] :: gT) ({ frames := 8, cells := 1, slots := 6, locals := 130 } : Room) (va_Pc [.ref (ad 0), .ref (ad 49)] (y_P D vCl shU ad cA (NN mo) sz F A)) (x_QI D vCl shU ad cA (NN mo) (va_A (x_w shU ad cA (NN mo) F A) sz) Q) 1 6 (va_A (x_w shU ad cA (NN mo) F A) sz) := by
  refine va_MetW (cc := c_La_wire) (maxL := 3) (ret := some .int) (hh := [((0 : Nat), (7 : Nat), (10 : Nat), (13 : Nat))]) (by decide) rfl ?_
  intro p e s m args below meth c s₁ B hml hv
  obtain ⟨rfl, ⟨hsz, hP, hK, hD0, hN0⟩, hZ, hN⟩ := hv
  have hx := B.exec
  have hb := B.bytes
  have hr := B.returns
  have hts0 := atoms_spec (ws := (Cond.codeWith y_La_wire c_La_wire 3 (some .int) [((0 : Nat), (7 : Nat), (10 : Nat), (13 : Nat))] :: gT)) B.pre
  have hts : ∀ w ∈ gT, w.before _ s = true := fun w h => hts0 w (List.mem_cons_of_mem _ h)
  have hown : s.vm.findClass R_La = some m.cls := findClass_of_methodNamed B.named
  have hlocks := B.notSynchronized
  subst hsz
  have htab : c.exceptionTable.toList = List.map y_ent [((0 : Nat), (7 : Nat), (10 : Nat), (13 : Nat))] := by
    obtain ⟨m9, meth9, c9, n1, n2, n3, -, -, n4, -, -, -⟩ := Cond.codeWith_spec (hts0 _ List.mem_cons_self)
    cases B.named.symm.trans n1
    cases B.method.symm.trans n2
    cases (Stand.of_body B).code.symm.trans n3
    exact y_tab n4
  have hS : x_S D vCl shU ad cA (NN mo) (va_A (x_w shU ad cA (NN mo) F A) s.heap.size) s F A s.heap [] := ⟨hK, hP, hD0.self, va_S.rf, hN0⟩
  have hA : ∀ q : Nat, s.heap.size ≤ q → va_A (x_w shU ad cA (NN mo) F A) s.heap.size q := fun q h => Or.inr h
  have C0 : x_C p s m [.ref (ad 0), .ref (ad 49)].toArray meth c c_La_wire 3 (some .int) gT R_La := ⟨hx, hb, hr, hml, hown, hts, hlocks⟩
  generalize va_A (x_w shU ad cA (NN mo) F A) s.heap.size = A0 at hS hA hZ ⊢
  have hl := lv_entry [.ref (ad 0), .ref (ad 49)] (n := 3) (Nat.le_of_ble_eq_true rfl)
  rw [lg_entry_eq]
  generalize (lg_sl [.ref (ad 0), .ref (ad 49)] ++ List.replicate (3 - (lg_sl [.ref (ad 0), .ref (ad 49)]).length) Slot.unset).toArray = ls at hl ⊢
  have hl : lv_has ls 3 [(0, .ref (ad 0)), (1, .ref (ad 49))] := hl
  refine lv_aload_n hx hb d_La_wire_0 rfl (lv_at hl 1 rfl) ?_
  refine r_iconst hx hb d_La_wire_1 ?_
  refine lv_aload_n hx hb d_La_wire_2 rfl (lv_at hl 0 rfl) ?_
  refine y_cl (y_runV (As := []) (rest := [.int (iI 0), .ref (ad 49)]) ⟨hx, hb, hml, hown, hts⟩ (ct_Lr_wire l hlT D ad cA mo _ _ _ _ _ h) (cwV 0 hts (gV tw_602 tw_603 tw_604 tw_1 tw_605) rfl rfl rfl (by decide +kernel) ⟨Nat.le_of_ble_eq_true rfl, Nat.le_of_ble_eq_true rfl⟩) (y_preV hS hZ hN 0 rfl rfl _) rfl rfl hl.1 rfl (lv_room (Nat.le_of_ble_eq_true rfl)) d_La_wire_3 ⟨Nat.le_of_ble_eq_true rfl, Nat.le_of_ble_eq_true rfl⟩) hS hA (fun E T hE hS => ?_) (fun z1 F1 A1 H locs hS h => ?_)
  · obtain ⟨rfl, h⟩ := hE
    · refine y_into (nm := eS) hown [] (y_ent (0, 7, 10, 13)) [] htab (fun z hz => by cases hz) (by decide +kernel) (by decide +kernel) (hts _ tw_314) (y_zat hZ (by decide +kernel)) (fun q => ?_)
      refine lv_astore_n (lv' := [(2, .ref q), (0, .ref (ad 0)), (1, .ref (ad 49))]) hx hb d_La_wire_10 rfl hl (by decide) rfl (fun ls hl => ?_)
      refine r_iconst hx hb d_La_wire_11 ?_
      exact r_iret (z := 1) hx hb hr hlocks hS h d_La_wire_12
  · obtain ⟨rfl, rfl, h⟩ := h
    obtain ⟨g2, h⟩ := h
    obtain ⟨g3, h⟩ := h
    refine r_last (id := 42) (i := 0) (v := z1) hx hb hS 49 rfl g2 g3 (seta_42 ad cA mo _ _ _ _) d_La_wire_6 (fun H locs hS => ?_)
    refine lv_goto (tgt := 13) hx hb d_La_wire_7 (by decide) ?_
    refine r_iconst hx hb d_La_wire_13 ?_
    refine W.widen (k := 1) (n := 6) (Nat.zero_le _) (Nat.zero_le _) ?_
    exact r_iret (z := 0) hx hb hr hlocks hS h d_La_wire_14
/-! La_overlap -/
def w_La_overlap_b14 (mo : Nat) (Q : Int → (Nat → Int) → (Nat → Int → Int) → Prop) (y1 : Int) (y2 : Int) (F : Nat → Int) (A : Nat → Int → Int) : Prop := 0 ≤ y1 ∧ y1 < 1 ∧ Q 0 F (ua A 42 y1 y2)
def w_La_overlap (mo : Nat) (F : Nat → Int) (A : Nat → Int → Int)  (Q : Int → (Nat → Int) → (Nat → Int → Int) → Prop) : Prop := w_Lr_overlap mo F A (fun z3 => rg z3 ∧ ((z3 = 0 → w_La_overlap_b14 mo Q 0 0 F A) ∧ (¬ z3 = 0 → w_La_overlap_b14 mo Q 0 1 F A))) (fun E => (E = eS ∧ Q 1 F A))
set_option maxHeartbeats 4000000 in
set_option maxRecDepth 100000 in
theorem s_La_overlap_b14 (C0 : x_C p s m args meth c c_La_overlap 3 (some .int) gT R_La) (hA : ∀ q : Nat, s.heap.size ≤ q → A0 q) {mo : Nat} {Q : Int → (Nat → Int) → (Nat → Int → Int) → Prop} (y1 : Int) (y2 : Int) (F : Nat → Int) (A : Nat → Int → Int) (h : w_La_overlap_b14 mo Q y1 y2 F A) (H : Heap) (locs : List Loc) (ls : Array Slot) (hS : x_S D vCl shU ad cA (NN mo) A0 s F A H locs) (hl : lv_has ls 3 []) : W p l e ({ frames := 8, cells := 1, slots := 6, locals := 132 } : Room) s m args below meth c H locs 0 0 (MQ below (x_QI D vCl shU ad cA (NN mo) A0 Q) args s 1 6 A0) (F0 m 14 ls [.long (lI y2), .int (iI y1), .ref (ad 49)]) := by
  obtain ⟨hx, hb, hr, hml, hown, hts, hlocks⟩ := id C0
  obtain ⟨g1, h⟩ := h
  obtain ⟨g2, h⟩ := h
  refine r_last (id := 42) (i := y1) (v := y2) hx hb hS 49 rfl g1 g2 (seta_42 ad cA mo _ _ _ _) d_La_overlap_14 (fun H locs hS => ?_)
  refine lv_goto (tgt := 21) hx hb d_La_overlap_15 (by decide) ?_
  refine r_iconst hx hb d_La_overlap_21 ?_
  refine W.widen (k := 1) (n := 6) (Nat.zero_le _) (Nat.zero_le _) ?_
  exact r_iret (z := 0) hx hb hr hlocks hS h d_La_overlap_22
set_option maxHeartbeats 4000000 in
set_option maxRecDepth 100000 in
theorem ct_La_overlap (l : Launch) (hlT : l.stackTraces = false) (D : va_G) (ad : Nat → Nat) (cA : Nat → ClassId) (mo sz : Nat) (F : Nat → Int) (A : Nat → Int → Int)  (Q : Int → (Nat → Int) → (Nat → Int → Int) → Prop) (h : w_La_overlap mo F A  Q) : Met l y_La_overlap (Cond.codeWith y_La_overlap c_La_overlap 3 (some .int) [((0 : Nat), (15 : Nat), (18 : Nat), (13 : Nat))] :: gT) ({ frames := 8, cells := 1, slots := 6, locals := 132 } : Room) (va_Pc [.ref (ad 0), .ref (ad 49)] (y_P D vCl shU ad cA (NN mo) sz F A)) (x_QI D vCl shU ad cA (NN mo) (va_A (x_w shU ad cA (NN mo) F A) sz) Q) 1 6 (va_A (x_w shU ad cA (NN mo) F A) sz) := by
  refine va_MetW (cc := c_La_overlap) (maxL := 3) (ret := some .int) (hh := [((0 : Nat), (15 : Nat), (18 : Nat), (13 : Nat))]) (by decide) rfl ?_
  intro p e s m args below meth c s₁ B hml hv
  obtain ⟨rfl, ⟨hsz, hP, hK, hD0, hN0⟩, hZ, hN⟩ := hv
  have hx := B.exec
  have hb := B.bytes
  have hr := B.returns
  have hts0 := atoms_spec (ws := (Cond.codeWith y_La_overlap c_La_overlap 3 (some .int) [((0 : Nat), (15 : Nat), (18 : Nat), (13 : Nat))] :: gT)) B.pre
  have hts : ∀ w ∈ gT, w.before _ s = true := fun w h => hts0 w (List.mem_cons_of_mem _ h)
  have hown : s.vm.findClass R_La = some m.cls := findClass_of_methodNamed B.named
  have hlocks := B.notSynchronized
  subst hsz
  have htab : c.exceptionTable.toList = List.map y_ent [((0 : Nat), (15 : Nat), (18 : Nat), (13 : Nat))] := by
    obtain ⟨m9, meth9, c9, n1, n2, n3, -, -, n4, -, -, -⟩ := Cond.codeWith_spec (hts0 _ List.mem_cons_self)
    cases B.named.symm.trans n1
    cases B.method.symm.trans n2
    cases (Stand.of_body B).code.symm.trans n3
    exact y_tab n4
  have hS : x_S D vCl shU ad cA (NN mo) (va_A (x_w shU ad cA (NN mo) F A) s.heap.size) s F A s.heap [] := ⟨hK, hP, hD0.self, va_S.rf, hN0⟩
  have hA : ∀ q : Nat, s.heap.size ≤ q → va_A (x_w shU ad cA (NN mo) F A) s.heap.size q := fun q h => Or.inr h
  have C0 : x_C p s m [.ref (ad 0), .ref (ad 49)].toArray meth c c_La_overlap 3 (some .int) gT R_La := ⟨hx, hb, hr, hml, hown, hts, hlocks⟩
  generalize va_A (x_w shU ad cA (NN mo) F A) s.heap.size = A0 at hS hA hZ ⊢
  have hl := lv_entry [.ref (ad 0), .ref (ad 49)] (n := 3) (Nat.le_of_ble_eq_true rfl)
  rw [lg_entry_eq]
  generalize (lg_sl [.ref (ad 0), .ref (ad 49)] ++ List.replicate (3 - (lg_sl [.ref (ad 0), .ref (ad 49)]).length) Slot.unset).toArray = ls at hl ⊢
  have hl : lv_has ls 3 [(0, .ref (ad 0)), (1, .ref (ad 49))] := hl
  refine lv_aload_n hx hb d_La_overlap_0 rfl (lv_at hl 1 rfl) ?_
  refine r_iconst hx hb d_La_overlap_1 ?_
  refine lv_aload_n hx hb d_La_overlap_2 rfl (lv_at hl 0 rfl) ?_
  refine y_ci (y_runV (As := []) (rest := [.int (iI 0), .ref (ad 49)]) ⟨hx, hb, hml, hown, hts⟩ (ct_Lr_overlap l hlT D ad cA mo _ _ _ _ _ h) (cwV 0 hts (gV tw_613 tw_614 tw_615 tw_1 tw_616) rfl rfl rfl (by decide +kernel) ⟨Nat.le_of_ble_eq_true rfl, Nat.le_of_ble_eq_true rfl⟩) (y_preV hS hZ hN 0 rfl rfl _) rfl rfl hl.1 rfl (lv_room (Nat.le_of_ble_eq_true rfl)) d_La_overlap_3 ⟨Nat.le_of_ble_eq_true rfl, Nat.le_of_ble_eq_true rfl⟩) hS hA (fun E T hE hS => ?_) (fun z3 F3 A3 H locs hS h => ?_)
  · obtain ⟨rfl, h⟩ := hE
    · refine y_into (nm := eS) hown [] (y_ent (0, 15, 18, 13)) [] htab (fun z hz => by cases hz) (by decide +kernel) (by decide +kernel) (hts _ tw_314) (y_zat hZ (by decide +kernel)) (fun q => ?_)
      refine lv_astore_n (lv' := [(2, .ref q), (0, .ref (ad 0)), (1, .ref (ad 49))]) hx hb d_La_overlap_18 rfl hl (by decide) rfl (fun ls hl => ?_)
      refine r_iconst hx hb d_La_overlap_19 ?_
      exact r_iret (z := 1) hx hb hr hlocks hS h d_La_overlap_20
  · obtain ⟨rfl, rfl, h⟩ := h
    obtain ⟨g4, h⟩ := h
    refine r_if_eq (tgt := 13) hx hb g4 d_La_overlap_6 (by decide) (fun hc => ?_) (fun hc => ?_)
    · replace h := h.1 hc
      refine r_lconst hx hb 0 d_La_overlap_13 (by decide +kernel) ?_
      exact s_La_overlap_b14 C0 hA _ _ _ _ h _ _ _ hS (lv_sub hl [] rfl)
    · replace h := h.2 hc
      refine r_lconst hx hb 1 d_La_overlap_9 (by decide +kernel) ?_
      refine lv_goto (tgt := 14) hx hb d_La_overlap_10 (by decide) ?_
      exact s_La_overlap_b14 C0 hA _ _ _ _ h _ _ _ hS (lv_sub hl [] rfl)
end W25
