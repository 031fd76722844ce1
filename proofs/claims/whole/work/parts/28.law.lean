section LW
variable {p : Program} {l : Launch} {e : Env} {s : State} {m : MethodId} {below : List Frame} {meth : Method} {c : Code} {D : va_G} {ad : Nat → Nat} {cA : Nat → ClassId} {b L : Nat} {xs : Nat → Int32}
def w_law_b1156 (mo L : Nat) (xs : Nat → Int32) (I45 : Int → (Nat → Int) → (Nat → Int → Int) → Prop) (x4 : Int) (F : Nat → Int) (A : Nat → Int → Int) : Prop := I45 (x4 + 6) F A
set_option maxHeartbeats 4000000 in
set_option maxRecDepth 100000 in
theorem s_law_b1156 (C0 : lw_At p s m meth c b L xs) (hL : L ≤ 3074) (hlT : l.stackTraces = false) (hZ : y_Z (fun q : Nat => s.heap.size ≤ q) s) (hN : y_N s) {mo cb sb : Nat} (hcb : cb ≤ 100000) (hsb : sb ≤ 1000000) {I45 : Int → (Nat → Int) → (Nat → Int → Int) → Prop} (hI45 : ∀ (x4 : Int) (F : Nat → Int) (A : Nat → Int → Int), I45 x4 F A → (0 ≤ x4 ∧ x4 ≤ 3074) → ∀ (H : Heap) (locs : List Loc) (ls : Array Slot), x_S D vCl shU ad cA (NN mo) (fun q : Nat => s.heap.size ≤ q) s F A H locs → lv_has ls 8 [(0, .ref b), (1, .ref (ad 0)), (2, .ref (ad 30)), (3, .ref (ad 49)), (4, .int (iI x4))] → W p l e room_1 s m #[Value.ref b] below meth c H locs (cb + x4.toNat) (sb + 6 * x4.toNat) (lw_Z below #[Value.ref b] s) (F0 m 45 ls [])) (x4 : Int) (F : Nat → Int) (A : Nat → Int → Int) (h : w_law_b1156 mo L xs I45 x4 F A) (h4 : 0 ≤ x4 ∧ x4 ≤ 3068) (H : Heap) (locs : List Loc) (ls : Array Slot) (hS : x_S D vCl shU ad cA (NN mo) (fun q : Nat => s.heap.size ≤ q) s F A H locs) (hl : lv_has ls 8 [(0, .ref b), (1, .ref (ad 0)), (2, .ref (ad 30)), (3, .ref (ad 49)), (4, .int (iI x4))]) : W p l e room_1 s m #[Value.ref b] below meth c H locs (cb + x4.toNat + 1) (sb + 6 * x4.toNat + 6) (lw_Z below #[Value.ref b] s) (F0 m 1156 ls []) := by
  obtain ⟨hx, hb, hr, hml, hown, hts0, hX, hbl, hlocks, hgv⟩ := id C0
  have hts : ∀ w ∈ gT, w.before #[Value.ref b] s = true := fun w h => hts0 w (List.mem_filter.mp h).1
  have hA : ∀ q : Nat, s.heap.size ≤ q → (fun q : Nat => s.heap.size ≤ q) q := fun _ h => h
  have hbA : ¬ (fun q : Nat => s.heap.size ≤ q) b := Nat.not_le.mpr hbl
  refine r_iinc (k := 4) (z := x4) (lv' := [(4, .int (iI (x4 + 6))), (0, .ref b), (1, .ref (ad 0)), (2, .ref (ad 30)), (3, .ref (ad 49))]) hx hb d_La_law_1156 hl rfl (by decide) rfl (fun ls hl => ?_)
  refine lv_goto (tgt := 45) hx hb d_La_law_1159 (by decide) ?_
  refine W.widen (k := cb + (Int.toNat (x4 + 6))) (n := sb + 6 * (Int.toNat (x4 + 6))) (by omega) (by omega) ?_
  exact hI45 _ _ _ h (by omega) _ _ _ hS (lv_sub hl [1, 2, 3, 4, 0] rfl)
def w_law_b1147 (mo L : Nat) (xs : Nat → Int32) (I45 : Int → (Nat → Int) → (Nat → Int → Int) → Prop) (x4 : Int) (y0 : Int) (y1 : Int) (F : Nat → Int) (A : Nat → Int → Int) : Prop := rL y0 ∧ rL y1 ∧ ((y0 = y1 → w_law_b1156 mo L xs I45 x4 F A) ∧ (¬ y0 = y1 → False))
set_option maxHeartbeats 4000000 in
set_option maxRecDepth 100000 in
theorem s_law_b1147 (C0 : lw_At p s m meth c b L xs) (hL : L ≤ 3074) (hlT : l.stackTraces = false) (hZ : y_Z (fun q : Nat => s.heap.size ≤ q) s) (hN : y_N s) {mo cb sb : Nat} (hcb : cb ≤ 100000) (hsb : sb ≤ 1000000) {I45 : Int → (Nat → Int) → (Nat → Int → Int) → Prop} (hI45 : ∀ (x4 : Int) (F : Nat → Int) (A : Nat → Int → Int), I45 x4 F A → (0 ≤ x4 ∧ x4 ≤ 3074) → ∀ (H : Heap) (locs : List Loc) (ls : Array Slot), x_S D vCl shU ad cA (NN mo) (fun q : Nat => s.heap.size ≤ q) s F A H locs → lv_has ls 8 [(0, .ref b), (1, .ref (ad 0)), (2, .ref (ad 30)), (3, .ref (ad 49)), (4, .int (iI x4))] → W p l e room_1 s m #[Value.ref b] below meth c H locs (cb + x4.toNat) (sb + 6 * x4.toNat) (lw_Z below #[Value.ref b] s) (F0 m 45 ls [])) (x4 : Int) (y0 : Int) (y1 : Int) (F : Nat → Int) (A : Nat → Int → Int) (h : w_law_b1147 mo L xs I45 x4 y0 y1 F A) (h4 : 0 ≤ x4 ∧ x4 ≤ 3068) (H : Heap) (locs : List Loc) (ls : Array Slot) (hS : x_S D vCl shU ad cA (NN mo) (fun q : Nat => s.heap.size ≤ q) s F A H locs) (hl : lv_has ls 8 [(0, .ref b), (1, .ref (ad 0)), (2, .ref (ad 30)), (3, .ref (ad 49)), (4, .int (iI x4))]) : W p l e room_1 s m #[Value.ref b] below meth c H locs (cb + x4.toNat + 1) (sb + 6 * x4.toNat + 6) (lw_Z below #[Value.ref b] s) (F0 m 1147 ls [.long (lI y1), .long (lI y0)]) := by
  obtain ⟨hx, hb, hr, hml, hown, hts0, hX, hbl, hlocks, hgv⟩ := id C0
  have hts : ∀ w ∈ gT, w.before #[Value.ref b] s = true := fun w h => hts0 w (List.mem_filter.mp h).1
  have hA : ∀ q : Nat, s.heap.size ≤ q → (fun q : Nat => s.heap.size ≤ q) q := fun _ h => h
  have hbA : ¬ (fun q : Nat => s.heap.size ≤ q) b := Nat.not_le.mpr hbl
  obtain ⟨g1, h⟩ := h
  obtain ⟨g2, h⟩ := h
  refine r_lcmp_eq (tgt := 1153) hx hb g1 g2 d_La_law_1147 d_La_law_1148 (by decide) (fun hc => ?_) (fun hc => ?_)
  · replace h := h.1 hc
    refine lv_goto (tgt := 1156) hx hb d_La_law_1153 (by decide) ?_
    exact s_law_b1156 C0 hL hlT hZ hN hcb hsb hI45 _ _ _ h (by omega) _ _ _ hS (lv_sub hl [0, 1, 2, 3, 4] rfl)
  · replace h := h.2 hc
    refine r_iconst hx hb d_La_law_1151 ?_
    exact h.elim
def w_law_b929 (mo L : Nat) (xs : Nat → Int32) (I45 : Int → (Nat → Int) → (Nat → Int → Int) → Prop) (x4 : Int) (y0 : Int) (y1 : Int) (F : Nat → Int) (A : Nat → Int → Int) : Prop := rL y0 ∧ rL y1 ∧ ((y0 = y1 → w_law_b1156 mo L xs I45 x4 F A) ∧ (¬ y0 = y1 → False))
set_option maxHeartbeats 4000000 in
set_option maxRecDepth 100000 in
theorem s_law_b929 (C0 : lw_At p s m meth c b L xs) (hL : L ≤ 3074) (hlT : l.stackTraces = false) (hZ : y_Z (fun q : Nat => s.heap.size ≤ q) s) (hN : y_N s) {mo cb sb : Nat} (hcb : cb ≤ 100000) (hsb : sb ≤ 1000000) {I45 : Int → (Nat → Int) → (Nat → Int → Int) → Prop} (hI45 : ∀ (x4 : Int) (F : Nat → Int) (A : Nat → Int → Int), I45 x4 F A → (0 ≤ x4 ∧ x4 ≤ 3074) → ∀ (H : Heap) (locs : List Loc) (ls : Array Slot), x_S D vCl shU ad cA (NN mo) (fun q : Nat => s.heap.size ≤ q) s F A H locs → lv_has ls 8 [(0, .ref b), (1, .ref (ad 0)), (2, .ref (ad 30)), (3, .ref (ad 49)), (4, .int (iI x4))] → W p l e room_1 s m #[Value.ref b] below meth c H locs (cb + x4.toNat) (sb + 6 * x4.toNat) (lw_Z below #[Value.ref b] s) (F0 m 45 ls [])) (x4 : Int) (y0 : Int) (y1 : Int) (F : Nat → Int) (A : Nat → Int → Int) (h : w_law_b929 mo L xs I45 x4 y0 y1 F A) (h4 : 0 ≤ x4 ∧ x4 ≤ 3068) (H : Heap) (locs : List Loc) (ls : Array Slot) (hS : x_S D vCl shU ad cA (NN mo) (fun q : Nat => s.heap.size ≤ q) s F A H locs) (hl : lv_has ls 8 [(0, .ref b), (1, .ref (ad 0)), (2, .ref (ad 30)), (3, .ref (ad 49)), (4, .int (iI x4))]) : W p l e room_1 s m #[Value.ref b] below meth c H locs (cb + x4.toNat + 1) (sb + 6 * x4.toNat + 6) (lw_Z below #[Value.ref b] s) (F0 m 929 ls [.long (lI y1), .long (lI y0)]) := by
  obtain ⟨hx, hb, hr, hml, hown, hts0, hX, hbl, hlocks, hgv⟩ := id C0
  have hts : ∀ w ∈ gT, w.before #[Value.ref b] s = true := fun w h => hts0 w (List.mem_filter.mp h).1
  have hA : ∀ q : Nat, s.heap.size ≤ q → (fun q : Nat => s.heap.size ≤ q) q := fun _ h => h
  have hbA : ¬ (fun q : Nat => s.heap.size ≤ q) b := Nat.not_le.mpr hbl
  obtain ⟨g3, h⟩ := h
  obtain ⟨g4, h⟩ := h
  refine r_lcmp_eq (tgt := 935) hx hb g3 g4 d_La_law_929 d_La_law_930 (by decide) (fun hc => ?_) (fun hc => ?_)
  · replace h := h.1 hc
    refine lv_goto (tgt := 1156) hx hb d_La_law_935 (by decide) ?_
    exact s_law_b1156 C0 hL hlT hZ hN hcb hsb hI45 _ _ _ h (by omega) _ _ _ hS (lv_sub hl [0, 1, 2, 3, 4] rfl)
  · replace h := h.2 hc
    refine r_iconst hx hb d_La_law_933 ?_
    exact h.elim
def w_law_b699 (mo L : Nat) (xs : Nat → Int32) (I45 : Int → (Nat → Int) → (Nat → Int → Int) → Prop) (x4 : Int) (y0 : Int) (y1 : Int) (F : Nat → Int) (A : Nat → Int → Int) : Prop := rL y0 ∧ rL y1 ∧ ((y0 = y1 → w_law_b1156 mo L xs I45 x4 F A) ∧ (¬ y0 = y1 → False))
set_option maxHeartbeats 4000000 in
set_option maxRecDepth 100000 in
theorem s_law_b699 (C0 : lw_At p s m meth c b L xs) (hL : L ≤ 3074) (hlT : l.stackTraces = false) (hZ : y_Z (fun q : Nat => s.heap.size ≤ q) s) (hN : y_N s) {mo cb sb : Nat} (hcb : cb ≤ 100000) (hsb : sb ≤ 1000000) {I45 : Int → (Nat → Int) → (Nat → Int → Int) → Prop} (hI45 : ∀ (x4 : Int) (F : Nat → Int) (A : Nat → Int → Int), I45 x4 F A → (0 ≤ x4 ∧ x4 ≤ 3074) → ∀ (H : Heap) (locs : List Loc) (ls : Array Slot), x_S D vCl shU ad cA (NN mo) (fun q : Nat => s.heap.size ≤ q) s F A H locs → lv_has ls 8 [(0, .ref b), (1, .ref (ad 0)), (2, .ref (ad 30)), (3, .ref (ad 49)), (4, .int (iI x4))] → W p l e room_1 s m #[Value.ref b] below meth c H locs (cb + x4.toNat) (sb + 6 * x4.toNat) (lw_Z below #[Value.ref b] s) (F0 m 45 ls [])) (x4 : Int) (y0 : Int) (y1 : Int) (F : Nat → Int) (A : Nat → Int → Int) (h : w_law_b699 mo L xs I45 x4 y0 y1 F A) (h4 : 0 ≤ x4 ∧ x4 ≤ 3068) (H : Heap) (locs : List Loc) (ls : Array Slot) (hS : x_S D vCl shU ad cA (NN mo) (fun q : Nat => s.heap.size ≤ q) s F A H locs) (hl : lv_has ls 8 [(0, .ref b), (1, .ref (ad 0)), (2, .ref (ad 30)), (3, .ref (ad 49)), (4, .int (iI x4))]) : W p l e room_1 s m #[Value.ref b] below meth c H locs (cb + x4.toNat + 1) (sb + 6 * x4.toNat + 6) (lw_Z below #[Value.ref b] s) (F0 m 699 ls [.long (lI y1), .long (lI y0)]) := by
  obtain ⟨hx, hb, hr, hml, hown, hts0, hX, hbl, hlocks, hgv⟩ := id C0
  have hts : ∀ w ∈ gT, w.before #[Value.ref b] s = true := fun w h => hts0 w (List.mem_filter.mp h).1
  have hA : ∀ q : Nat, s.heap.size ≤ q → (fun q : Nat => s.heap.size ≤ q) q := fun _ h => h
  have hbA : ¬ (fun q : Nat => s.heap.size ≤ q) b := Nat.not_le.mpr hbl
  obtain ⟨g5, h⟩ := h
  obtain ⟨g6, h⟩ := h
  refine r_lcmp_eq (tgt := 705) hx hb g5 g6 d_La_law_699 d_La_law_700 (by decide) (fun hc => ?_) (fun hc => ?_)
  · replace h := h.1 hc
    refine lv_goto (tgt := 1156) hx hb d_La_law_705 (by decide) ?_
    exact s_law_b1156 C0 hL hlT hZ hN hcb hsb hI45 _ _ _ h (by omega) _ _ _ hS (lv_sub hl [0, 1, 2, 3, 4] rfl)
  · replace h := h.2 hc
    refine r_iconst hx hb d_La_law_703 ?_
    exact h.elim
def w_law_b580 (mo L : Nat) (xs : Nat → Int32) (I45 : Int → (Nat → Int) → (Nat → Int → Int) → Prop) (x4 : Int) (y0 : Int) (y1 : Int) (F : Nat → Int) (A : Nat → Int → Int) : Prop := rL y0 ∧ rL y1 ∧ ((y0 = y1 → w_law_b1156 mo L xs I45 x4 F A) ∧ (¬ y0 = y1 → False))
set_option maxHeartbeats 4000000 in
set_option maxRecDepth 100000 in
theorem s_law_b580 (C0 : lw_At p s m meth c b L xs) (hL : L ≤ 3074) (hlT : l.stackTraces = false) (hZ : y_Z (fun q : Nat => s.heap.size ≤ q) s) (hN : y_N s) {mo cb sb : Nat} (hcb : cb ≤ 100000) (hsb : sb ≤ 1000000) {I45 : Int → (Nat → Int) → (Nat → Int → Int) → Prop} (hI45 : ∀ (x4 : Int) (F : Nat → Int) (A : Nat → Int → Int), I45 x4 F A → (0 ≤ x4 ∧ x4 ≤ 3074) → ∀ (H : Heap) (locs : List Loc) (ls : Array Slot), x_S D vCl shU ad cA (NN mo) (fun q : Nat => s.heap.size ≤ q) s F A H locs → lv_has ls 8 [(0, .ref b), (1, .ref (ad 0)), (2, .ref (ad 30)), (3, .ref (ad 49)), (4, .int (iI x4))] → W p l e room_1 s m #[Value.ref b] below meth c H locs (cb + x4.toNat) (sb + 6 * x4.toNat) (lw_Z below #[Value.ref b] s) (F0 m 45 ls [])) (x4 : Int) (y0 : Int) (y1 : Int) (F : Nat → Int) (A : Nat → Int → Int) (h : w_law_b580 mo L xs I45 x4 y0 y1 F A) (h4 : 0 ≤ x4 ∧ x4 ≤ 3068) (H : Heap) (locs : List Loc) (ls : Array Slot) (hS : x_S D vCl shU ad cA (NN mo) (fun q : Nat => s.heap.size ≤ q) s F A H locs) (hl : lv_has ls 8 [(0, .ref b), (1, .ref (ad 0)), (2, .ref (ad 30)), (3, .ref (ad 49)), (4, .int (iI x4))]) : W p l e room_1 s m #[Value.ref b] below meth c H locs (cb + x4.toNat + 1) (sb + 6 * x4.toNat + 6) (lw_Z below #[Value.ref b] s) (F0 m 580 ls [.long (lI y1), .long (lI y0)]) := by
  obtain ⟨hx, hb, hr, hml, hown, hts0, hX, hbl, hlocks, hgv⟩ := id C0
  have hts : ∀ w ∈ gT, w.before #[Value.ref b] s = true := fun w h => hts0 w (List.mem_filter.mp h).1
  have hA : ∀ q : Nat, s.heap.size ≤ q → (fun q : Nat => s.heap.size ≤ q) q := fun _ h => h
  have hbA : ¬ (fun q : Nat => s.heap.size ≤ q) b := Nat.not_le.mpr hbl
  obtain ⟨g7, h⟩ := h
  obtain ⟨g8, h⟩ := h
  refine r_lcmp_eq (tgt := 586) hx hb g7 g8 d_La_law_580 d_La_law_581 (by decide) (fun hc => ?_) (fun hc => ?_)
  · replace h := h.1 hc
    refine lv_goto (tgt := 1156) hx hb d_La_law_586 (by decide) ?_
    exact s_law_b1156 C0 hL hlT hZ hN hcb hsb hI45 _ _ _ h (by omega) _ _ _ hS (lv_sub hl [0, 1, 2, 3, 4] rfl)
  · replace h := h.2 hc
    refine r_iconst hx hb d_La_law_584 ?_
    exact h.elim
def w_law_b493 (mo L : Nat) (xs : Nat → Int32) (I45 : Int → (Nat → Int) → (Nat → Int → Int) → Prop) (x4 : Int) (y0 : Int) (y1 : Int) (F : Nat → Int) (A : Nat → Int → Int) : Prop := rL y0 ∧ rL y1 ∧ ((y0 = y1 → w_law_b1156 mo L xs I45 x4 F A) ∧ (¬ y0 = y1 → False))
set_option maxHeartbeats 4000000 in
set_option maxRecDepth 100000 in
theorem s_law_b493 (C0 : lw_At p s m meth c b L xs) (hL : L ≤ 3074) (hlT : l.stackTraces = false) (hZ : y_Z (fun q : Nat => s.heap.size ≤ q) s) (hN : y_N s) {mo cb sb : Nat} (hcb : cb ≤ 100000) (hsb : sb ≤ 1000000) {I45 : Int → (Nat → Int) → (Nat → Int → Int) → Prop} (hI45 : ∀ (x4 : Int) (F : Nat → Int) (A : Nat → Int → Int), I45 x4 F A → (0 ≤ x4 ∧ x4 ≤ 3074) → ∀ (H : Heap) (locs : List Loc) (ls : Array Slot), x_S D vCl shU ad cA (NN mo) (fun q : Nat => s.heap.size ≤ q) s F A H locs → lv_has ls 8 [(0, .ref b), (1, .ref (ad 0)), (2, .ref (ad 30)), (3, .ref (ad 49)), (4, .int (iI x4))] → W p l e room_1 s m #[Value.ref b] below meth c H locs (cb + x4.toNat) (sb + 6 * x4.toNat) (lw_Z below #[Value.ref b] s) (F0 m 45 ls [])) (x4 : Int) (y0 : Int) (y1 : Int) (F : Nat → Int) (A : Nat → Int → Int) (h : w_law_b493 mo L xs I45 x4 y0 y1 F A) (h4 : 0 ≤ x4 ∧ x4 ≤ 3068) (H : Heap) (locs : List Loc) (ls : Array Slot) (hS : x_S D vCl shU ad cA (NN mo) (fun q : Nat => s.heap.size ≤ q) s F A H locs) (hl : lv_has ls 8 [(0, .ref b), (1, .ref (ad 0)), (2, .ref (ad 30)), (3, .ref (ad 49)), (4, .int (iI x4))]) : W p l e room_1 s m #[Value.ref b] below meth c H locs (cb + x4.toNat + 1) (sb + 6 * x4.toNat + 6) (lw_Z below #[Value.ref b] s) (F0 m 493 ls [.long (lI y1), .long (lI y0)]) := by
  obtain ⟨hx, hb, hr, hml, hown, hts0, hX, hbl, hlocks, hgv⟩ := id C0
  have hts : ∀ w ∈ gT, w.before #[Value.ref b] s = true := fun w h => hts0 w (List.mem_filter.mp h).1
  have hA : ∀ q : Nat, s.heap.size ≤ q → (fun q : Nat => s.heap.size ≤ q) q := fun _ h => h
  have hbA : ¬ (fun q : Nat => s.heap.size ≤ q) b := Nat.not_le.mpr hbl
  obtain ⟨g9, h⟩ := h
  obtain ⟨g10, h⟩ := h
  refine r_lcmp_eq (tgt := 499) hx hb g9 g10 d_La_law_493 d_La_law_494 (by decide) (fun hc => ?_) (fun hc => ?_)
  · replace h := h.1 hc
    refine lv_goto (tgt := 1156) hx hb d_La_law_499 (by decide) ?_
    exact s_law_b1156 C0 hL hlT hZ hN hcb hsb hI45 _ _ _ h (by omega) _ _ _ hS (lv_sub hl [0, 1, 2, 3, 4] rfl)
  · replace h := h.2 hc
    refine r_iconst hx hb d_La_law_497 ?_
    exact h.elim
def w_law_b342 (mo L : Nat) (xs : Nat → Int32) (I45 : Int → (Nat → Int) → (Nat → Int → Int) → Prop) (x4 : Int) (y0 : Int) (y1 : Int) (F : Nat → Int) (A : Nat → Int → Int) : Prop := rL y0 ∧ rL y1 ∧ ((y0 = y1 → w_law_b1156 mo L xs I45 x4 F A) ∧ (¬ y0 = y1 → False))
set_option maxHeartbeats 4000000 in
set_option maxRecDepth 100000 in
theorem s_law_b342 (C0 : lw_At p s m meth c b L xs) (hL : L ≤ 3074) (hlT : l.stackTraces = false) (hZ : y_Z (fun q : Nat => s.heap.size ≤ q) s) (hN : y_N s) {mo cb sb : Nat} (hcb : cb ≤ 100000) (hsb : sb ≤ 1000000) {I45 : Int → (Nat → Int) → (Nat → Int → Int) → Prop} (hI45 : ∀ (x4 : Int) (F : Nat → Int) (A : Nat → Int → Int), I45 x4 F A → (0 ≤ x4 ∧ x4 ≤ 3074) → ∀ (H : Heap) (locs : List Loc) (ls : Array Slot), x_S D vCl shU ad cA (NN mo) (fun q : Nat => s.heap.size ≤ q) s F A H locs → lv_has ls 8 [(0, .ref b), (1, .ref (ad 0)), (2, .ref (ad 30)), (3, .ref (ad 49)), (4, .int (iI x4))] → W p l e room_1 s m #[Value.ref b] below meth c H locs (cb + x4.toNat) (sb + 6 * x4.toNat) (lw_Z below #[Value.ref b] s) (F0 m 45 ls [])) (x4 : Int) (y0 : Int) (y1 : Int) (F : Nat → Int) (A : Nat → Int → Int) (h : w_law_b342 mo L xs I45 x4 y0 y1 F A) (h4 : 0 ≤ x4 ∧ x4 ≤ 3068) (H : Heap) (locs : List Loc) (ls : Array Slot) (hS : x_S D vCl shU ad cA (NN mo) (fun q : Nat => s.heap.size ≤ q) s F A H locs) (hl : lv_has ls 8 [(0, .ref b), (1, .ref (ad 0)), (2, .ref (ad 30)), (3, .ref (ad 49)), (4, .int (iI x4))]) : W p l e room_1 s m #[Value.ref b] below meth c H locs (cb + x4.toNat + 1) (sb + 6 * x4.toNat + 6) (lw_Z below #[Value.ref b] s) (F0 m 342 ls [.long (lI y1), .long (lI y0)]) := by
  obtain ⟨hx, hb, hr, hml, hown, hts0, hX, hbl, hlocks, hgv⟩ := id C0
  have hts : ∀ w ∈ gT, w.before #[Value.ref b] s = true := fun w h => hts0 w (List.mem_filter.mp h).1
  have hA : ∀ q : Nat, s.heap.size ≤ q → (fun q : Nat => s.heap.size ≤ q) q := fun _ h => h
  have hbA : ¬ (fun q : Nat => s.heap.size ≤ q) b := Nat.not_le.mpr hbl
  obtain ⟨g11, h⟩ := h
  obtain ⟨g12, h⟩ := h
  refine r_lcmp_eq (tgt := 348) hx hb g11 g12 d_La_law_342 d_La_law_343 (by decide) (fun hc => ?_) (fun hc => ?_)
  · replace h := h.1 hc
    refine lv_goto (tgt := 1156) hx hb d_La_law_348 (by decide) ?_
    exact s_law_b1156 C0 hL hlT hZ hN hcb hsb hI45 _ _ _ h (by omega) _ _ _ hS (lv_sub hl [0, 1, 2, 3, 4] rfl)
  · replace h := h.2 hc
    refine r_iconst hx hb d_La_law_346 ?_
    exact h.elim
def w_law_b45 (mo L : Nat) (xs : Nat → Int32) (x4 : Int) (F : Nat → Int) (A : Nat → Int → Int) : Prop := Lp3 (fun I45 x4 F A => rg x4 ∧ rg ((L : Int) - 6) ∧ ((((L : Int) - 6) < x4 → True) ∧ (¬ ((L : Int) - 6) < x4 → 0 ≤ x4 ∧ x4 < (L : Int) ∧ (((swv (scf xs x4)) = 0 → 0 ≤ (x4 + 1) ∧ (x4 + 1) < (L : Int) ∧ 0 ≤ (x4 + 2) ∧ (x4 + 2) < (L : Int) ∧ 0 ≤ (x4 + 3) ∧ (x4 + 3) < (L : Int) ∧ w_La_cell2 mo F A (lgv (scf xs (x4 + 1)) (scf xs (x4 + 2))) (scf xs (x4 + 3)) (fun z23 F23 A23 => w_Mo_cell mo F23 A23 (lgv (scf xs (x4 + 1)) (scf xs (x4 + 2))) (scf xs (x4 + 3)) (fun z24 F24 A24 => w_Mo_thrown mo F24 A24 (fun z25 => rg z25 ∧ rg z23 ∧ ((z25 = z23 → ((¬ z23 = 0 → w_law_b1156 mo L xs I45 x4 F24 A24) ∧ (z23 = 0 → (0 : Int) ≤ 0 ∧ (0 : Int) < 1 ∧ rg z24 ∧ rL (A24 42 0) ∧ rL z24 ∧ (((A24 42 0) = z24 → w_law_b1156 mo L xs I45 x4 F24 A24) ∧ (¬ (A24 42 0) = z24 → False))))) ∧ (¬ z25 = z23 → False)))))) ∧ ((swv (scf xs x4)) = 1 → 0 ≤ (x4 + 1) ∧ (x4 + 1) < (L : Int) ∧ 0 ≤ (x4 + 2) ∧ (x4 + 2) < (L : Int) ∧ 0 ≤ (x4 + 3) ∧ (x4 + 3) < (L : Int) ∧ 0 ≤ (x4 + 4) ∧ (x4 + 4) < (L : Int) ∧ w_La_want mo F A (scf xs (x4 + 1)) (lgv (scf xs (x4 + 2)) (scf xs (x4 + 3))) (scf xs (x4 + 4)) (fun z41 F41 A41 => w_Mo_want mo F41 A41 (scf xs (x4 + 1)) (lgv (scf xs (x4 + 2)) (scf xs (x4 + 3))) (scf xs (x4 + 4)) (fun z42 F42 A42 => w_Mo_thrown mo F42 A42 (fun z43 => rg z43 ∧ rg z41 ∧ ((z43 = z41 → ((¬ z41 = 0 → w_law_b1156 mo L xs I45 x4 F42 A42) ∧ (z41 = 0 → (0 : Int) ≤ 0 ∧ (0 : Int) < 1 ∧ rg z42 ∧ ((z42 = 0 → w_law_b342 mo L xs I45 x4 (A42 42 0) 0 F42 A42) ∧ (¬ z42 = 0 → w_law_b342 mo L xs I45 x4 (A42 42 0) 1 F42 A42))))) ∧ (¬ z43 = z41 → False)))))) ∧ ((swv (scf xs x4)) = 2 → 0 ≤ (x4 + 1) ∧ (x4 + 1) < (L : Int) ∧ 0 ≤ (x4 + 2) ∧ (x4 + 2) < (L : Int) ∧ 0 ≤ (x4 + 3) ∧ (x4 + 3) < (L : Int) ∧ 0 ≤ (x4 + 4) ∧ (x4 + 4) < (L : Int) ∧ 0 ≤ (x4 + 5) ∧ (x4 + 5) < (L : Int) ∧ w_La_bar mo F A (scf xs (x4 + 1)) (lgv (scf xs (x4 + 2)) (scf xs (x4 + 3))) (lgv (scf xs (x4 + 4)) (scf xs (x4 + 5))) (fun z59 F59 A59 => w_Mo_bar mo F59 A59 (scf xs (x4 + 1)) (lgv (scf xs (x4 + 2)) (scf xs (x4 + 3))) (lgv (scf xs (x4 + 4)) (scf xs (x4 + 5))) (fun z60 F60 A60 => w_Mo_thrown mo F60 A60 (fun z61 => rg z61 ∧ rg z59 ∧ ((z61 = z59 → ((¬ z59 = 0 → w_law_b1156 mo L xs I45 x4 F60 A60) ∧ (z59 = 0 → (0 : Int) ≤ 0 ∧ (0 : Int) < 1 ∧ rg z60 ∧ ((z60 = 0 → w_law_b493 mo L xs I45 x4 (A60 42 0) 0 F60 A60) ∧ (¬ z60 = 0 → w_law_b493 mo L xs I45 x4 (A60 42 0) 1 F60 A60))))) ∧ (¬ z61 = z59 → False)))))) ∧ ((swv (scf xs x4)) = 3 → 0 ≤ (x4 + 1) ∧ (x4 + 1) < (L : Int) ∧ 0 ≤ (x4 + 2) ∧ (x4 + 2) < (L : Int) ∧ 0 ≤ (x4 + 3) ∧ (x4 + 3) < (L : Int) ∧ w_La_kind mo F A (scf xs (x4 + 1)) (scf xs (x4 + 2)) (scf xs (x4 + 3)) (fun z73 F73 A73 => w_Mo_kind mo F73 A73 (scf xs (x4 + 1)) (scf xs (x4 + 2)) (scf xs (x4 + 3)) (fun z74 F74 A74 => w_Mo_thrown mo F74 A74 (fun z75 => rg z75 ∧ rg z73 ∧ ((z75 = z73 → ((¬ z73 = 0 → w_law_b1156 mo L xs I45 x4 F74 A74) ∧ (z73 = 0 → (0 : Int) ≤ 0 ∧ (0 : Int) < 1 ∧ rg z74 ∧ ((z74 = 0 → w_law_b580 mo L xs I45 x4 (A74 42 0) 0 F74 A74) ∧ (¬ z74 = 0 → w_law_b580 mo L xs I45 x4 (A74 42 0) 1 F74 A74))))) ∧ (¬ z75 = z73 → False)))))) ∧ ((swv (scf xs x4)) = 4 → 0 ≤ (x4 + 1) ∧ (x4 + 1) < (L : Int) ∧ 0 ≤ (x4 + 2) ∧ (x4 + 2) < (L : Int) ∧ 0 ≤ (x4 + 3) ∧ (x4 + 3) < (L : Int) ∧ 0 ≤ (x4 + 4) ∧ (x4 + 4) < (L : Int) ∧ w_La_space mo F A (scf xs (x4 + 1)) (scf xs (x4 + 2)) (lgv (scf xs (x4 + 3)) (scf xs (x4 + 4))) (fun z89 F89 A89 => w_Mo_space mo F89 A89 (scf xs (x4 + 1)) (scf xs (x4 + 2)) (lgv (scf xs (x4 + 3)) (scf xs (x4 + 4))) (fun z90 F90 A90 => w_Mo_thrown mo F90 A90 (fun z91 => rg z91 ∧ rg z89 ∧ ((z91 = z89 → ((¬ z89 = 0 → w_law_b1156 mo L xs I45 x4 F90 A90) ∧ (z89 = 0 → (0 : Int) ≤ 0 ∧ (0 : Int) < 1 ∧ rg z90 ∧ ((z90 = 0 → w_law_b699 mo L xs I45 x4 (A90 42 0) 0 F90 A90) ∧ (¬ z90 = 0 → w_law_b699 mo L xs I45 x4 (A90 42 0) 1 F90 A90))))) ∧ (¬ z91 = z89 → False)))))) ∧ ((swv (scf xs x4)) = 5 → w_Lr_run mo F A (fun z97 F97 A97 => w_Mo_run mo F97 A97 (fun z98 F98 A98 => rg z97 ∧ rg z98 ∧ ((z97 = z98 → w_law_b1156 mo L xs I45 x4 F98 A98) ∧ (¬ z97 = z98 → False))))) ∧ ((swv (scf xs x4)) = 6 → 0 ≤ (x4 + 1) ∧ (x4 + 1) < (L : Int) ∧ w_La_at mo F A (scf xs (x4 + 1)) (fun z103 F103 A103 => w_Mo_at mo F103 A103 (scf xs (x4 + 1)) (fun z104 F104 A104 => w_Mo_thrown mo F104 A104 (fun z105 => rg z105 ∧ rg z103 ∧ ((z105 = z103 → ((¬ z103 = 0 → w_law_b1156 mo L xs I45 x4 F104 A104) ∧ (z103 = 0 → (0 : Int) ≤ 0 ∧ (0 : Int) < 1 ∧ rL (A104 42 0) ∧ rL z104 ∧ (((A104 42 0) = z104 → w_law_b1156 mo L xs I45 x4 F104 A104) ∧ (¬ (A104 42 0) = z104 → False))))) ∧ (¬ z105 = z103 → False)))))) ∧ ((swv (scf xs x4)) = 7 → 0 ≤ (x4 + 1) ∧ (x4 + 1) < (L : Int) ∧ w_La_rowOf mo F A (scf xs (x4 + 1)) (fun z114 F114 A114 => w_Mo_rowOf mo F114 A114 (scf xs (x4 + 1)) (fun z115 F115 A115 => w_Mo_thrown mo F115 A115 (fun z116 => rg z116 ∧ rg z114 ∧ ((z116 = z114 → ((¬ z114 = 0 → w_law_b1156 mo L xs I45 x4 F115 A115) ∧ (z114 = 0 → (0 : Int) ≤ 0 ∧ (0 : Int) < 1 ∧ rg z115 ∧ rL (A115 42 0) ∧ rL z115 ∧ (((A115 42 0) = z115 → w_law_b1156 mo L xs I45 x4 F115 A115) ∧ (¬ (A115 42 0) = z115 → False))))) ∧ (¬ z116 = z114 → False)))))) ∧ ((swv (scf xs x4)) = 8 → w_La_moved mo F A (fun z124 F124 A124 => w_Mo_moved mo F124 A124 (fun z125 F125 A125 => w_Mo_thrown mo F125 A125 (fun z126 => rg z126 ∧ rg z124 ∧ ((z126 = z124 → ((¬ z124 = 0 → w_law_b1156 mo L xs I45 x4 F125 A125) ∧ (z124 = 0 → (0 : Int) ≤ 0 ∧ (0 : Int) < 1 ∧ rL (A125 42 0) ∧ rL z125 ∧ (((A125 42 0) = z125 → w_law_b1156 mo L xs I45 x4 F125 A125) ∧ (¬ (A125 42 0) = z125 → False))))) ∧ (¬ z126 = z124 → False)))))) ∧ ((swv (scf xs x4)) = 9 → 0 ≤ (x4 + 1) ∧ (x4 + 1) < (L : Int) ∧ w_La_mirrored mo F A (scf xs (x4 + 1)) (fun z135 F135 A135 => w_Mo_mirrored mo F135 A135 (scf xs (x4 + 1)) (fun z136 F136 A136 => w_Mo_thrown mo F136 A136 (fun z137 => rg z137 ∧ rg z135 ∧ ((z137 = z135 → ((¬ z135 = 0 → w_law_b1156 mo L xs I45 x4 F136 A136) ∧ (z135 = 0 → (0 : Int) ≤ 0 ∧ (0 : Int) < 1 ∧ rg z136 ∧ ((z136 = 0 → w_law_b929 mo L xs I45 x4 (A136 42 0) 0 F136 A136) ∧ (¬ z136 = 0 → w_law_b929 mo L xs I45 x4 (A136 42 0) 1 F136 A136))))) ∧ (¬ z137 = z135 → False)))))) ∧ ((swv (scf xs x4)) = 10 → 0 ≤ (x4 + 1) ∧ (x4 + 1) < (L : Int) ∧ w_La_improve mo F A (scf xs (x4 + 1)) (fun z145 F145 A145 => w_Mo_improve mo F145 A145 (scf xs (x4 + 1)) (fun z146 F146 A146 => w_Mo_thrown mo F146 A146 (fun z147 => rg z147 ∧ rg z145 ∧ ((z147 = z145 → ((¬ z145 = 0 → w_law_b1156 mo L xs I45 x4 F146 A146) ∧ (z145 = 0 → (0 : Int) ≤ 0 ∧ (0 : Int) < 1 ∧ rg z146 ∧ rL (A146 42 0) ∧ rL z146 ∧ (((A146 42 0) = z146 → w_law_b1156 mo L xs I45 x4 F146 A146) ∧ (¬ (A146 42 0) = z146 → False))))) ∧ (¬ z147 = z145 → False)))))) ∧ ((swv (scf xs x4)) = 11 → 0 ≤ (x4 + 1) ∧ (x4 + 1) < (L : Int) ∧ 0 ≤ (x4 + 2) ∧ (x4 + 2) < (L : Int) ∧ w_La_net mo F A (scf xs (x4 + 1)) (scf xs (x4 + 2)) (fun z159 F159 A159 => w_Mo_net mo F159 A159 (scf xs (x4 + 1)) (scf xs (x4 + 2)) (fun z160 F160 A160 => w_Mo_thrown mo F160 A160 (fun z161 => rg z161 ∧ rg z159 ∧ ((z161 = z159 → ((¬ z159 = 0 → w_law_b1156 mo L xs I45 x4 F160 A160) ∧ (z159 = 0 → (0 : Int) ≤ 0 ∧ (0 : Int) < 1 ∧ rg z160 ∧ rL (A160 42 0) ∧ rL z160 ∧ (((A160 42 0) = z160 → w_law_b1156 mo L xs I45 x4 F160 A160) ∧ (¬ (A160 42 0) = z160 → False))))) ∧ (¬ z161 = z159 → False)))))) ∧ ((swv (scf xs x4)) = 12 → w_La_wire mo F A (fun z169 F169 A169 => w_Mo_wire mo F169 A169 (fun z170 F170 A170 => w_Mo_thrown mo F170 A170 (fun z171 => rg z171 ∧ rg z169 ∧ ((z171 = z169 → ((¬ z169 = 0 → w_law_b1156 mo L xs I45 x4 F170 A170) ∧ (z169 = 0 → (0 : Int) ≤ 0 ∧ (0 : Int) < 1 ∧ rL (A170 42 0) ∧ rL z170 ∧ (((A170 42 0) = z170 → w_law_b1156 mo L xs I45 x4 F170 A170) ∧ (¬ (A170 42 0) = z170 → False))))) ∧ (¬ z171 = z169 → False)))))) ∧ ((swv (scf xs x4)) = 13 → w_La_overlap mo F A (fun z178 F178 A178 => w_Mo_overlap mo F178 A178 (fun z179 F179 A179 => w_Mo_thrown mo F179 A179 (fun z180 => rg z180 ∧ rg z178 ∧ ((z180 = z178 → ((¬ z178 = 0 → w_law_b1156 mo L xs I45 x4 F179 A179) ∧ (z178 = 0 → (0 : Int) ≤ 0 ∧ (0 : Int) < 1 ∧ rg z179 ∧ ((z179 = 0 → w_law_b1147 mo L xs I45 x4 (A179 42 0) 0 F179 A179) ∧ (¬ z179 = 0 → w_law_b1147 mo L xs I45 x4 (A179 42 0) 1 F179 A179))))) ∧ (¬ z180 = z178 → False)))))) ∧ (¬ (0 ≤ (swv (scf xs x4)) ∧ (swv (scf xs x4)) ≤ 13) → w_law_b1156 mo L xs I45 x4 F A))))) x4 F A
set_option maxHeartbeats 4000000 in
set_option maxRecDepth 100000 in
theorem s_law_b45 (C0 : lw_At p s m meth c b L xs) (hL : L ≤ 3074) (hlT : l.stackTraces = false) (hZ : y_Z (fun q : Nat => s.heap.size ≤ q) s) (hN : y_N s) {mo cb sb : Nat} (hcb : cb ≤ 100000) (hsb : sb ≤ 1000000) (x4 : Int) (F : Nat → Int) (A : Nat → Int → Int) (h : w_law_b45 mo L xs x4 F A) (h4 : 0 ≤ x4 ∧ x4 ≤ 3074) (H : Heap) (locs : List Loc) (ls : Array Slot) (hS : x_S D vCl shU ad cA (NN mo) (fun q : Nat => s.heap.size ≤ q) s F A H locs) (hl : lv_has ls 8 [(0, .ref b), (1, .ref (ad 0)), (2, .ref (ad 30)), (3, .ref (ad 49)), (4, .int (iI x4))]) : W p l e room_1 s m #[Value.ref b] below meth c H locs (cb + x4.toNat) (sb + 6 * x4.toNat) (lw_Z below #[Value.ref b] s) (F0 m 45 ls []) := by
  obtain ⟨hx, hb, hr, hml, hown, hts0, hX, hbl, hlocks, hgv⟩ := id C0
  have hts : ∀ w ∈ gT, w.before #[Value.ref b] s = true := fun w h => hts0 w (List.mem_filter.mp h).1
  have hA : ∀ q : Nat, s.heap.size ≤ q → (fun q : Nat => s.heap.size ≤ q) q := fun _ h => h
  have hbA : ¬ (fun q : Nat => s.heap.size ≤ q) b := Nat.not_le.mpr hbl
  refine h (fun x4 F A => (0 ≤ x4 ∧ x4 ≤ 3074) → ∀ (H : Heap) (locs : List Loc) (ls : Array Slot), x_S D vCl shU ad cA (NN mo) (fun q : Nat => s.heap.size ≤ q) s F A H locs → lv_has ls 8 [(0, .ref b), (1, .ref (ad 0)), (2, .ref (ad 30)), (3, .ref (ad 49)), (4, .int (iI x4))] → W p l e room_1 s m #[Value.ref b] below meth c H locs (cb + x4.toNat) (sb + 6 * x4.toNat) (lw_Z below #[Value.ref b] s) (F0 m 45 ls [])) ?_ h4 H locs ls hS hl
  intro x4 F A h h4 H locs ls hS hl
  refine lv_iload hx hb d_La_law_45 (lv_at hl 4 rfl) ?_
  refine lv_aload_n hx hb d_La_law_47 rfl (lv_at hl 0 rfl) ?_
  refine r_slen hx hb hX hbl hbA hS.2.2.2.1 d_La_law_48 ?_
  refine r_bipush hx hb d_La_law_49 (by decide +kernel) ?_
  refine r_isub hx hb d_La_law_51 ?_
  obtain ⟨g13, h⟩ := h
  obtain ⟨g14, h⟩ := h
  refine r_icmp_gt (tgt := 1162) hx hb g13 g14 d_La_law_52 (by decide) (fun hc => ?_) (fun hc => ?_)
  · replace h := h.1 hc
    refine r_iconst hx hb d_La_law_1162 ?_
    refine va_forget (fun q hq => hS.2.2.2.1.2.2 q hq) ?_
    refine W.widen (k := 601024) (n := 7293000) (by omega) (by omega) ?_
    exact lw_ret hx hb hr hlocks d_La_law_1163
  · replace h := h.2 hc
    refine lv_aload_n hx hb d_La_law_55 rfl (lv_at hl 0 rfl) ?_
    refine lv_iload hx hb d_La_law_56 (lv_at hl 4 rfl) ?_
    obtain ⟨g15, h⟩ := h
    obtain ⟨g16, h⟩ := h
    refine r_sld (i := x4) hx hb hX hbl hbA hS.2.2.2.1 g15 g16 (by omega) d_La_law_58 ?_
    refine r_bipush hx hb d_La_law_59 (by decide +kernel) ?_
    refine r_iand hx hb d_La_law_61 ?_
    have hz : (swv (scf xs x4)) = 0 ∨ (swv (scf xs x4)) = 1 ∨ (swv (scf xs x4)) = 2 ∨ (swv (scf xs x4)) = 3 ∨ (swv (scf xs x4)) = 4 ∨ (swv (scf xs x4)) = 5 ∨ (swv (scf xs x4)) = 6 ∨ (swv (scf xs x4)) = 7 ∨ (swv (scf xs x4)) = 8 ∨ (swv (scf xs x4)) = 9 ∨ (swv (scf xs x4)) = 10 ∨ (swv (scf xs x4)) = 11 ∨ (swv (scf xs x4)) = 12 ∨ (swv (scf xs x4)) = 13 ∨ ¬ (0 ≤ (swv (scf xs x4)) ∧ (swv (scf xs x4)) ≤ 13) := by omega
    have hzr : rg (swv (scf xs x4)) := rg_toInt _
    rcases hz with hz | hz | hz | hz | hz | hz | hz | hz | hz | hz | hz | hz | hz | hz | hz
    · replace h := h.1 hz
      refine lv_tableIn (tgt := 132) hx hb d_La_law_62 (by rw [hz]; decide +kernel) (by rw [hz]; decide +kernel) (off := 70) (by rw [hz]; decide +kernel) (by decide) ?_
      refine lv_aload_n hx hb d_La_law_132 rfl (lv_at hl 1 rfl) ?_
      refine lv_aload_n hx hb d_La_law_133 rfl (lv_at hl 0 rfl) ?_
      refine lv_iload hx hb d_La_law_134 (lv_at hl 4 rfl) ?_
      refine r_iconst hx hb d_La_law_136 ?_
      refine r_iadd hx hb d_La_law_137 ?_
      obtain ⟨g17, h⟩ := h
      obtain ⟨g18, h⟩ := h
      refine r_sld (i := (x4 + 1)) hx hb hX hbl hbA hS.2.2.2.1 g17 g18 (by omega) d_La_law_138 ?_
      refine r_i2l hx hb (rg_scf _ _) d_La_law_139 ?_
      refine r_bipush hx hb d_La_law_140 (by decide +kernel) ?_
      refine r_lshl hx hb d_La_law_142 ?_
      refine lv_aload_n hx hb d_La_law_143 rfl (lv_at hl 0 rfl) ?_
      refine lv_iload hx hb d_La_law_144 (lv_at hl 4 rfl) ?_
      refine r_iconst hx hb d_La_law_146 ?_
      refine r_iadd hx hb d_La_law_147 ?_
      obtain ⟨g19, h⟩ := h
      obtain ⟨g20, h⟩ := h
      refine r_sld (i := (x4 + 2)) hx hb hX hbl hbA hS.2.2.2.1 g19 g20 (by omega) d_La_law_148 ?_
      refine r_i2l hx hb (rg_scf _ _) d_La_law_149 ?_
      refine r_ldc2 4294967295 hx hb hown (v := 4294967295) (hts _ tw_858) rfl d_La_law_150 ?_
      refine r_land hx hb d_La_law_153 ?_
      refine r_lor hx hb d_La_law_154 ?_
      refine lv_aload_n hx hb d_La_law_155 rfl (lv_at hl 0 rfl) ?_
      refine lv_iload hx hb d_La_law_156 (lv_at hl 4 rfl) ?_
      refine r_iconst hx hb d_La_law_158 ?_
      refine r_iadd hx hb d_La_law_159 ?_
      obtain ⟨g21, h⟩ := h
      obtain ⟨g22, h⟩ := h
      refine r_sld (i := (x4 + 3)) hx hb hX hbl hbA hS.2.2.2.1 g21 g22 (by omega) d_La_law_160 ?_
      refine lv_aload_n hx hb d_La_law_161 rfl (lv_at hl 3 rfl) ?_
      refine r_cw (r_runSW (n := 4) (As := [.ref (ad 0), .long (lI (lgv (scf xs (x4 + 1)) (scf xs (x4 + 2)))), .int (iI (scf xs (x4 + 3))), .ref (ad 49)]) (rest := []) ⟨hx, hb, hml, hown, hts⟩ (ct_La_cell2 l hlT D ad cA mo _ _ _ _ _ _ h) rfl (gW tw_313) rfl rfl (hts _ tw_311) (hts _ tw_312) (hts _ tw_0) (by decide +kernel) ⟨Nat.le_of_ble_eq_true rfl, Nat.le_of_ble_eq_true rfl⟩ (y_preS hS hZ hN _) rfl rfl hl.1 rfl (lv_room (Nat.le_of_ble_eq_true rfl)) d_La_law_162 ⟨by show _ ≤ 601024; omega, by show _ ≤ 7293000; omega⟩) hS hA (fun z23 F23 A23 H locs hS h => ?_)
      refine lv_istore (lv' := [(5, .int (iI z23)), (0, .ref b), (1, .ref (ad 0)), (2, .ref (ad 30)), (3, .ref (ad 49)), (4, .int (iI x4))]) hx hb d_La_law_165 hl (by decide) rfl (fun ls hl => ?_)
      refine lv_aload_n hx hb d_La_law_167 rfl (lv_at hl 3 rfl) ?_
      refine lv_aload_n hx hb d_La_law_168 rfl (lv_at hl 1 rfl) ?_
      refine lv_iload hx hb d_La_law_169 (lv_at hl 5 rfl) ?_
      refine r_iconst hx hb d_La_law_171 ?_
      refine r_iadd hx hb d_La_law_172 ?_
      refine r_sld (i := (x4 + 1)) hx hb hX hbl hbA hS.2.2.2.1 g17 g18 (by omega) d_La_law_173 ?_
      refine r_i2l hx hb (rg_scf _ _) d_La_law_174 ?_
      refine r_bipush hx hb d_La_law_175 (by decide +kernel) ?_
      refine r_lshl hx hb d_La_law_177 ?_
      refine lv_aload_n hx hb d_La_law_178 rfl (lv_at hl 1 rfl) ?_
      refine lv_iload hx hb d_La_law_179 (lv_at hl 5 rfl) ?_
      refine r_iconst hx hb d_La_law_181 ?_
      refine r_iadd hx hb d_La_law_182 ?_
      refine r_sld (i := (x4 + 2)) hx hb hX hbl hbA hS.2.2.2.1 g19 g20 (by omega) d_La_law_183 ?_
      refine r_i2l hx hb (rg_scf _ _) d_La_law_184 ?_
      refine r_ldc2 4294967295 hx hb hown (v := 4294967295) (hts _ tw_858) rfl d_La_law_185 ?_
      refine r_land hx hb d_La_law_188 ?_
      refine r_lor hx hb d_La_law_189 ?_
      refine lv_aload_n hx hb d_La_law_190 rfl (lv_at hl 1 rfl) ?_
      refine lv_iload hx hb d_La_law_191 (lv_at hl 5 rfl) ?_
      refine r_iconst hx hb d_La_law_193 ?_
      refine r_iadd hx hb d_La_law_194 ?_
      refine r_sld (i := (x4 + 3)) hx hb hX hbl hbA hS.2.2.2.1 g21 g22 (by omega) d_La_law_195 ?_
      refine r_ci (va_runV (As := [.long (lI (lgv (scf xs (x4 + 1)) (scf xs (x4 + 2)))), .int (iI (scf xs (x4 + 3)))]) (rest := []) ⟨hx, hb, hml, hown, hts⟩ (ct_Mo_cell l D ad cA mo _ _ _ _ _ _ h) (cwV 2 hts (gV tw_725 tw_726 tw_727 tw_8 tw_728) rfl rfl rfl (by decide +kernel) ⟨Nat.le_of_ble_eq_true rfl, Nat.le_of_ble_eq_true rfl⟩) (x_preV hS 30 rfl rfl _) rfl rfl hl.1 rfl (lv_room (Nat.le_of_ble_eq_true rfl)) d_La_law_196 ⟨by show _ ≤ 601024; omega, by show _ ≤ 7293000; omega⟩) hS hA (fun z24 F24 A24 H locs hS h => ?_)
      refine lv_istore (lv' := [(6, .int (iI z24)), (5, .int (iI z23)), (0, .ref b), (1, .ref (ad 0)), (2, .ref (ad 30)), (3, .ref (ad 49)), (4, .int (iI x4))]) hx hb d_La_law_199 hl (by decide) rfl (fun ls hl => ?_)
      refine lv_aload_n hx hb d_La_law_201 rfl (lv_at hl 4 rfl) ?_
      refine r_ci (va_runV (As := []) (rest := []) ⟨hx, hb, hml, hown, hts⟩ (ct_Mo_thrown l D ad cA mo _ _ _ _ h) (cwV 0 hts (gV tw_721 tw_722 tw_723 tw_8 tw_724) rfl rfl rfl (by decide +kernel) ⟨Nat.le_of_ble_eq_true rfl, Nat.le_of_ble_eq_true rfl⟩) (x_preV hS 30 rfl rfl _) rfl rfl hl.1 rfl (lv_room (Nat.le_of_ble_eq_true rfl)) d_La_law_202 ⟨by show _ ≤ 601024; omega, by show _ ≤ 7293000; omega⟩) hS hA (fun z25 F25 A25 H locs hS h => ?_)
      obtain ⟨rfl, rfl, h⟩ := h
      refine lv_iload hx hb d_La_law_205 (lv_at hl 1 rfl) ?_
      obtain ⟨g26, h⟩ := h
      obtain ⟨g27, h⟩ := h
      refine r_icmp_eq (tgt := 212) hx hb g26 g27 d_La_law_207 (by decide) (fun hc => ?_) (fun hc => ?_)
      · replace h := h.1 hc
        refine lv_iload hx hb d_La_law_212 (lv_at hl 1 rfl) ?_
        refine r_if_ne (tgt := 229) hx hb g27 d_La_law_214 (by decide) (fun hc => ?_) (fun hc => ?_)
        · replace h := h.1 hc
          refine lv_goto (tgt := 1156) hx hb d_La_law_229 (by decide) ?_
          exact s_law_b1156 C0 hL hlT hZ hN hcb hsb (fun _ _ _ h => h) _ _ _ h (by omega) _ _ _ hS (lv_sub hl [2, 3, 4, 5, 6] rfl)
        · replace h := h.2 hc
          refine lv_aload_n hx hb d_La_law_217 rfl (lv_at hl 5 rfl) ?_
          refine r_iconst hx hb d_La_law_218 ?_
          obtain ⟨g28, h⟩ := h
          obtain ⟨g29, h⟩ := h
          refine r_lald (id := 42) (i := 0) (z := A24 42 0) hx hb hS 49 rfl g28 g29 d_La_law_219 rfl ?_
          refine lv_iload hx hb d_La_law_220 (lv_at hl 0 rfl) ?_
          obtain ⟨g30, h⟩ := h
          refine r_i2l hx hb g30 d_La_law_222 ?_
          obtain ⟨g31, h⟩ := h
          obtain ⟨g32, h⟩ := h
          refine r_lcmp_eq (tgt := 229) hx hb g31 g32 d_La_law_223 d_La_law_224 (by decide) (fun hc => ?_) (fun hc => ?_)
          · replace h := h.1 hc
            refine lv_goto (tgt := 1156) hx hb d_La_law_229 (by decide) ?_
            exact s_law_b1156 C0 hL hlT hZ hN hcb hsb (fun _ _ _ h => h) _ _ _ h (by omega) _ _ _ hS (lv_sub hl [2, 3, 4, 5, 6] rfl)
          · replace h := h.2 hc
            refine r_iconst hx hb d_La_law_227 ?_
            exact h.elim
      · replace h := h.2 hc
        refine r_iconst hx hb d_La_law_210 ?_
        exact h.elim
    · replace h := h.2.1 hz
      refine lv_tableIn (tgt := 232) hx hb d_La_law_62 (by rw [hz]; decide +kernel) (by rw [hz]; decide +kernel) (off := 170) (by rw [hz]; decide +kernel) (by decide) ?_
      refine lv_aload_n hx hb d_La_law_232 rfl (lv_at hl 1 rfl) ?_
      refine lv_aload_n hx hb d_La_law_233 rfl (lv_at hl 0 rfl) ?_
      refine lv_iload hx hb d_La_law_234 (lv_at hl 4 rfl) ?_
      refine r_iconst hx hb d_La_law_236 ?_
      refine r_iadd hx hb d_La_law_237 ?_
      obtain ⟨g33, h⟩ := h
      obtain ⟨g34, h⟩ := h
      refine r_sld (i := (x4 + 1)) hx hb hX hbl hbA hS.2.2.2.1 g33 g34 (by omega) d_La_law_238 ?_
      refine lv_aload_n hx hb d_La_law_239 rfl (lv_at hl 0 rfl) ?_
      refine lv_iload hx hb d_La_law_240 (lv_at hl 4 rfl) ?_
      refine r_iconst hx hb d_La_law_242 ?_
      refine r_iadd hx hb d_La_law_243 ?_
      obtain ⟨g35, h⟩ := h
      obtain ⟨g36, h⟩ := h
      refine r_sld (i := (x4 + 2)) hx hb hX hbl hbA hS.2.2.2.1 g35 g36 (by omega) d_La_law_244 ?_
      refine r_i2l hx hb (rg_scf _ _) d_La_law_245 ?_
      refine r_bipush hx hb d_La_law_246 (by decide +kernel) ?_
      refine r_lshl hx hb d_La_law_248 ?_
      refine lv_aload_n hx hb d_La_law_249 rfl (lv_at hl 0 rfl) ?_
      refine lv_iload hx hb d_La_law_250 (lv_at hl 4 rfl) ?_
      refine r_iconst hx hb d_La_law_252 ?_
      refine r_iadd hx hb d_La_law_253 ?_
      obtain ⟨g37, h⟩ := h
      obtain ⟨g38, h⟩ := h
      refine r_sld (i := (x4 + 3)) hx hb hX hbl hbA hS.2.2.2.1 g37 g38 (by omega) d_La_law_254 ?_
      refine r_i2l hx hb (rg_scf _ _) d_La_law_255 ?_
      refine r_ldc2 4294967295 hx hb hown (v := 4294967295) (hts _ tw_858) rfl d_La_law_256 ?_
      refine r_land hx hb d_La_law_259 ?_
      refine r_lor hx hb d_La_law_260 ?_
      refine lv_aload_n hx hb d_La_law_261 rfl (lv_at hl 0 rfl) ?_
      refine lv_iload hx hb d_La_law_262 (lv_at hl 4 rfl) ?_
      refine r_iconst hx hb d_La_law_264 ?_
      refine r_iadd hx hb d_La_law_265 ?_
      obtain ⟨g39, h⟩ := h
      obtain ⟨g40, h⟩ := h
      refine r_sld (i := (x4 + 4)) hx hb hX hbl hbA hS.2.2.2.1 g39 g40 (by omega) d_La_law_266 ?_
      refine lv_aload_n hx hb d_La_law_267 rfl (lv_at hl 3 rfl) ?_
      refine r_cw (r_runSW (n := 5) (As := [.ref (ad 0), .int (iI (scf xs (x4 + 1))), .long (lI (lgv (scf xs (x4 + 2)) (scf xs (x4 + 3)))), .int (iI (scf xs (x4 + 4))), .ref (ad 49)]) (rest := []) ⟨hx, hb, hml, hown, hts⟩ (ct_La_want l hlT D ad cA mo _ _ _ _ _ _ _ h) rfl (gW tw_411) rfl rfl (hts _ tw_409) (hts _ tw_410) (hts _ tw_0) (by decide +kernel) ⟨Nat.le_of_ble_eq_true rfl, Nat.le_of_ble_eq_true rfl⟩ (y_preS hS hZ hN _) rfl rfl hl.1 rfl (lv_room (Nat.le_of_ble_eq_true rfl)) d_La_law_268 ⟨by show _ ≤ 601024; omega, by show _ ≤ 7293000; omega⟩) hS hA (fun z41 F41 A41 H locs hS h => ?_)
      refine lv_istore (lv' := [(5, .int (iI z41)), (0, .ref b), (1, .ref (ad 0)), (2, .ref (ad 30)), (3, .ref (ad 49)), (4, .int (iI x4))]) hx hb d_La_law_271 hl (by decide) rfl (fun ls hl => ?_)
      refine lv_aload_n hx hb d_La_law_273 rfl (lv_at hl 3 rfl) ?_
      refine lv_aload_n hx hb d_La_law_274 rfl (lv_at hl 1 rfl) ?_
      refine lv_iload hx hb d_La_law_275 (lv_at hl 5 rfl) ?_
      refine r_iconst hx hb d_La_law_277 ?_
      refine r_iadd hx hb d_La_law_278 ?_
      refine r_sld (i := (x4 + 1)) hx hb hX hbl hbA hS.2.2.2.1 g33 g34 (by omega) d_La_law_279 ?_
      refine lv_aload_n hx hb d_La_law_280 rfl (lv_at hl 1 rfl) ?_
      refine lv_iload hx hb d_La_law_281 (lv_at hl 5 rfl) ?_
      refine r_iconst hx hb d_La_law_283 ?_
      refine r_iadd hx hb d_La_law_284 ?_
      refine r_sld (i := (x4 + 2)) hx hb hX hbl hbA hS.2.2.2.1 g35 g36 (by omega) d_La_law_285 ?_
      refine r_i2l hx hb (rg_scf _ _) d_La_law_286 ?_
      refine r_bipush hx hb d_La_law_287 (by decide +kernel) ?_
      refine r_lshl hx hb d_La_law_289 ?_
      refine lv_aload_n hx hb d_La_law_290 rfl (lv_at hl 1 rfl) ?_
      refine lv_iload hx hb d_La_law_291 (lv_at hl 5 rfl) ?_
      refine r_iconst hx hb d_La_law_293 ?_
      refine r_iadd hx hb d_La_law_294 ?_
      refine r_sld (i := (x4 + 3)) hx hb hX hbl hbA hS.2.2.2.1 g37 g38 (by omega) d_La_law_295 ?_
      refine r_i2l hx hb (rg_scf _ _) d_La_law_296 ?_
      refine r_ldc2 4294967295 hx hb hown (v := 4294967295) (hts _ tw_858) rfl d_La_law_297 ?_
      refine r_land hx hb d_La_law_300 ?_
      refine r_lor hx hb d_La_law_301 ?_
      refine lv_aload_n hx hb d_La_law_302 rfl (lv_at hl 1 rfl) ?_
      refine lv_iload hx hb d_La_law_303 (lv_at hl 5 rfl) ?_
      refine r_iconst hx hb d_La_law_305 ?_
      refine r_iadd hx hb d_La_law_306 ?_
      refine r_sld (i := (x4 + 4)) hx hb hX hbl hbA hS.2.2.2.1 g39 g40 (by omega) d_La_law_307 ?_
      refine r_ci (va_runV (As := [.int (iI (scf xs (x4 + 1))), .long (lI (lgv (scf xs (x4 + 2)) (scf xs (x4 + 3)))), .int (iI (scf xs (x4 + 4)))]) (rest := []) ⟨hx, hb, hml, hown, hts⟩ (ct_Mo_want l D ad cA mo _ _ _ _ _ _ _ h) (cwV 3 hts (gV tw_730 tw_731 tw_732 tw_8 tw_733) rfl rfl rfl (by decide +kernel) ⟨Nat.le_of_ble_eq_true rfl, Nat.le_of_ble_eq_true rfl⟩) (x_preV hS 30 rfl rfl _) rfl rfl hl.1 rfl (lv_room (Nat.le_of_ble_eq_true rfl)) d_La_law_308 ⟨by show _ ≤ 601024; omega, by show _ ≤ 7293000; omega⟩) hS hA (fun z42 F42 A42 H locs hS h => ?_)
      refine lv_istore (lv' := [(6, .int (iI z42)), (5, .int (iI z41)), (0, .ref b), (1, .ref (ad 0)), (2, .ref (ad 30)), (3, .ref (ad 49)), (4, .int (iI x4))]) hx hb d_La_law_311 hl (by decide) rfl (fun ls hl => ?_)
      refine lv_aload_n hx hb d_La_law_313 rfl (lv_at hl 4 rfl) ?_
      refine r_ci (va_runV (As := []) (rest := []) ⟨hx, hb, hml, hown, hts⟩ (ct_Mo_thrown l D ad cA mo _ _ _ _ h) (cwV 0 hts (gV tw_721 tw_722 tw_723 tw_8 tw_724) rfl rfl rfl (by decide +kernel) ⟨Nat.le_of_ble_eq_true rfl, Nat.le_of_ble_eq_true rfl⟩) (x_preV hS 30 rfl rfl _) rfl rfl hl.1 rfl (lv_room (Nat.le_of_ble_eq_true rfl)) d_La_law_314 ⟨by show _ ≤ 601024; omega, by show _ ≤ 7293000; omega⟩) hS hA (fun z43 F43 A43 H locs hS h => ?_)
      obtain ⟨rfl, rfl, h⟩ := h
      refine lv_iload hx hb d_La_law_317 (lv_at hl 1 rfl) ?_
      obtain ⟨g44, h⟩ := h
      obtain ⟨g45, h⟩ := h
      refine r_icmp_eq (tgt := 324) hx hb g44 g45 d_La_law_319 (by decide) (fun hc => ?_) (fun hc => ?_)
      · replace h := h.1 hc
        refine lv_iload hx hb d_La_law_324 (lv_at hl 1 rfl) ?_
        refine r_if_ne (tgt := 348) hx hb g45 d_La_law_326 (by decide) (fun hc => ?_) (fun hc => ?_)
        · replace h := h.1 hc
          refine lv_goto (tgt := 1156) hx hb d_La_law_348 (by decide) ?_
          exact s_law_b1156 C0 hL hlT hZ hN hcb hsb (fun _ _ _ h => h) _ _ _ h (by omega) _ _ _ hS (lv_sub hl [2, 3, 4, 5, 6] rfl)
        · replace h := h.2 hc
          refine lv_aload_n hx hb d_La_law_329 rfl (lv_at hl 5 rfl) ?_
          refine r_iconst hx hb d_La_law_330 ?_
          obtain ⟨g46, h⟩ := h
          obtain ⟨g47, h⟩ := h
          refine r_lald (id := 42) (i := 0) (z := A42 42 0) hx hb hS 49 rfl g46 g47 d_La_law_331 rfl ?_
          refine lv_iload hx hb d_La_law_332 (lv_at hl 0 rfl) ?_
          obtain ⟨g48, h⟩ := h
          refine r_if_eq (tgt := 341) hx hb g48 d_La_law_334 (by decide) (fun hc => ?_) (fun hc => ?_)
          · replace h := h.1 hc
            refine r_lconst hx hb 0 d_La_law_341 (by decide +kernel) ?_
            exact s_law_b342 C0 hL hlT hZ hN hcb hsb (fun _ _ _ h => h) _ _ _ _ _ h (by omega) _ _ _ hS (lv_sub hl [2, 3, 4, 5, 6] rfl)
          · replace h := h.2 hc
            refine r_lconst hx hb 1 d_La_law_337 (by decide +kernel) ?_
            refine lv_goto (tgt := 342) hx hb d_La_law_338 (by decide) ?_
            exact s_law_b342 C0 hL hlT hZ hN hcb hsb (fun _ _ _ h => h) _ _ _ _ _ h (by omega) _ _ _ hS (lv_sub hl [2, 3, 4, 5, 6] rfl)
      · replace h := h.2 hc
        refine r_iconst hx hb d_La_law_322 ?_
        exact h.elim
    · replace h := h.2.2.1 hz
      refine lv_tableIn (tgt := 351) hx hb d_La_law_62 (by rw [hz]; decide +kernel) (by rw [hz]; decide +kernel) (off := 289) (by rw [hz]; decide +kernel) (by decide) ?_
      refine lv_aload_n hx hb d_La_law_351 rfl (lv_at hl 1 rfl) ?_
      refine lv_aload_n hx hb d_La_law_352 rfl (lv_at hl 0 rfl) ?_
      refine lv_iload hx hb d_La_law_353 (lv_at hl 4 rfl) ?_
      refine r_iconst hx hb d_La_law_355 ?_
      refine r_iadd hx hb d_La_law_356 ?_
      obtain ⟨g49, h⟩ := h
      obtain ⟨g50, h⟩ := h
      refine r_sld (i := (x4 + 1)) hx hb hX hbl hbA hS.2.2.2.1 g49 g50 (by omega) d_La_law_357 ?_
      refine lv_aload_n hx hb d_La_law_358 rfl (lv_at hl 0 rfl) ?_
      refine lv_iload hx hb d_La_law_359 (lv_at hl 4 rfl) ?_
      refine r_iconst hx hb d_La_law_361 ?_
      refine r_iadd hx hb d_La_law_362 ?_
      obtain ⟨g51, h⟩ := h
      obtain ⟨g52, h⟩ := h
      refine r_sld (i := (x4 + 2)) hx hb hX hbl hbA hS.2.2.2.1 g51 g52 (by omega) d_La_law_363 ?_
      refine r_i2l hx hb (rg_scf _ _) d_La_law_364 ?_
      refine r_bipush hx hb d_La_law_365 (by decide +kernel) ?_
      refine r_lshl hx hb d_La_law_367 ?_
      refine lv_aload_n hx hb d_La_law_368 rfl (lv_at hl 0 rfl) ?_
      refine lv_iload hx hb d_La_law_369 (lv_at hl 4 rfl) ?_
      refine r_iconst hx hb d_La_law_371 ?_
      refine r_iadd hx hb d_La_law_372 ?_
      obtain ⟨g53, h⟩ := h
      obtain ⟨g54, h⟩ := h
      refine r_sld (i := (x4 + 3)) hx hb hX hbl hbA hS.2.2.2.1 g53 g54 (by omega) d_La_law_373 ?_
      refine r_i2l hx hb (rg_scf _ _) d_La_law_374 ?_
      refine r_ldc2 4294967295 hx hb hown (v := 4294967295) (hts _ tw_858) rfl d_La_law_375 ?_
      refine r_land hx hb d_La_law_378 ?_
      refine r_lor hx hb d_La_law_379 ?_
      refine lv_aload_n hx hb d_La_law_380 rfl (lv_at hl 0 rfl) ?_
      refine lv_iload hx hb d_La_law_381 (lv_at hl 4 rfl) ?_
      refine r_iconst hx hb d_La_law_383 ?_
      refine r_iadd hx hb d_La_law_384 ?_
      obtain ⟨g55, h⟩ := h
      obtain ⟨g56, h⟩ := h
      refine r_sld (i := (x4 + 4)) hx hb hX hbl hbA hS.2.2.2.1 g55 g56 (by omega) d_La_law_385 ?_
      refine r_i2l hx hb (rg_scf _ _) d_La_law_386 ?_
      refine r_bipush hx hb d_La_law_387 (by decide +kernel) ?_
      refine r_lshl hx hb d_La_law_389 ?_
      refine lv_aload_n hx hb d_La_law_390 rfl (lv_at hl 0 rfl) ?_
      refine lv_iload hx hb d_La_law_391 (lv_at hl 4 rfl) ?_
      refine r_iconst hx hb d_La_law_393 ?_
      refine r_iadd hx hb d_La_law_394 ?_
      obtain ⟨g57, h⟩ := h
      obtain ⟨g58, h⟩ := h
      refine r_sld (i := (x4 + 5)) hx hb hX hbl hbA hS.2.2.2.1 g57 g58 (by omega) d_La_law_395 ?_
      refine r_i2l hx hb (rg_scf _ _) d_La_law_396 ?_
      refine r_ldc2 4294967295 hx hb hown (v := 4294967295) (hts _ tw_858) rfl d_La_law_397 ?_
      refine r_land hx hb d_La_law_400 ?_
      refine r_lor hx hb d_La_law_401 ?_
      refine lv_aload_n hx hb d_La_law_402 rfl (lv_at hl 3 rfl) ?_
      refine r_cw (r_runSW (n := 5) (As := [.ref (ad 0), .int (iI (scf xs (x4 + 1))), .long (lI (lgv (scf xs (x4 + 2)) (scf xs (x4 + 3)))), .long (lI (lgv (scf xs (x4 + 4)) (scf xs (x4 + 5)))), .ref (ad 49)]) (rest := []) ⟨hx, hb, hml, hown, hts⟩ (ct_La_bar l hlT D ad cA mo _ _ _ _ _ _ _ h) rfl (gW tw_453) rfl rfl (hts _ tw_451) (hts _ tw_452) (hts _ tw_0) (by decide +kernel) ⟨Nat.le_of_ble_eq_true rfl, Nat.le_of_ble_eq_true rfl⟩ (y_preS hS hZ hN _) rfl rfl hl.1 rfl (lv_room (Nat.le_of_ble_eq_true rfl)) d_La_law_403 ⟨by show _ ≤ 601024; omega, by show _ ≤ 7293000; omega⟩) hS hA (fun z59 F59 A59 H locs hS h => ?_)
      refine lv_istore (lv' := [(5, .int (iI z59)), (0, .ref b), (1, .ref (ad 0)), (2, .ref (ad 30)), (3, .ref (ad 49)), (4, .int (iI x4))]) hx hb d_La_law_406 hl (by decide) rfl (fun ls hl => ?_)
      refine lv_aload_n hx hb d_La_law_408 rfl (lv_at hl 3 rfl) ?_
      refine lv_aload_n hx hb d_La_law_409 rfl (lv_at hl 1 rfl) ?_
      refine lv_iload hx hb d_La_law_410 (lv_at hl 5 rfl) ?_
      refine r_iconst hx hb d_La_law_412 ?_
      refine r_iadd hx hb d_La_law_413 ?_
      refine r_sld (i := (x4 + 1)) hx hb hX hbl hbA hS.2.2.2.1 g49 g50 (by omega) d_La_law_414 ?_
      refine lv_aload_n hx hb d_La_law_415 rfl (lv_at hl 1 rfl) ?_
      refine lv_iload hx hb d_La_law_416 (lv_at hl 5 rfl) ?_
      refine r_iconst hx hb d_La_law_418 ?_
      refine r_iadd hx hb d_La_law_419 ?_
      refine r_sld (i := (x4 + 2)) hx hb hX hbl hbA hS.2.2.2.1 g51 g52 (by omega) d_La_law_420 ?_
      refine r_i2l hx hb (rg_scf _ _) d_La_law_421 ?_
      refine r_bipush hx hb d_La_law_422 (by decide +kernel) ?_
      refine r_lshl hx hb d_La_law_424 ?_
      refine lv_aload_n hx hb d_La_law_425 rfl (lv_at hl 1 rfl) ?_
      refine lv_iload hx hb d_La_law_426 (lv_at hl 5 rfl) ?_
      refine r_iconst hx hb d_La_law_428 ?_
      refine r_iadd hx hb d_La_law_429 ?_
      refine r_sld (i := (x4 + 3)) hx hb hX hbl hbA hS.2.2.2.1 g53 g54 (by omega) d_La_law_430 ?_
      refine r_i2l hx hb (rg_scf _ _) d_La_law_431 ?_
      refine r_ldc2 4294967295 hx hb hown (v := 4294967295) (hts _ tw_858) rfl d_La_law_432 ?_
      refine r_land hx hb d_La_law_435 ?_
      refine r_lor hx hb d_La_law_436 ?_
      refine lv_aload_n hx hb d_La_law_437 rfl (lv_at hl 1 rfl) ?_
      refine lv_iload hx hb d_La_law_438 (lv_at hl 5 rfl) ?_
      refine r_iconst hx hb d_La_law_440 ?_
      refine r_iadd hx hb d_La_law_441 ?_
      refine r_sld (i := (x4 + 4)) hx hb hX hbl hbA hS.2.2.2.1 g55 g56 (by omega) d_La_law_442 ?_
      refine r_i2l hx hb (rg_scf _ _) d_La_law_443 ?_
      refine r_bipush hx hb d_La_law_444 (by decide +kernel) ?_
      refine r_lshl hx hb d_La_law_446 ?_
      refine lv_aload_n hx hb d_La_law_447 rfl (lv_at hl 1 rfl) ?_
      refine lv_iload hx hb d_La_law_448 (lv_at hl 5 rfl) ?_
      refine r_iconst hx hb d_La_law_450 ?_
      refine r_iadd hx hb d_La_law_451 ?_
      refine r_sld (i := (x4 + 5)) hx hb hX hbl hbA hS.2.2.2.1 g57 g58 (by omega) d_La_law_452 ?_
      refine r_i2l hx hb (rg_scf _ _) d_La_law_453 ?_
      refine r_ldc2 4294967295 hx hb hown (v := 4294967295) (hts _ tw_858) rfl d_La_law_454 ?_
      refine r_land hx hb d_La_law_457 ?_
      refine r_lor hx hb d_La_law_458 ?_
      refine r_ci (va_runV (As := [.int (iI (scf xs (x4 + 1))), .long (lI (lgv (scf xs (x4 + 2)) (scf xs (x4 + 3)))), .long (lI (lgv (scf xs (x4 + 4)) (scf xs (x4 + 5))))]) (rest := []) ⟨hx, hb, hml, hown, hts⟩ (ct_Mo_bar l D ad cA mo _ _ _ _ _ _ _ h) (cwV 3 hts (gV tw_742 tw_743 tw_744 tw_8 tw_745) rfl rfl rfl (by decide +kernel) ⟨Nat.le_of_ble_eq_true rfl, Nat.le_of_ble_eq_true rfl⟩) (x_preV hS 30 rfl rfl _) rfl rfl hl.1 rfl (lv_room (Nat.le_of_ble_eq_true rfl)) d_La_law_459 ⟨by show _ ≤ 601024; omega, by show _ ≤ 7293000; omega⟩) hS hA (fun z60 F60 A60 H locs hS h => ?_)
      refine lv_istore (lv' := [(6, .int (iI z60)), (5, .int (iI z59)), (0, .ref b), (1, .ref (ad 0)), (2, .ref (ad 30)), (3, .ref (ad 49)), (4, .int (iI x4))]) hx hb d_La_law_462 hl (by decide) rfl (fun ls hl => ?_)
      refine lv_aload_n hx hb d_La_law_464 rfl (lv_at hl 4 rfl) ?_
      refine r_ci (va_runV (As := []) (rest := []) ⟨hx, hb, hml, hown, hts⟩ (ct_Mo_thrown l D ad cA mo _ _ _ _ h) (cwV 0 hts (gV tw_721 tw_722 tw_723 tw_8 tw_724) rfl rfl rfl (by decide +kernel) ⟨Nat.le_of_ble_eq_true rfl, Nat.le_of_ble_eq_true rfl⟩) (x_preV hS 30 rfl rfl _) rfl rfl hl.1 rfl (lv_room (Nat.le_of_ble_eq_true rfl)) d_La_law_465 ⟨by show _ ≤ 601024; omega, by show _ ≤ 7293000; omega⟩) hS hA (fun z61 F61 A61 H locs hS h => ?_)
      obtain ⟨rfl, rfl, h⟩ := h
      refine lv_iload hx hb d_La_law_468 (lv_at hl 1 rfl) ?_
      obtain ⟨g62, h⟩ := h
      obtain ⟨g63, h⟩ := h
      refine r_icmp_eq (tgt := 475) hx hb g62 g63 d_La_law_470 (by decide) (fun hc => ?_) (fun hc => ?_)
      · replace h := h.1 hc
        refine lv_iload hx hb d_La_law_475 (lv_at hl 1 rfl) ?_
        refine r_if_ne (tgt := 499) hx hb g63 d_La_law_477 (by decide) (fun hc => ?_) (fun hc => ?_)
        · replace h := h.1 hc
          refine lv_goto (tgt := 1156) hx hb d_La_law_499 (by decide) ?_
          exact s_law_b1156 C0 hL hlT hZ hN hcb hsb (fun _ _ _ h => h) _ _ _ h (by omega) _ _ _ hS (lv_sub hl [2, 3, 4, 5, 6] rfl)
        · replace h := h.2 hc
          refine lv_aload_n hx hb d_La_law_480 rfl (lv_at hl 5 rfl) ?_
          refine r_iconst hx hb d_La_law_481 ?_
          obtain ⟨g64, h⟩ := h
          obtain ⟨g65, h⟩ := h
          refine r_lald (id := 42) (i := 0) (z := A60 42 0) hx hb hS 49 rfl g64 g65 d_La_law_482 rfl ?_
          refine lv_iload hx hb d_La_law_483 (lv_at hl 0 rfl) ?_
          obtain ⟨g66, h⟩ := h
          refine r_if_eq (tgt := 492) hx hb g66 d_La_law_485 (by decide) (fun hc => ?_) (fun hc => ?_)
          · replace h := h.1 hc
            refine r_lconst hx hb 0 d_La_law_492 (by decide +kernel) ?_
            exact s_law_b493 C0 hL hlT hZ hN hcb hsb (fun _ _ _ h => h) _ _ _ _ _ h (by omega) _ _ _ hS (lv_sub hl [2, 3, 4, 5, 6] rfl)
          · replace h := h.2 hc
            refine r_lconst hx hb 1 d_La_law_488 (by decide +kernel) ?_
            refine lv_goto (tgt := 493) hx hb d_La_law_489 (by decide) ?_
            exact s_law_b493 C0 hL hlT hZ hN hcb hsb (fun _ _ _ h => h) _ _ _ _ _ h (by omega) _ _ _ hS (lv_sub hl [2, 3, 4, 5, 6] rfl)
      · replace h := h.2 hc
        refine r_iconst hx hb d_La_law_473 ?_
        exact h.elim
    · replace h := h.2.2.2.1 hz
      refine lv_tableIn (tgt := 502) hx hb d_La_law_62 (by rw [hz]; decide +kernel) (by rw [hz]; decide +kernel) (off := 440) (by rw [hz]; decide +kernel) (by decide) ?_
      refine lv_aload_n hx hb d_La_law_502 rfl (lv_at hl 1 rfl) ?_
      refine lv_aload_n hx hb d_La_law_503 rfl (lv_at hl 0 rfl) ?_
      refine lv_iload hx hb d_La_law_504 (lv_at hl 4 rfl) ?_
      refine r_iconst hx hb d_La_law_506 ?_
      refine r_iadd hx hb d_La_law_507 ?_
      obtain ⟨g67, h⟩ := h
      obtain ⟨g68, h⟩ := h
      refine r_sld (i := (x4 + 1)) hx hb hX hbl hbA hS.2.2.2.1 g67 g68 (by omega) d_La_law_508 ?_
      refine lv_aload_n hx hb d_La_law_509 rfl (lv_at hl 0 rfl) ?_
      refine lv_iload hx hb d_La_law_510 (lv_at hl 4 rfl) ?_
      refine r_iconst hx hb d_La_law_512 ?_
      refine r_iadd hx hb d_La_law_513 ?_
      obtain ⟨g69, h⟩ := h
      obtain ⟨g70, h⟩ := h
      refine r_sld (i := (x4 + 2)) hx hb hX hbl hbA hS.2.2.2.1 g69 g70 (by omega) d_La_law_514 ?_
      refine lv_aload_n hx hb d_La_law_515 rfl (lv_at hl 0 rfl) ?_
      refine lv_iload hx hb d_La_law_516 (lv_at hl 4 rfl) ?_
      refine r_iconst hx hb d_La_law_518 ?_
      refine r_iadd hx hb d_La_law_519 ?_
      obtain ⟨g71, h⟩ := h
      obtain ⟨g72, h⟩ := h
      refine r_sld (i := (x4 + 3)) hx hb hX hbl hbA hS.2.2.2.1 g71 g72 (by omega) d_La_law_520 ?_
      refine lv_aload_n hx hb d_La_law_521 rfl (lv_at hl 3 rfl) ?_
      refine r_cw (r_runSW (n := 5) (As := [.ref (ad 0), .int (iI (scf xs (x4 + 1))), .int (iI (scf xs (x4 + 2))), .int (iI (scf xs (x4 + 3))), .ref (ad 49)]) (rest := []) ⟨hx, hb, hml, hown, hts⟩ (ct_La_kind l hlT D ad cA mo _ _ _ _ _ _ _ h) rfl (gW tw_485) rfl rfl (hts _ tw_483) (hts _ tw_484) (hts _ tw_0) (by decide +kernel) ⟨Nat.le_of_ble_eq_true rfl, Nat.le_of_ble_eq_true rfl⟩ (y_preS hS hZ hN _) rfl rfl hl.1 rfl (lv_room (Nat.le_of_ble_eq_true rfl)) d_La_law_522 ⟨by show _ ≤ 601024; omega, by show _ ≤ 7293000; omega⟩) hS hA (fun z73 F73 A73 H locs hS h => ?_)
      refine lv_istore (lv' := [(5, .int (iI z73)), (0, .ref b), (1, .ref (ad 0)), (2, .ref (ad 30)), (3, .ref (ad 49)), (4, .int (iI x4))]) hx hb d_La_law_525 hl (by decide) rfl (fun ls hl => ?_)
      refine lv_aload_n hx hb d_La_law_527 rfl (lv_at hl 3 rfl) ?_
      refine lv_aload_n hx hb d_La_law_528 rfl (lv_at hl 1 rfl) ?_
      refine lv_iload hx hb d_La_law_529 (lv_at hl 5 rfl) ?_
      refine r_iconst hx hb d_La_law_531 ?_
      refine r_iadd hx hb d_La_law_532 ?_
      refine r_sld (i := (x4 + 1)) hx hb hX hbl hbA hS.2.2.2.1 g67 g68 (by omega) d_La_law_533 ?_
      refine lv_aload_n hx hb d_La_law_534 rfl (lv_at hl 1 rfl) ?_
      refine lv_iload hx hb d_La_law_535 (lv_at hl 5 rfl) ?_
      refine r_iconst hx hb d_La_law_537 ?_
      refine r_iadd hx hb d_La_law_538 ?_
      refine r_sld (i := (x4 + 2)) hx hb hX hbl hbA hS.2.2.2.1 g69 g70 (by omega) d_La_law_539 ?_
      refine lv_aload_n hx hb d_La_law_540 rfl (lv_at hl 1 rfl) ?_
      refine lv_iload hx hb d_La_law_541 (lv_at hl 5 rfl) ?_
      refine r_iconst hx hb d_La_law_543 ?_
      refine r_iadd hx hb d_La_law_544 ?_
      refine r_sld (i := (x4 + 3)) hx hb hX hbl hbA hS.2.2.2.1 g71 g72 (by omega) d_La_law_545 ?_
      refine r_ci (va_runV (As := [.int (iI (scf xs (x4 + 1))), .int (iI (scf xs (x4 + 2))), .int (iI (scf xs (x4 + 3)))]) (rest := []) ⟨hx, hb, hml, hown, hts⟩ (ct_Mo_kind l D ad cA mo _ _ _ _ _ _ _ h) (cwV 3 hts (gV tw_746 tw_747 tw_748 tw_8 tw_749) rfl rfl rfl (by decide +kernel) ⟨Nat.le_of_ble_eq_true rfl, Nat.le_of_ble_eq_true rfl⟩) (x_preV hS 30 rfl rfl _) rfl rfl hl.1 rfl (lv_room (Nat.le_of_ble_eq_true rfl)) d_La_law_546 ⟨by show _ ≤ 601024; omega, by show _ ≤ 7293000; omega⟩) hS hA (fun z74 F74 A74 H locs hS h => ?_)
      refine lv_istore (lv' := [(6, .int (iI z74)), (5, .int (iI z73)), (0, .ref b), (1, .ref (ad 0)), (2, .ref (ad 30)), (3, .ref (ad 49)), (4, .int (iI x4))]) hx hb d_La_law_549 hl (by decide) rfl (fun ls hl => ?_)
      refine lv_aload_n hx hb d_La_law_551 rfl (lv_at hl 4 rfl) ?_
      refine r_ci (va_runV (As := []) (rest := []) ⟨hx, hb, hml, hown, hts⟩ (ct_Mo_thrown l D ad cA mo _ _ _ _ h) (cwV 0 hts (gV tw_721 tw_722 tw_723 tw_8 tw_724) rfl rfl rfl (by decide +kernel) ⟨Nat.le_of_ble_eq_true rfl, Nat.le_of_ble_eq_true rfl⟩) (x_preV hS 30 rfl rfl _) rfl rfl hl.1 rfl (lv_room (Nat.le_of_ble_eq_true rfl)) d_La_law_552 ⟨by show _ ≤ 601024; omega, by show _ ≤ 7293000; omega⟩) hS hA (fun z75 F75 A75 H locs hS h => ?_)
      obtain ⟨rfl, rfl, h⟩ := h
      refine lv_iload hx hb d_La_law_555 (lv_at hl 1 rfl) ?_
      obtain ⟨g76, h⟩ := h
      obtain ⟨g77, h⟩ := h
      refine r_icmp_eq (tgt := 562) hx hb g76 g77 d_La_law_557 (by decide) (fun hc => ?_) (fun hc => ?_)
      · replace h := h.1 hc
        refine lv_iload hx hb d_La_law_562 (lv_at hl 1 rfl) ?_
        refine r_if_ne (tgt := 586) hx hb g77 d_La_law_564 (by decide) (fun hc => ?_) (fun hc => ?_)
        · replace h := h.1 hc
          refine lv_goto (tgt := 1156) hx hb d_La_law_586 (by decide) ?_
          exact s_law_b1156 C0 hL hlT hZ hN hcb hsb (fun _ _ _ h => h) _ _ _ h (by omega) _ _ _ hS (lv_sub hl [2, 3, 4, 5, 6] rfl)
        · replace h := h.2 hc
          refine lv_aload_n hx hb d_La_law_567 rfl (lv_at hl 5 rfl) ?_
          refine r_iconst hx hb d_La_law_568 ?_
          obtain ⟨g78, h⟩ := h
          obtain ⟨g79, h⟩ := h
          refine r_lald (id := 42) (i := 0) (z := A74 42 0) hx hb hS 49 rfl g78 g79 d_La_law_569 rfl ?_
          refine lv_iload hx hb d_La_law_570 (lv_at hl 0 rfl) ?_
          obtain ⟨g80, h⟩ := h
          refine r_if_eq (tgt := 579) hx hb g80 d_La_law_572 (by decide) (fun hc => ?_) (fun hc => ?_)
          · replace h := h.1 hc
            refine r_lconst hx hb 0 d_La_law_579 (by decide +kernel) ?_
            exact s_law_b580 C0 hL hlT hZ hN hcb hsb (fun _ _ _ h => h) _ _ _ _ _ h (by omega) _ _ _ hS (lv_sub hl [2, 3, 4, 5, 6] rfl)
          · replace h := h.2 hc
            refine r_lconst hx hb 1 d_La_law_575 (by decide +kernel) ?_
            refine lv_goto (tgt := 580) hx hb d_La_law_576 (by decide) ?_
            exact s_law_b580 C0 hL hlT hZ hN hcb hsb (fun _ _ _ h => h) _ _ _ _ _ h (by omega) _ _ _ hS (lv_sub hl [2, 3, 4, 5, 6] rfl)
      · replace h := h.2 hc
        refine r_iconst hx hb d_La_law_560 ?_
        exact h.elim
    · replace h := h.2.2.2.2.1 hz
      refine lv_tableIn (tgt := 589) hx hb d_La_law_62 (by rw [hz]; decide +kernel) (by rw [hz]; decide +kernel) (off := 527) (by rw [hz]; decide +kernel) (by decide) ?_
      refine lv_aload_n hx hb d_La_law_589 rfl (lv_at hl 1 rfl) ?_
      refine lv_aload_n hx hb d_La_law_590 rfl (lv_at hl 0 rfl) ?_
      refine lv_iload hx hb d_La_law_591 (lv_at hl 4 rfl) ?_
      refine r_iconst hx hb d_La_law_593 ?_
      refine r_iadd hx hb d_La_law_594 ?_
      obtain ⟨g81, h⟩ := h
      obtain ⟨g82, h⟩ := h
      refine r_sld (i := (x4 + 1)) hx hb hX hbl hbA hS.2.2.2.1 g81 g82 (by omega) d_La_law_595 ?_
      refine lv_aload_n hx hb d_La_law_596 rfl (lv_at hl 0 rfl) ?_
      refine lv_iload hx hb d_La_law_597 (lv_at hl 4 rfl) ?_
      refine r_iconst hx hb d_La_law_599 ?_
      refine r_iadd hx hb d_La_law_600 ?_
      obtain ⟨g83, h⟩ := h
      obtain ⟨g84, h⟩ := h
      refine r_sld (i := (x4 + 2)) hx hb hX hbl hbA hS.2.2.2.1 g83 g84 (by omega) d_La_law_601 ?_
      refine lv_aload_n hx hb d_La_law_602 rfl (lv_at hl 0 rfl) ?_
      refine lv_iload hx hb d_La_law_603 (lv_at hl 4 rfl) ?_
      refine r_iconst hx hb d_La_law_605 ?_
      refine r_iadd hx hb d_La_law_606 ?_
      obtain ⟨g85, h⟩ := h
      obtain ⟨g86, h⟩ := h
      refine r_sld (i := (x4 + 3)) hx hb hX hbl hbA hS.2.2.2.1 g85 g86 (by omega) d_La_law_607 ?_
      refine r_i2l hx hb (rg_scf _ _) d_La_law_608 ?_
      refine r_bipush hx hb d_La_law_609 (by decide +kernel) ?_
      refine r_lshl hx hb d_La_law_611 ?_
      refine lv_aload_n hx hb d_La_law_612 rfl (lv_at hl 0 rfl) ?_
      refine lv_iload hx hb d_La_law_613 (lv_at hl 4 rfl) ?_
      refine r_iconst hx hb d_La_law_615 ?_
      refine r_iadd hx hb d_La_law_616 ?_
      obtain ⟨g87, h⟩ := h
      obtain ⟨g88, h⟩ := h
      refine r_sld (i := (x4 + 4)) hx hb hX hbl hbA hS.2.2.2.1 g87 g88 (by omega) d_La_law_617 ?_
      refine r_i2l hx hb (rg_scf _ _) d_La_law_618 ?_
      refine r_ldc2 4294967295 hx hb hown (v := 4294967295) (hts _ tw_858) rfl d_La_law_619 ?_
      refine r_land hx hb d_La_law_622 ?_
      refine r_lor hx hb d_La_law_623 ?_
      refine lv_aload_n hx hb d_La_law_624 rfl (lv_at hl 3 rfl) ?_
      refine r_cw (r_runSW (n := 5) (As := [.ref (ad 0), .int (iI (scf xs (x4 + 1))), .int (iI (scf xs (x4 + 2))), .long (lI (lgv (scf xs (x4 + 3)) (scf xs (x4 + 4)))), .ref (ad 49)]) (rest := []) ⟨hx, hb, hml, hown, hts⟩ (ct_La_space l hlT D ad cA mo _ _ _ _ _ _ _ h) rfl (gW tw_500) rfl rfl (hts _ tw_498) (hts _ tw_499) (hts _ tw_0) (by decide +kernel) ⟨Nat.le_of_ble_eq_true rfl, Nat.le_of_ble_eq_true rfl⟩ (y_preS hS hZ hN _) rfl rfl hl.1 rfl (lv_room (Nat.le_of_ble_eq_true rfl)) d_La_law_625 ⟨by show _ ≤ 601024; omega, by show _ ≤ 7293000; omega⟩) hS hA (fun z89 F89 A89 H locs hS h => ?_)
      refine lv_istore (lv' := [(5, .int (iI z89)), (0, .ref b), (1, .ref (ad 0)), (2, .ref (ad 30)), (3, .ref (ad 49)), (4, .int (iI x4))]) hx hb d_La_law_628 hl (by decide) rfl (fun ls hl => ?_)
      refine lv_aload_n hx hb d_La_law_630 rfl (lv_at hl 3 rfl) ?_
      refine lv_aload_n hx hb d_La_law_631 rfl (lv_at hl 1 rfl) ?_
      refine lv_iload hx hb d_La_law_632 (lv_at hl 5 rfl) ?_
      refine r_iconst hx hb d_La_law_634 ?_
      refine r_iadd hx hb d_La_law_635 ?_
      refine r_sld (i := (x4 + 1)) hx hb hX hbl hbA hS.2.2.2.1 g81 g82 (by omega) d_La_law_636 ?_
      refine lv_aload_n hx hb d_La_law_637 rfl (lv_at hl 1 rfl) ?_
      refine lv_iload hx hb d_La_law_638 (lv_at hl 5 rfl) ?_
      refine r_iconst hx hb d_La_law_640 ?_
      refine r_iadd hx hb d_La_law_641 ?_
      refine r_sld (i := (x4 + 2)) hx hb hX hbl hbA hS.2.2.2.1 g83 g84 (by omega) d_La_law_642 ?_
      refine lv_aload_n hx hb d_La_law_643 rfl (lv_at hl 1 rfl) ?_
      refine lv_iload hx hb d_La_law_644 (lv_at hl 5 rfl) ?_
      refine r_iconst hx hb d_La_law_646 ?_
      refine r_iadd hx hb d_La_law_647 ?_
      refine r_sld (i := (x4 + 3)) hx hb hX hbl hbA hS.2.2.2.1 g85 g86 (by omega) d_La_law_648 ?_
      refine r_i2l hx hb (rg_scf _ _) d_La_law_649 ?_
      refine r_bipush hx hb d_La_law_650 (by decide +kernel) ?_
      refine r_lshl hx hb d_La_law_652 ?_
      refine lv_aload_n hx hb d_La_law_653 rfl (lv_at hl 1 rfl) ?_
      refine lv_iload hx hb d_La_law_654 (lv_at hl 5 rfl) ?_
      refine r_iconst hx hb d_La_law_656 ?_
      refine r_iadd hx hb d_La_law_657 ?_
      refine r_sld (i := (x4 + 4)) hx hb hX hbl hbA hS.2.2.2.1 g87 g88 (by omega) d_La_law_658 ?_
      refine r_i2l hx hb (rg_scf _ _) d_La_law_659 ?_
      refine r_ldc2 4294967295 hx hb hown (v := 4294967295) (hts _ tw_858) rfl d_La_law_660 ?_
      refine r_land hx hb d_La_law_663 ?_
      refine r_lor hx hb d_La_law_664 ?_
      refine r_ci (va_runV (As := [.int (iI (scf xs (x4 + 1))), .int (iI (scf xs (x4 + 2))), .long (lI (lgv (scf xs (x4 + 3)) (scf xs (x4 + 4))))]) (rest := []) ⟨hx, hb, hml, hown, hts⟩ (ct_Mo_space l D ad cA mo _ _ _ _ _ _ _ h) (cwV 3 hts (gV tw_753 tw_754 tw_755 tw_8 tw_756) rfl rfl rfl (by decide +kernel) ⟨Nat.le_of_ble_eq_true rfl, Nat.le_of_ble_eq_true rfl⟩) (x_preV hS 30 rfl rfl _) rfl rfl hl.1 rfl (lv_room (Nat.le_of_ble_eq_true rfl)) d_La_law_665 ⟨by show _ ≤ 601024; omega, by show _ ≤ 7293000; omega⟩) hS hA (fun z90 F90 A90 H locs hS h => ?_)
      refine lv_istore (lv' := [(6, .int (iI z90)), (5, .int (iI z89)), (0, .ref b), (1, .ref (ad 0)), (2, .ref (ad 30)), (3, .ref (ad 49)), (4, .int (iI x4))]) hx hb d_La_law_668 hl (by decide) rfl (fun ls hl => ?_)
      refine lv_aload_n hx hb d_La_law_670 rfl (lv_at hl 4 rfl) ?_
      refine r_ci (va_runV (As := []) (rest := []) ⟨hx, hb, hml, hown, hts⟩ (ct_Mo_thrown l D ad cA mo _ _ _ _ h) (cwV 0 hts (gV tw_721 tw_722 tw_723 tw_8 tw_724) rfl rfl rfl (by decide +kernel) ⟨Nat.le_of_ble_eq_true rfl, Nat.le_of_ble_eq_true rfl⟩) (x_preV hS 30 rfl rfl _) rfl rfl hl.1 rfl (lv_room (Nat.le_of_ble_eq_true rfl)) d_La_law_671 ⟨by show _ ≤ 601024; omega, by show _ ≤ 7293000; omega⟩) hS hA (fun z91 F91 A91 H locs hS h => ?_)
      obtain ⟨rfl, rfl, h⟩ := h
      refine lv_iload hx hb d_La_law_674 (lv_at hl 1 rfl) ?_
      obtain ⟨g92, h⟩ := h
      obtain ⟨g93, h⟩ := h
      refine r_icmp_eq (tgt := 681) hx hb g92 g93 d_La_law_676 (by decide) (fun hc => ?_) (fun hc => ?_)
      · replace h := h.1 hc
        refine lv_iload hx hb d_La_law_681 (lv_at hl 1 rfl) ?_
        refine r_if_ne (tgt := 705) hx hb g93 d_La_law_683 (by decide) (fun hc => ?_) (fun hc => ?_)
        · replace h := h.1 hc
          refine lv_goto (tgt := 1156) hx hb d_La_law_705 (by decide) ?_
          exact s_law_b1156 C0 hL hlT hZ hN hcb hsb (fun _ _ _ h => h) _ _ _ h (by omega) _ _ _ hS (lv_sub hl [2, 3, 4, 5, 6] rfl)
        · replace h := h.2 hc
          refine lv_aload_n hx hb d_La_law_686 rfl (lv_at hl 5 rfl) ?_
          refine r_iconst hx hb d_La_law_687 ?_
          obtain ⟨g94, h⟩ := h
          obtain ⟨g95, h⟩ := h
          refine r_lald (id := 42) (i := 0) (z := A90 42 0) hx hb hS 49 rfl g94 g95 d_La_law_688 rfl ?_
          refine lv_iload hx hb d_La_law_689 (lv_at hl 0 rfl) ?_
          obtain ⟨g96, h⟩ := h
          refine r_if_eq (tgt := 698) hx hb g96 d_La_law_691 (by decide) (fun hc => ?_) (fun hc => ?_)
          · replace h := h.1 hc
            refine r_lconst hx hb 0 d_La_law_698 (by decide +kernel) ?_
            exact s_law_b699 C0 hL hlT hZ hN hcb hsb (fun _ _ _ h => h) _ _ _ _ _ h (by omega) _ _ _ hS (lv_sub hl [2, 3, 4, 5, 6] rfl)
          · replace h := h.2 hc
            refine r_lconst hx hb 1 d_La_law_694 (by decide +kernel) ?_
            refine lv_goto (tgt := 699) hx hb d_La_law_695 (by decide) ?_
            exact s_law_b699 C0 hL hlT hZ hN hcb hsb (fun _ _ _ h => h) _ _ _ _ _ h (by omega) _ _ _ hS (lv_sub hl [2, 3, 4, 5, 6] rfl)
      · replace h := h.2 hc
        refine r_iconst hx hb d_La_law_679 ?_
        exact h.elim
    · replace h := h.2.2.2.2.2.1 hz
      refine lv_tableIn (tgt := 708) hx hb d_La_law_62 (by rw [hz]; decide +kernel) (by rw [hz]; decide +kernel) (off := 646) (by rw [hz]; decide +kernel) (by decide) ?_
      refine lv_aload_n hx hb d_La_law_708 rfl (lv_at hl 1 rfl) ?_
      refine r_ci (va_runV (As := []) (rest := []) ⟨hx, hb, hml, hown, hts⟩ (ct_Lr_run l D ad cA mo _ _ _ _ h) (cwV 0 hts (gV tw_221 tw_222 tw_223 tw_1 tw_224) rfl rfl rfl (by decide +kernel) ⟨Nat.le_of_ble_eq_true rfl, Nat.le_of_ble_eq_true rfl⟩) (x_preV hS 0 rfl rfl _) rfl rfl hl.1 rfl (lv_room (Nat.le_of_ble_eq_true rfl)) d_La_law_709 ⟨by show _ ≤ 601024; omega, by show _ ≤ 7293000; omega⟩) hS hA (fun z97 F97 A97 H locs hS h => ?_)
      refine lv_aload_n hx hb d_La_law_712 rfl (lv_at hl 2 rfl) ?_
      refine r_ci (va_runV (As := []) (rest := [.int (iI z97)]) ⟨hx, hb, hml, hown, hts⟩ (ct_Mo_run l D ad cA mo _ _ _ _ h) (cwV 0 hts (gV tw_758 tw_759 tw_760 tw_8 tw_761) rfl rfl rfl (by decide +kernel) ⟨Nat.le_of_ble_eq_true rfl, Nat.le_of_ble_eq_true rfl⟩) (x_preV hS 30 rfl rfl _) rfl rfl hl.1 rfl (lv_room (Nat.le_of_ble_eq_true rfl)) d_La_law_713 ⟨by show _ ≤ 601024; omega, by show _ ≤ 7293000; omega⟩) hS hA (fun z98 F98 A98 H locs hS h => ?_)
      obtain ⟨g99, h⟩ := h
      obtain ⟨g100, h⟩ := h
      refine r_icmp_eq (tgt := 1156) hx hb g99 g100 d_La_law_716 (by decide) (fun hc => ?_) (fun hc => ?_)
      · replace h := h.1 hc
        refine W.widen (k := cb + x4.toNat + 1) (n := sb + 6 * x4.toNat + 6) (by omega) (by omega) ?_
        exact s_law_b1156 C0 hL hlT hZ hN hcb hsb (fun _ _ _ h => h) _ _ _ h (by omega) _ _ _ hS (lv_sub hl [0, 1, 2, 3, 4] rfl)
      · replace h := h.2 hc
        refine r_iconst hx hb d_La_law_719 ?_
        exact h.elim
    · replace h := h.2.2.2.2.2.2.1 hz
      refine lv_tableIn (tgt := 721) hx hb d_La_law_62 (by rw [hz]; decide +kernel) (by rw [hz]; decide +kernel) (off := 659) (by rw [hz]; decide +kernel) (by decide) ?_
      refine lv_aload_n hx hb d_La_law_721 rfl (lv_at hl 1 rfl) ?_
      refine lv_aload_n hx hb d_La_law_722 rfl (lv_at hl 0 rfl) ?_
      refine lv_iload hx hb d_La_law_723 (lv_at hl 4 rfl) ?_
      refine r_iconst hx hb d_La_law_725 ?_
      refine r_iadd hx hb d_La_law_726 ?_
      obtain ⟨g101, h⟩ := h
      obtain ⟨g102, h⟩ := h
      refine r_sld (i := (x4 + 1)) hx hb hX hbl hbA hS.2.2.2.1 g101 g102 (by omega) d_La_law_727 ?_
      refine lv_aload_n hx hb d_La_law_728 rfl (lv_at hl 3 rfl) ?_
      refine r_cw (r_runSW (n := 3) (As := [.ref (ad 0), .int (iI (scf xs (x4 + 1))), .ref (ad 49)]) (rest := []) ⟨hx, hb, hml, hown, hts⟩ (ct_La_at l hlT D ad cA mo _ _ _ _ _ h) rfl (gW tw_513) rfl rfl (hts _ tw_511) (hts _ tw_512) (hts _ tw_0) (by decide +kernel) ⟨Nat.le_of_ble_eq_true rfl, Nat.le_of_ble_eq_true rfl⟩ (y_preS hS hZ hN _) rfl rfl hl.1 rfl (lv_room (Nat.le_of_ble_eq_true rfl)) d_La_law_729 ⟨by show _ ≤ 601024; omega, by show _ ≤ 7293000; omega⟩) hS hA (fun z103 F103 A103 H locs hS h => ?_)
      refine lv_istore (lv' := [(5, .int (iI z103)), (0, .ref b), (1, .ref (ad 0)), (2, .ref (ad 30)), (3, .ref (ad 49)), (4, .int (iI x4))]) hx hb d_La_law_732 hl (by decide) rfl (fun ls hl => ?_)
      refine lv_aload_n hx hb d_La_law_734 rfl (lv_at hl 3 rfl) ?_
      refine lv_aload_n hx hb d_La_law_735 rfl (lv_at hl 1 rfl) ?_
      refine lv_iload hx hb d_La_law_736 (lv_at hl 5 rfl) ?_
      refine r_iconst hx hb d_La_law_738 ?_
      refine r_iadd hx hb d_La_law_739 ?_
      refine r_sld (i := (x4 + 1)) hx hb hX hbl hbA hS.2.2.2.1 g101 g102 (by omega) d_La_law_740 ?_
      refine r_cl (va_runV (As := [.int (iI (scf xs (x4 + 1)))]) (rest := []) ⟨hx, hb, hml, hown, hts⟩ (ct_Mo_at l D ad cA mo _ _ _ _ _ h) (cwV 1 hts (gV tw_810 tw_811 tw_812 tw_8 tw_813) rfl rfl rfl (by decide +kernel) ⟨Nat.le_of_ble_eq_true rfl, Nat.le_of_ble_eq_true rfl⟩) (x_preV hS 30 rfl rfl _) rfl rfl hl.1 rfl (lv_room (Nat.le_of_ble_eq_true rfl)) d_La_law_741 ⟨by show _ ≤ 601024; omega, by show _ ≤ 7293000; omega⟩) hS hA (fun z104 F104 A104 H locs hS h => ?_)
      refine lv_lstore (lv' := [(6, .long (lI z104)), (5, .int (iI z103)), (0, .ref b), (1, .ref (ad 0)), (2, .ref (ad 30)), (3, .ref (ad 49)), (4, .int (iI x4))]) hx hb d_La_law_744 hl (by decide) rfl (fun ls hl => ?_)
      refine lv_aload_n hx hb d_La_law_746 rfl (lv_at hl 4 rfl) ?_
      refine r_ci (va_runV (As := []) (rest := []) ⟨hx, hb, hml, hown, hts⟩ (ct_Mo_thrown l D ad cA mo _ _ _ _ h) (cwV 0 hts (gV tw_721 tw_722 tw_723 tw_8 tw_724) rfl rfl rfl (by decide +kernel) ⟨Nat.le_of_ble_eq_true rfl, Nat.le_of_ble_eq_true rfl⟩) (x_preV hS 30 rfl rfl _) rfl rfl hl.1 rfl (lv_room (Nat.le_of_ble_eq_true rfl)) d_La_law_747 ⟨by show _ ≤ 601024; omega, by show _ ≤ 7293000; omega⟩) hS hA (fun z105 F105 A105 H locs hS h => ?_)
      obtain ⟨rfl, rfl, h⟩ := h
      refine lv_iload hx hb d_La_law_750 (lv_at hl 1 rfl) ?_
      obtain ⟨g106, h⟩ := h
      obtain ⟨g107, h⟩ := h
      refine r_icmp_eq (tgt := 757) hx hb g106 g107 d_La_law_752 (by decide) (fun hc => ?_) (fun hc => ?_)
      · replace h := h.1 hc
        refine lv_iload hx hb d_La_law_757 (lv_at hl 1 rfl) ?_
        refine r_if_ne (tgt := 773) hx hb g107 d_La_law_759 (by decide) (fun hc => ?_) (fun hc => ?_)
        · replace h := h.1 hc
          refine lv_goto (tgt := 1156) hx hb d_La_law_773 (by decide) ?_
          exact s_law_b1156 C0 hL hlT hZ hN hcb hsb (fun _ _ _ h => h) _ _ _ h (by omega) _ _ _ hS (lv_sub hl [2, 3, 4, 5, 6] rfl)
        · replace h := h.2 hc
          refine lv_aload_n hx hb d_La_law_762 rfl (lv_at hl 5 rfl) ?_
          refine r_iconst hx hb d_La_law_763 ?_
          obtain ⟨g108, h⟩ := h
          obtain ⟨g109, h⟩ := h
          refine r_lald (id := 42) (i := 0) (z := A104 42 0) hx hb hS 49 rfl g108 g109 d_La_law_764 rfl ?_
          refine lv_lload hx hb d_La_law_765 (lv_at hl 0 rfl) ?_
          obtain ⟨g110, h⟩ := h
          obtain ⟨g111, h⟩ := h
          refine r_lcmp_eq (tgt := 773) hx hb g110 g111 d_La_law_767 d_La_law_768 (by decide) (fun hc => ?_) (fun hc => ?_)
          · replace h := h.1 hc
            refine lv_goto (tgt := 1156) hx hb d_La_law_773 (by decide) ?_
            exact s_law_b1156 C0 hL hlT hZ hN hcb hsb (fun _ _ _ h => h) _ _ _ h (by omega) _ _ _ hS (lv_sub hl [2, 3, 4, 5, 6] rfl)
          · replace h := h.2 hc
            refine r_iconst hx hb d_La_law_771 ?_
            exact h.elim
      · replace h := h.2 hc
        refine r_iconst hx hb d_La_law_755 ?_
        exact h.elim
    · replace h := h.2.2.2.2.2.2.2.1 hz
      refine lv_tableIn (tgt := 776) hx hb d_La_law_62 (by rw [hz]; decide +kernel) (by rw [hz]; decide +kernel) (off := 714) (by rw [hz]; decide +kernel) (by decide) ?_
      refine lv_aload_n hx hb d_La_law_776 rfl (lv_at hl 1 rfl) ?_
      refine lv_aload_n hx hb d_La_law_777 rfl (lv_at hl 0 rfl) ?_
      refine lv_iload hx hb d_La_law_778 (lv_at hl 4 rfl) ?_
      refine r_iconst hx hb d_La_law_780 ?_
      refine r_iadd hx hb d_La_law_781 ?_
      obtain ⟨g112, h⟩ := h
      obtain ⟨g113, h⟩ := h
      refine r_sld (i := (x4 + 1)) hx hb hX hbl hbA hS.2.2.2.1 g112 g113 (by omega) d_La_law_782 ?_
      refine lv_aload_n hx hb d_La_law_783 rfl (lv_at hl 3 rfl) ?_
      refine r_cw (r_runSW (n := 3) (As := [.ref (ad 0), .int (iI (scf xs (x4 + 1))), .ref (ad 49)]) (rest := []) ⟨hx, hb, hml, hown, hts⟩ (ct_La_rowOf l hlT D ad cA mo _ _ _ _ _ h) rfl (gW tw_525) rfl rfl (hts _ tw_523) (hts _ tw_524) (hts _ tw_0) (by decide +kernel) ⟨Nat.le_of_ble_eq_true rfl, Nat.le_of_ble_eq_true rfl⟩ (y_preS hS hZ hN _) rfl rfl hl.1 rfl (lv_room (Nat.le_of_ble_eq_true rfl)) d_La_law_784 ⟨by show _ ≤ 601024; omega, by show _ ≤ 7293000; omega⟩) hS hA (fun z114 F114 A114 H locs hS h => ?_)
      refine lv_istore (lv' := [(5, .int (iI z114)), (0, .ref b), (1, .ref (ad 0)), (2, .ref (ad 30)), (3, .ref (ad 49)), (4, .int (iI x4))]) hx hb d_La_law_787 hl (by decide) rfl (fun ls hl => ?_)
      refine lv_aload_n hx hb d_La_law_789 rfl (lv_at hl 3 rfl) ?_
      refine lv_aload_n hx hb d_La_law_790 rfl (lv_at hl 1 rfl) ?_
      refine lv_iload hx hb d_La_law_791 (lv_at hl 5 rfl) ?_
      refine r_iconst hx hb d_La_law_793 ?_
      refine r_iadd hx hb d_La_law_794 ?_
      refine r_sld (i := (x4 + 1)) hx hb hX hbl hbA hS.2.2.2.1 g112 g113 (by omega) d_La_law_795 ?_
      refine r_ci (va_runV (As := [.int (iI (scf xs (x4 + 1)))]) (rest := []) ⟨hx, hb, hml, hown, hts⟩ (ct_Mo_rowOf l D ad cA mo _ _ _ _ _ h) (cwV 1 hts (gV tw_818 tw_819 tw_820 tw_8 tw_821) rfl rfl rfl (by decide +kernel) ⟨Nat.le_of_ble_eq_true rfl, Nat.le_of_ble_eq_true rfl⟩) (x_preV hS 30 rfl rfl _) rfl rfl hl.1 rfl (lv_room (Nat.le_of_ble_eq_true rfl)) d_La_law_796 ⟨by show _ ≤ 601024; omega, by show _ ≤ 7293000; omega⟩) hS hA (fun z115 F115 A115 H locs hS h => ?_)
      refine lv_istore (lv' := [(6, .int (iI z115)), (5, .int (iI z114)), (0, .ref b), (1, .ref (ad 0)), (2, .ref (ad 30)), (3, .ref (ad 49)), (4, .int (iI x4))]) hx hb d_La_law_799 hl (by decide) rfl (fun ls hl => ?_)
      refine lv_aload_n hx hb d_La_law_801 rfl (lv_at hl 4 rfl) ?_
      refine r_ci (va_runV (As := []) (rest := []) ⟨hx, hb, hml, hown, hts⟩ (ct_Mo_thrown l D ad cA mo _ _ _ _ h) (cwV 0 hts (gV tw_721 tw_722 tw_723 tw_8 tw_724) rfl rfl rfl (by decide +kernel) ⟨Nat.le_of_ble_eq_true rfl, Nat.le_of_ble_eq_true rfl⟩) (x_preV hS 30 rfl rfl _) rfl rfl hl.1 rfl (lv_room (Nat.le_of_ble_eq_true rfl)) d_La_law_802 ⟨by show _ ≤ 601024; omega, by show _ ≤ 7293000; omega⟩) hS hA (fun z116 F116 A116 H locs hS h => ?_)
      obtain ⟨rfl, rfl, h⟩ := h
      refine lv_iload hx hb d_La_law_805 (lv_at hl 1 rfl) ?_
      obtain ⟨g117, h⟩ := h
      obtain ⟨g118, h⟩ := h
      refine r_icmp_eq (tgt := 812) hx hb g117 g118 d_La_law_807 (by decide) (fun hc => ?_) (fun hc => ?_)
      · replace h := h.1 hc
        refine lv_iload hx hb d_La_law_812 (lv_at hl 1 rfl) ?_
        refine r_if_ne (tgt := 829) hx hb g118 d_La_law_814 (by decide) (fun hc => ?_) (fun hc => ?_)
        · replace h := h.1 hc
          refine lv_goto (tgt := 1156) hx hb d_La_law_829 (by decide) ?_
          exact s_law_b1156 C0 hL hlT hZ hN hcb hsb (fun _ _ _ h => h) _ _ _ h (by omega) _ _ _ hS (lv_sub hl [2, 3, 4, 5, 6] rfl)
        · replace h := h.2 hc
          refine lv_aload_n hx hb d_La_law_817 rfl (lv_at hl 5 rfl) ?_
          refine r_iconst hx hb d_La_law_818 ?_
          obtain ⟨g119, h⟩ := h
          obtain ⟨g120, h⟩ := h
          refine r_lald (id := 42) (i := 0) (z := A115 42 0) hx hb hS 49 rfl g119 g120 d_La_law_819 rfl ?_
          refine lv_iload hx hb d_La_law_820 (lv_at hl 0 rfl) ?_
          obtain ⟨g121, h⟩ := h
          refine r_i2l hx hb g121 d_La_law_822 ?_
          obtain ⟨g122, h⟩ := h
          obtain ⟨g123, h⟩ := h
          refine r_lcmp_eq (tgt := 829) hx hb g122 g123 d_La_law_823 d_La_law_824 (by decide) (fun hc => ?_) (fun hc => ?_)
          · replace h := h.1 hc
            refine lv_goto (tgt := 1156) hx hb d_La_law_829 (by decide) ?_
            exact s_law_b1156 C0 hL hlT hZ hN hcb hsb (fun _ _ _ h => h) _ _ _ h (by omega) _ _ _ hS (lv_sub hl [2, 3, 4, 5, 6] rfl)
          · replace h := h.2 hc
            refine r_iconst hx hb d_La_law_827 ?_
            exact h.elim
      · replace h := h.2 hc
        refine r_iconst hx hb d_La_law_810 ?_
        exact h.elim
    · replace h := h.2.2.2.2.2.2.2.2.1 hz
      refine lv_tableIn (tgt := 832) hx hb d_La_law_62 (by rw [hz]; decide +kernel) (by rw [hz]; decide +kernel) (off := 770) (by rw [hz]; decide +kernel) (by decide) ?_
      refine lv_aload_n hx hb d_La_law_832 rfl (lv_at hl 1 rfl) ?_
      refine lv_aload_n hx hb d_La_law_833 rfl (lv_at hl 3 rfl) ?_
      refine r_cw (r_runSW (n := 2) (As := [.ref (ad 0), .ref (ad 49)]) (rest := []) ⟨hx, hb, hml, hown, hts⟩ (ct_La_moved l hlT D ad cA mo _ _ _ _ h) rfl (gW tw_532) rfl rfl (hts _ tw_530) (hts _ tw_531) (hts _ tw_0) (by decide +kernel) ⟨Nat.le_of_ble_eq_true rfl, Nat.le_of_ble_eq_true rfl⟩ (y_preS hS hZ hN _) rfl rfl hl.1 rfl (lv_room (Nat.le_of_ble_eq_true rfl)) d_La_law_834 ⟨by show _ ≤ 601024; omega, by show _ ≤ 7293000; omega⟩) hS hA (fun z124 F124 A124 H locs hS h => ?_)
      refine lv_istore (lv' := [(5, .int (iI z124)), (0, .ref b), (1, .ref (ad 0)), (2, .ref (ad 30)), (3, .ref (ad 49)), (4, .int (iI x4))]) hx hb d_La_law_837 hl (by decide) rfl (fun ls hl => ?_)
      refine lv_aload_n hx hb d_La_law_839 rfl (lv_at hl 3 rfl) ?_
      refine r_cl (va_runV (As := []) (rest := []) ⟨hx, hb, hml, hown, hts⟩ (ct_Mo_moved l D ad cA mo _ _ _ _ h) (cwV 0 hts (gV tw_826 tw_827 tw_828 tw_8 tw_829) rfl rfl rfl (by decide +kernel) ⟨Nat.le_of_ble_eq_true rfl, Nat.le_of_ble_eq_true rfl⟩) (x_preV hS 30 rfl rfl _) rfl rfl hl.1 rfl (lv_room (Nat.le_of_ble_eq_true rfl)) d_La_law_840 ⟨by show _ ≤ 601024; omega, by show _ ≤ 7293000; omega⟩) hS hA (fun z125 F125 A125 H locs hS h => ?_)
      refine lv_lstore (lv' := [(6, .long (lI z125)), (5, .int (iI z124)), (0, .ref b), (1, .ref (ad 0)), (2, .ref (ad 30)), (3, .ref (ad 49)), (4, .int (iI x4))]) hx hb d_La_law_843 hl (by decide) rfl (fun ls hl => ?_)
      refine lv_aload_n hx hb d_La_law_845 rfl (lv_at hl 4 rfl) ?_
      refine r_ci (va_runV (As := []) (rest := []) ⟨hx, hb, hml, hown, hts⟩ (ct_Mo_thrown l D ad cA mo _ _ _ _ h) (cwV 0 hts (gV tw_721 tw_722 tw_723 tw_8 tw_724) rfl rfl rfl (by decide +kernel) ⟨Nat.le_of_ble_eq_true rfl, Nat.le_of_ble_eq_true rfl⟩) (x_preV hS 30 rfl rfl _) rfl rfl hl.1 rfl (lv_room (Nat.le_of_ble_eq_true rfl)) d_La_law_846 ⟨by show _ ≤ 601024; omega, by show _ ≤ 7293000; omega⟩) hS hA (fun z126 F126 A126 H locs hS h => ?_)
      obtain ⟨rfl, rfl, h⟩ := h
      refine lv_iload hx hb d_La_law_849 (lv_at hl 1 rfl) ?_
      obtain ⟨g127, h⟩ := h
      obtain ⟨g128, h⟩ := h
      refine r_icmp_eq (tgt := 856) hx hb g127 g128 d_La_law_851 (by decide) (fun hc => ?_) (fun hc => ?_)
      · replace h := h.1 hc
        refine lv_iload hx hb d_La_law_856 (lv_at hl 1 rfl) ?_
        refine r_if_ne (tgt := 872) hx hb g128 d_La_law_858 (by decide) (fun hc => ?_) (fun hc => ?_)
        · replace h := h.1 hc
          refine lv_goto (tgt := 1156) hx hb d_La_law_872 (by decide) ?_
          exact s_law_b1156 C0 hL hlT hZ hN hcb hsb (fun _ _ _ h => h) _ _ _ h (by omega) _ _ _ hS (lv_sub hl [2, 3, 4, 5, 6] rfl)
        · replace h := h.2 hc
          refine lv_aload_n hx hb d_La_law_861 rfl (lv_at hl 5 rfl) ?_
          refine r_iconst hx hb d_La_law_862 ?_
          obtain ⟨g129, h⟩ := h
          obtain ⟨g130, h⟩ := h
          refine r_lald (id := 42) (i := 0) (z := A125 42 0) hx hb hS 49 rfl g129 g130 d_La_law_863 rfl ?_
          refine lv_lload hx hb d_La_law_864 (lv_at hl 0 rfl) ?_
          obtain ⟨g131, h⟩ := h
          obtain ⟨g132, h⟩ := h
          refine r_lcmp_eq (tgt := 872) hx hb g131 g132 d_La_law_866 d_La_law_867 (by decide) (fun hc => ?_) (fun hc => ?_)
          · replace h := h.1 hc
            refine lv_goto (tgt := 1156) hx hb d_La_law_872 (by decide) ?_
            exact s_law_b1156 C0 hL hlT hZ hN hcb hsb (fun _ _ _ h => h) _ _ _ h (by omega) _ _ _ hS (lv_sub hl [2, 3, 4, 5, 6] rfl)
          · replace h := h.2 hc
            refine r_iconst hx hb d_La_law_870 ?_
            exact h.elim
      · replace h := h.2 hc
        refine r_iconst hx hb d_La_law_854 ?_
        exact h.elim
    · replace h := h.2.2.2.2.2.2.2.2.2.1 hz
      refine lv_tableIn (tgt := 875) hx hb d_La_law_62 (by rw [hz]; decide +kernel) (by rw [hz]; decide +kernel) (off := 813) (by rw [hz]; decide +kernel) (by decide) ?_
      refine lv_aload_n hx hb d_La_law_875 rfl (lv_at hl 1 rfl) ?_
      refine lv_aload_n hx hb d_La_law_876 rfl (lv_at hl 0 rfl) ?_
      refine lv_iload hx hb d_La_law_877 (lv_at hl 4 rfl) ?_
      refine r_iconst hx hb d_La_law_879 ?_
      refine r_iadd hx hb d_La_law_880 ?_
      obtain ⟨g133, h⟩ := h
      obtain ⟨g134, h⟩ := h
      refine r_sld (i := (x4 + 1)) hx hb hX hbl hbA hS.2.2.2.1 g133 g134 (by omega) d_La_law_881 ?_
      refine lv_aload_n hx hb d_La_law_882 rfl (lv_at hl 3 rfl) ?_
      refine r_cw (r_runSW (n := 3) (As := [.ref (ad 0), .int (iI (scf xs (x4 + 1))), .ref (ad 49)]) (rest := []) ⟨hx, hb, hml, hown, hts⟩ (ct_La_mirrored l hlT D ad cA mo _ _ _ _ _ h) rfl (gW tw_544) rfl rfl (hts _ tw_542) (hts _ tw_543) (hts _ tw_0) (by decide +kernel) ⟨Nat.le_of_ble_eq_true rfl, Nat.le_of_ble_eq_true rfl⟩ (y_preS hS hZ hN _) rfl rfl hl.1 rfl (lv_room (Nat.le_of_ble_eq_true rfl)) d_La_law_883 ⟨by show _ ≤ 601024; omega, by show _ ≤ 7293000; omega⟩) hS hA (fun z135 F135 A135 H locs hS h => ?_)
      refine lv_istore (lv' := [(5, .int (iI z135)), (0, .ref b), (1, .ref (ad 0)), (2, .ref (ad 30)), (3, .ref (ad 49)), (4, .int (iI x4))]) hx hb d_La_law_886 hl (by decide) rfl (fun ls hl => ?_)
      refine lv_aload_n hx hb d_La_law_888 rfl (lv_at hl 3 rfl) ?_
      refine lv_aload_n hx hb d_La_law_889 rfl (lv_at hl 1 rfl) ?_
      refine lv_iload hx hb d_La_law_890 (lv_at hl 5 rfl) ?_
      refine r_iconst hx hb d_La_law_892 ?_
      refine r_iadd hx hb d_La_law_893 ?_
      refine r_sld (i := (x4 + 1)) hx hb hX hbl hbA hS.2.2.2.1 g133 g134 (by omega) d_La_law_894 ?_
      refine r_ci (va_runV (As := [.int (iI (scf xs (x4 + 1)))]) (rest := []) ⟨hx, hb, hml, hown, hts⟩ (ct_Mo_mirrored l D ad cA mo _ _ _ _ _ h) (cwV 1 hts (gV tw_822 tw_823 tw_824 tw_8 tw_825) rfl rfl rfl (by decide +kernel) ⟨Nat.le_of_ble_eq_true rfl, Nat.le_of_ble_eq_true rfl⟩) (x_preV hS 30 rfl rfl _) rfl rfl hl.1 rfl (lv_room (Nat.le_of_ble_eq_true rfl)) d_La_law_895 ⟨by show _ ≤ 601024; omega, by show _ ≤ 7293000; omega⟩) hS hA (fun z136 F136 A136 H locs hS h => ?_)
      refine lv_istore (lv' := [(6, .int (iI z136)), (5, .int (iI z135)), (0, .ref b), (1, .ref (ad 0)), (2, .ref (ad 30)), (3, .ref (ad 49)), (4, .int (iI x4))]) hx hb d_La_law_898 hl (by decide) rfl (fun ls hl => ?_)
      refine lv_aload_n hx hb d_La_law_900 rfl (lv_at hl 4 rfl) ?_
      refine r_ci (va_runV (As := []) (rest := []) ⟨hx, hb, hml, hown, hts⟩ (ct_Mo_thrown l D ad cA mo _ _ _ _ h) (cwV 0 hts (gV tw_721 tw_722 tw_723 tw_8 tw_724) rfl rfl rfl (by decide +kernel) ⟨Nat.le_of_ble_eq_true rfl, Nat.le_of_ble_eq_true rfl⟩) (x_preV hS 30 rfl rfl _) rfl rfl hl.1 rfl (lv_room (Nat.le_of_ble_eq_true rfl)) d_La_law_901 ⟨by show _ ≤ 601024; omega, by show _ ≤ 7293000; omega⟩) hS hA (fun z137 F137 A137 H locs hS h => ?_)
      obtain ⟨rfl, rfl, h⟩ := h
      refine lv_iload hx hb d_La_law_904 (lv_at hl 1 rfl) ?_
      obtain ⟨g138, h⟩ := h
      obtain ⟨g139, h⟩ := h
      refine r_icmp_eq (tgt := 911) hx hb g138 g139 d_La_law_906 (by decide) (fun hc => ?_) (fun hc => ?_)
      · replace h := h.1 hc
        refine lv_iload hx hb d_La_law_911 (lv_at hl 1 rfl) ?_
        refine r_if_ne (tgt := 935) hx hb g139 d_La_law_913 (by decide) (fun hc => ?_) (fun hc => ?_)
        · replace h := h.1 hc
          refine lv_goto (tgt := 1156) hx hb d_La_law_935 (by decide) ?_
          exact s_law_b1156 C0 hL hlT hZ hN hcb hsb (fun _ _ _ h => h) _ _ _ h (by omega) _ _ _ hS (lv_sub hl [2, 3, 4, 5, 6] rfl)
        · replace h := h.2 hc
          refine lv_aload_n hx hb d_La_law_916 rfl (lv_at hl 5 rfl) ?_
          refine r_iconst hx hb d_La_law_917 ?_
          obtain ⟨g140, h⟩ := h
          obtain ⟨g141, h⟩ := h
          refine r_lald (id := 42) (i := 0) (z := A136 42 0) hx hb hS 49 rfl g140 g141 d_La_law_918 rfl ?_
          refine lv_iload hx hb d_La_law_919 (lv_at hl 0 rfl) ?_
          obtain ⟨g142, h⟩ := h
          refine r_if_eq (tgt := 928) hx hb g142 d_La_law_921 (by decide) (fun hc => ?_) (fun hc => ?_)
          · replace h := h.1 hc
            refine r_lconst hx hb 0 d_La_law_928 (by decide +kernel) ?_
            exact s_law_b929 C0 hL hlT hZ hN hcb hsb (fun _ _ _ h => h) _ _ _ _ _ h (by omega) _ _ _ hS (lv_sub hl [2, 3, 4, 5, 6] rfl)
          · replace h := h.2 hc
            refine r_lconst hx hb 1 d_La_law_924 (by decide +kernel) ?_
            refine lv_goto (tgt := 929) hx hb d_La_law_925 (by decide) ?_
            exact s_law_b929 C0 hL hlT hZ hN hcb hsb (fun _ _ _ h => h) _ _ _ _ _ h (by omega) _ _ _ hS (lv_sub hl [2, 3, 4, 5, 6] rfl)
      · replace h := h.2 hc
        refine r_iconst hx hb d_La_law_909 ?_
        exact h.elim
    · replace h := h.2.2.2.2.2.2.2.2.2.2.1 hz
      refine lv_tableIn (tgt := 938) hx hb d_La_law_62 (by rw [hz]; decide +kernel) (by rw [hz]; decide +kernel) (off := 876) (by rw [hz]; decide +kernel) (by decide) ?_
      refine lv_aload_n hx hb d_La_law_938 rfl (lv_at hl 1 rfl) ?_
      refine lv_aload_n hx hb d_La_law_939 rfl (lv_at hl 0 rfl) ?_
      refine lv_iload hx hb d_La_law_940 (lv_at hl 4 rfl) ?_
      refine r_iconst hx hb d_La_law_942 ?_
      refine r_iadd hx hb d_La_law_943 ?_
      obtain ⟨g143, h⟩ := h
      obtain ⟨g144, h⟩ := h
      refine r_sld (i := (x4 + 1)) hx hb hX hbl hbA hS.2.2.2.1 g143 g144 (by omega) d_La_law_944 ?_
      refine lv_aload_n hx hb d_La_law_945 rfl (lv_at hl 3 rfl) ?_
      refine r_cw (r_runSW (n := 3) (As := [.ref (ad 0), .int (iI (scf xs (x4 + 1))), .ref (ad 49)]) (rest := []) ⟨hx, hb, hml, hown, hts⟩ (ct_La_improve l hlT D ad cA mo _ _ _ _ _ h) rfl (gW tw_551) rfl rfl (hts _ tw_549) (hts _ tw_550) (hts _ tw_0) (by decide +kernel) ⟨Nat.le_of_ble_eq_true rfl, Nat.le_of_ble_eq_true rfl⟩ (y_preS hS hZ hN _) rfl rfl hl.1 rfl (lv_room (Nat.le_of_ble_eq_true rfl)) d_La_law_946 ⟨by show _ ≤ 601024; omega, by show _ ≤ 7293000; omega⟩) hS hA (fun z145 F145 A145 H locs hS h => ?_)
      refine lv_istore (lv' := [(5, .int (iI z145)), (0, .ref b), (1, .ref (ad 0)), (2, .ref (ad 30)), (3, .ref (ad 49)), (4, .int (iI x4))]) hx hb d_La_law_949 hl (by decide) rfl (fun ls hl => ?_)
      refine lv_aload_n hx hb d_La_law_951 rfl (lv_at hl 3 rfl) ?_
      refine lv_aload_n hx hb d_La_law_952 rfl (lv_at hl 1 rfl) ?_
      refine lv_iload hx hb d_La_law_953 (lv_at hl 5 rfl) ?_
      refine r_iconst hx hb d_La_law_955 ?_
      refine r_iadd hx hb d_La_law_956 ?_
      refine r_sld (i := (x4 + 1)) hx hb hX hbl hbA hS.2.2.2.1 g143 g144 (by omega) d_La_law_957 ?_
      refine r_ci (va_runV (As := [.int (iI (scf xs (x4 + 1)))]) (rest := []) ⟨hx, hb, hml, hown, hts⟩ (ct_Mo_improve l D ad cA mo _ _ _ _ _ h) (cwV 1 hts (gV tw_830 tw_831 tw_832 tw_8 tw_833) rfl rfl rfl (by decide +kernel) ⟨Nat.le_of_ble_eq_true rfl, Nat.le_of_ble_eq_true rfl⟩) (x_preV hS 30 rfl rfl _) rfl rfl hl.1 rfl (lv_room (Nat.le_of_ble_eq_true rfl)) d_La_law_958 ⟨by show _ ≤ 601024; omega, by show _ ≤ 7293000; omega⟩) hS hA (fun z146 F146 A146 H locs hS h => ?_)
      refine lv_istore (lv' := [(6, .int (iI z146)), (5, .int (iI z145)), (0, .ref b), (1, .ref (ad 0)), (2, .ref (ad 30)), (3, .ref (ad 49)), (4, .int (iI x4))]) hx hb d_La_law_961 hl (by decide) rfl (fun ls hl => ?_)
      refine lv_aload_n hx hb d_La_law_963 rfl (lv_at hl 4 rfl) ?_
      refine r_ci (va_runV (As := []) (rest := []) ⟨hx, hb, hml, hown, hts⟩ (ct_Mo_thrown l D ad cA mo _ _ _ _ h) (cwV 0 hts (gV tw_721 tw_722 tw_723 tw_8 tw_724) rfl rfl rfl (by decide +kernel) ⟨Nat.le_of_ble_eq_true rfl, Nat.le_of_ble_eq_true rfl⟩) (x_preV hS 30 rfl rfl _) rfl rfl hl.1 rfl (lv_room (Nat.le_of_ble_eq_true rfl)) d_La_law_964 ⟨by show _ ≤ 601024; omega, by show _ ≤ 7293000; omega⟩) hS hA (fun z147 F147 A147 H locs hS h => ?_)
      obtain ⟨rfl, rfl, h⟩ := h
      refine lv_iload hx hb d_La_law_967 (lv_at hl 1 rfl) ?_
      obtain ⟨g148, h⟩ := h
      obtain ⟨g149, h⟩ := h
      refine r_icmp_eq (tgt := 974) hx hb g148 g149 d_La_law_969 (by decide) (fun hc => ?_) (fun hc => ?_)
      · replace h := h.1 hc
        refine lv_iload hx hb d_La_law_974 (lv_at hl 1 rfl) ?_
        refine r_if_ne (tgt := 991) hx hb g149 d_La_law_976 (by decide) (fun hc => ?_) (fun hc => ?_)
        · replace h := h.1 hc
          refine lv_goto (tgt := 1156) hx hb d_La_law_991 (by decide) ?_
          exact s_law_b1156 C0 hL hlT hZ hN hcb hsb (fun _ _ _ h => h) _ _ _ h (by omega) _ _ _ hS (lv_sub hl [2, 3, 4, 5, 6] rfl)
        · replace h := h.2 hc
          refine lv_aload_n hx hb d_La_law_979 rfl (lv_at hl 5 rfl) ?_
          refine r_iconst hx hb d_La_law_980 ?_
          obtain ⟨g150, h⟩ := h
          obtain ⟨g151, h⟩ := h
          refine r_lald (id := 42) (i := 0) (z := A146 42 0) hx hb hS 49 rfl g150 g151 d_La_law_981 rfl ?_
          refine lv_iload hx hb d_La_law_982 (lv_at hl 0 rfl) ?_
          obtain ⟨g152, h⟩ := h
          refine r_i2l hx hb g152 d_La_law_984 ?_
          obtain ⟨g153, h⟩ := h
          obtain ⟨g154, h⟩ := h
          refine r_lcmp_eq (tgt := 991) hx hb g153 g154 d_La_law_985 d_La_law_986 (by decide) (fun hc => ?_) (fun hc => ?_)
          · replace h := h.1 hc
            refine lv_goto (tgt := 1156) hx hb d_La_law_991 (by decide) ?_
            exact s_law_b1156 C0 hL hlT hZ hN hcb hsb (fun _ _ _ h => h) _ _ _ h (by omega) _ _ _ hS (lv_sub hl [2, 3, 4, 5, 6] rfl)
          · replace h := h.2 hc
            refine r_iconst hx hb d_La_law_989 ?_
            exact h.elim
      · replace h := h.2 hc
        refine r_iconst hx hb d_La_law_972 ?_
        exact h.elim
    · replace h := h.2.2.2.2.2.2.2.2.2.2.2.1 hz
      refine lv_tableIn (tgt := 994) hx hb d_La_law_62 (by rw [hz]; decide +kernel) (by rw [hz]; decide +kernel) (off := 932) (by rw [hz]; decide +kernel) (by decide) ?_
      refine lv_aload_n hx hb d_La_law_994 rfl (lv_at hl 1 rfl) ?_
      refine lv_aload_n hx hb d_La_law_995 rfl (lv_at hl 0 rfl) ?_
      refine lv_iload hx hb d_La_law_996 (lv_at hl 4 rfl) ?_
      refine r_iconst hx hb d_La_law_998 ?_
      refine r_iadd hx hb d_La_law_999 ?_
      obtain ⟨g155, h⟩ := h
      obtain ⟨g156, h⟩ := h
      refine r_sld (i := (x4 + 1)) hx hb hX hbl hbA hS.2.2.2.1 g155 g156 (by omega) d_La_law_1000 ?_
      refine lv_aload_n hx hb d_La_law_1001 rfl (lv_at hl 0 rfl) ?_
      refine lv_iload hx hb d_La_law_1002 (lv_at hl 4 rfl) ?_
      refine r_iconst hx hb d_La_law_1004 ?_
      refine r_iadd hx hb d_La_law_1005 ?_
      obtain ⟨g157, h⟩ := h
      obtain ⟨g158, h⟩ := h
      refine r_sld (i := (x4 + 2)) hx hb hX hbl hbA hS.2.2.2.1 g157 g158 (by omega) d_La_law_1006 ?_
      refine lv_aload_n hx hb d_La_law_1007 rfl (lv_at hl 3 rfl) ?_
      refine r_cw (r_runSW (n := 4) (As := [.ref (ad 0), .int (iI (scf xs (x4 + 1))), .int (iI (scf xs (x4 + 2))), .ref (ad 49)]) (rest := []) ⟨hx, hb, hml, hown, hts⟩ (ct_La_net l hlT D ad cA mo _ _ _ _ _ _ h) rfl (gW tw_584) rfl rfl (hts _ tw_582) (hts _ tw_583) (hts _ tw_0) (by decide +kernel) ⟨Nat.le_of_ble_eq_true rfl, Nat.le_of_ble_eq_true rfl⟩ (y_preS hS hZ hN _) rfl rfl hl.1 rfl (lv_room (Nat.le_of_ble_eq_true rfl)) d_La_law_1008 ⟨by show _ ≤ 601024; omega, by show _ ≤ 7293000; omega⟩) hS hA (fun z159 F159 A159 H locs hS h => ?_)
      refine lv_istore (lv' := [(5, .int (iI z159)), (0, .ref b), (1, .ref (ad 0)), (2, .ref (ad 30)), (3, .ref (ad 49)), (4, .int (iI x4))]) hx hb d_La_law_1011 hl (by decide) rfl (fun ls hl => ?_)
      refine lv_aload_n hx hb d_La_law_1013 rfl (lv_at hl 3 rfl) ?_
      refine lv_aload_n hx hb d_La_law_1014 rfl (lv_at hl 1 rfl) ?_
      refine lv_iload hx hb d_La_law_1015 (lv_at hl 5 rfl) ?_
      refine r_iconst hx hb d_La_law_1017 ?_
      refine r_iadd hx hb d_La_law_1018 ?_
      refine r_sld (i := (x4 + 1)) hx hb hX hbl hbA hS.2.2.2.1 g155 g156 (by omega) d_La_law_1019 ?_
      refine lv_aload_n hx hb d_La_law_1020 rfl (lv_at hl 1 rfl) ?_
      refine lv_iload hx hb d_La_law_1021 (lv_at hl 5 rfl) ?_
      refine r_iconst hx hb d_La_law_1023 ?_
      refine r_iadd hx hb d_La_law_1024 ?_
      refine r_sld (i := (x4 + 2)) hx hb hX hbl hbA hS.2.2.2.1 g157 g158 (by omega) d_La_law_1025 ?_
      refine r_ci (va_runV (As := [.int (iI (scf xs (x4 + 1))), .int (iI (scf xs (x4 + 2)))]) (rest := []) ⟨hx, hb, hml, hown, hts⟩ (ct_Mo_net l D ad cA mo _ _ _ _ _ _ h) (cwV 2 hts (gV tw_846 tw_847 tw_848 tw_8 tw_849) rfl rfl rfl (by decide +kernel) ⟨Nat.le_of_ble_eq_true rfl, Nat.le_of_ble_eq_true rfl⟩) (x_preV hS 30 rfl rfl _) rfl rfl hl.1 rfl (lv_room (Nat.le_of_ble_eq_true rfl)) d_La_law_1026 ⟨by show _ ≤ 601024; omega, by show _ ≤ 7293000; omega⟩) hS hA (fun z160 F160 A160 H locs hS h => ?_)
      refine lv_istore (lv' := [(6, .int (iI z160)), (5, .int (iI z159)), (0, .ref b), (1, .ref (ad 0)), (2, .ref (ad 30)), (3, .ref (ad 49)), (4, .int (iI x4))]) hx hb d_La_law_1029 hl (by decide) rfl (fun ls hl => ?_)
      refine lv_aload_n hx hb d_La_law_1031 rfl (lv_at hl 4 rfl) ?_
      refine r_ci (va_runV (As := []) (rest := []) ⟨hx, hb, hml, hown, hts⟩ (ct_Mo_thrown l D ad cA mo _ _ _ _ h) (cwV 0 hts (gV tw_721 tw_722 tw_723 tw_8 tw_724) rfl rfl rfl (by decide +kernel) ⟨Nat.le_of_ble_eq_true rfl, Nat.le_of_ble_eq_true rfl⟩) (x_preV hS 30 rfl rfl _) rfl rfl hl.1 rfl (lv_room (Nat.le_of_ble_eq_true rfl)) d_La_law_1032 ⟨by show _ ≤ 601024; omega, by show _ ≤ 7293000; omega⟩) hS hA (fun z161 F161 A161 H locs hS h => ?_)
      obtain ⟨rfl, rfl, h⟩ := h
      refine lv_iload hx hb d_La_law_1035 (lv_at hl 1 rfl) ?_
      obtain ⟨g162, h⟩ := h
      obtain ⟨g163, h⟩ := h
      refine r_icmp_eq (tgt := 1042) hx hb g162 g163 d_La_law_1037 (by decide) (fun hc => ?_) (fun hc => ?_)
      · replace h := h.1 hc
        refine lv_iload hx hb d_La_law_1042 (lv_at hl 1 rfl) ?_
        refine r_if_ne (tgt := 1059) hx hb g163 d_La_law_1044 (by decide) (fun hc => ?_) (fun hc => ?_)
        · replace h := h.1 hc
          refine lv_goto (tgt := 1156) hx hb d_La_law_1059 (by decide) ?_
          exact s_law_b1156 C0 hL hlT hZ hN hcb hsb (fun _ _ _ h => h) _ _ _ h (by omega) _ _ _ hS (lv_sub hl [2, 3, 4, 5, 6] rfl)
        · replace h := h.2 hc
          refine lv_aload_n hx hb d_La_law_1047 rfl (lv_at hl 5 rfl) ?_
          refine r_iconst hx hb d_La_law_1048 ?_
          obtain ⟨g164, h⟩ := h
          obtain ⟨g165, h⟩ := h
          refine r_lald (id := 42) (i := 0) (z := A160 42 0) hx hb hS 49 rfl g164 g165 d_La_law_1049 rfl ?_
          refine lv_iload hx hb d_La_law_1050 (lv_at hl 0 rfl) ?_
          obtain ⟨g166, h⟩ := h
          refine r_i2l hx hb g166 d_La_law_1052 ?_
          obtain ⟨g167, h⟩ := h
          obtain ⟨g168, h⟩ := h
          refine r_lcmp_eq (tgt := 1059) hx hb g167 g168 d_La_law_1053 d_La_law_1054 (by decide) (fun hc => ?_) (fun hc => ?_)
          · replace h := h.1 hc
            refine lv_goto (tgt := 1156) hx hb d_La_law_1059 (by decide) ?_
            exact s_law_b1156 C0 hL hlT hZ hN hcb hsb (fun _ _ _ h => h) _ _ _ h (by omega) _ _ _ hS (lv_sub hl [2, 3, 4, 5, 6] rfl)
          · replace h := h.2 hc
            refine r_iconst hx hb d_La_law_1057 ?_
            exact h.elim
      · replace h := h.2 hc
        refine r_iconst hx hb d_La_law_1040 ?_
        exact h.elim
    · replace h := h.2.2.2.2.2.2.2.2.2.2.2.2.1 hz
      refine lv_tableIn (tgt := 1062) hx hb d_La_law_62 (by rw [hz]; decide +kernel) (by rw [hz]; decide +kernel) (off := 1000) (by rw [hz]; decide +kernel) (by decide) ?_
      refine lv_aload_n hx hb d_La_law_1062 rfl (lv_at hl 1 rfl) ?_
      refine lv_aload_n hx hb d_La_law_1063 rfl (lv_at hl 3 rfl) ?_
      refine r_cw (r_runSW (n := 2) (As := [.ref (ad 0), .ref (ad 49)]) (rest := []) ⟨hx, hb, hml, hown, hts⟩ (ct_La_wire l hlT D ad cA mo _ _ _ _ h) rfl (gW tw_601) rfl rfl (hts _ tw_599) (hts _ tw_600) (hts _ tw_0) (by decide +kernel) ⟨Nat.le_of_ble_eq_true rfl, Nat.le_of_ble_eq_true rfl⟩ (y_preS hS hZ hN _) rfl rfl hl.1 rfl (lv_room (Nat.le_of_ble_eq_true rfl)) d_La_law_1064 ⟨by show _ ≤ 601024; omega, by show _ ≤ 7293000; omega⟩) hS hA (fun z169 F169 A169 H locs hS h => ?_)
      refine lv_istore (lv' := [(5, .int (iI z169)), (0, .ref b), (1, .ref (ad 0)), (2, .ref (ad 30)), (3, .ref (ad 49)), (4, .int (iI x4))]) hx hb d_La_law_1067 hl (by decide) rfl (fun ls hl => ?_)
      refine lv_aload_n hx hb d_La_law_1069 rfl (lv_at hl 3 rfl) ?_
      refine r_cl (va_runV (As := []) (rest := []) ⟨hx, hb, hml, hown, hts⟩ (ct_Mo_wire l D ad cA mo _ _ _ _ h) (cwV 0 hts (gV tw_850 tw_851 tw_852 tw_8 tw_853) rfl rfl rfl (by decide +kernel) ⟨Nat.le_of_ble_eq_true rfl, Nat.le_of_ble_eq_true rfl⟩) (x_preV hS 30 rfl rfl _) rfl rfl hl.1 rfl (lv_room (Nat.le_of_ble_eq_true rfl)) d_La_law_1070 ⟨by show _ ≤ 601024; omega, by show _ ≤ 7293000; omega⟩) hS hA (fun z170 F170 A170 H locs hS h => ?_)
      refine lv_lstore (lv' := [(6, .long (lI z170)), (5, .int (iI z169)), (0, .ref b), (1, .ref (ad 0)), (2, .ref (ad 30)), (3, .ref (ad 49)), (4, .int (iI x4))]) hx hb d_La_law_1073 hl (by decide) rfl (fun ls hl => ?_)
      refine lv_aload_n hx hb d_La_law_1075 rfl (lv_at hl 4 rfl) ?_
      refine r_ci (va_runV (As := []) (rest := []) ⟨hx, hb, hml, hown, hts⟩ (ct_Mo_thrown l D ad cA mo _ _ _ _ h) (cwV 0 hts (gV tw_721 tw_722 tw_723 tw_8 tw_724) rfl rfl rfl (by decide +kernel) ⟨Nat.le_of_ble_eq_true rfl, Nat.le_of_ble_eq_true rfl⟩) (x_preV hS 30 rfl rfl _) rfl rfl hl.1 rfl (lv_room (Nat.le_of_ble_eq_true rfl)) d_La_law_1076 ⟨by show _ ≤ 601024; omega, by show _ ≤ 7293000; omega⟩) hS hA (fun z171 F171 A171 H locs hS h => ?_)
      obtain ⟨rfl, rfl, h⟩ := h
      refine lv_iload hx hb d_La_law_1079 (lv_at hl 1 rfl) ?_
      obtain ⟨g172, h⟩ := h
      obtain ⟨g173, h⟩ := h
      refine r_icmp_eq (tgt := 1086) hx hb g172 g173 d_La_law_1081 (by decide) (fun hc => ?_) (fun hc => ?_)
      · replace h := h.1 hc
        refine lv_iload hx hb d_La_law_1086 (lv_at hl 1 rfl) ?_
        refine r_if_ne (tgt := 1102) hx hb g173 d_La_law_1088 (by decide) (fun hc => ?_) (fun hc => ?_)
        · replace h := h.1 hc
          refine lv_goto (tgt := 1156) hx hb d_La_law_1102 (by decide) ?_
          exact s_law_b1156 C0 hL hlT hZ hN hcb hsb (fun _ _ _ h => h) _ _ _ h (by omega) _ _ _ hS (lv_sub hl [2, 3, 4, 5, 6] rfl)
        · replace h := h.2 hc
          refine lv_aload_n hx hb d_La_law_1091 rfl (lv_at hl 5 rfl) ?_
          refine r_iconst hx hb d_La_law_1092 ?_
          obtain ⟨g174, h⟩ := h
          obtain ⟨g175, h⟩ := h
          refine r_lald (id := 42) (i := 0) (z := A170 42 0) hx hb hS 49 rfl g174 g175 d_La_law_1093 rfl ?_
          refine lv_lload hx hb d_La_law_1094 (lv_at hl 0 rfl) ?_
          obtain ⟨g176, h⟩ := h
          obtain ⟨g177, h⟩ := h
          refine r_lcmp_eq (tgt := 1102) hx hb g176 g177 d_La_law_1096 d_La_law_1097 (by decide) (fun hc => ?_) (fun hc => ?_)
          · replace h := h.1 hc
            refine lv_goto (tgt := 1156) hx hb d_La_law_1102 (by decide) ?_
            exact s_law_b1156 C0 hL hlT hZ hN hcb hsb (fun _ _ _ h => h) _ _ _ h (by omega) _ _ _ hS (lv_sub hl [2, 3, 4, 5, 6] rfl)
          · replace h := h.2 hc
            refine r_iconst hx hb d_La_law_1100 ?_
            exact h.elim
      · replace h := h.2 hc
        refine r_iconst hx hb d_La_law_1084 ?_
        exact h.elim
    · replace h := h.2.2.2.2.2.2.2.2.2.2.2.2.2.1 hz
      refine lv_tableIn (tgt := 1105) hx hb d_La_law_62 (by rw [hz]; decide +kernel) (by rw [hz]; decide +kernel) (off := 1043) (by rw [hz]; decide +kernel) (by decide) ?_
      refine lv_aload_n hx hb d_La_law_1105 rfl (lv_at hl 1 rfl) ?_
      refine lv_aload_n hx hb d_La_law_1106 rfl (lv_at hl 3 rfl) ?_
      refine r_cw (r_runSW (n := 2) (As := [.ref (ad 0), .ref (ad 49)]) (rest := []) ⟨hx, hb, hml, hown, hts⟩ (ct_La_overlap l hlT D ad cA mo _ _ _ _ h) rfl (gW tw_612) rfl rfl (hts _ tw_610) (hts _ tw_611) (hts _ tw_0) (by decide +kernel) ⟨Nat.le_of_ble_eq_true rfl, Nat.le_of_ble_eq_true rfl⟩ (y_preS hS hZ hN _) rfl rfl hl.1 rfl (lv_room (Nat.le_of_ble_eq_true rfl)) d_La_law_1107 ⟨by show _ ≤ 601024; omega, by show _ ≤ 7293000; omega⟩) hS hA (fun z178 F178 A178 H locs hS h => ?_)
      refine lv_istore (lv' := [(5, .int (iI z178)), (0, .ref b), (1, .ref (ad 0)), (2, .ref (ad 30)), (3, .ref (ad 49)), (4, .int (iI x4))]) hx hb d_La_law_1110 hl (by decide) rfl (fun ls hl => ?_)
      refine lv_aload_n hx hb d_La_law_1112 rfl (lv_at hl 3 rfl) ?_
      refine r_ci (va_runV (As := []) (rest := []) ⟨hx, hb, hml, hown, hts⟩ (ct_Mo_overlap l D ad cA mo _ _ _ _ h) (cwV 0 hts (gV tw_854 tw_855 tw_856 tw_8 tw_857) rfl rfl rfl (by decide +kernel) ⟨Nat.le_of_ble_eq_true rfl, Nat.le_of_ble_eq_true rfl⟩) (x_preV hS 30 rfl rfl _) rfl rfl hl.1 rfl (lv_room (Nat.le_of_ble_eq_true rfl)) d_La_law_1113 ⟨by show _ ≤ 601024; omega, by show _ ≤ 7293000; omega⟩) hS hA (fun z179 F179 A179 H locs hS h => ?_)
      refine lv_istore (lv' := [(6, .int (iI z179)), (5, .int (iI z178)), (0, .ref b), (1, .ref (ad 0)), (2, .ref (ad 30)), (3, .ref (ad 49)), (4, .int (iI x4))]) hx hb d_La_law_1116 hl (by decide) rfl (fun ls hl => ?_)
      refine lv_aload_n hx hb d_La_law_1118 rfl (lv_at hl 4 rfl) ?_
      refine r_ci (va_runV (As := []) (rest := []) ⟨hx, hb, hml, hown, hts⟩ (ct_Mo_thrown l D ad cA mo _ _ _ _ h) (cwV 0 hts (gV tw_721 tw_722 tw_723 tw_8 tw_724) rfl rfl rfl (by decide +kernel) ⟨Nat.le_of_ble_eq_true rfl, Nat.le_of_ble_eq_true rfl⟩) (x_preV hS 30 rfl rfl _) rfl rfl hl.1 rfl (lv_room (Nat.le_of_ble_eq_true rfl)) d_La_law_1119 ⟨by show _ ≤ 601024; omega, by show _ ≤ 7293000; omega⟩) hS hA (fun z180 F180 A180 H locs hS h => ?_)
      obtain ⟨rfl, rfl, h⟩ := h
      refine lv_iload hx hb d_La_law_1122 (lv_at hl 1 rfl) ?_
      obtain ⟨g181, h⟩ := h
      obtain ⟨g182, h⟩ := h
      refine r_icmp_eq (tgt := 1129) hx hb g181 g182 d_La_law_1124 (by decide) (fun hc => ?_) (fun hc => ?_)
      · replace h := h.1 hc
        refine lv_iload hx hb d_La_law_1129 (lv_at hl 1 rfl) ?_
        refine r_if_ne (tgt := 1153) hx hb g182 d_La_law_1131 (by decide) (fun hc => ?_) (fun hc => ?_)
        · replace h := h.1 hc
          refine lv_goto (tgt := 1156) hx hb d_La_law_1153 (by decide) ?_
          exact s_law_b1156 C0 hL hlT hZ hN hcb hsb (fun _ _ _ h => h) _ _ _ h (by omega) _ _ _ hS (lv_sub hl [2, 3, 4, 5, 6] rfl)
        · replace h := h.2 hc
          refine lv_aload_n hx hb d_La_law_1134 rfl (lv_at hl 5 rfl) ?_
          refine r_iconst hx hb d_La_law_1135 ?_
          obtain ⟨g183, h⟩ := h
          obtain ⟨g184, h⟩ := h
          refine r_lald (id := 42) (i := 0) (z := A179 42 0) hx hb hS 49 rfl g183 g184 d_La_law_1136 rfl ?_
          refine lv_iload hx hb d_La_law_1137 (lv_at hl 0 rfl) ?_
          obtain ⟨g185, h⟩ := h
          refine r_if_eq (tgt := 1146) hx hb g185 d_La_law_1139 (by decide) (fun hc => ?_) (fun hc => ?_)
          · replace h := h.1 hc
            refine r_lconst hx hb 0 d_La_law_1146 (by decide +kernel) ?_
            exact s_law_b1147 C0 hL hlT hZ hN hcb hsb (fun _ _ _ h => h) _ _ _ _ _ h (by omega) _ _ _ hS (lv_sub hl [2, 3, 4, 5, 6] rfl)
          · replace h := h.2 hc
            refine r_lconst hx hb 1 d_La_law_1142 (by decide +kernel) ?_
            refine lv_goto (tgt := 1147) hx hb d_La_law_1143 (by decide) ?_
            exact s_law_b1147 C0 hL hlT hZ hN hcb hsb (fun _ _ _ h => h) _ _ _ _ _ h (by omega) _ _ _ hS (lv_sub hl [2, 3, 4, 5, 6] rfl)
      · replace h := h.2 hc
        refine r_iconst hx hb d_La_law_1127 ?_
        exact h.elim
    · replace h := h.2.2.2.2.2.2.2.2.2.2.2.2.2.2 hz
      refine lv_tableOut (tgt := 1156) hx hb d_La_law_62 (by rw [iI_t hzr]; omega) (by decide) ?_
      refine W.widen (k := cb + x4.toNat + 1) (n := sb + 6 * x4.toNat + 6) (by omega) (by omega) ?_
      exact s_law_b1156 C0 hL hlT hZ hN hcb hsb (fun _ _ _ h => h) _ _ _ h (by omega) _ _ _ hS (lv_sub hl [0, 1, 2, 3, 4] rfl)
end LW
