/-! THE BEGINNING, AND ALL CALLS -/
theorem Inv_0 {mo : Nat} {r st : Int} (h1 : 1 ≤ r) (h2 : r ≤ 16) (h3 : 1 ≤ st) (h4 : st ≤ 1000) (h6 : r ≤ mo) : Inv mo r st (F0i r st) (A0i r st) := by
  have p0 : ∀ j, j < r → A0i r st 0 j = j := fun j hj => by show (if j < r then j else 0) = j; rw [if_pos hj]
  have p2 : ∀ j, j < r → A0i r st 2 j = st := fun j hj => by show (if j < r then st else 0) = st; rw [if_pos hj]
  have p1 : ∀ j, A0i r st 1 j = 0 := fun j => rfl
  have e0 : ∀ hi, 0 ≤ hi → iv_e 0 hi 60 (fun _ => 0) (fun _ => 0) := fun hi h c _ _ => ⟨rfl, by show (0 : Int) ≤ 0; omega, h⟩
  refine ⟨⟨rfl, rfl, rfl, rfl, h1, h2, h3, h4⟩, ⟨rfl, by show (0 : Int) ≤ 0; omega, by show (0 : Int) ≤ 60; omega, rfl, by show (0 : Int) ≤ 0; omega, by show (0 : Int) ≤ 80; omega, rfl, Or.inl rfl⟩, fun c a b => ?_, e0 3 (by omega), e0 3 (by omega), e0 (st - 1) (by omega), e0 (r - 1) (by omega), fun c a b => e0 20 (by omega) c a (by omega), ⟨fun k a b => ?_, fun c a b => ?_, fun e he => absurd he (Nat.not_lt_zero _)⟩, ⟨?_, ?_, fun i a b => ?_, fun i a b => ?_, fun a x a0 a1 x0 x1 => ⟨Or.inl rfl, ?_⟩⟩, fun hp => ?_⟩
  · have b' : c < 0 := b
    omega
  · have b' : k < 0 := b
    omega
  · show (if c < 60 then (-1 : Int) else 0) = -1
    rw [if_pos b]
  · show 0 ≤ r
    omega
  · exact h6
  · have b' : i < r := b
    rw [p0 i b', p1, p2 i b']
    omega
  · have b' : i + 1 < r := b
    rw [p0 i (by omega), p0 (i + 1) b']
    exact Or.inl (by omega)
  · refine ⟨fun _ => ⟨a, a0, a1, p0 a a1, by rw [p1]; exact x0, by rw [p2 a a1]; exact x1⟩, fun _ => rfl⟩
  · have hp' : (0 : Int) = 1 := hp
    omega
set_option maxHeartbeats 4000000 in
theorem pure_all (L : Nat) (hL : L ≤ 3074) (xs : Nat → Int32) (mo : Nat) (r st : Int) (h1 : 1 ≤ r) (h2 : r ≤ 16) (h3 : 1 ≤ st) (h4 : st ≤ 1000) (h5 : min (r * ((st + 1) / 2)) (r + 512) = (mo : Int)) (h6 : r ≤ mo) (h7 : mo ≤ 8000) : w_law_b45 mo L xs 2 (F0i r st) (A0i r st) := by
  have hmo : (mo : Int) ≤ 8000 := by omega
  refine Lp3_by (fun (x4 : Int) F A => 2 ≤ x4 ∧ (x4 = 2 ∨ x4 ≤ L) ∧ ∃ mb : Nat, mb ≤ mo ∧ 6 * (mb : Int) ≤ 6 * r + (x4 - 2) ∧ Inv mb r st F A) (fun (x4 : Int) _ _ => (4000 - x4).toNat) ?_ 2 (F0i r st) (A0i r st) ⟨by omega, Or.inl rfl, r.toNat, by omega, by omega, Inv_0 h1 h2 h3 h4 (by omega)⟩
  rintro x4 F A ⟨g0, g1, mb, g2, g3, hI⟩ P hP
  refine ⟨⟨by omega, by omega⟩, ⟨by omega, by omega⟩, fun _ => trivial, fun h => ?_⟩
  have next : ∀ (mc : Nat), mc ≤ mo → mc ≤ mb + 1 → ∀ F2 A2, Inv mc r st F2 A2 → w_law_b1156 mo L xs P x4 F2 A2 := fun mc k0 k1 F2 A2 hi => hP _ _ _ ⟨by omega, Or.inr (by omega), mc, k0, by omega, hi⟩ (by omega)
  have rz : ∀ z, 0 ≤ z → z ≤ 3 → rg z := fun z a b => ⟨by omega, by omega⟩
  have T1 : ∀ z z2 F2 A2, Ok mb r st z z2 F2 A2 → rL z2 → rg (F2 10) ∧ rg z ∧ ((F2 10 = z → ((¬ z = 0 → w_law_b1156 mo L xs P x4 F2 A2) ∧ (z = 0 → (0 : Int) ≤ 0 ∧ (0 : Int) < 1 ∧ rL (A2 42 0) ∧ rL z2 ∧ ((A2 42 0 = z2 → w_law_b1156 mo L xs P x4 F2 A2) ∧ (¬ A2 42 0 = z2 → False))))) ∧ (¬ F2 10 = z → False)) := by
    rintro z z2 F2 A2 ⟨o1, o2, o3, o4, o5⟩ hz
    rw [o2]
    refine ⟨rz z o3 o4, rz z o3 o4, fun _ => ⟨fun _ => next mb g2 (by omega) _ _ o1, fun e => ?_⟩, fun e => e rfl⟩
    rw [o5 e]
    exact ⟨by omega, by omega, hz, hz, fun _ => next mb g2 (by omega) _ _ o1, fun e => e rfl⟩
  have T1g : ∀ z z2 F2 A2, Ok mb r st z z2 F2 A2 → rg z2 → rg (F2 10) ∧ rg z ∧ ((F2 10 = z → ((¬ z = 0 → w_law_b1156 mo L xs P x4 F2 A2) ∧ (z = 0 → (0 : Int) ≤ 0 ∧ (0 : Int) < 1 ∧ rg z2 ∧ rL (A2 42 0) ∧ rL z2 ∧ ((A2 42 0 = z2 → w_law_b1156 mo L xs P x4 F2 A2) ∧ (¬ A2 42 0 = z2 → False))))) ∧ (¬ F2 10 = z → False)) := by
    intro z z2 F2 A2 o hz
    obtain ⟨a, b, c, d⟩ := T1 z z2 F2 A2 o ⟨by have := hz.1; omega, by have := hz.2; omega⟩
    exact ⟨a, b, fun e => ⟨(c e).1, fun e' => ⟨((c e).2 e').1, ((c e).2 e').2.1, hz, ((c e).2 e').2.2⟩⟩, d⟩
  have T2 : ∀ (mc : Nat), mc ≤ mo → mc ≤ mb + 1 → ∀ z z2 F2 A2, Ok mc r st z z2 F2 A2 → (z2 = 0 ∨ z2 = 1) → rg (F2 10) ∧ rg z ∧ ((F2 10 = z → ((¬ z = 0 → w_law_b1156 mo L xs P x4 F2 A2) ∧ (z = 0 → (0 : Int) ≤ 0 ∧ (0 : Int) < 1 ∧ rg z2 ∧ ((z2 = 0 → w_law_b342 mo L xs P x4 (A2 42 0) 0 F2 A2) ∧ (¬ z2 = 0 → w_law_b342 mo L xs P x4 (A2 42 0) 1 F2 A2))))) ∧ (¬ F2 10 = z → False)) := by
    rintro mc k0 k1 z z2 F2 A2 ⟨o1, o2, o3, o4, o5⟩ hz
    rw [o2]
    refine ⟨rz z o3 o4, rz z o3 o4, fun _ => ⟨fun _ => next mc k0 k1 _ _ o1, fun e => ?_⟩, fun e => e rfl⟩
    rw [o5 e]
    unfold w_law_b342
    refine ⟨by omega, by omega, ⟨by omega, by omega⟩, fun e => ⟨⟨by omega, by omega⟩, ⟨by omega, by omega⟩, fun _ => next mc k0 k1 _ _ o1, fun e' => e' e⟩, fun e => ⟨⟨by omega, by omega⟩, ⟨by omega, by omega⟩, fun _ => next mc k0 k1 _ _ o1, fun e' => e' (by omega)⟩⟩
  have R := fun i => rg_scf xs i
  have G := fun i j => rL_lgv (scf xs i) (scf xs j)
  refine ⟨by omega, by omega, ?_, ?_, ?_, ?_, ?_, ?_, ?_, ?_, ?_, ?_, ?_, ?_, ?_, ?_, fun _ => next mb g2 (by omega) _ _ hI⟩
  · intro _
    exact ⟨by omega, by omega, by omega, by omega, by omega, by omega, op_cell hI _ _ (G _ _) (R _) (fun z z2 F2 A2 o hz => T1g z z2 F2 A2 o hz)⟩
  · intro _
    exact ⟨by omega, by omega, by omega, by omega, by omega, by omega, by omega, by omega, op_want hI _ _ _ (R _) (G _ _) (R _) (fun z z2 F2 A2 o hz => T2 mb g2 (by omega) z z2 F2 A2 o hz)⟩
  · intro _
    exact ⟨by omega, by omega, by omega, by omega, by omega, by omega, by omega, by omega, by omega, by omega, op_bar (mc := min mo (mb + 1)) hI g2 hmo (by omega) (by omega) (by omega) _ _ _ (R _) (G _ _) (G _ _) (fun z z2 F2 A2 o hz => T2 (min mo (mb + 1)) (by omega) (by omega) z z2 F2 A2 o hz)⟩
  · intro _
    exact ⟨by omega, by omega, by omega, by omega, by omega, by omega, op_kind hI _ _ _ (R _) (R _) (R _) (fun z z2 F2 A2 o hz => T2 mb g2 (by omega) z z2 F2 A2 o hz)⟩
  · intro _
    exact ⟨by omega, by omega, by omega, by omega, by omega, by omega, by omega, by omega, op_space hI _ _ _ (R _) (R _) (G _ _) (fun z z2 F2 A2 o hz => T2 mb g2 (by omega) z z2 F2 A2 o hz)⟩
  · intro _
    exact op_run hI g2 hmo (fun z z2 F2 A2 hi e z0 z1 => ⟨⟨by omega, by omega⟩, ⟨by omega, by omega⟩, fun _ => next mb g2 (by omega) _ _ hi, fun ne => ne e⟩)
  · intro _
    exact ⟨by omega, by omega, op_at hI _ (R _) (fun z z2 F2 A2 o hz => T1 z z2 F2 A2 o ⟨by omega, by omega⟩)⟩
  · intro _
    exact ⟨by omega, by omega, op_rowOf hI _ (R _) (fun z z2 F2 A2 o hz => T1g z z2 F2 A2 o ⟨by omega, by omega⟩)⟩
  · intro _
    exact op_moved hI (fun z z2 F2 A2 o hz => T1 z z2 F2 A2 o ⟨by omega, by omega⟩)
  · intro _
    exact ⟨by omega, by omega, op_mirrored hI _ (R _) (fun z z2 F2 A2 o hz => T2 mb g2 (by omega) z z2 F2 A2 o hz)⟩
  · intro _
    exact ⟨by omega, by omega, op_improve hI _ (R _) (fun z z2 F2 A2 o hz => T1g z z2 F2 A2 o hz)⟩
  · intro _
    exact ⟨by omega, by omega, by omega, by omega, op_net hI _ _ (R _) (R _) (fun z z2 F2 A2 o hz => T1g z z2 F2 A2 o ⟨by omega, by omega⟩)⟩
  · intro _
    exact op_wire hI (fun z z2 F2 A2 o hz => T1 z z2 F2 A2 o ⟨by omega, by omega⟩)
  · intro _
    exact op_overlap hI g2 hmo (fun z z2 F2 A2 o hz => T2 mb g2 (by omega) z z2 F2 A2 o hz)
