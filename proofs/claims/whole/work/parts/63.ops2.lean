/-! PLAIN CALLS side by side -/
theorem iv_e_new {lo hi n v : Int} {f g f' g' : Int → Int} (h : iv_e lo hi n f g) (h1 : lo ≤ v) (h2 : v ≤ hi) (hf : ∀ j, f' j = if j = n then v else f j) (hg : ∀ j, g' j = if j = n then v else g j) : iv_e lo hi (n + 1) f' g' := by
  intro c a b
  rw [hf, hg]
  split
  · exact ⟨rfl, h1, h2⟩
  · exact h c a (by omega)
theorem iv_net_more {n n2 m : Int} {co ne fe na nb : Int → Int} (h : iv_net n m co ne fe na nb) (hn : n ≤ n2) : iv_net n2 m co ne fe na nb :=
  ⟨fun k a b => by obtain ⟨q1, q2, q3, q4, q5, q6, q7⟩ := h.1 k a b; exact ⟨q1, q2, q3, by omega, q5, by omega, q7⟩, h.2.1, h.2.2⟩
section OP
variable {mo mb : Nat} {r st : Int} {F : Nat → Int} {A : Nat → Int → Int} {P : Int → Int → (Nat → Int) → (Nat → Int → Int) → Prop}
theorem op_cell (hI : Inv mb r st F A) (x y : Int) (hx : rL x) (hy : rg y) (hP : ∀ z z2 F2 A2, Ok mb r st z z2 F2 A2 → rg z2 → P z z2 F2 A2) :
    w_La_cell2 mo F A x y (fun z F1 A1 => w_Mo_cell mo F1 A1 x y (fun z2 F2 A2 => P z z2 F2 A2)) := by
  obtain ⟨i1, i2, i3, i4, i5, i6, i7, i8, i9, i10, i11⟩ := id hI
  obtain ⟨n1, n2, n3, n4, n5, n6, n7, n8⟩ := id i2
  have e13 : F 13 = F 4 := n1.symm
  refine c_cell n2 n3 hx.1 hx.2 hy.1 hy.2 (fun h => ?_) (fun h1 h2 => ?_) (fun h1 h2 h3 h4 => ?_)
  · refine m_cell (by omega) (by omega) hx.1 hx.2 hy.1 hy.2 (fun g => ?_) (fun g1 g2 => absurd g1 (by omega)) (fun g1 _ _ _ => absurd g1 (by omega))
    exact hP _ _ _ _ ⟨⟨i1, i2, i3, i4, i5, i6, i7, i8, i9, i10, i11⟩, rfl, by omega, by omega, fun h => by omega⟩ rg_0
  · refine m_cell (by omega) (by omega) hx.1 hx.2 hy.1 hy.2 (fun g => absurd g (by omega)) (fun g1 g2 => ?_) (fun g1 _ _ _ => absurd h2 (by omega))
    exact hP _ _ _ _ ⟨⟨i1, i2, i3, i4, i5, i6, i7, i8, i9, i10, i11⟩, rfl, by omega, by omega, fun h => by omega⟩ rg_0
  · refine m_cell (by show 0 ≤ F 13; omega) (by show F 13 ≤ 60; omega) hx.1 hx.2 hy.1 hy.2 (fun g => absurd g (by show ¬ F 13 = 60; omega)) (fun g1 g2 => absurd g2 (by omega)) (fun g1 _ _ _ => ?_)
    refine hP _ _ _ _ ⟨⟨i1, ⟨by show F 4 + 1 = F 13 + 1; omega, by show 0 ≤ F 4 + 1; omega, by show F 4 + 1 ≤ 60; omega, n4, n5, n6, rfl, Or.inl rfl⟩, ?_, i4, i5, i6, i7, i8, iv_net_more i9 (by show F 4 ≤ F 4 + 1; omega), i10, iv_pl0⟩, rfl, by omega, by omega, fun h => by show F 4 + 1 - 1 = F 13 + 1 - 1; omega⟩ ⟨by show _ ≤ F 13 + 1 - 1; omega, by show F 13 + 1 - 1 ≤ _; omega⟩
    exact iv_e_new i3 h2 h3 (fun j => ua_at A 3 _ _ j) (fun j => by
      show ua _ 25 (F 13) x 25 j = _
      rw [ua_at, e13]
      rfl)
theorem op_want (hI : Inv mb r st F A) (c x w : Int) (hc : rg c) (hx : rL x) (hw : rg w) (hP : ∀ z z2 F2 A2, Ok mb r st z z2 F2 A2 → (z2 = 0 ∨ z2 = 1) → P z z2 F2 A2) :
    w_La_want mo F A c x w (fun z F1 A1 => w_Mo_want mo F1 A1 c x w (fun z2 F2 A2 => P z z2 F2 A2)) := by
  obtain ⟨i1, i2, i3, i4, i5, i6, i7, i8, i9, i10, i11⟩ := id hI
  obtain ⟨n1, n2, n3, n4, n5, n6, n7, n8⟩ := id i2
  obtain ⟨r1, r2, r3, r4, r5, r6, r7, r8⟩ := id i1
  have e13 : F 13 = F 4 := n1.symm
  have k6 := i6 c
  have k7 := i7 c
  have p6 : 0 ≤ c → c < 60 → 0 ≤ A 6 c ∧ A 6 c ≤ 1000 := fun a b => by have := k6 a b; omega
  have p7 : 0 ≤ c → c < 60 → 0 ≤ A 7 c ∧ A 7 c ≤ 1000 := fun a b => by have := k7 a b; omega
  have p28 : 0 ≤ c → c < 60 → 0 ≤ A 28 c ∧ A 28 c ≤ 1000 := fun a b => by have := k6 a b; omega
  have p29 : 0 ≤ c → c < 60 → 0 ≤ A 29 c ∧ A 29 c ≤ 1000 := fun a b => by have := k7 a b; omega
  have mm : ∀ {A1 : Nat → Int → Int} {F1 : Nat → Int} {Q : Int → (Nat → Int) → (Nat → Int → Int) → Prop}, A1 28 = A 28 → A1 29 = A 29 → F1 13 = F 13 → F1 11 = F 11 → F1 12 = F 12 → (¬ (0 ≤ c ∧ c < F 4 ∧ 0 ≤ w ∧ w < F 1 ∧ 0 ≤ x ∧ x < F 2) → Q 0 (uf F1 10 1) A1) → ((0 ≤ c ∧ c < F 4 ∧ 0 ≤ w ∧ w < F 1 ∧ 0 ≤ x ∧ x < F 2) → A 28 c = x → A 29 c = w → Q 0 (uf F1 10 0) A1) → ((0 ≤ c ∧ c < F 4 ∧ 0 ≤ w ∧ w < F 1 ∧ 0 ≤ x ∧ x < F 2) → ¬ (A 28 c = x ∧ A 29 c = w) → Q 1 (uf (uf F1 10 0) 15 0) (ua (ua A1 28 c x) 29 c w)) → w_Mo_want mo F1 A1 c x w Q := by
    intro A1 F1 Q a1 a2 a3 a4 a5 q1 q2 q3
    refine m_want (by omega) (by omega) (by omega) (by omega) (by omega) (by omega) (by rw [a1]; exact p28) (by rw [a2]; exact p29) hx.1 hx.2 hc.1 hc.2 hw.1 hw.2 (fun g => q1 (by omega)) (fun g g2 g3 => q2 (by omega) (by rw [← a1]; exact g2) (by rw [← a2]; exact g3)) (fun g g2 => q3 (by omega) (by rw [← a1, ← a2]; exact g2))
  refine c_want n2 n3 (by omega) (by omega) (by omega) (by omega) p6 p7 hx.1 hx.2 hc.1 hc.2 hw.1 hw.2 (fun h => ?_) (fun h g1 g2 => ?_) (fun h g => ?_)
  · refine mm rfl rfl rfl rfl rfl (fun _ => ?_) (fun q => absurd q h) (fun q => absurd q h)
    exact hP _ _ _ _ ⟨⟨i1, i2, i3, i4, i5, i6, i7, i8, i9, i10, i11⟩, rfl, by omega, by omega, fun h => by omega⟩ (Or.inl rfl)
  · have j6 := k6 h.1 (by omega)
    have j7 := k7 h.1 (by omega)
    refine mm rfl rfl rfl rfl rfl (fun q => absurd h q) (fun _ _ _ => ?_) (fun _ q => absurd q (by omega))
    exact hP _ _ _ _ ⟨⟨i1, i2, i3, i4, i5, iv_e_same i6 g1 (fun j => ua_at A 6 _ _ j), iv_e_same i7 g2 (fun j => ua_at (ua A 6 c x) 7 _ _ j), i8, i9, i10, i11⟩, rfl, by omega, by omega, fun _ => rfl⟩ (Or.inl rfl)
  · have j6 := k6 h.1 (by omega)
    have j7 := k7 h.1 (by omega)
    refine mm rfl rfl rfl rfl rfl (fun q => absurd h q) (fun _ q1 q2 => absurd g (by omega)) (fun _ _ => ?_)
    exact hP _ _ _ _ ⟨⟨i1, ⟨n1, n2, n3, n4, n5, n6, rfl, Or.inl rfl⟩, i3, i4, i5, iv_e_both (i := c) (v := x) i6 (by omega) (by omega) (fun j => ua_at A 6 _ _ j) (fun j => ua_at _ 28 _ _ j), iv_e_both (i := c) (v := w) i7 (by omega) (by omega) (fun j => ua_at (ua A 6 c x) 7 _ _ j) (fun j => ua_at _ 29 _ _ j), i8, i9, i10, iv_pl0⟩, rfl, by omega, by omega, fun _ => rfl⟩ (Or.inr rfl)
theorem op_kind (hI : Inv mb r st F A) (c x w : Int) (hc : rg c) (hx : rg x) (hw : rg w) (hP : ∀ z z2 F2 A2, Ok mb r st z z2 F2 A2 → (z2 = 0 ∨ z2 = 1) → P z z2 F2 A2) :
    w_La_kind mo F A c x w (fun z F1 A1 => w_Mo_kind mo F1 A1 c x w (fun z2 F2 A2 => P z z2 F2 A2)) := by
  obtain ⟨i1, i2, i3, i4, i5, i6, i7, i8, i9, i10, i11⟩ := id hI
  obtain ⟨n1, n2, n3, n4, n5, n6, n7, n8⟩ := id i2
  have k4 := i4 c
  have k5 := i5 c
  have p4 : 0 ≤ c → c < 60 → 0 ≤ A 4 c ∧ A 4 c ≤ 3 := fun a b => by have := k4 a b; omega
  have p5 : 0 ≤ c → c < 60 → 0 ≤ A 5 c ∧ A 5 c ≤ 3 := fun a b => by have := k5 a b; omega
  have p26 : 0 ≤ c → c < 60 → 0 ≤ A 26 c ∧ A 26 c ≤ 3 := fun a b => by have := k4 a b; omega
  have p27 : 0 ≤ c → c < 60 → 0 ≤ A 27 c ∧ A 27 c ≤ 3 := fun a b => by have := k5 a b; omega
  have mm : ∀ {A1 : Nat → Int → Int} {F1 : Nat → Int} {Q : Int → (Nat → Int) → (Nat → Int → Int) → Prop}, A1 26 = A 26 → A1 27 = A 27 → F1 13 = F 13 → (¬ (0 ≤ c ∧ c < F 4) → Q 0 (uf F1 10 1) A1) → (0 ≤ c ∧ c < F 4 → ¬ (0 ≤ x ∧ x < 4 ∧ 0 ≤ w ∧ w < 4) → Q 0 (uf F1 10 2) A1) → (0 ≤ c ∧ c < F 4 → (0 ≤ x ∧ x < 4 ∧ 0 ≤ w ∧ w < 4) → A 26 c = x → A 27 c = w → Q 0 (uf F1 10 0) A1) → (0 ≤ c ∧ c < F 4 → (0 ≤ x ∧ x < 4 ∧ 0 ≤ w ∧ w < 4) → ¬ (A 26 c = x ∧ A 27 c = w) → Q 1 (uf (uf F1 10 0) 15 0) (ua (ua A1 26 c x) 27 c w)) → w_Mo_kind mo F1 A1 c x w Q := by
    intro A1 F1 Q a1 a2 a3 q1 q2 q3 q4
    refine m_kind (by omega) (by omega) (by rw [a1]; exact p26) (by rw [a2]; exact p27) hc.1 hc.2 hx.1 hx.2 hw.1 hw.2 (fun g => q1 (by omega)) (fun g g2 g3 => q2 (by omega) g3) (fun g g2 g3 g4 g5 => q3 (by omega) g3 (by rw [← a1]; exact g4) (by rw [← a2]; exact g5)) (fun g g2 g3 g4 => q4 (by omega) g3 (by rw [← a1, ← a2]; exact g4))
  refine c_kind n2 n3 p4 p5 hc.1 hc.2 hx.1 hx.2 hw.1 hw.2 (fun h => ?_) (fun h1 h2 h => ?_) (fun h1 h2 h g1 g2 => ?_) (fun h1 h2 h g => ?_)
  · refine mm rfl rfl rfl (fun _ => ?_) (fun q => absurd q h) (fun q => absurd q h) (fun q => absurd q h)
    exact hP _ _ _ _ ⟨⟨i1, i2, i3, i4, i5, i6, i7, i8, i9, i10, i11⟩, rfl, by omega, by omega, fun h => by omega⟩ (Or.inl rfl)
  · refine mm rfl rfl rfl (fun q => absurd ⟨h1, h2⟩ q) (fun _ _ => ?_) (fun _ q => absurd q h) (fun _ q => absurd q h)
    exact hP _ _ _ _ ⟨⟨i1, i2, i3, i4, i5, i6, i7, i8, i9, i10, i11⟩, rfl, by omega, by omega, fun h => by omega⟩ (Or.inl rfl)
  · have j4 := k4 h1 (by omega)
    have j5 := k5 h1 (by omega)
    refine mm rfl rfl rfl (fun q => absurd ⟨h1, h2⟩ q) (fun _ q => absurd h q) (fun _ _ _ _ => ?_) (fun _ _ q => absurd q (by omega))
    exact hP _ _ _ _ ⟨⟨i1, i2, i3, iv_e_same i4 g1 (fun j => ua_at A 4 _ _ j), iv_e_same i5 g2 (fun j => ua_at (ua A 4 c x) 5 _ _ j), i6, i7, i8, i9, i10, i11⟩, rfl, by omega, by omega, fun _ => rfl⟩ (Or.inl rfl)
  · have j4 := k4 h1 (by omega)
    have j5 := k5 h1 (by omega)
    refine mm rfl rfl rfl (fun q => absurd ⟨h1, h2⟩ q) (fun _ q => absurd h q) (fun _ _ q1 q2 => absurd g (by omega)) (fun _ _ _ => ?_)
    exact hP _ _ _ _ ⟨⟨i1, ⟨n1, n2, n3, n4, n5, n6, rfl, Or.inl rfl⟩, i3, iv_e_both (i := c) (v := x) i4 (by omega) (by omega) (fun j => ua_at A 4 _ _ j) (fun j => ua_at _ 26 _ _ j), iv_e_both (i := c) (v := w) i5 (by omega) (by omega) (fun j => ua_at (ua A 4 c x) 5 _ _ j) (fun j => ua_at _ 27 _ _ j), i6, i7, i8, i9, i10, iv_pl0⟩, rfl, by omega, by omega, fun _ => rfl⟩ (Or.inr rfl)
theorem op_at (hI : Inv mb r st F A) (c : Int) (hc : rg c) (hP : ∀ z z2 F2 A2, Ok mb r st z z2 F2 A2 → 0 ≤ z2 ∧ z2 ≤ 1000 → P z z2 F2 A2) :
    w_La_at mo F A c (fun z F1 A1 => w_Mo_at mo F1 A1 c (fun z2 F2 A2 => P z z2 F2 A2)) := by
  obtain ⟨i1, i2, i3, i4, i5, i6, i7, i8, i9, i10, i11⟩ := id hI
  obtain ⟨n1, n2, n3, n4, n5, n6, n7, n8⟩ := id i2
  obtain ⟨r1, r2, r3, r4, r5, r6, r7, r8⟩ := id i1
  have pc : F 0 = 1 → 0 ≤ c → c < F 4 → A 8 c = A 33 c ∧ 0 ≤ A 8 c ∧ A 8 c ≤ 1000 := fun a b d => by
    have q := i11 a c b d
    have w := i3 c b d
    omega
  refine c_at n2 n3 n8 (fun a b d => (pc a b d).2) hc.1 hc.2 (fun h => ?_) (fun h1 h2 h3 => ?_) (fun h1 h2 h3 => ?_)
  · refine m_at (by omega) (by omega) (by omega) (fun a b d => by have := pc (by omega) b (by omega); omega) hc.1 hc.2 (fun _ => ?_) (fun g1 g2 _ => absurd h (by omega)) (fun g1 g2 _ => absurd h (by omega))
    exact hP _ _ _ _ ⟨⟨i1, i2, i3, i4, i5, i6, i7, i8, i9, i10, i11⟩, rfl, by omega, by omega, fun h => by omega⟩ ⟨by omega, by omega⟩
  · refine m_at (by omega) (by omega) (by omega) (fun a b d => by have := pc (by omega) b (by omega); omega) hc.1 hc.2 (fun g => absurd g (by omega)) (fun g1 g2 _ => ?_) (fun g1 g2 g3 => absurd g3 (by omega))
    exact hP _ _ _ _ ⟨⟨i1, i2, i3, i4, i5, i6, i7, i8, i9, i10, i11⟩, rfl, by omega, by omega, fun h => by omega⟩ ⟨by omega, by omega⟩
  · have q := pc h3 h1 h2
    refine m_at (by show 0 ≤ F 13; omega) (by show F 13 ≤ 60; omega) (by show F 15 = 0 ∨ F 15 = 1; omega) (fun a b d => by have : F 15 = 1 := a; have : c < F 13 := d; show 0 ≤ A 33 c ∧ A 33 c ≤ 1000; omega) hc.1 hc.2 (fun g => absurd g (by show ¬ ¬ (0 ≤ c ∧ c < F 13); omega)) (fun g1 g2 g3 => absurd g3 (by show ¬ F 15 = 0; omega)) (fun g1 g2 g3 => ?_)
    exact hP _ _ _ _ ⟨⟨i1, i2, i3, i4, i5, i6, i7, i8, i9, i10, i11⟩, rfl, by omega, by omega, fun h => q.1⟩ (by show 0 ≤ A 33 c ∧ A 33 c ≤ 1000; omega)
theorem op_rowOf (hI : Inv mb r st F A) (c : Int) (hc : rg c) (hP : ∀ z z2 F2 A2, Ok mb r st z z2 F2 A2 → 0 ≤ z2 ∧ z2 ≤ 1000 → P z z2 F2 A2) :
    w_La_rowOf mo F A c (fun z F1 A1 => w_Mo_rowOf mo F1 A1 c (fun z2 F2 A2 => P z z2 F2 A2)) := by
  obtain ⟨i1, i2, i3, i4, i5, i6, i7, i8, i9, i10, i11⟩ := id hI
  obtain ⟨n1, n2, n3, n4, n5, n6, n7, n8⟩ := id i2
  obtain ⟨r1, r2, r3, r4, r5, r6, r7, r8⟩ := id i1
  have pc : F 0 = 1 → 0 ≤ c → c < F 4 → A 9 c = A 34 c ∧ 0 ≤ A 9 c ∧ A 9 c ≤ 1000 := fun a b d => by
    have q := i11 a c b d
    have w := i3 c b d
    omega
  refine c_rowOf n2 n3 n8 (fun a b d => (pc a b d).2) hc.1 hc.2 (fun h => ?_) (fun h1 h2 h3 => ?_) (fun h1 h2 h3 => ?_)
  · refine m_rowOf (by omega) (by omega) (by omega) (fun a b d => by have := pc (by omega) b (by omega); omega) hc.1 hc.2 (fun _ => ?_) (fun g1 g2 _ => absurd h (by omega)) (fun g1 g2 _ => absurd h (by omega))
    exact hP _ _ _ _ ⟨⟨i1, i2, i3, i4, i5, i6, i7, i8, i9, i10, i11⟩, rfl, by omega, by omega, fun h => by omega⟩ ⟨by omega, by omega⟩
  · refine m_rowOf (by omega) (by omega) (by omega) (fun a b d => by have := pc (by omega) b (by omega); omega) hc.1 hc.2 (fun g => absurd g (by omega)) (fun g1 g2 _ => ?_) (fun g1 g2 g3 => absurd g3 (by omega))
    exact hP _ _ _ _ ⟨⟨i1, i2, i3, i4, i5, i6, i7, i8, i9, i10, i11⟩, rfl, by omega, by omega, fun h => by omega⟩ ⟨by omega, by omega⟩
  · have q := pc h3 h1 h2
    refine m_rowOf (by show 0 ≤ F 13; omega) (by show F 13 ≤ 60; omega) (by show F 15 = 0 ∨ F 15 = 1; omega) (fun a b d => by have : F 15 = 1 := a; have : c < F 13 := d; show 0 ≤ A 34 c ∧ A 34 c ≤ 1000; omega) hc.1 hc.2 (fun g => absurd g (by show ¬ ¬ (0 ≤ c ∧ c < F 13); omega)) (fun g1 g2 g3 => absurd g3 (by show ¬ F 15 = 0; omega)) (fun g1 g2 g3 => ?_)
    exact hP _ _ _ _ ⟨⟨i1, i2, i3, i4, i5, i6, i7, i8, i9, i10, i11⟩, rfl, by omega, by omega, fun h => q.1⟩ (by show 0 ≤ A 34 c ∧ A 34 c ≤ 1000; omega)
theorem op_mirrored (hI : Inv mb r st F A) (c : Int) (hc : rg c) (hP : ∀ z z2 F2 A2, Ok mb r st z z2 F2 A2 → (z2 = 0 ∨ z2 = 1) → P z z2 F2 A2) :
    w_La_mirrored mo F A c (fun z F1 A1 => w_Mo_mirrored mo F1 A1 c (fun z2 F2 A2 => P z z2 F2 A2)) := by
  obtain ⟨i1, i2, i3, i4, i5, i6, i7, i8, i9, i10, i11⟩ := id hI
  obtain ⟨n1, n2, n3, n4, n5, n6, n7, n8⟩ := id i2
  obtain ⟨r1, r2, r3, r4, r5, r6, r7, r8⟩ := id i1
  have pc : F 0 = 1 → 0 ≤ c → c < F 4 → A 9 c = A 34 c ∧ 0 ≤ A 9 c ∧ A 9 c ≤ 1000 := fun a b d => by
    have q := i11 a c b d
    omega
  refine c_mirrored n2 n3 n8 (fun a b d => (pc a b d).2) hc.1 hc.2 (fun h => ?_) (fun h1 h2 h3 => ?_) (fun h1 h2 h3 h4 => ?_) (fun h1 h2 h3 h4 => ?_)
  · refine m_mirrored (by omega) (by omega) (by omega) (fun a b d => by have := pc (by omega) b (by omega); omega) hc.1 hc.2 (fun _ => ?_) (fun g1 g2 _ => absurd h (by omega)) (fun g1 g2 _ _ => absurd h (by omega)) (fun g1 g2 _ _ => absurd h (by omega))
    exact hP _ _ _ _ ⟨⟨i1, i2, i3, i4, i5, i6, i7, i8, i9, i10, i11⟩, rfl, by omega, by omega, fun h => by omega⟩ (Or.inl rfl)
  · refine m_mirrored (by omega) (by omega) (by omega) (fun a b d => by have := pc (by omega) b (by omega); omega) hc.1 hc.2 (fun g => absurd g (by omega)) (fun g1 g2 _ => ?_) (fun g1 g2 g3 _ => absurd g3 (by omega)) (fun g1 g2 g3 _ => absurd g3 (by omega))
    exact hP _ _ _ _ ⟨⟨i1, i2, i3, i4, i5, i6, i7, i8, i9, i10, i11⟩, rfl, by omega, by omega, fun h => by omega⟩ (Or.inl rfl)
  · have q := pc h3 h1 h2
    exact m_mirrored (by show 0 ≤ F 13; omega) (by show F 13 ≤ 60; omega) (by show F 15 = 0 ∨ F 15 = 1; omega) (fun a b d => by have : F 15 = 1 := a; have : c < F 13 := d; show 0 ≤ A 34 c ∧ A 34 c ≤ 1000; omega) hc.1 hc.2 (fun g => absurd g (by show ¬ ¬ (0 ≤ c ∧ c < F 13); omega)) (fun g1 g2 g3 => absurd g3 (by show ¬ F 15 = 0; omega)) (fun g1 g2 g3 g4 => hP _ _ _ _ ⟨⟨i1, i2, i3, i4, i5, i6, i7, i8, i9, i10, i11⟩, rfl, by omega, by omega, fun h => rfl⟩ (Or.inr rfl)) (fun g1 g2 g3 g4 => absurd (show A 34 c % 2 = 1 by omega) g4)
  · have q := pc h3 h1 h2
    exact m_mirrored (by show 0 ≤ F 13; omega) (by show F 13 ≤ 60; omega) (by show F 15 = 0 ∨ F 15 = 1; omega) (fun a b d => by have : F 15 = 1 := a; have : c < F 13 := d; show 0 ≤ A 34 c ∧ A 34 c ≤ 1000; omega) hc.1 hc.2 (fun g => absurd g (by show ¬ ¬ (0 ≤ c ∧ c < F 13); omega)) (fun g1 g2 g3 => absurd g3 (by show ¬ F 15 = 0; omega)) (fun g1 g2 g3 g4 => absurd g4 (by show ¬ (A 34 c % 2 = 1); omega)) (fun g1 g2 g3 g4 => hP _ _ _ _ ⟨⟨i1, i2, i3, i4, i5, i6, i7, i8, i9, i10, i11⟩, rfl, by omega, by omega, fun h => rfl⟩ (Or.inl rfl))
end OP
