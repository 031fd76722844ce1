/-! ONE CALL OF EACH KIND: class and reference side by side -/
theorem iv_e_both {lo hi m i v : Int} {f g f' g' : Int → Int} (h : iv_e lo hi m f g) (h1 : lo ≤ v) (h2 : v ≤ hi) (hf : ∀ j, f' j = if j = i then v else f j) (hg : ∀ j, g' j = if j = i then v else g j) : iv_e lo hi m f' g' := iv_e_up h h1 h2 hf hg
theorem iv_e_same {lo hi m i v : Int} {f g f' : Int → Int} (h : iv_e lo hi m f g) (hv : f i = v) (hf : ∀ j, f' j = if j = i then v else f j) : iv_e lo hi m f' g := by
  have e : f' = f := by
    funext j
    rw [hf]
    split
    · rename_i h; rw [h, hv]
    · rfl
  rw [e]
  exact h
theorem ua_n {A : Nat → Int → Int} {k a : Nat} {i v : Int} (h : a ≠ k) : ua A k i v a = A a := by funext j; unfold ua; rw [if_neg h]
theorem uf_n {F : Nat → Int} {k a : Nat} {v : Int} (h : a ≠ k) : uf F k v a = F a := by unfold uf; rw [if_neg h]
theorem uf_s {F : Nat → Int} {k : Nat} {v : Int} : uf F k v k = v := by unfold uf; rw [if_pos rfl]
theorem ua_at (A : Nat → Int → Int) (k : Nat) (i v j : Int) : ua A k i v k j = if j = i then v else A k j := by unfold ua; rw [if_pos rfl]
set_option maxHeartbeats 1000000 in
theorem op_space {mo mb : Nat} {r st : Int} {F : Nat → Int} {A : Nat → Int → Int} (hI : Inv mb r st F A) (a b c : Int) (ha : rg a) (hb : rg b) (hc : rL c) {P : Int → Int → (Nat → Int) → (Nat → Int → Int) → Prop} (hP : ∀ z z2 F2 A2, Ok mb r st z z2 F2 A2 → (z2 = 0 ∨ z2 = 1) → P z z2 F2 A2) :
    w_La_space mo F A a b c (fun z F1 A1 => w_Mo_space mo F1 A1 a b c (fun z2 F2 A2 => P z z2 F2 A2)) := by
  obtain ⟨i1, i2, i3, i4, i5, i6, i7, i8, i9, i10, i11⟩ := id hI
  have hs := i8 (a * 4 + b)
  have L1 : P 1 0 (uf F 10 1) A := hP _ _ _ _ ⟨⟨i1, i2, i3, i4, i5, i6, i7, i8, i9, i10, i11⟩, rfl, by omega, by omega, fun h => by omega⟩ (Or.inl rfl)
  have L2 : A 10 (a * 4 + b) = c → P 0 0 (uf F 10 0) (ua (ua A 10 (a * 4 + b) c) 42 0 0) := fun h => hP _ _ _ _ ⟨⟨i1, i2, i3, i4, i5, i6, i7, iv_e_same i8 h (fun j => ua_at A 10 _ _ j), i9, i10, i11⟩, rfl, by omega, by omega, fun _ => rfl⟩ (Or.inl rfl)
  have L3 : 0 ≤ c → c ≤ 20 → P 0 1 (uf (uf (uf F 0 0) 10 0) 15 0) (ua (ua (ua A 10 (a * 4 + b) c) 42 0 1) 30 (4 * a + b) c) := fun h1 h2 => hP _ _ _ _ ⟨⟨i1, ⟨i2.1, i2.2.1, i2.2.2.1, i2.2.2.2.1, i2.2.2.2.2.1, i2.2.2.2.2.2.1, rfl, Or.inl rfl⟩, i3, i4, i5, i6, i7, iv_e_both (i := a * 4 + b) i8 h1 h2 (fun j => ua_at A 10 _ _ j) (fun j => by rw [show 4 * a + b = a * 4 + b by omega]; exact ua_at _ 30 _ _ j), i9, i10, iv_pl0⟩, rfl, by omega, by omega, fun _ => rfl⟩ (Or.inr rfl)
  unfold rg at ha hb
  unfold rL at hc
  rw [show (4 * a + b) = a * 4 + b by omega] at L3
  simp (disch := decide) only [w_La_space, w_La_space_b18, w_Lr_space, w_Lr_space_b19, w_Lr_requireKinds, w_Lr_requireKinds_b18, w_Ce_setSpace, w_Ce_setSpace_b19, w_Lr_noteChange, w_Mo_space, w_Mo_space_b34, w_Mo_space_b29, w_Mo_isKind, rg, rL, ua_n, uf_n, uf_s, show (4 * a + b) = a * 4 + b by omega]
  repeat' first | apply And.intro | intro _
  all_goals try first | omega | trivial | exact Or.inl trivial | exact Or.inr trivial | exact L1 | exact L2 (by omega) | exact L3 (by omega) (by omega) | (exfalso; omega) | (exfalso; exact (by assumption : ¬ True) trivial)
