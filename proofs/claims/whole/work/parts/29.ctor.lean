theorem nw_n {z : Int} {n : Nat} (hz : z = n) (hn : n < 2147483648) : ¬ iI z < 0 ∧ (iI z).toNatClampNeg = n := by
  subst hz
  refine ⟨fun h => ?_, ?_⟩
  · have := (iI_lt ⟨by omega, by omega⟩ rg_0).mp h
    omega
  · rw [iI_c (by omega) (by omega)]; rfl
def k_Ce (h0 : Nat) (a : Nat → Nat) (c : Nat → ClassId) : va_W := [(h0, .inr (2, [.ref (a 9), .ref (a 10), .ref (a 11), .ref (a 12), .ref (a 13), .ref (a 14), .ref (a 15), .ref (a 16), .int (iI 0)])), (a 9, .inl (c 3, 60, .inl (fun _ => iI 0))), (a 10, .inl (c 4, 60, .inl (fun _ => iI 0))), (a 11, .inl (c 5, 60, .inl (fun _ => iI 0))), (a 12, .inl (c 6, 60, .inl (fun _ => iI 0))), (a 13, .inl (c 7, 60, .inl (fun _ => iI 0))), (a 14, .inl (c 8, 60, .inl (fun _ => iI 0))), (a 15, .inl (c 9, 60, .inl (fun _ => iI 0))), (a 16, .inl (c 10, 16, .inl (fun _ => iI 0)))]
def kt_Ce (c : Nat → ClassId) : List (ClassId × FieldType) := [(c 3, .int), (c 4, .int), (c 5, .int), (c 6, .int), (c 7, .int), (c 8, .int), (c 9, .int), (c 10, .int)]
set_option maxHeartbeats 4000000 in
set_option maxRecDepth 100000 in
theorem ct_Ce_init (l : Launch) (D : va_G) (sz : Nat) (h0 : Nat)   : Met l y_Ce_init (Cond.code y_Ce_init c_Ce_init 1 (none) :: gT) ({ frames := 1, cells := 8, slots := 436, locals := 40 } : Room) (va_Pc [.ref h0] (fun U => U.heap.size = sz ∧ va_P D vCl [(h0, .inr (2, [.null, .null, .null, .null, .null, .null, .null, .null, .int (iI 0)]))] U.heap ∧ va_K D vCl [] U ∧ va_D (fun _ => True) [(h0, .inr (2, [.null, .null, .null, .null, .null, .null, .null, .null, .int (iI 0)]))])) (va_Qv (fun u : ((Nat → Nat) × (Nat → ClassId)) => True) (fun u t => va_P D vCl (k_Ce h0 u.1 u.2) t.heap ∧ va_K D vCl (kt_Ce u.2) t ∧ va_D (va_A [(h0, .inr (2, [.null, .null, .null, .null, .null, .null, .null, .null, .int (iI 0)]))] sz) (k_Ce h0 u.1 u.2)) (va_A [(h0, .inr (2, [.null, .null, .null, .null, .null, .null, .null, .null, .int (iI 0)]))] sz)) 8 436 (va_A [(h0, .inr (2, [.null, .null, .null, .null, .null, .null, .null, .null, .int (iI 0)]))] sz) := by
  refine Met.ofW (cc := c_Ce_init) (maxL := 1) (ret := none) (by decide) rfl ?_
  intro p e s m args below meth c s₁ B hml hv
  obtain ⟨rfl, hsz, hP, hK, hD0⟩ := hv
  have hx := B.exec
  have hb := B.bytes
  have hr := B.returns
  have hts0 := atoms_spec (ws := (Cond.code y_Ce_init c_Ce_init 1 (none) :: gT)) B.pre
  have hts : ∀ w ∈ gT, w.before _ s = true := fun w h => hts0 w (List.mem_cons_of_mem _ h)
  have hown : s.vm.findClass R_Ce = some m.cls := findClass_of_methodNamed B.named
  have hlocks := B.notSynchronized
  have hin : meth.name = "<init>" := (name_of_methodNamed B.named B.method).1
  subst hsz
  have hD := hD0.self (sz := s.heap.size)
  generalize hAe : va_A [(h0, .inr (2, [.null, .null, .null, .null, .null, .null, .null, .null, .int (iI 0)]))] s.heap.size = A at hD ⊢
  have hA : ∀ q : Nat, s.heap.size ≤ q → A q := fun q h => by rw [← hAe]; exact Or.inr h
  have hS : va_S A s.heap s.heap [] := va_S.rf
  have hP : va_P D vCl [(h0, .inr (2, [.null, .null, .null, .null, .null, .null, .null, .null, .int (iI 0)]))] s.heap := hP
  have hl := lv_entry [.ref h0] (n := 1) (Nat.le_of_ble_eq_true rfl)
  rw [lg_entry_eq]
  generalize (lg_sl [.ref h0] ++ List.replicate (1 - (lg_sl [.ref h0]).length) Slot.unset).toArray = ls at hl ⊢
  have hl : lv_has ls 1 [(0, .ref h0)] := hl
  refine lv_aload_n hx hb d_Ce_init_0 rfl (lv_at hl 0 rfl) ?_
  refine W.objInit hx hb hown (hts _ tw_74) (hts _ tw_22) (hts _ tw_23) rfl (by rw [hml]; exact hl.1) rfl d_Ce_init_1 (Nat.le_of_ble_eq_true rfl) (Nat.le_of_ble_eq_true rfl) ?_
  refine lv_aload_n hx hb d_Ce_init_4 rfl (lv_at hl 0 rfl) ?_
  refine r_bipush hx hb d_Ce_init_5 (by decide +kernel) ?_
  refine va_newa (atype := .int) (ty := .int) (N' := 60) (a0 := (60, .inl (fun _ => iI 0))) hx hb (hts _ tw_68) rfl hK hP hD hS hA (fun _ => rfl) (by decide +kernel) (by decide +kernel) (by decide +kernel) (by show _ ≤ 8; omega) (by show _ ≤ 436; omega) d_Ce_init_7 (fun q1 c1 H hK hP hD hS => ?_)
  have hP : va_P D vCl [(h0, .inr (2, [.null, .null, .null, .null, .null, .null, .null, .null, .int (iI 0)])), (q1, .inl (c1, 60, .inl (fun _ => iI 0)))] H := hP
  have hD : va_D A [(h0, .inr (2, [.null, .null, .null, .null, .null, .null, .null, .null, .int (iI 0)])), (q1, .inl (c1, 60, .inl (fun _ => iI 0)))] := hD
  have hK : va_K D vCl [(c1, .int)] s := hK
  refine va_putF (D := D) (ci := 2) (v := .ref q1) (ty := .array .int) (C := R_Ce) (T := T_Ce) (N := 9) hx hb hts in_Ce t_Ce to_Ce nm_Ce hown hK hP hD hS 0 rfl rfl 0 (by decide) (hts _ tw_75) (fun _ h => h) rfl hin rfl (by decide +kernel) rfl rfl (Nat.le_of_ble_eq_true rfl) d_Ce_init_9 (fun H locs hP hD hS => ?_)
  have hP : va_P D vCl [(h0, .inr (2, [.ref q1, .null, .null, .null, .null, .null, .null, .null, .int (iI 0)])), (q1, .inl (c1, 60, .inl (fun _ => iI 0)))] H := hP
  have hD : va_D A [(h0, .inr (2, [.ref q1, .null, .null, .null, .null, .null, .null, .null, .int (iI 0)])), (q1, .inl (c1, 60, .inl (fun _ => iI 0)))] := hD
  refine lv_aload_n hx hb d_Ce_init_12 rfl (lv_at hl 0 rfl) ?_
  refine r_bipush hx hb d_Ce_init_13 (by decide +kernel) ?_
  refine va_newa (atype := .int) (ty := .int) (N' := 60) (a0 := (60, .inl (fun _ => iI 0))) hx hb (hts _ tw_68) rfl hK hP hD hS hA (fun _ => rfl) (by decide +kernel) (by decide +kernel) (by decide +kernel) (by show _ ≤ 8; omega) (by show _ ≤ 436; omega) d_Ce_init_15 (fun q2 c2 H hK hP hD hS => ?_)
  have hP : va_P D vCl [(h0, .inr (2, [.ref q1, .null, .null, .null, .null, .null, .null, .null, .int (iI 0)])), (q1, .inl (c1, 60, .inl (fun _ => iI 0))), (q2, .inl (c2, 60, .inl (fun _ => iI 0)))] H := hP
  have hD : va_D A [(h0, .inr (2, [.ref q1, .null, .null, .null, .null, .null, .null, .null, .int (iI 0)])), (q1, .inl (c1, 60, .inl (fun _ => iI 0))), (q2, .inl (c2, 60, .inl (fun _ => iI 0)))] := hD
  have hK : va_K D vCl [(c1, .int), (c2, .int)] s := hK
  refine va_putF (D := D) (ci := 2) (v := .ref q2) (ty := .array .int) (C := R_Ce) (T := T_Ce) (N := 9) hx hb hts in_Ce t_Ce to_Ce nm_Ce hown hK hP hD hS 0 rfl rfl 1 (by decide) (hts _ tw_78) (fun _ h => h) rfl hin rfl (by decide +kernel) rfl rfl (Nat.le_of_ble_eq_true rfl) d_Ce_init_17 (fun H locs hP hD hS => ?_)
  have hP : va_P D vCl [(h0, .inr (2, [.ref q1, .ref q2, .null, .null, .null, .null, .null, .null, .int (iI 0)])), (q1, .inl (c1, 60, .inl (fun _ => iI 0))), (q2, .inl (c2, 60, .inl (fun _ => iI 0)))] H := hP
  have hD : va_D A [(h0, .inr (2, [.ref q1, .ref q2, .null, .null, .null, .null, .null, .null, .int (iI 0)])), (q1, .inl (c1, 60, .inl (fun _ => iI 0))), (q2, .inl (c2, 60, .inl (fun _ => iI 0)))] := hD
  refine lv_aload_n hx hb d_Ce_init_20 rfl (lv_at hl 0 rfl) ?_
  refine r_bipush hx hb d_Ce_init_21 (by decide +kernel) ?_
  refine va_newa (atype := .int) (ty := .int) (N' := 60) (a0 := (60, .inl (fun _ => iI 0))) hx hb (hts _ tw_68) rfl hK hP hD hS hA (fun _ => rfl) (by decide +kernel) (by decide +kernel) (by decide +kernel) (by show _ ≤ 8; omega) (by show _ ≤ 436; omega) d_Ce_init_23 (fun q3 c3 H hK hP hD hS => ?_)
  have hP : va_P D vCl [(h0, .inr (2, [.ref q1, .ref q2, .null, .null, .null, .null, .null, .null, .int (iI 0)])), (q1, .inl (c1, 60, .inl (fun _ => iI 0))), (q2, .inl (c2, 60, .inl (fun _ => iI 0))), (q3, .inl (c3, 60, .inl (fun _ => iI 0)))] H := hP
  have hD : va_D A [(h0, .inr (2, [.ref q1, .ref q2, .null, .null, .null, .null, .null, .null, .int (iI 0)])), (q1, .inl (c1, 60, .inl (fun _ => iI 0))), (q2, .inl (c2, 60, .inl (fun _ => iI 0))), (q3, .inl (c3, 60, .inl (fun _ => iI 0)))] := hD
  have hK : va_K D vCl [(c1, .int), (c2, .int), (c3, .int)] s := hK
  refine va_putF (D := D) (ci := 2) (v := .ref q3) (ty := .array .int) (C := R_Ce) (T := T_Ce) (N := 9) hx hb hts in_Ce t_Ce to_Ce nm_Ce hown hK hP hD hS 0 rfl rfl 2 (by decide) (hts _ tw_79) (fun _ h => h) rfl hin rfl (by decide +kernel) rfl rfl (Nat.le_of_ble_eq_true rfl) d_Ce_init_25 (fun H locs hP hD hS => ?_)
  have hP : va_P D vCl [(h0, .inr (2, [.ref q1, .ref q2, .ref q3, .null, .null, .null, .null, .null, .int (iI 0)])), (q1, .inl (c1, 60, .inl (fun _ => iI 0))), (q2, .inl (c2, 60, .inl (fun _ => iI 0))), (q3, .inl (c3, 60, .inl (fun _ => iI 0)))] H := hP
  have hD : va_D A [(h0, .inr (2, [.ref q1, .ref q2, .ref q3, .null, .null, .null, .null, .null, .int (iI 0)])), (q1, .inl (c1, 60, .inl (fun _ => iI 0))), (q2, .inl (c2, 60, .inl (fun _ => iI 0))), (q3, .inl (c3, 60, .inl (fun _ => iI 0)))] := hD
  refine lv_aload_n hx hb d_Ce_init_28 rfl (lv_at hl 0 rfl) ?_
  refine r_bipush hx hb d_Ce_init_29 (by decide +kernel) ?_
  refine va_newa (atype := .int) (ty := .int) (N' := 60) (a0 := (60, .inl (fun _ => iI 0))) hx hb (hts _ tw_68) rfl hK hP hD hS hA (fun _ => rfl) (by decide +kernel) (by decide +kernel) (by decide +kernel) (by show _ ≤ 8; omega) (by show _ ≤ 436; omega) d_Ce_init_31 (fun q4 c4 H hK hP hD hS => ?_)
  have hP : va_P D vCl [(h0, .inr (2, [.ref q1, .ref q2, .ref q3, .null, .null, .null, .null, .null, .int (iI 0)])), (q1, .inl (c1, 60, .inl (fun _ => iI 0))), (q2, .inl (c2, 60, .inl (fun _ => iI 0))), (q3, .inl (c3, 60, .inl (fun _ => iI 0))), (q4, .inl (c4, 60, .inl (fun _ => iI 0)))] H := hP
  have hD : va_D A [(h0, .inr (2, [.ref q1, .ref q2, .ref q3, .null, .null, .null, .null, .null, .int (iI 0)])), (q1, .inl (c1, 60, .inl (fun _ => iI 0))), (q2, .inl (c2, 60, .inl (fun _ => iI 0))), (q3, .inl (c3, 60, .inl (fun _ => iI 0))), (q4, .inl (c4, 60, .inl (fun _ => iI 0)))] := hD
  have hK : va_K D vCl [(c1, .int), (c2, .int), (c3, .int), (c4, .int)] s := hK
  refine va_putF (D := D) (ci := 2) (v := .ref q4) (ty := .array .int) (C := R_Ce) (T := T_Ce) (N := 9) hx hb hts in_Ce t_Ce to_Ce nm_Ce hown hK hP hD hS 0 rfl rfl 3 (by decide) (hts _ tw_80) (fun _ h => h) rfl hin rfl (by decide +kernel) rfl rfl (Nat.le_of_ble_eq_true rfl) d_Ce_init_33 (fun H locs hP hD hS => ?_)
  have hP : va_P D vCl [(h0, .inr (2, [.ref q1, .ref q2, .ref q3, .ref q4, .null, .null, .null, .null, .int (iI 0)])), (q1, .inl (c1, 60, .inl (fun _ => iI 0))), (q2, .inl (c2, 60, .inl (fun _ => iI 0))), (q3, .inl (c3, 60, .inl (fun _ => iI 0))), (q4, .inl (c4, 60, .inl (fun _ => iI 0)))] H := hP
  have hD : va_D A [(h0, .inr (2, [.ref q1, .ref q2, .ref q3, .ref q4, .null, .null, .null, .null, .int (iI 0)])), (q1, .inl (c1, 60, .inl (fun _ => iI 0))), (q2, .inl (c2, 60, .inl (fun _ => iI 0))), (q3, .inl (c3, 60, .inl (fun _ => iI 0))), (q4, .inl (c4, 60, .inl (fun _ => iI 0)))] := hD
  refine lv_aload_n hx hb d_Ce_init_36 rfl (lv_at hl 0 rfl) ?_
  refine r_bipush hx hb d_Ce_init_37 (by decide +kernel) ?_
  refine va_newa (atype := .int) (ty := .int) (N' := 60) (a0 := (60, .inl (fun _ => iI 0))) hx hb (hts _ tw_68) rfl hK hP hD hS hA (fun _ => rfl) (by decide +kernel) (by decide +kernel) (by decide +kernel) (by show _ ≤ 8; omega) (by show _ ≤ 436; omega) d_Ce_init_39 (fun q5 c5 H hK hP hD hS => ?_)
  have hP : va_P D vCl [(h0, .inr (2, [.ref q1, .ref q2, .ref q3, .ref q4, .null, .null, .null, .null, .int (iI 0)])), (q1, .inl (c1, 60, .inl (fun _ => iI 0))), (q2, .inl (c2, 60, .inl (fun _ => iI 0))), (q3, .inl (c3, 60, .inl (fun _ => iI 0))), (q4, .inl (c4, 60, .inl (fun _ => iI 0))), (q5, .inl (c5, 60, .inl (fun _ => iI 0)))] H := hP
  have hD : va_D A [(h0, .inr (2, [.ref q1, .ref q2, .ref q3, .ref q4, .null, .null, .null, .null, .int (iI 0)])), (q1, .inl (c1, 60, .inl (fun _ => iI 0))), (q2, .inl (c2, 60, .inl (fun _ => iI 0))), (q3, .inl (c3, 60, .inl (fun _ => iI 0))), (q4, .inl (c4, 60, .inl (fun _ => iI 0))), (q5, .inl (c5, 60, .inl (fun _ => iI 0)))] := hD
  have hK : va_K D vCl [(c1, .int), (c2, .int), (c3, .int), (c4, .int), (c5, .int)] s := hK
  refine va_putF (D := D) (ci := 2) (v := .ref q5) (ty := .array .int) (C := R_Ce) (T := T_Ce) (N := 9) hx hb hts in_Ce t_Ce to_Ce nm_Ce hown hK hP hD hS 0 rfl rfl 4 (by decide) (hts _ tw_83) (fun _ h => h) rfl hin rfl (by decide +kernel) rfl rfl (Nat.le_of_ble_eq_true rfl) d_Ce_init_41 (fun H locs hP hD hS => ?_)
  have hP : va_P D vCl [(h0, .inr (2, [.ref q1, .ref q2, .ref q3, .ref q4, .ref q5, .null, .null, .null, .int (iI 0)])), (q1, .inl (c1, 60, .inl (fun _ => iI 0))), (q2, .inl (c2, 60, .inl (fun _ => iI 0))), (q3, .inl (c3, 60, .inl (fun _ => iI 0))), (q4, .inl (c4, 60, .inl (fun _ => iI 0))), (q5, .inl (c5, 60, .inl (fun _ => iI 0)))] H := hP
  have hD : va_D A [(h0, .inr (2, [.ref q1, .ref q2, .ref q3, .ref q4, .ref q5, .null, .null, .null, .int (iI 0)])), (q1, .inl (c1, 60, .inl (fun _ => iI 0))), (q2, .inl (c2, 60, .inl (fun _ => iI 0))), (q3, .inl (c3, 60, .inl (fun _ => iI 0))), (q4, .inl (c4, 60, .inl (fun _ => iI 0))), (q5, .inl (c5, 60, .inl (fun _ => iI 0)))] := hD
  refine lv_aload_n hx hb d_Ce_init_44 rfl (lv_at hl 0 rfl) ?_
  refine r_bipush hx hb d_Ce_init_45 (by decide +kernel) ?_
  refine va_newa (atype := .int) (ty := .int) (N' := 60) (a0 := (60, .inl (fun _ => iI 0))) hx hb (hts _ tw_68) rfl hK hP hD hS hA (fun _ => rfl) (by decide +kernel) (by decide +kernel) (by decide +kernel) (by show _ ≤ 8; omega) (by show _ ≤ 436; omega) d_Ce_init_47 (fun q6 c6 H hK hP hD hS => ?_)
  have hP : va_P D vCl [(h0, .inr (2, [.ref q1, .ref q2, .ref q3, .ref q4, .ref q5, .null, .null, .null, .int (iI 0)])), (q1, .inl (c1, 60, .inl (fun _ => iI 0))), (q2, .inl (c2, 60, .inl (fun _ => iI 0))), (q3, .inl (c3, 60, .inl (fun _ => iI 0))), (q4, .inl (c4, 60, .inl (fun _ => iI 0))), (q5, .inl (c5, 60, .inl (fun _ => iI 0))), (q6, .inl (c6, 60, .inl (fun _ => iI 0)))] H := hP
  have hD : va_D A [(h0, .inr (2, [.ref q1, .ref q2, .ref q3, .ref q4, .ref q5, .null, .null, .null, .int (iI 0)])), (q1, .inl (c1, 60, .inl (fun _ => iI 0))), (q2, .inl (c2, 60, .inl (fun _ => iI 0))), (q3, .inl (c3, 60, .inl (fun _ => iI 0))), (q4, .inl (c4, 60, .inl (fun _ => iI 0))), (q5, .inl (c5, 60, .inl (fun _ => iI 0))), (q6, .inl (c6, 60, .inl (fun _ => iI 0)))] := hD
  have hK : va_K D vCl [(c1, .int), (c2, .int), (c3, .int), (c4, .int), (c5, .int), (c6, .int)] s := hK
  refine va_putF (D := D) (ci := 2) (v := .ref q6) (ty := .array .int) (C := R_Ce) (T := T_Ce) (N := 9) hx hb hts in_Ce t_Ce to_Ce nm_Ce hown hK hP hD hS 0 rfl rfl 5 (by decide) (hts _ tw_84) (fun _ h => h) rfl hin rfl (by decide +kernel) rfl rfl (Nat.le_of_ble_eq_true rfl) d_Ce_init_49 (fun H locs hP hD hS => ?_)
  have hP : va_P D vCl [(h0, .inr (2, [.ref q1, .ref q2, .ref q3, .ref q4, .ref q5, .ref q6, .null, .null, .int (iI 0)])), (q1, .inl (c1, 60, .inl (fun _ => iI 0))), (q2, .inl (c2, 60, .inl (fun _ => iI 0))), (q3, .inl (c3, 60, .inl (fun _ => iI 0))), (q4, .inl (c4, 60, .inl (fun _ => iI 0))), (q5, .inl (c5, 60, .inl (fun _ => iI 0))), (q6, .inl (c6, 60, .inl (fun _ => iI 0)))] H := hP
  have hD : va_D A [(h0, .inr (2, [.ref q1, .ref q2, .ref q3, .ref q4, .ref q5, .ref q6, .null, .null, .int (iI 0)])), (q1, .inl (c1, 60, .inl (fun _ => iI 0))), (q2, .inl (c2, 60, .inl (fun _ => iI 0))), (q3, .inl (c3, 60, .inl (fun _ => iI 0))), (q4, .inl (c4, 60, .inl (fun _ => iI 0))), (q5, .inl (c5, 60, .inl (fun _ => iI 0))), (q6, .inl (c6, 60, .inl (fun _ => iI 0)))] := hD
  refine lv_aload_n hx hb d_Ce_init_52 rfl (lv_at hl 0 rfl) ?_
  refine r_bipush hx hb d_Ce_init_53 (by decide +kernel) ?_
  refine va_newa (atype := .int) (ty := .int) (N' := 60) (a0 := (60, .inl (fun _ => iI 0))) hx hb (hts _ tw_68) rfl hK hP hD hS hA (fun _ => rfl) (by decide +kernel) (by decide +kernel) (by decide +kernel) (by show _ ≤ 8; omega) (by show _ ≤ 436; omega) d_Ce_init_55 (fun q7 c7 H hK hP hD hS => ?_)
  have hP : va_P D vCl [(h0, .inr (2, [.ref q1, .ref q2, .ref q3, .ref q4, .ref q5, .ref q6, .null, .null, .int (iI 0)])), (q1, .inl (c1, 60, .inl (fun _ => iI 0))), (q2, .inl (c2, 60, .inl (fun _ => iI 0))), (q3, .inl (c3, 60, .inl (fun _ => iI 0))), (q4, .inl (c4, 60, .inl (fun _ => iI 0))), (q5, .inl (c5, 60, .inl (fun _ => iI 0))), (q6, .inl (c6, 60, .inl (fun _ => iI 0))), (q7, .inl (c7, 60, .inl (fun _ => iI 0)))] H := hP
  have hD : va_D A [(h0, .inr (2, [.ref q1, .ref q2, .ref q3, .ref q4, .ref q5, .ref q6, .null, .null, .int (iI 0)])), (q1, .inl (c1, 60, .inl (fun _ => iI 0))), (q2, .inl (c2, 60, .inl (fun _ => iI 0))), (q3, .inl (c3, 60, .inl (fun _ => iI 0))), (q4, .inl (c4, 60, .inl (fun _ => iI 0))), (q5, .inl (c5, 60, .inl (fun _ => iI 0))), (q6, .inl (c6, 60, .inl (fun _ => iI 0))), (q7, .inl (c7, 60, .inl (fun _ => iI 0)))] := hD
  have hK : va_K D vCl [(c1, .int), (c2, .int), (c3, .int), (c4, .int), (c5, .int), (c6, .int), (c7, .int)] s := hK
  refine va_putF (D := D) (ci := 2) (v := .ref q7) (ty := .array .int) (C := R_Ce) (T := T_Ce) (N := 9) hx hb hts in_Ce t_Ce to_Ce nm_Ce hown hK hP hD hS 0 rfl rfl 6 (by decide) (hts _ tw_86) (fun _ h => h) rfl hin rfl (by decide +kernel) rfl rfl (Nat.le_of_ble_eq_true rfl) d_Ce_init_57 (fun H locs hP hD hS => ?_)
  have hP : va_P D vCl [(h0, .inr (2, [.ref q1, .ref q2, .ref q3, .ref q4, .ref q5, .ref q6, .ref q7, .null, .int (iI 0)])), (q1, .inl (c1, 60, .inl (fun _ => iI 0))), (q2, .inl (c2, 60, .inl (fun _ => iI 0))), (q3, .inl (c3, 60, .inl (fun _ => iI 0))), (q4, .inl (c4, 60, .inl (fun _ => iI 0))), (q5, .inl (c5, 60, .inl (fun _ => iI 0))), (q6, .inl (c6, 60, .inl (fun _ => iI 0))), (q7, .inl (c7, 60, .inl (fun _ => iI 0)))] H := hP
  have hD : va_D A [(h0, .inr (2, [.ref q1, .ref q2, .ref q3, .ref q4, .ref q5, .ref q6, .ref q7, .null, .int (iI 0)])), (q1, .inl (c1, 60, .inl (fun _ => iI 0))), (q2, .inl (c2, 60, .inl (fun _ => iI 0))), (q3, .inl (c3, 60, .inl (fun _ => iI 0))), (q4, .inl (c4, 60, .inl (fun _ => iI 0))), (q5, .inl (c5, 60, .inl (fun _ => iI 0))), (q6, .inl (c6, 60, .inl (fun _ => iI 0))), (q7, .inl (c7, 60, .inl (fun _ => iI 0)))] := hD
  refine lv_aload_n hx hb d_Ce_init_60 rfl (lv_at hl 0 rfl) ?_
  refine r_bipush hx hb d_Ce_init_61 (by decide +kernel) ?_
  refine va_newa (atype := .int) (ty := .int) (N' := 16) (a0 := (16, .inl (fun _ => iI 0))) hx hb (hts _ tw_68) rfl hK hP hD hS hA (fun _ => rfl) (by decide +kernel) (by decide +kernel) (by decide +kernel) (by show _ ≤ 8; omega) (by show _ ≤ 436; omega) d_Ce_init_63 (fun q8 c8 H hK hP hD hS => ?_)
  have hP : va_P D vCl [(h0, .inr (2, [.ref q1, .ref q2, .ref q3, .ref q4, .ref q5, .ref q6, .ref q7, .null, .int (iI 0)])), (q1, .inl (c1, 60, .inl (fun _ => iI 0))), (q2, .inl (c2, 60, .inl (fun _ => iI 0))), (q3, .inl (c3, 60, .inl (fun _ => iI 0))), (q4, .inl (c4, 60, .inl (fun _ => iI 0))), (q5, .inl (c5, 60, .inl (fun _ => iI 0))), (q6, .inl (c6, 60, .inl (fun _ => iI 0))), (q7, .inl (c7, 60, .inl (fun _ => iI 0))), (q8, .inl (c8, 16, .inl (fun _ => iI 0)))] H := hP
  have hD : va_D A [(h0, .inr (2, [.ref q1, .ref q2, .ref q3, .ref q4, .ref q5, .ref q6, .ref q7, .null, .int (iI 0)])), (q1, .inl (c1, 60, .inl (fun _ => iI 0))), (q2, .inl (c2, 60, .inl (fun _ => iI 0))), (q3, .inl (c3, 60, .inl (fun _ => iI 0))), (q4, .inl (c4, 60, .inl (fun _ => iI 0))), (q5, .inl (c5, 60, .inl (fun _ => iI 0))), (q6, .inl (c6, 60, .inl (fun _ => iI 0))), (q7, .inl (c7, 60, .inl (fun _ => iI 0))), (q8, .inl (c8, 16, .inl (fun _ => iI 0)))] := hD
  have hK : va_K D vCl [(c1, .int), (c2, .int), (c3, .int), (c4, .int), (c5, .int), (c6, .int), (c7, .int), (c8, .int)] s := hK
  refine va_putF (D := D) (ci := 2) (v := .ref q8) (ty := .array .int) (C := R_Ce) (T := T_Ce) (N := 9) hx hb hts in_Ce t_Ce to_Ce nm_Ce hown hK hP hD hS 0 rfl rfl 7 (by decide) (hts _ tw_88) (fun _ h => h) rfl hin rfl (by decide +kernel) rfl rfl (Nat.le_of_ble_eq_true rfl) d_Ce_init_65 (fun H locs hP hD hS => ?_)
  have hP : va_P D vCl [(h0, .inr (2, [.ref q1, .ref q2, .ref q3, .ref q4, .ref q5, .ref q6, .ref q7, .ref q8, .int (iI 0)])), (q1, .inl (c1, 60, .inl (fun _ => iI 0))), (q2, .inl (c2, 60, .inl (fun _ => iI 0))), (q3, .inl (c3, 60, .inl (fun _ => iI 0))), (q4, .inl (c4, 60, .inl (fun _ => iI 0))), (q5, .inl (c5, 60, .inl (fun _ => iI 0))), (q6, .inl (c6, 60, .inl (fun _ => iI 0))), (q7, .inl (c7, 60, .inl (fun _ => iI 0))), (q8, .inl (c8, 16, .inl (fun _ => iI 0)))] H := hP
  have hD : va_D A [(h0, .inr (2, [.ref q1, .ref q2, .ref q3, .ref q4, .ref q5, .ref q6, .ref q7, .ref q8, .int (iI 0)])), (q1, .inl (c1, 60, .inl (fun _ => iI 0))), (q2, .inl (c2, 60, .inl (fun _ => iI 0))), (q3, .inl (c3, 60, .inl (fun _ => iI 0))), (q4, .inl (c4, 60, .inl (fun _ => iI 0))), (q5, .inl (c5, 60, .inl (fun _ => iI 0))), (q6, .inl (c6, 60, .inl (fun _ => iI 0))), (q7, .inl (c7, 60, .inl (fun _ => iI 0))), (q8, .inl (c8, 16, .inl (fun _ => iI 0)))] := hD
  refine W.widen (k := 8) (n := 436) (by omega) (by omega) ?_
  exact W.vret hx hb hr (fun t ht hW => ⟨⟨((fun k => if k = 9 then q1 else if k = 10 then q2 else if k = 11 then q3 else if k = 12 then q4 else if k = 13 then q5 else if k = 14 then q6 else if k = 15 then q7 else if k = 16 then q8 else q1), (fun k => if k = 3 then c1 else if k = 4 then c2 else if k = 5 then c3 else if k = 6 then c4 else if k = 7 then c5 else if k = 8 then c6 else if k = 9 then c7 else if k = 10 then c8 else c1)), rfl, trivial, by rw [ht]; exact hP, va_K.moved hW.alike hK, hD⟩, hS.F ht⟩) hS.2.2 d_Ce_init_68 hlocks
def k_Li (h0 : Nat) (hc : Nat) (a : Nat → Nat) (c : Nat → ClassId) : va_W := [(h0, .inr (5, [.ref hc, .ref (a 25), .ref (a 26), .ref (a 27), .ref (a 28), .ref (a 29), .int (iI 0), .int (iI 0), .int (iI 0), .int (iI 0)])), (a 25, .inl (c 19, 60, .inl (fun _ => iI 0))), (a 26, .inl (c 20, 60, .inl (fun _ => iI 0))), (a 27, .inl (c 21, 60, .inl (fun _ => iI 0))), (a 28, .inl (c 22, 60, .inl (fun _ => iI 0))), (a 29, .inl (c 23, 61, .inl (fun _ => iI 0)))]
def kt_Li (c : Nat → ClassId) : List (ClassId × FieldType) := [(c 19, .int), (c 20, .int), (c 21, .int), (c 22, .int), (c 23, .int)]
set_option maxHeartbeats 4000000 in
set_option maxRecDepth 100000 in
theorem ct_Li_init (l : Launch) (D : va_G) (sz : Nat) (h0 : Nat) (hc : Nat)  : Met l y_Li_init (Cond.code y_Li_init c_Li_init 2 (none) :: gT) ({ frames := 1, cells := 5, slots := 301, locals := 40 } : Room) (va_Pc [.ref h0, .ref hc] (fun U => U.heap.size = sz ∧ va_P D vCl [(h0, .inr (5, [.null, .null, .null, .null, .null, .null, .int (iI 0), .int (iI 0), .int (iI 0), .int (iI 0)]))] U.heap ∧ va_K D vCl [] U ∧ va_D (fun _ => True) [(h0, .inr (5, [.null, .null, .null, .null, .null, .null, .int (iI 0), .int (iI 0), .int (iI 0), .int (iI 0)]))])) (va_Qv (fun u : ((Nat → Nat) × (Nat → ClassId)) => True) (fun u t => va_P D vCl (k_Li h0 hc u.1 u.2) t.heap ∧ va_K D vCl (kt_Li u.2) t ∧ va_D (va_A [(h0, .inr (5, [.null, .null, .null, .null, .null, .null, .int (iI 0), .int (iI 0), .int (iI 0), .int (iI 0)]))] sz) (k_Li h0 hc u.1 u.2)) (va_A [(h0, .inr (5, [.null, .null, .null, .null, .null, .null, .int (iI 0), .int (iI 0), .int (iI 0), .int (iI 0)]))] sz)) 5 301 (va_A [(h0, .inr (5, [.null, .null, .null, .null, .null, .null, .int (iI 0), .int (iI 0), .int (iI 0), .int (iI 0)]))] sz) := by
  refine Met.ofW (cc := c_Li_init) (maxL := 2) (ret := none) (by decide) rfl ?_
  intro p e s m args below meth c s₁ B hml hv
  obtain ⟨rfl, hsz, hP, hK, hD0⟩ := hv
  have hx := B.exec
  have hb := B.bytes
  have hr := B.returns
  have hts0 := atoms_spec (ws := (Cond.code y_Li_init c_Li_init 2 (none) :: gT)) B.pre
  have hts : ∀ w ∈ gT, w.before _ s = true := fun w h => hts0 w (List.mem_cons_of_mem _ h)
  have hown : s.vm.findClass R_Li = some m.cls := findClass_of_methodNamed B.named
  have hlocks := B.notSynchronized
  have hin : meth.name = "<init>" := (name_of_methodNamed B.named B.method).1
  subst hsz
  have hD := hD0.self (sz := s.heap.size)
  generalize hAe : va_A [(h0, .inr (5, [.null, .null, .null, .null, .null, .null, .int (iI 0), .int (iI 0), .int (iI 0), .int (iI 0)]))] s.heap.size = A at hD ⊢
  have hA : ∀ q : Nat, s.heap.size ≤ q → A q := fun q h => by rw [← hAe]; exact Or.inr h
  have hS : va_S A s.heap s.heap [] := va_S.rf
  have hP : va_P D vCl [(h0, .inr (5, [.null, .null, .null, .null, .null, .null, .int (iI 0), .int (iI 0), .int (iI 0), .int (iI 0)]))] s.heap := hP
  have hl := lv_entry [.ref h0, .ref hc] (n := 2) (Nat.le_of_ble_eq_true rfl)
  rw [lg_entry_eq]
  generalize (lg_sl [.ref h0, .ref hc] ++ List.replicate (2 - (lg_sl [.ref h0, .ref hc]).length) Slot.unset).toArray = ls at hl ⊢
  have hl : lv_has ls 2 [(0, .ref h0), (1, .ref hc)] := hl
  refine lv_aload_n hx hb d_Li_init_0 rfl (lv_at hl 0 rfl) ?_
  refine W.objInit hx hb hown (hts _ tw_146) (hts _ tw_22) (hts _ tw_23) rfl (by rw [hml]; exact hl.1) rfl d_Li_init_1 (Nat.le_of_ble_eq_true rfl) (Nat.le_of_ble_eq_true rfl) ?_
  refine lv_aload_n hx hb d_Li_init_4 rfl (lv_at hl 0 rfl) ?_
  refine r_bipush hx hb d_Li_init_5 (by decide +kernel) ?_
  refine va_newa (atype := .int) (ty := .int) (N' := 60) (a0 := (60, .inl (fun _ => iI 0))) hx hb (hts _ tw_68) rfl hK hP hD hS hA (fun _ => rfl) (by decide +kernel) (by decide +kernel) (by decide +kernel) (by show _ ≤ 5; omega) (by show _ ≤ 301; omega) d_Li_init_7 (fun q1 c1 H hK hP hD hS => ?_)
  have hP : va_P D vCl [(h0, .inr (5, [.null, .null, .null, .null, .null, .null, .int (iI 0), .int (iI 0), .int (iI 0), .int (iI 0)])), (q1, .inl (c1, 60, .inl (fun _ => iI 0)))] H := hP
  have hD : va_D A [(h0, .inr (5, [.null, .null, .null, .null, .null, .null, .int (iI 0), .int (iI 0), .int (iI 0), .int (iI 0)])), (q1, .inl (c1, 60, .inl (fun _ => iI 0)))] := hD
  have hK : va_K D vCl [(c1, .int)] s := hK
  refine va_putF (D := D) (ci := 5) (v := .ref q1) (ty := .array .int) (C := R_Li) (T := T_Li) (N := 10) hx hb hts in_Li t_Li to_Li nm_Li hown hK hP hD hS 0 rfl rfl 1 (by decide) (hts _ tw_148) (fun _ h => h) rfl hin rfl (by decide +kernel) rfl rfl (Nat.le_of_ble_eq_true rfl) d_Li_init_9 (fun H locs hP hD hS => ?_)
  have hP : va_P D vCl [(h0, .inr (5, [.null, .ref q1, .null, .null, .null, .null, .int (iI 0), .int (iI 0), .int (iI 0), .int (iI 0)])), (q1, .inl (c1, 60, .inl (fun _ => iI 0)))] H := hP
  have hD : va_D A [(h0, .inr (5, [.null, .ref q1, .null, .null, .null, .null, .int (iI 0), .int (iI 0), .int (iI 0), .int (iI 0)])), (q1, .inl (c1, 60, .inl (fun _ => iI 0)))] := hD
  refine lv_aload_n hx hb d_Li_init_12 rfl (lv_at hl 0 rfl) ?_
  refine r_bipush hx hb d_Li_init_13 (by decide +kernel) ?_
  refine va_newa (atype := .int) (ty := .int) (N' := 60) (a0 := (60, .inl (fun _ => iI 0))) hx hb (hts _ tw_68) rfl hK hP hD hS hA (fun _ => rfl) (by decide +kernel) (by decide +kernel) (by decide +kernel) (by show _ ≤ 5; omega) (by show _ ≤ 301; omega) d_Li_init_15 (fun q2 c2 H hK hP hD hS => ?_)
  have hP : va_P D vCl [(h0, .inr (5, [.null, .ref q1, .null, .null, .null, .null, .int (iI 0), .int (iI 0), .int (iI 0), .int (iI 0)])), (q1, .inl (c1, 60, .inl (fun _ => iI 0))), (q2, .inl (c2, 60, .inl (fun _ => iI 0)))] H := hP
  have hD : va_D A [(h0, .inr (5, [.null, .ref q1, .null, .null, .null, .null, .int (iI 0), .int (iI 0), .int (iI 0), .int (iI 0)])), (q1, .inl (c1, 60, .inl (fun _ => iI 0))), (q2, .inl (c2, 60, .inl (fun _ => iI 0)))] := hD
  have hK : va_K D vCl [(c1, .int), (c2, .int)] s := hK
  refine va_putF (D := D) (ci := 5) (v := .ref q2) (ty := .array .int) (C := R_Li) (T := T_Li) (N := 10) hx hb hts in_Li t_Li to_Li nm_Li hown hK hP hD hS 0 rfl rfl 2 (by decide) (hts _ tw_149) (fun _ h => h) rfl hin rfl (by decide +kernel) rfl rfl (Nat.le_of_ble_eq_true rfl) d_Li_init_17 (fun H locs hP hD hS => ?_)
  have hP : va_P D vCl [(h0, .inr (5, [.null, .ref q1, .ref q2, .null, .null, .null, .int (iI 0), .int (iI 0), .int (iI 0), .int (iI 0)])), (q1, .inl (c1, 60, .inl (fun _ => iI 0))), (q2, .inl (c2, 60, .inl (fun _ => iI 0)))] H := hP
  have hD : va_D A [(h0, .inr (5, [.null, .ref q1, .ref q2, .null, .null, .null, .int (iI 0), .int (iI 0), .int (iI 0), .int (iI 0)])), (q1, .inl (c1, 60, .inl (fun _ => iI 0))), (q2, .inl (c2, 60, .inl (fun _ => iI 0)))] := hD
  refine lv_aload_n hx hb d_Li_init_20 rfl (lv_at hl 0 rfl) ?_
  refine r_bipush hx hb d_Li_init_21 (by decide +kernel) ?_
  refine va_newa (atype := .int) (ty := .int) (N' := 60) (a0 := (60, .inl (fun _ => iI 0))) hx hb (hts _ tw_68) rfl hK hP hD hS hA (fun _ => rfl) (by decide +kernel) (by decide +kernel) (by decide +kernel) (by show _ ≤ 5; omega) (by show _ ≤ 301; omega) d_Li_init_23 (fun q3 c3 H hK hP hD hS => ?_)
  have hP : va_P D vCl [(h0, .inr (5, [.null, .ref q1, .ref q2, .null, .null, .null, .int (iI 0), .int (iI 0), .int (iI 0), .int (iI 0)])), (q1, .inl (c1, 60, .inl (fun _ => iI 0))), (q2, .inl (c2, 60, .inl (fun _ => iI 0))), (q3, .inl (c3, 60, .inl (fun _ => iI 0)))] H := hP
  have hD : va_D A [(h0, .inr (5, [.null, .ref q1, .ref q2, .null, .null, .null, .int (iI 0), .int (iI 0), .int (iI 0), .int (iI 0)])), (q1, .inl (c1, 60, .inl (fun _ => iI 0))), (q2, .inl (c2, 60, .inl (fun _ => iI 0))), (q3, .inl (c3, 60, .inl (fun _ => iI 0)))] := hD
  have hK : va_K D vCl [(c1, .int), (c2, .int), (c3, .int)] s := hK
  refine va_putF (D := D) (ci := 5) (v := .ref q3) (ty := .array .int) (C := R_Li) (T := T_Li) (N := 10) hx hb hts in_Li t_Li to_Li nm_Li hown hK hP hD hS 0 rfl rfl 3 (by decide) (hts _ tw_150) (fun _ h => h) rfl hin rfl (by decide +kernel) rfl rfl (Nat.le_of_ble_eq_true rfl) d_Li_init_25 (fun H locs hP hD hS => ?_)
  have hP : va_P D vCl [(h0, .inr (5, [.null, .ref q1, .ref q2, .ref q3, .null, .null, .int (iI 0), .int (iI 0), .int (iI 0), .int (iI 0)])), (q1, .inl (c1, 60, .inl (fun _ => iI 0))), (q2, .inl (c2, 60, .inl (fun _ => iI 0))), (q3, .inl (c3, 60, .inl (fun _ => iI 0)))] H := hP
  have hD : va_D A [(h0, .inr (5, [.null, .ref q1, .ref q2, .ref q3, .null, .null, .int (iI 0), .int (iI 0), .int (iI 0), .int (iI 0)])), (q1, .inl (c1, 60, .inl (fun _ => iI 0))), (q2, .inl (c2, 60, .inl (fun _ => iI 0))), (q3, .inl (c3, 60, .inl (fun _ => iI 0)))] := hD
  refine lv_aload_n hx hb d_Li_init_28 rfl (lv_at hl 0 rfl) ?_
  refine r_bipush hx hb d_Li_init_29 (by decide +kernel) ?_
  refine va_newa (atype := .int) (ty := .int) (N' := 60) (a0 := (60, .inl (fun _ => iI 0))) hx hb (hts _ tw_68) rfl hK hP hD hS hA (fun _ => rfl) (by decide +kernel) (by decide +kernel) (by decide +kernel) (by show _ ≤ 5; omega) (by show _ ≤ 301; omega) d_Li_init_31 (fun q4 c4 H hK hP hD hS => ?_)
  have hP : va_P D vCl [(h0, .inr (5, [.null, .ref q1, .ref q2, .ref q3, .null, .null, .int (iI 0), .int (iI 0), .int (iI 0), .int (iI 0)])), (q1, .inl (c1, 60, .inl (fun _ => iI 0))), (q2, .inl (c2, 60, .inl (fun _ => iI 0))), (q3, .inl (c3, 60, .inl (fun _ => iI 0))), (q4, .inl (c4, 60, .inl (fun _ => iI 0)))] H := hP
  have hD : va_D A [(h0, .inr (5, [.null, .ref q1, .ref q2, .ref q3, .null, .null, .int (iI 0), .int (iI 0), .int (iI 0), .int (iI 0)])), (q1, .inl (c1, 60, .inl (fun _ => iI 0))), (q2, .inl (c2, 60, .inl (fun _ => iI 0))), (q3, .inl (c3, 60, .inl (fun _ => iI 0))), (q4, .inl (c4, 60, .inl (fun _ => iI 0)))] := hD
  have hK : va_K D vCl [(c1, .int), (c2, .int), (c3, .int), (c4, .int)] s := hK
  refine va_putF (D := D) (ci := 5) (v := .ref q4) (ty := .array .int) (C := R_Li) (T := T_Li) (N := 10) hx hb hts in_Li t_Li to_Li nm_Li hown hK hP hD hS 0 rfl rfl 4 (by decide) (hts _ tw_151) (fun _ h => h) rfl hin rfl (by decide +kernel) rfl rfl (Nat.le_of_ble_eq_true rfl) d_Li_init_33 (fun H locs hP hD hS => ?_)
  have hP : va_P D vCl [(h0, .inr (5, [.null, .ref q1, .ref q2, .ref q3, .ref q4, .null, .int (iI 0), .int (iI 0), .int (iI 0), .int (iI 0)])), (q1, .inl (c1, 60, .inl (fun _ => iI 0))), (q2, .inl (c2, 60, .inl (fun _ => iI 0))), (q3, .inl (c3, 60, .inl (fun _ => iI 0))), (q4, .inl (c4, 60, .inl (fun _ => iI 0)))] H := hP
  have hD : va_D A [(h0, .inr (5, [.null, .ref q1, .ref q2, .ref q3, .ref q4, .null, .int (iI 0), .int (iI 0), .int (iI 0), .int (iI 0)])), (q1, .inl (c1, 60, .inl (fun _ => iI 0))), (q2, .inl (c2, 60, .inl (fun _ => iI 0))), (q3, .inl (c3, 60, .inl (fun _ => iI 0))), (q4, .inl (c4, 60, .inl (fun _ => iI 0)))] := hD
  refine lv_aload_n hx hb d_Li_init_36 rfl (lv_at hl 0 rfl) ?_
  refine r_bipush hx hb d_Li_init_37 (by decide +kernel) ?_
  refine va_newa (atype := .int) (ty := .int) (N' := 61) (a0 := (61, .inl (fun _ => iI 0))) hx hb (hts _ tw_68) rfl hK hP hD hS hA (fun _ => rfl) (by decide +kernel) (by decide +kernel) (by decide +kernel) (by show _ ≤ 5; omega) (by show _ ≤ 301; omega) d_Li_init_39 (fun q5 c5 H hK hP hD hS => ?_)
  have hP : va_P D vCl [(h0, .inr (5, [.null, .ref q1, .ref q2, .ref q3, .ref q4, .null, .int (iI 0), .int (iI 0), .int (iI 0), .int (iI 0)])), (q1, .inl (c1, 60, .inl (fun _ => iI 0))), (q2, .inl (c2, 60, .inl (fun _ => iI 0))), (q3, .inl (c3, 60, .inl (fun _ => iI 0))), (q4, .inl (c4, 60, .inl (fun _ => iI 0))), (q5, .inl (c5, 61, .inl (fun _ => iI 0)))] H := hP
  have hD : va_D A [(h0, .inr (5, [.null, .ref q1, .ref q2, .ref q3, .ref q4, .null, .int (iI 0), .int (iI 0), .int (iI 0), .int (iI 0)])), (q1, .inl (c1, 60, .inl (fun _ => iI 0))), (q2, .inl (c2, 60, .inl (fun _ => iI 0))), (q3, .inl (c3, 60, .inl (fun _ => iI 0))), (q4, .inl (c4, 60, .inl (fun _ => iI 0))), (q5, .inl (c5, 61, .inl (fun _ => iI 0)))] := hD
  have hK : va_K D vCl [(c1, .int), (c2, .int), (c3, .int), (c4, .int), (c5, .int)] s := hK
  refine va_putF (D := D) (ci := 5) (v := .ref q5) (ty := .array .int) (C := R_Li) (T := T_Li) (N := 10) hx hb hts in_Li t_Li to_Li nm_Li hown hK hP hD hS 0 rfl rfl 5 (by decide) (hts _ tw_152) (fun _ h => h) rfl hin rfl (by decide +kernel) rfl rfl (Nat.le_of_ble_eq_true rfl) d_Li_init_41 (fun H locs hP hD hS => ?_)
  have hP : va_P D vCl [(h0, .inr (5, [.null, .ref q1, .ref q2, .ref q3, .ref q4, .ref q5, .int (iI 0), .int (iI 0), .int (iI 0), .int (iI 0)])), (q1, .inl (c1, 60, .inl (fun _ => iI 0))), (q2, .inl (c2, 60, .inl (fun _ => iI 0))), (q3, .inl (c3, 60, .inl (fun _ => iI 0))), (q4, .inl (c4, 60, .inl (fun _ => iI 0))), (q5, .inl (c5, 61, .inl (fun _ => iI 0)))] H := hP
  have hD : va_D A [(h0, .inr (5, [.null, .ref q1, .ref q2, .ref q3, .ref q4, .ref q5, .int (iI 0), .int (iI 0), .int (iI 0), .int (iI 0)])), (q1, .inl (c1, 60, .inl (fun _ => iI 0))), (q2, .inl (c2, 60, .inl (fun _ => iI 0))), (q3, .inl (c3, 60, .inl (fun _ => iI 0))), (q4, .inl (c4, 60, .inl (fun _ => iI 0))), (q5, .inl (c5, 61, .inl (fun _ => iI 0)))] := hD
  refine lv_aload_n hx hb d_Li_init_44 rfl (lv_at hl 0 rfl) ?_
  refine lv_aload_n hx hb d_Li_init_45 rfl (lv_at hl 1 rfl) ?_
  refine va_putF (D := D) (ci := 5) (v := .ref hc) (ty := .object "LegalRows$Cells") (C := R_Li) (T := T_Li) (N := 10) hx hb hts in_Li t_Li to_Li nm_Li hown hK hP hD hS 0 rfl rfl 0 (by decide) (hts _ tw_147) (fun _ h => h) rfl hin rfl (by decide +kernel) rfl rfl (Nat.le_of_ble_eq_true rfl) d_Li_init_46 (fun H locs hP hD hS => ?_)
  have hP : va_P D vCl [(h0, .inr (5, [.ref hc, .ref q1, .ref q2, .ref q3, .ref q4, .ref q5, .int (iI 0), .int (iI 0), .int (iI 0), .int (iI 0)])), (q1, .inl (c1, 60, .inl (fun _ => iI 0))), (q2, .inl (c2, 60, .inl (fun _ => iI 0))), (q3, .inl (c3, 60, .inl (fun _ => iI 0))), (q4, .inl (c4, 60, .inl (fun _ => iI 0))), (q5, .inl (c5, 61, .inl (fun _ => iI 0)))] H := hP
  have hD : va_D A [(h0, .inr (5, [.ref hc, .ref q1, .ref q2, .ref q3, .ref q4, .ref q5, .int (iI 0), .int (iI 0), .int (iI 0), .int (iI 0)])), (q1, .inl (c1, 60, .inl (fun _ => iI 0))), (q2, .inl (c2, 60, .inl (fun _ => iI 0))), (q3, .inl (c3, 60, .inl (fun _ => iI 0))), (q4, .inl (c4, 60, .inl (fun _ => iI 0))), (q5, .inl (c5, 61, .inl (fun _ => iI 0)))] := hD
  refine W.widen (k := 5) (n := 301) (by omega) (by omega) ?_
  exact W.vret hx hb hr (fun t ht hW => ⟨⟨((fun k => if k = 25 then q1 else if k = 26 then q2 else if k = 27 then q3 else if k = 28 then q4 else if k = 29 then q5 else q1), (fun k => if k = 19 then c1 else if k = 20 then c2 else if k = 21 then c3 else if k = 22 then c4 else if k = 23 then c5 else c1)), rfl, trivial, by rw [ht]; exact hP, va_K.moved hW.alike hK, hD⟩, hS.F ht⟩) hS.2.2 d_Li_init_49 hlocks
def g_ne (i j : Int) : Int := if j < i then -1 else 0
def g_row (i j : Int) : Int := if j < i then j else 0
def g_to (st i j : Int) : Int := if j < i then st else 0
theorem g_ne0 : (fun _ : Nat => iI 0) = (fun j : Nat => iI (g_ne 0 j)) := by funext j; unfold g_ne; rw [if_neg (by omega)]
theorem g_row0 : (fun _ : Nat => iI 0) = (fun j : Nat => iI (g_row 0 j)) := by funext j; unfold g_row; rw [if_neg (by omega)]
theorem g_to0 (st : Int) : (fun _ : Nat => iI 0) = (fun j : Nat => iI (g_to st 0 j)) := by funext j; unfold g_to; rw [if_neg (by omega)]
theorem g_up {f g : Int → Int} {i v : Int} (h0 : 0 ≤ i) (h1 : i < 2147483648) (hg : ∀ j : Int, g j = if j = i then v else f j) : upd (fun j : Nat => iI (f j)) (iI i).toNatClampNeg (iI v) = fun j : Nat => iI (g j) := by
  rw [iI_c h0 h1]
  exact x_upd h0 hg
theorem g_neS (i j : Int) : g_ne (i + 1) j = if j = i then -1 else g_ne i j := by unfold g_ne; split <;> split <;> (try split) <;> omega
theorem g_rowS (i j : Int) : g_row (i + 1) j = if j = i then i else g_row i j := by unfold g_row; split <;> split <;> (try split) <;> omega
theorem g_toS (st i j : Int) : g_to st (i + 1) j = if j = i then st else g_to st i j := by unfold g_to; split <;> split <;> (try split) <;> omega
def k_Ne (h0 hc : Nat) (a : Nat → Nat) (c : Nat → ClassId) : va_W := [(h0, .inr (3, [.ref hc, .ref (a 17), .ref (a 18), .ref (a 19), .int (iI 0)])), (a 17, .inl (c 11, 160, .inl (fun _ => iI 0))), (a 18, .inl (c 12, 160, .inl (fun _ => iI 0))), (a 19, .inl (c 13, 60, .inl (fun j : Nat => iI (g_ne 60 j))))]
def kt_Ne (c : Nat → ClassId) : List (ClassId × FieldType) := [(c 11, .int), (c 12, .int), (c 13, .int)]
set_option maxHeartbeats 4000000 in
set_option maxRecDepth 100000 in
theorem lp_Ne {p : Program} {l : Launch} {e : Env} {s : State} {m : MethodId} {args : Array Value} {below : List Frame} {meth : Method} {c : Code} {D : va_G} {A : Nat → Prop} {Q : State → Prop} {cells slots : Nat} (hx : p.tables.exec = Jvm.exec) (hb : c.code = c_Ne_init) (hown : s.vm.findClass R_Ne = some m.cls) (hts : ∀ w ∈ gT, w.before args s = true) {h0 hc q1 q2 q3 : Nat} {c1 c2 c3 : ClassId}  (hK : va_K D vCl [(c1, .int), (c2, .int), (c3, .int)] s) (kk : ∀ (H : Heap) (locs : List Loc) (ls : Array Slot), va_P D vCl [(h0, .inr (3, [.ref hc, .ref q1, .ref q2, .ref q3, .int (iI 0)])), (q1, .inl (c1, 160, .inl (fun _ => iI 0))), (q2, .inl (c2, 160, .inl (fun _ => iI 0))), (q3, .inl (c3, 60, .inl (fun j : Nat => iI (g_ne 60 j))))] H → va_D A [(h0, .inr (3, [.ref hc, .ref q1, .ref q2, .ref q3, .int (iI 0)])), (q1, .inl (c1, 160, .inl (fun _ => iI 0))), (q2, .inl (c2, 160, .inl (fun _ => iI 0))), (q3, .inl (c3, 60, .inl (fun j : Nat => iI (g_ne 60 j))))] → va_S A s.heap H locs → W p l e ({ frames := 1, cells := 3, slots := 380, locals := 40 } : Room) s m args below meth c H locs cells slots Q (F0 m 56 ls [])) : ∀ (n : Nat) (i : Int), 0 ≤ i → i ≤ 60 → 60 - i < n → ∀ (H : Heap) (locs : List Loc) (ls : Array Slot), va_P D vCl [(h0, .inr (3, [.ref hc, .ref q1, .ref q2, .ref q3, .int (iI 0)])), (q1, .inl (c1, 160, .inl (fun _ => iI 0))), (q2, .inl (c2, 160, .inl (fun _ => iI 0))), (q3, .inl (c3, 60, .inl (fun j : Nat => iI (g_ne i j))))] H → va_D A [(h0, .inr (3, [.ref hc, .ref q1, .ref q2, .ref q3, .int (iI 0)])), (q1, .inl (c1, 160, .inl (fun _ => iI 0))), (q2, .inl (c2, 160, .inl (fun _ => iI 0))), (q3, .inl (c3, 60, .inl (fun j : Nat => iI (g_ne i j))))] → va_S A s.heap H locs → lv_has ls 3 [(2, .int (iI i)), (0, .ref h0)] → W p l e ({ frames := 1, cells := 3, slots := 380, locals := 40 } : Room) s m args below meth c H locs cells slots Q (F0 m 37 ls []) := by
  intro n
  induction n with
  | zero => intro i i0 i1 i2; exact absurd i2 (by omega)
  | succ n ih =>
    intro i i0 i1 i2 H locs ls hP hD hS hl
    refine lv_iload_n hx hb d_Ne_init_37 rfl (lv_at hl 0 rfl) ?_
    refine r_bipush hx hb d_Ne_init_38 (by decide +kernel) ?_
    refine r_icmp_ge (tgt := 56) hx hb ⟨by omega, by omega⟩ ⟨by omega, by omega⟩ d_Ne_init_40 (by decide) (fun hq => ?_) (fun hq => ?_)
    · have e : i = 60 := by omega
      subst e
      exact kk H locs ls hP hD hS
    · refine lv_aload_n hx hb d_Ne_init_43 rfl (lv_at hl 1 rfl) ?_
      refine va_get (D := D) (ci := 3) (v := .ref q3) (C := R_Ne) (T := T_Ne) (N := 5) hx hb hts in_Ne hown hK hP 0 rfl rfl 3 (by decide) (hts _ tw_121) (fun _ h => h) rfl d_Ne_init_44 ?_
      refine lv_iload_n hx hb d_Ne_init_47 rfl (lv_at hl 0 rfl) ?_
      refine r_iconst hx hb d_Ne_init_48 ?_
      refine va_iast hx hb hK hP hD hS 3 2 rfl rfl (iI_in i0 (by omega) (by decide)) d_Ne_init_49 (fun H locs hP hD hS => ?_)
      rw [g_up i0 (by omega) (g_neS i)] at hP hD
      have hP : va_P D vCl [(h0, .inr (3, [.ref hc, .ref q1, .ref q2, .ref q3, .int (iI 0)])), (q1, .inl (c1, 160, .inl (fun _ => iI 0))), (q2, .inl (c2, 160, .inl (fun _ => iI 0))), (q3, .inl (c3, 60, .inl (fun j : Nat => iI (g_ne (i + 1) j))))] H := hP
      have hD : va_D A [(h0, .inr (3, [.ref hc, .ref q1, .ref q2, .ref q3, .int (iI 0)])), (q1, .inl (c1, 160, .inl (fun _ => iI 0))), (q2, .inl (c2, 160, .inl (fun _ => iI 0))), (q3, .inl (c3, 60, .inl (fun j : Nat => iI (g_ne (i + 1) j))))] := hD
      refine r_iinc (k := 0) (z := i) (lv' := [(2, .int (iI (i + 1))), (0, .ref h0)]) hx hb d_Ne_init_50 hl rfl (by decide) rfl (fun ls hl => ?_)
      refine lv_goto (tgt := 37) hx hb d_Ne_init_53 (by decide) ?_
      exact ih (i + 1) (by omega) (by omega) (by omega) H locs ls hP hD hS hl
set_option maxHeartbeats 4000000 in
set_option maxRecDepth 100000 in
theorem ct_Ne_init (l : Launch) (D : va_G) (sz : Nat) (h0 hc : Nat)  : Met l y_Ne_init (Cond.code y_Ne_init c_Ne_init 3 (none) :: gT) ({ frames := 1, cells := 3, slots := 380, locals := 40 } : Room) (va_Pc [.ref h0, .ref hc] (fun U => U.heap.size = sz ∧ va_P D vCl [(h0, .inr (3, [.null, .null, .null, .null, .int (iI 0)]))] U.heap ∧ va_K D vCl [] U ∧ va_D (fun _ => True) [(h0, .inr (3, [.null, .null, .null, .null, .int (iI 0)]))])) (va_Qv (fun u : ((Nat → Nat) × (Nat → ClassId)) => True) (fun u t => va_P D vCl (k_Ne h0 hc u.1 u.2) t.heap ∧ va_K D vCl (kt_Ne u.2) t ∧ va_D (va_A [(h0, .inr (3, [.null, .null, .null, .null, .int (iI 0)]))] sz) (k_Ne h0 hc u.1 u.2)) (va_A [(h0, .inr (3, [.null, .null, .null, .null, .int (iI 0)]))] sz)) 3 380 (va_A [(h0, .inr (3, [.null, .null, .null, .null, .int (iI 0)]))] sz) := by
  refine Met.ofW (cc := c_Ne_init) (maxL := 3) (ret := none) (by decide) rfl ?_
  intro p e s m args below meth c s₁ B hml hv
  obtain ⟨rfl, hsz, hP, hK, hD0⟩ := hv
  have hx := B.exec
  have hb := B.bytes
  have hr := B.returns
  have hts0 := atoms_spec (ws := (Cond.code y_Ne_init c_Ne_init 3 (none) :: gT)) B.pre
  have hts : ∀ w ∈ gT, w.before _ s = true := fun w h => hts0 w (List.mem_cons_of_mem _ h)
  have hown : s.vm.findClass R_Ne = some m.cls := findClass_of_methodNamed B.named
  have hlocks := B.notSynchronized
  have hin : meth.name = "<init>" := (name_of_methodNamed B.named B.method).1
  subst hsz
  have hD := hD0.self (sz := s.heap.size)
  generalize hAe : va_A [(h0, .inr (3, [.null, .null, .null, .null, .int (iI 0)]))] s.heap.size = A at hD ⊢
  have hA : ∀ q : Nat, s.heap.size ≤ q → A q := fun q h => by rw [← hAe]; exact Or.inr h
  have hS : va_S A s.heap s.heap [] := va_S.rf
  have hP : va_P D vCl [(h0, .inr (3, [.null, .null, .null, .null, .int (iI 0)]))] s.heap := hP
  have hl := lv_entry [.ref h0, .ref hc] (n := 3) (Nat.le_of_ble_eq_true rfl)
  rw [lg_entry_eq]
  generalize (lg_sl [.ref h0, .ref hc] ++ List.replicate (3 - (lg_sl [.ref h0, .ref hc]).length) Slot.unset).toArray = ls at hl ⊢
  have hl : lv_has ls 3 [(0, .ref h0), (1, .ref hc)] := hl
  refine lv_aload_n hx hb d_Ne_init_0 rfl (lv_at hl 0 rfl) ?_
  refine W.objInit hx hb hown (hts _ tw_117) (hts _ tw_22) (hts _ tw_23) rfl (by rw [hml]; exact hl.1) rfl d_Ne_init_1 (Nat.le_of_ble_eq_true rfl) (Nat.le_of_ble_eq_true rfl) ?_
  refine lv_aload_n hx hb d_Ne_init_4 rfl (lv_at hl 0 rfl) ?_
  refine r_sipush hx hb d_Ne_init_5 (by decide +kernel) ?_
  refine va_newa (atype := .int) (ty := .int) (N' := 160) (a0 := (160, .inl (fun _ => iI 0))) hx hb (hts _ tw_68) rfl hK hP hD hS hA (fun _ => rfl) (by decide +kernel) (by decide +kernel) (by decide +kernel) (by show _ ≤ 3; omega) (by show _ ≤ 380; omega) d_Ne_init_8 (fun q1 c1 H hK hP hD hS => ?_)
  have hP : va_P D vCl [(h0, .inr (3, [.null, .null, .null, .null, .int (iI 0)])), (q1, .inl (c1, 160, .inl (fun _ => iI 0)))] H := hP
  have hD : va_D A [(h0, .inr (3, [.null, .null, .null, .null, .int (iI 0)])), (q1, .inl (c1, 160, .inl (fun _ => iI 0)))] := hD
  have hK : va_K D vCl [(c1, .int)] s := hK
  refine va_putF (D := D) (ci := 3) (v := .ref q1) (ty := .array .int) (C := R_Ne) (T := T_Ne) (N := 5) hx hb hts in_Ne t_Ne to_Ne nm_Ne hown hK hP hD hS 0 rfl rfl 1 (by decide) (hts _ tw_119) (fun _ h => h) rfl hin rfl (by decide +kernel) rfl rfl (Nat.le_of_ble_eq_true rfl) d_Ne_init_10 (fun H locs hP hD hS => ?_)
  have hP : va_P D vCl [(h0, .inr (3, [.null, .ref q1, .null, .null, .int (iI 0)])), (q1, .inl (c1, 160, .inl (fun _ => iI 0)))] H := hP
  have hD : va_D A [(h0, .inr (3, [.null, .ref q1, .null, .null, .int (iI 0)])), (q1, .inl (c1, 160, .inl (fun _ => iI 0)))] := hD
  refine lv_aload_n hx hb d_Ne_init_13 rfl (lv_at hl 0 rfl) ?_
  refine r_sipush hx hb d_Ne_init_14 (by decide +kernel) ?_
  refine va_newa (atype := .int) (ty := .int) (N' := 160) (a0 := (160, .inl (fun _ => iI 0))) hx hb (hts _ tw_68) rfl hK hP hD hS hA (fun _ => rfl) (by decide +kernel) (by decide +kernel) (by decide +kernel) (by show _ ≤ 3; omega) (by show _ ≤ 380; omega) d_Ne_init_17 (fun q2 c2 H hK hP hD hS => ?_)
  have hP : va_P D vCl [(h0, .inr (3, [.null, .ref q1, .null, .null, .int (iI 0)])), (q1, .inl (c1, 160, .inl (fun _ => iI 0))), (q2, .inl (c2, 160, .inl (fun _ => iI 0)))] H := hP
  have hD : va_D A [(h0, .inr (3, [.null, .ref q1, .null, .null, .int (iI 0)])), (q1, .inl (c1, 160, .inl (fun _ => iI 0))), (q2, .inl (c2, 160, .inl (fun _ => iI 0)))] := hD
  have hK : va_K D vCl [(c1, .int), (c2, .int)] s := hK
  refine va_putF (D := D) (ci := 3) (v := .ref q2) (ty := .array .int) (C := R_Ne) (T := T_Ne) (N := 5) hx hb hts in_Ne t_Ne to_Ne nm_Ne hown hK hP hD hS 0 rfl rfl 2 (by decide) (hts _ tw_120) (fun _ h => h) rfl hin rfl (by decide +kernel) rfl rfl (Nat.le_of_ble_eq_true rfl) d_Ne_init_19 (fun H locs hP hD hS => ?_)
  have hP : va_P D vCl [(h0, .inr (3, [.null, .ref q1, .ref q2, .null, .int (iI 0)])), (q1, .inl (c1, 160, .inl (fun _ => iI 0))), (q2, .inl (c2, 160, .inl (fun _ => iI 0)))] H := hP
  have hD : va_D A [(h0, .inr (3, [.null, .ref q1, .ref q2, .null, .int (iI 0)])), (q1, .inl (c1, 160, .inl (fun _ => iI 0))), (q2, .inl (c2, 160, .inl (fun _ => iI 0)))] := hD
  refine lv_aload_n hx hb d_Ne_init_22 rfl (lv_at hl 0 rfl) ?_
  refine r_bipush hx hb d_Ne_init_23 (by decide +kernel) ?_
  refine va_newa (atype := .int) (ty := .int) (N' := 60) (a0 := (60, .inl (fun _ => iI 0))) hx hb (hts _ tw_68) rfl hK hP hD hS hA (fun _ => rfl) (by decide +kernel) (by decide +kernel) (by decide +kernel) (by show _ ≤ 3; omega) (by show _ ≤ 380; omega) d_Ne_init_25 (fun q3 c3 H hK hP hD hS => ?_)
  have hP : va_P D vCl [(h0, .inr (3, [.null, .ref q1, .ref q2, .null, .int (iI 0)])), (q1, .inl (c1, 160, .inl (fun _ => iI 0))), (q2, .inl (c2, 160, .inl (fun _ => iI 0))), (q3, .inl (c3, 60, .inl (fun _ => iI 0)))] H := hP
  have hD : va_D A [(h0, .inr (3, [.null, .ref q1, .ref q2, .null, .int (iI 0)])), (q1, .inl (c1, 160, .inl (fun _ => iI 0))), (q2, .inl (c2, 160, .inl (fun _ => iI 0))), (q3, .inl (c3, 60, .inl (fun _ => iI 0)))] := hD
  have hK : va_K D vCl [(c1, .int), (c2, .int), (c3, .int)] s := hK
  refine va_putF (D := D) (ci := 3) (v := .ref q3) (ty := .array .int) (C := R_Ne) (T := T_Ne) (N := 5) hx hb hts in_Ne t_Ne to_Ne nm_Ne hown hK hP hD hS 0 rfl rfl 3 (by decide) (hts _ tw_121) (fun _ h => h) rfl hin rfl (by decide +kernel) rfl rfl (Nat.le_of_ble_eq_true rfl) d_Ne_init_27 (fun H locs hP hD hS => ?_)
  have hP : va_P D vCl [(h0, .inr (3, [.null, .ref q1, .ref q2, .ref q3, .int (iI 0)])), (q1, .inl (c1, 160, .inl (fun _ => iI 0))), (q2, .inl (c2, 160, .inl (fun _ => iI 0))), (q3, .inl (c3, 60, .inl (fun _ => iI 0)))] H := hP
  have hD : va_D A [(h0, .inr (3, [.null, .ref q1, .ref q2, .ref q3, .int (iI 0)])), (q1, .inl (c1, 160, .inl (fun _ => iI 0))), (q2, .inl (c2, 160, .inl (fun _ => iI 0))), (q3, .inl (c3, 60, .inl (fun _ => iI 0)))] := hD
  refine lv_aload_n hx hb d_Ne_init_30 rfl (lv_at hl 0 rfl) ?_
  refine lv_aload_n hx hb d_Ne_init_31 rfl (lv_at hl 1 rfl) ?_
  refine va_putF (D := D) (ci := 3) (v := .ref hc) (ty := .object "LegalRows$Cells") (C := R_Ne) (T := T_Ne) (N := 5) hx hb hts in_Ne t_Ne to_Ne nm_Ne hown hK hP hD hS 0 rfl rfl 0 (by decide) (hts _ tw_118) (fun _ h => h) rfl hin rfl (by decide +kernel) rfl rfl (Nat.le_of_ble_eq_true rfl) d_Ne_init_32 (fun H locs hP hD hS => ?_)
  have hP : va_P D vCl [(h0, .inr (3, [.ref hc, .ref q1, .ref q2, .ref q3, .int (iI 0)])), (q1, .inl (c1, 160, .inl (fun _ => iI 0))), (q2, .inl (c2, 160, .inl (fun _ => iI 0))), (q3, .inl (c3, 60, .inl (fun _ => iI 0)))] H := hP
  have hD : va_D A [(h0, .inr (3, [.ref hc, .ref q1, .ref q2, .ref q3, .int (iI 0)])), (q1, .inl (c1, 160, .inl (fun _ => iI 0))), (q2, .inl (c2, 160, .inl (fun _ => iI 0))), (q3, .inl (c3, 60, .inl (fun _ => iI 0)))] := hD
  refine r_iconst hx hb d_Ne_init_35 ?_
  refine lv_istore_n (lv' := [(2, .int (iI 0)), (0, .ref h0), (1, .ref hc)]) hx hb d_Ne_init_36 rfl hl (by decide) rfl (fun ls hl => ?_)
  have hP : va_P D vCl [(h0, .inr (3, [.ref hc, .ref q1, .ref q2, .ref q3, .int (iI 0)])), (q1, .inl (c1, 160, .inl (fun _ => iI 0))), (q2, .inl (c2, 160, .inl (fun _ => iI 0))), (q3, .inl (c3, 60, .inl (fun j : Nat => iI (g_ne 0 j))))] H := by rw [← g_ne0]; exact hP
  have hD : va_D A [(h0, .inr (3, [.ref hc, .ref q1, .ref q2, .ref q3, .int (iI 0)])), (q1, .inl (c1, 160, .inl (fun _ => iI 0))), (q2, .inl (c2, 160, .inl (fun _ => iI 0))), (q3, .inl (c3, 60, .inl (fun j : Nat => iI (g_ne 0 j))))] := by rw [← g_ne0]; exact hD
  refine lp_Ne hx hb hown hts hK (fun H locs ls hP hD hS => ?_) 61 0 (by omega) (by omega) (by omega) H _ ls hP hD hS (lv_sub hl [0, 1] rfl)
  refine W.widen (k := 3) (n := 380) (by omega) (by omega) ?_
  exact W.vret hx hb hr (fun t ht hW => ⟨⟨((fun k => if k = 17 then q1 else if k = 18 then q2 else if k = 19 then q3 else q1), (fun k => if k = 11 then c1 else if k = 12 then c2 else if k = 13 then c3 else c1)), rfl, trivial, by rw [ht]; exact hP, va_K.moved hW.alike hK, hD⟩, hS.F ht⟩) hS.2.2 d_Ne_init_56 hlocks
def k_Gr (h0 mo : Nat) (r st : Int) (a : Nat → Nat) (c : Nat → ClassId) : va_W := [(h0, .inr (1, [.int (iI r), .int (iI st), .ref (a 6), .ref (a 7), .ref (a 8), .int (iI r)])), (a 6, .inl (c 0, mo, .inl (fun j : Nat => iI (g_row r j)))), (a 7, .inl (c 1, mo, .inl (fun _ => iI 0))), (a 8, .inl (c 2, mo, .inl (fun j : Nat => iI (g_to st r j))))]
def kt_Gr (c : Nat → ClassId) : List (ClassId × FieldType) := [(c 0, .int), (c 1, .int), (c 2, .int)]
set_option maxHeartbeats 4000000 in
set_option maxRecDepth 100000 in
theorem lp_Gr {p : Program} {l : Launch} {e : Env} {s : State} {m : MethodId} {args : Array Value} {below : List Frame} {meth : Method} {c : Code} {D : va_G} {A : Nat → Prop} {Q : State → Prop} {cells slots : Nat} (hx : p.tables.exec = Jvm.exec) (hb : c.code = c_Gr_init) (hown : s.vm.findClass R_Gr = some m.cls) (hts : ∀ w ∈ gT, w.before args s = true) {h0 mo q1 q2 q3 : Nat} {c1 c2 c3 : ClassId} {r st : Int} (hr0 : 1 ≤ r) (hr1 : r ≤ 16) (hmr : r ≤ mo) (hmo2 : mo ≤ 8000) (hK : va_K D vCl [(c1, .int), (c2, .int), (c3, .int)] s) (kk : ∀ (H : Heap) (locs : List Loc) (ls : Array Slot), va_P D vCl [(h0, .inr (1, [.int (iI r), .int (iI st), .ref q1, .ref q2, .ref q3, .int (iI 0)])), (q1, .inl (c1, mo, .inl (fun j : Nat => iI (g_row r j)))), (q2, .inl (c2, mo, .inl (fun _ => iI 0))), (q3, .inl (c3, mo, .inl (fun j : Nat => iI (g_to st r j))))] H → va_D A [(h0, .inr (1, [.int (iI r), .int (iI st), .ref q1, .ref q2, .ref q3, .int (iI 0)])), (q1, .inl (c1, mo, .inl (fun j : Nat => iI (g_row r j)))), (q2, .inl (c2, mo, .inl (fun _ => iI 0))), (q3, .inl (c3, mo, .inl (fun j : Nat => iI (g_to st r j))))] → va_S A s.heap H locs → lv_has ls 5 [(0, .ref h0), (1, .int (iI r))] → W p l e ({ frames := 1, cells := 3, slots := 24000, locals := 40 } : Room) s m args below meth c H locs cells slots Q (F0 m 75 ls [])) : ∀ (n : Nat) (i : Int), 0 ≤ i → i ≤ r → r - i < n → ∀ (H : Heap) (locs : List Loc) (ls : Array Slot), va_P D vCl [(h0, .inr (1, [.int (iI r), .int (iI st), .ref q1, .ref q2, .ref q3, .int (iI 0)])), (q1, .inl (c1, mo, .inl (fun j : Nat => iI (g_row i j)))), (q2, .inl (c2, mo, .inl (fun _ => iI 0))), (q3, .inl (c3, mo, .inl (fun j : Nat => iI (g_to st i j))))] H → va_D A [(h0, .inr (1, [.int (iI r), .int (iI st), .ref q1, .ref q2, .ref q3, .int (iI 0)])), (q1, .inl (c1, mo, .inl (fun j : Nat => iI (g_row i j)))), (q2, .inl (c2, mo, .inl (fun _ => iI 0))), (q3, .inl (c3, mo, .inl (fun j : Nat => iI (g_to st i j))))] → va_S A s.heap H locs → lv_has ls 5 [(4, .int (iI i)), (0, .ref h0), (1, .int (iI r)), (2, .int (iI st))] → W p l e ({ frames := 1, cells := 3, slots := 24000, locals := 40 } : Room) s m args below meth c H locs cells slots Q (F0 m 46 ls []) := by
  intro n
  induction n with
  | zero => intro i i0 i1 i2; exact absurd i2 (by omega)
  | succ n ih =>
    intro i i0 i1 i2 H locs ls hP hD hS hl
    refine lv_iload hx hb d_Gr_init_46 (lv_at hl 0 rfl) ?_
    refine lv_iload_n hx hb d_Gr_init_48 rfl (lv_at hl 2 rfl) ?_
    refine r_icmp_ge (tgt := 75) hx hb ⟨by omega, by omega⟩ ⟨by omega, by omega⟩ d_Gr_init_49 (by decide) (fun hq => ?_) (fun hq => ?_)
    · have e : i = r := by omega
      subst e
      exact kk H locs ls hP hD hS (lv_sub hl [1, 2] rfl)
    · refine lv_aload_n hx hb d_Gr_init_52 rfl (lv_at hl 1 rfl) ?_
      refine va_get (D := D) (ci := 1) (v := .ref q1) (C := R_Gr) (T := T_Gr) (N := 6) hx hb hts in_Gr hown hK hP 0 rfl rfl 2 (by decide) (hts _ tw_47) (fun _ h => h) rfl d_Gr_init_53 ?_
      refine lv_iload hx hb d_Gr_init_56 (lv_at hl 0 rfl) ?_
      refine lv_iload hx hb d_Gr_init_58 (lv_at hl 0 rfl) ?_
      refine va_iast hx hb hK hP hD hS 1 0 rfl rfl (iI_in i0 (by omega) (by omega)) d_Gr_init_60 (fun H locs hP hD hS => ?_)
      rw [g_up i0 (by omega) (g_rowS i)] at hP hD
      have hP : va_P D vCl [(h0, .inr (1, [.int (iI r), .int (iI st), .ref q1, .ref q2, .ref q3, .int (iI 0)])), (q1, .inl (c1, mo, .inl (fun j : Nat => iI (g_row (i + 1) j)))), (q2, .inl (c2, mo, .inl (fun _ => iI 0))), (q3, .inl (c3, mo, .inl (fun j : Nat => iI (g_to st i j))))] H := hP
      have hD : va_D A [(h0, .inr (1, [.int (iI r), .int (iI st), .ref q1, .ref q2, .ref q3, .int (iI 0)])), (q1, .inl (c1, mo, .inl (fun j : Nat => iI (g_row (i + 1) j)))), (q2, .inl (c2, mo, .inl (fun _ => iI 0))), (q3, .inl (c3, mo, .inl (fun j : Nat => iI (g_to st i j))))] := hD
      refine lv_aload_n hx hb d_Gr_init_61 rfl (lv_at hl 1 rfl) ?_
      refine va_get (D := D) (ci := 1) (v := .ref q3) (C := R_Gr) (T := T_Gr) (N := 6) hx hb hts in_Gr hown hK hP 0 rfl rfl 4 (by decide) (hts _ tw_51) (fun _ h => h) rfl d_Gr_init_62 ?_
      refine lv_iload hx hb d_Gr_init_65 (lv_at hl 0 rfl) ?_
      refine lv_iload_n hx hb d_Gr_init_67 rfl (lv_at hl 3 rfl) ?_
      refine va_iast hx hb hK hP hD hS 3 2 rfl rfl (iI_in i0 (by omega) (by omega)) d_Gr_init_68 (fun H locs hP hD hS => ?_)
      rw [g_up (f := g_to st i) i0 (by omega) (g_toS st i)] at hP hD
      have hP : va_P D vCl [(h0, .inr (1, [.int (iI r), .int (iI st), .ref q1, .ref q2, .ref q3, .int (iI 0)])), (q1, .inl (c1, mo, .inl (fun j : Nat => iI (g_row (i + 1) j)))), (q2, .inl (c2, mo, .inl (fun _ => iI 0))), (q3, .inl (c3, mo, .inl (fun j : Nat => iI (g_to st (i + 1) j))))] H := hP
      have hD : va_D A [(h0, .inr (1, [.int (iI r), .int (iI st), .ref q1, .ref q2, .ref q3, .int (iI 0)])), (q1, .inl (c1, mo, .inl (fun j : Nat => iI (g_row (i + 1) j)))), (q2, .inl (c2, mo, .inl (fun _ => iI 0))), (q3, .inl (c3, mo, .inl (fun j : Nat => iI (g_to st (i + 1) j))))] := hD
      refine r_iinc (k := 0) (z := i) (lv' := [(4, .int (iI (i + 1))), (0, .ref h0), (1, .int (iI r)), (2, .int (iI st))]) hx hb d_Gr_init_69 hl rfl (by decide) rfl (fun ls hl => ?_)
      refine lv_goto (tgt := 46) hx hb d_Gr_init_72 (by decide) ?_
      exact ih (i + 1) (by omega) (by omega) (by omega) H locs ls hP hD hS hl
set_option maxHeartbeats 4000000 in
set_option maxRecDepth 100000 in
theorem ct_Gr_init (l : Launch) (D : va_G) (sz : Nat) (h0 mo : Nat) (r st : Int) (hr0 : 1 ≤ r) (hr1 : r ≤ 16) (hs0 : 1 ≤ st) (hs1 : st ≤ 1000) (hmo : r * ((st + 1) / 2) = (mo : Int)) (hmr : r ≤ mo) (hmo8 : mo ≤ 8000) : Met l y_Gr_init (Cond.code y_Gr_init c_Gr_init 5 (none) :: gT) ({ frames := 1, cells := 3, slots := 24000, locals := 40 } : Room) (va_Pc [.ref h0, .int (iI r), .int (iI st)] (fun U => U.heap.size = sz ∧ va_P D vCl [(h0, .inr (1, [.int (iI 0), .int (iI 0), .null, .null, .null, .int (iI 0)]))] U.heap ∧ va_K D vCl [] U ∧ va_D (fun _ => True) [(h0, .inr (1, [.int (iI 0), .int (iI 0), .null, .null, .null, .int (iI 0)]))])) (va_Qv (fun u : ((Nat → Nat) × (Nat → ClassId)) => True) (fun u t => va_P D vCl (k_Gr h0 mo r st u.1 u.2) t.heap ∧ va_K D vCl (kt_Gr u.2) t ∧ va_D (va_A [(h0, .inr (1, [.int (iI 0), .int (iI 0), .null, .null, .null, .int (iI 0)]))] sz) (k_Gr h0 mo r st u.1 u.2)) (va_A [(h0, .inr (1, [.int (iI 0), .int (iI 0), .null, .null, .null, .int (iI 0)]))] sz)) 3 24000 (va_A [(h0, .inr (1, [.int (iI 0), .int (iI 0), .null, .null, .null, .int (iI 0)]))] sz) := by
  refine Met.ofW (cc := c_Gr_init) (maxL := 5) (ret := none) (by decide) rfl ?_
  intro p e s m args below meth c s₁ B hml hv
  obtain ⟨rfl, hsz, hP, hK, hD0⟩ := hv
  have hx := B.exec
  have hb := B.bytes
  have hr := B.returns
  have hts0 := atoms_spec (ws := (Cond.code y_Gr_init c_Gr_init 5 (none) :: gT)) B.pre
  have hts : ∀ w ∈ gT, w.before _ s = true := fun w h => hts0 w (List.mem_cons_of_mem _ h)
  have hown : s.vm.findClass R_Gr = some m.cls := findClass_of_methodNamed B.named
  have hlocks := B.notSynchronized
  have hin : meth.name = "<init>" := (name_of_methodNamed B.named B.method).1
  subst hsz
  have hD := hD0.self (sz := s.heap.size)
  generalize hAe : va_A [(h0, .inr (1, [.int (iI 0), .int (iI 0), .null, .null, .null, .int (iI 0)]))] s.heap.size = A at hD ⊢
  have hA : ∀ q : Nat, s.heap.size ≤ q → A q := fun q h => by rw [← hAe]; exact Or.inr h
  have hS : va_S A s.heap s.heap [] := va_S.rf
  have hP : va_P D vCl [(h0, .inr (1, [.int (iI 0), .int (iI 0), .null, .null, .null, .int (iI 0)]))] s.heap := hP
  have hl := lv_entry [.ref h0, .int (iI r), .int (iI st)] (n := 5) (Nat.le_of_ble_eq_true rfl)
  rw [lg_entry_eq]
  generalize (lg_sl [.ref h0, .int (iI r), .int (iI st)] ++ List.replicate (5 - (lg_sl [.ref h0, .int (iI r), .int (iI st)]).length) Slot.unset).toArray = ls at hl ⊢
  have hl : lv_has ls 5 [(0, .ref h0), (1, .int (iI r)), (2, .int (iI st))] := hl
  have hmo2 : mo < 2147483648 := by omega
  refine lv_aload_n hx hb d_Gr_init_0 rfl (lv_at hl 0 rfl) ?_
  refine W.objInit hx hb hown (hts _ tw_42) (hts _ tw_22) (hts _ tw_23) rfl (by rw [hml]; exact hl.1) rfl d_Gr_init_1 (Nat.le_of_ble_eq_true rfl) (Nat.le_of_ble_eq_true rfl) ?_
  refine lv_aload_n hx hb d_Gr_init_4 rfl (lv_at hl 0 rfl) ?_
  refine lv_iload_n hx hb d_Gr_init_5 rfl (lv_at hl 1 rfl) ?_
  refine va_putF (D := D) (ci := 1) (v := .int (iI r)) (ty := .int) (C := R_Gr) (T := T_Gr) (N := 6) hx hb hts in_Gr t_Gr to_Gr nm_Gr hown hK hP hD hS 0 rfl rfl 0 (by decide) (hts _ tw_43) (fun _ h => h) rfl hin rfl (by decide +kernel) rfl rfl (Nat.le_of_ble_eq_true rfl) d_Gr_init_6 (fun H locs hP hD hS => ?_)
  have hP : va_P D vCl [(h0, .inr (1, [.int (iI r), .int (iI 0), .null, .null, .null, .int (iI 0)]))] H := hP
  have hD : va_D A [(h0, .inr (1, [.int (iI r), .int (iI 0), .null, .null, .null, .int (iI 0)]))] := hD
  refine lv_aload_n hx hb d_Gr_init_9 rfl (lv_at hl 0 rfl) ?_
  refine lv_iload_n hx hb d_Gr_init_10 rfl (lv_at hl 2 rfl) ?_
  refine va_putF (D := D) (ci := 1) (v := .int (iI st)) (ty := .int) (C := R_Gr) (T := T_Gr) (N := 6) hx hb hts in_Gr t_Gr to_Gr nm_Gr hown hK hP hD hS 0 rfl rfl 1 (by decide) (hts _ tw_45) (fun _ h => h) rfl hin rfl (by decide +kernel) rfl rfl (Nat.le_of_ble_eq_true rfl) d_Gr_init_11 (fun H locs hP hD hS => ?_)
  have hP : va_P D vCl [(h0, .inr (1, [.int (iI r), .int (iI st), .null, .null, .null, .int (iI 0)]))] H := hP
  have hD : va_D A [(h0, .inr (1, [.int (iI r), .int (iI st), .null, .null, .null, .int (iI 0)]))] := hD
  refine lv_iload_n hx hb d_Gr_init_14 rfl (lv_at hl 1 rfl) ?_
  refine lv_iload_n hx hb d_Gr_init_15 rfl (lv_at hl 2 rfl) ?_
  refine r_iconst hx hb d_Gr_init_16 ?_
  refine r_iadd hx hb d_Gr_init_17 ?_
  refine r_iconst hx hb d_Gr_init_18 ?_
  refine r_idiv hx hb 2 (by omega) (by omega) (by decide) (by decide) d_Gr_init_19 ?_
  refine r_imul hx hb d_Gr_init_20 ?_
  refine lv_istore_n (lv' := [(3, .int (iI (r * ((st + 1) / 2)))), (0, .ref h0), (1, .int (iI r)), (2, .int (iI st))]) hx hb d_Gr_init_21 rfl hl (by decide) rfl (fun ls hl => ?_)
  refine lv_aload_n hx hb d_Gr_init_22 rfl (lv_at hl 1 rfl) ?_
  refine lv_iload_n hx hb d_Gr_init_23 rfl (lv_at hl 0 rfl) ?_
  refine va_newa (atype := .int) (ty := .int) (N' := mo) (a0 := (mo, .inl (fun _ => iI 0))) hx hb (hts _ tw_68) rfl hK hP hD hS hA (fun _ => rfl) (nw_n hmo hmo2).1 (nw_n hmo hmo2).2 (by show mo * 4 ≤ 536870912; omega) (by show _ ≤ 3; omega) (by show _ ≤ 24000; omega) d_Gr_init_24 (fun q1 c1 H hK hP hD hS => ?_)
  have hP : va_P D vCl [(h0, .inr (1, [.int (iI r), .int (iI st), .null, .null, .null, .int (iI 0)])), (q1, .inl (c1, mo, .inl (fun _ => iI 0)))] H := hP
  have hD : va_D A [(h0, .inr (1, [.int (iI r), .int (iI st), .null, .null, .null, .int (iI 0)])), (q1, .inl (c1, mo, .inl (fun _ => iI 0)))] := hD
  have hK : va_K D vCl [(c1, .int)] s := hK
  refine va_putF (D := D) (ci := 1) (v := .ref q1) (ty := .array .int) (C := R_Gr) (T := T_Gr) (N := 6) hx hb hts in_Gr t_Gr to_Gr nm_Gr hown hK hP hD hS 0 rfl rfl 2 (by decide) (hts _ tw_47) (fun _ h => h) rfl hin rfl (by decide +kernel) rfl rfl (Nat.le_of_ble_eq_true rfl) d_Gr_init_26 (fun H locs hP hD hS => ?_)
  have hP : va_P D vCl [(h0, .inr (1, [.int (iI r), .int (iI st), .ref q1, .null, .null, .int (iI 0)])), (q1, .inl (c1, mo, .inl (fun _ => iI 0)))] H := hP
  have hD : va_D A [(h0, .inr (1, [.int (iI r), .int (iI st), .ref q1, .null, .null, .int (iI 0)])), (q1, .inl (c1, mo, .inl (fun _ => iI 0)))] := hD
  refine lv_aload_n hx hb d_Gr_init_29 rfl (lv_at hl 1 rfl) ?_
  refine lv_iload_n hx hb d_Gr_init_30 rfl (lv_at hl 0 rfl) ?_
  refine va_newa (atype := .int) (ty := .int) (N' := mo) (a0 := (mo, .inl (fun _ => iI 0))) hx hb (hts _ tw_68) rfl hK hP hD hS hA (fun _ => rfl) (nw_n hmo hmo2).1 (nw_n hmo hmo2).2 (by show mo * 4 ≤ 536870912; omega) (by show _ ≤ 3; omega) (by show _ ≤ 24000; omega) d_Gr_init_31 (fun q2 c2 H hK hP hD hS => ?_)
  have hP : va_P D vCl [(h0, .inr (1, [.int (iI r), .int (iI st), .ref q1, .null, .null, .int (iI 0)])), (q1, .inl (c1, mo, .inl (fun _ => iI 0))), (q2, .inl (c2, mo, .inl (fun _ => iI 0)))] H := hP
  have hD : va_D A [(h0, .inr (1, [.int (iI r), .int (iI st), .ref q1, .null, .null, .int (iI 0)])), (q1, .inl (c1, mo, .inl (fun _ => iI 0))), (q2, .inl (c2, mo, .inl (fun _ => iI 0)))] := hD
  have hK : va_K D vCl [(c1, .int), (c2, .int)] s := hK
  refine va_putF (D := D) (ci := 1) (v := .ref q2) (ty := .array .int) (C := R_Gr) (T := T_Gr) (N := 6) hx hb hts in_Gr t_Gr to_Gr nm_Gr hown hK hP hD hS 0 rfl rfl 3 (by decide) (hts _ tw_49) (fun _ h => h) rfl hin rfl (by decide +kernel) rfl rfl (Nat.le_of_ble_eq_true rfl) d_Gr_init_33 (fun H locs hP hD hS => ?_)
  have hP : va_P D vCl [(h0, .inr (1, [.int (iI r), .int (iI st), .ref q1, .ref q2, .null, .int (iI 0)])), (q1, .inl (c1, mo, .inl (fun _ => iI 0))), (q2, .inl (c2, mo, .inl (fun _ => iI 0)))] H := hP
  have hD : va_D A [(h0, .inr (1, [.int (iI r), .int (iI st), .ref q1, .ref q2, .null, .int (iI 0)])), (q1, .inl (c1, mo, .inl (fun _ => iI 0))), (q2, .inl (c2, mo, .inl (fun _ => iI 0)))] := hD
  refine lv_aload_n hx hb d_Gr_init_36 rfl (lv_at hl 1 rfl) ?_
  refine lv_iload_n hx hb d_Gr_init_37 rfl (lv_at hl 0 rfl) ?_
  refine va_newa (atype := .int) (ty := .int) (N' := mo) (a0 := (mo, .inl (fun _ => iI 0))) hx hb (hts _ tw_68) rfl hK hP hD hS hA (fun _ => rfl) (nw_n hmo hmo2).1 (nw_n hmo hmo2).2 (by show mo * 4 ≤ 536870912; omega) (by show _ ≤ 3; omega) (by show _ ≤ 24000; omega) d_Gr_init_38 (fun q3 c3 H hK hP hD hS => ?_)
  have hP : va_P D vCl [(h0, .inr (1, [.int (iI r), .int (iI st), .ref q1, .ref q2, .null, .int (iI 0)])), (q1, .inl (c1, mo, .inl (fun _ => iI 0))), (q2, .inl (c2, mo, .inl (fun _ => iI 0))), (q3, .inl (c3, mo, .inl (fun _ => iI 0)))] H := hP
  have hD : va_D A [(h0, .inr (1, [.int (iI r), .int (iI st), .ref q1, .ref q2, .null, .int (iI 0)])), (q1, .inl (c1, mo, .inl (fun _ => iI 0))), (q2, .inl (c2, mo, .inl (fun _ => iI 0))), (q3, .inl (c3, mo, .inl (fun _ => iI 0)))] := hD
  have hK : va_K D vCl [(c1, .int), (c2, .int), (c3, .int)] s := hK
  refine va_putF (D := D) (ci := 1) (v := .ref q3) (ty := .array .int) (C := R_Gr) (T := T_Gr) (N := 6) hx hb hts in_Gr t_Gr to_Gr nm_Gr hown hK hP hD hS 0 rfl rfl 4 (by decide) (hts _ tw_51) (fun _ h => h) rfl hin rfl (by decide +kernel) rfl rfl (Nat.le_of_ble_eq_true rfl) d_Gr_init_40 (fun H locs hP hD hS => ?_)
  have hP : va_P D vCl [(h0, .inr (1, [.int (iI r), .int (iI st), .ref q1, .ref q2, .ref q3, .int (iI 0)])), (q1, .inl (c1, mo, .inl (fun _ => iI 0))), (q2, .inl (c2, mo, .inl (fun _ => iI 0))), (q3, .inl (c3, mo, .inl (fun _ => iI 0)))] H := hP
  have hD : va_D A [(h0, .inr (1, [.int (iI r), .int (iI st), .ref q1, .ref q2, .ref q3, .int (iI 0)])), (q1, .inl (c1, mo, .inl (fun _ => iI 0))), (q2, .inl (c2, mo, .inl (fun _ => iI 0))), (q3, .inl (c3, mo, .inl (fun _ => iI 0)))] := hD
  refine r_iconst hx hb d_Gr_init_43 ?_
  refine lv_istore (lv' := [(4, .int (iI 0)), (3, .int (iI (r * ((st + 1) / 2)))), (0, .ref h0), (1, .int (iI r)), (2, .int (iI st))]) hx hb d_Gr_init_44 hl (by decide) rfl (fun ls hl => ?_)
  have hP : va_P D vCl [(h0, .inr (1, [.int (iI r), .int (iI st), .ref q1, .ref q2, .ref q3, .int (iI 0)])), (q1, .inl (c1, mo, .inl (fun j : Nat => iI (g_row 0 j)))), (q2, .inl (c2, mo, .inl (fun _ => iI 0))), (q3, .inl (c3, mo, .inl (fun j : Nat => iI (g_to st 0 j))))] H := by rw [← g_row0, ← g_to0]; exact hP
  have hD : va_D A [(h0, .inr (1, [.int (iI r), .int (iI st), .ref q1, .ref q2, .ref q3, .int (iI 0)])), (q1, .inl (c1, mo, .inl (fun j : Nat => iI (g_row 0 j)))), (q2, .inl (c2, mo, .inl (fun _ => iI 0))), (q3, .inl (c3, mo, .inl (fun j : Nat => iI (g_to st 0 j))))] := by rw [← g_row0, ← g_to0]; exact hD
  refine lp_Gr hx hb hown hts hr0 hr1 hmr hmo8 hK (fun H locs ls hP hD hS hl => ?_) 17 0 (by omega) (by omega) (by omega) H _ ls hP hD hS (lv_sub hl [0, 2, 3, 4] rfl)
  refine lv_aload_n hx hb d_Gr_init_75 rfl (lv_at hl 0 rfl) ?_
  refine lv_iload_n hx hb d_Gr_init_76 rfl (lv_at hl 1 rfl) ?_
  refine va_put (D := D) (ci := 1) (v := .int (iI r)) (ty := .int) (C := R_Gr) (T := T_Gr) (N := 6) hx hb hts in_Gr t_Gr to_Gr nm_Gr hown hK hP hD hS 0 rfl rfl 5 (by decide) (hts _ tw_53) (fun _ h => h) rfl (by decide +kernel) rfl rfl (Nat.le_of_ble_eq_true rfl) d_Gr_init_77 (fun H locs hP hD hS => ?_)
  have hP : va_P D vCl [(h0, .inr (1, [.int (iI r), .int (iI st), .ref q1, .ref q2, .ref q3, .int (iI r)])), (q1, .inl (c1, mo, .inl (fun j : Nat => iI (g_row r j)))), (q2, .inl (c2, mo, .inl (fun _ => iI 0))), (q3, .inl (c3, mo, .inl (fun j : Nat => iI (g_to st r j))))] H := hP
  have hD : va_D A [(h0, .inr (1, [.int (iI r), .int (iI st), .ref q1, .ref q2, .ref q3, .int (iI r)])), (q1, .inl (c1, mo, .inl (fun j : Nat => iI (g_row r j)))), (q2, .inl (c2, mo, .inl (fun _ => iI 0))), (q3, .inl (c3, mo, .inl (fun j : Nat => iI (g_to st r j))))] := hD
  refine W.widen (k := 3) (n := 24000) (by omega) (by omega) ?_
  exact W.vret hx hb hr (fun t ht hW => ⟨⟨((fun k => if k = 6 then q1 else if k = 7 then q2 else if k = 8 then q3 else q1), (fun k => if k = 0 then c1 else if k = 1 then c2 else if k = 2 then c3 else c1)), rfl, trivial, by rw [ht]; exact hP, va_K.moved hW.alike hK, hD⟩, hS.F ht⟩) hS.2.2 d_Gr_init_80 hlocks
def k_Fi (h0 hg hc mo g6 g7 g8 : Nat) (c0 : ClassId) (r st : Int) (a : Nat → Nat) (c : Nat → ClassId) : va_W := [(h0, .inr (4, [.ref hg, .ref hc, .ref (a 5), .ref (a 20), .ref (a 21), .ref (a 22), .ref (a 23), .ref (a 24)])), ((a 20), .inl ((c 14), 60, .inl (fun _ => iI 0))), ((a 21), .inl ((c 15), 60, .inl (fun _ => iI 0))), ((a 22), .inl ((c 16), mo, .inl (fun _ => iI 0))), ((a 23), .inl ((c 17), mo, .inl (fun _ => iI 0))), ((a 24), .inl ((c 18), mo, .inl (fun _ => iI 0))), ((a 5), .inr (5, [.ref hc, .ref (a 25), .ref (a 26), .ref (a 27), .ref (a 28), .ref (a 29), .int (iI 0), .int (iI 0), .int (iI 0), .int (iI 0)])), ((a 25), .inl ((c 19), 60, .inl (fun _ => iI 0))), ((a 26), .inl ((c 20), 60, .inl (fun _ => iI 0))), ((a 27), .inl ((c 21), 60, .inl (fun _ => iI 0))), ((a 28), .inl ((c 22), 60, .inl (fun _ => iI 0))), ((a 29), .inl ((c 23), 61, .inl (fun _ => iI 0))), (hg, .inr (1, [.int (iI r), .int (iI st), .ref g6, .ref g7, .ref g8, .int (iI r)])), (g6, .inl (c0, mo, .inl (fun j : Nat => iI (g_row r j))))]
def kt_Fi (c0 : ClassId) (c : Nat → ClassId) : List (ClassId × FieldType) := [(c 14, .int), (c 15, .int), (c 16, .int), (c 17, .int), (c 18, .int), (c 19, .int), (c 20, .int), (c 21, .int), (c 22, .int), (c 23, .int), (c0, .int)]
set_option maxHeartbeats 4000000 in
set_option maxRecDepth 100000 in
theorem ct_Fi_init (l : Launch) (D : va_G) (sz : Nat) (h0 hg hc mo g6 g7 g8 : Nat) (c0 : ClassId) (r st : Int) (hmo8 : mo ≤ 8000) : Met l y_Fi_init (Cond.code y_Fi_init c_Fi_init 4 (none) :: gT) ({ frames := 2, cells := 11, slots := 24500, locals := 70 } : Room) (va_Pc [.ref h0, .ref hg, .ref hc] (fun U => U.heap.size = sz ∧ va_P D vCl [(h0, .inr (4, [.null, .null, .null, .null, .null, .null, .null, .null])), (hg, .inr (1, [.int (iI r), .int (iI st), .ref g6, .ref g7, .ref g8, .int (iI r)])), (g6, .inl (c0, mo, .inl (fun j : Nat => iI (g_row r j))))] U.heap ∧ va_K D vCl [(c0, .int)] U ∧ va_D (fun _ => True) [(h0, .inr (4, [.null, .null, .null, .null, .null, .null, .null, .null])), (hg, .inr (1, [.int (iI r), .int (iI st), .ref g6, .ref g7, .ref g8, .int (iI r)])), (g6, .inl (c0, mo, .inl (fun j : Nat => iI (g_row r j))))])) (va_Qv (fun u : ((Nat → Nat) × (Nat → ClassId)) => True) (fun u t => va_P D vCl (k_Fi h0 hg hc mo g6 g7 g8 c0 r st u.1 u.2) t.heap ∧ va_K D vCl (kt_Fi c0 u.2) t ∧ va_D (va_A [(h0, .inr (4, [.null, .null, .null, .null, .null, .null, .null, .null])), (hg, .inr (1, [.int (iI r), .int (iI st), .ref g6, .ref g7, .ref g8, .int (iI r)])), (g6, .inl (c0, mo, .inl (fun j : Nat => iI (g_row r j))))] sz) (k_Fi h0 hg hc mo g6 g7 g8 c0 r st u.1 u.2)) (va_A [(h0, .inr (4, [.null, .null, .null, .null, .null, .null, .null, .null])), (hg, .inr (1, [.int (iI r), .int (iI st), .ref g6, .ref g7, .ref g8, .int (iI r)])), (g6, .inl (c0, mo, .inl (fun j : Nat => iI (g_row r j))))] sz)) 11 24500 (va_A [(h0, .inr (4, [.null, .null, .null, .null, .null, .null, .null, .null])), (hg, .inr (1, [.int (iI r), .int (iI st), .ref g6, .ref g7, .ref g8, .int (iI r)])), (g6, .inl (c0, mo, .inl (fun j : Nat => iI (g_row r j))))] sz) := by
  refine Met.ofW (cc := c_Fi_init) (maxL := 4) (ret := none) (by decide) rfl ?_
  intro p e s m args below meth c s₁ B hml hv
  obtain ⟨rfl, hsz, hP, hK, hD0⟩ := hv
  have hx := B.exec
  have hb := B.bytes
  have hr := B.returns
  have hts0 := atoms_spec (ws := (Cond.code y_Fi_init c_Fi_init 4 (none) :: gT)) B.pre
  have hts : ∀ w ∈ gT, w.before _ s = true := fun w h => hts0 w (List.mem_cons_of_mem _ h)
  have hown : s.vm.findClass R_Fi = some m.cls := findClass_of_methodNamed B.named
  have hlocks := B.notSynchronized
  have hin : meth.name = "<init>" := (name_of_methodNamed B.named B.method).1
  subst hsz
  have hD := hD0.self (sz := s.heap.size)
  generalize hAe : va_A [(h0, .inr (4, [.null, .null, .null, .null, .null, .null, .null, .null])), (hg, .inr (1, [.int (iI r), .int (iI st), .ref g6, .ref g7, .ref g8, .int (iI r)])), (g6, .inl (c0, mo, .inl (fun j : Nat => iI (g_row r j))))] s.heap.size = A at hD ⊢
  have hA : ∀ q : Nat, s.heap.size ≤ q → A q := fun q h => by rw [← hAe]; exact Or.inr h
  have hS : va_S A s.heap s.heap [] := va_S.rf
  have hP : va_P D vCl [(h0, .inr (4, [.null, .null, .null, .null, .null, .null, .null, .null])), (hg, .inr (1, [.int (iI r), .int (iI st), .ref g6, .ref g7, .ref g8, .int (iI r)])), (g6, .inl (c0, mo, .inl (fun j : Nat => iI (g_row r j))))] s.heap := hP
  have hl := lv_entry [.ref h0, .ref hg, .ref hc] (n := 4) (Nat.le_of_ble_eq_true rfl)
  rw [lg_entry_eq]
  generalize (lg_sl [.ref h0, .ref hg, .ref hc] ++ List.replicate (4 - (lg_sl [.ref h0, .ref hg, .ref hc]).length) Slot.unset).toArray = ls at hl ⊢
  have hl : lv_has ls 4 [(0, .ref h0), (1, .ref hg), (2, .ref hc)] := hl
  have hmo : (mo : Int) = (mo : Int) := rfl
  have hmo2 : mo < 2147483648 := by omega
  refine lv_aload_n hx hb d_Fi_init_0 rfl (lv_at hl 0 rfl) ?_
  refine W.objInit hx hb hown (hts _ tw_140) (hts _ tw_22) (hts _ tw_23) rfl (by rw [hml]; exact hl.1) rfl d_Fi_init_1 (Nat.le_of_ble_eq_true rfl) (Nat.le_of_ble_eq_true rfl) ?_
  refine lv_aload_n hx hb d_Fi_init_4 rfl (lv_at hl 0 rfl) ?_
  refine r_bipush hx hb d_Fi_init_5 (by decide +kernel) ?_
  refine va_newa (atype := .int) (ty := .int) (N' := 60) (a0 := (60, .inl (fun _ => iI 0))) hx hb (hts _ tw_68) rfl hK hP hD hS hA (fun _ => rfl) (by decide +kernel) (by decide +kernel) (by decide +kernel) (by show _ ≤ 11; omega) (by show _ ≤ 24500; omega) d_Fi_init_7 (fun q1 c1 H hK hP hD hS => ?_)
  have hP : va_P D vCl [(h0, .inr (4, [.null, .null, .null, .null, .null, .null, .null, .null])), (hg, .inr (1, [.int (iI r), .int (iI st), .ref g6, .ref g7, .ref g8, .int (iI r)])), (g6, .inl (c0, mo, .inl (fun j : Nat => iI (g_row r j)))), (q1, .inl (c1, 60, .inl (fun _ => iI 0)))] H := hP
  have hD : va_D A [(h0, .inr (4, [.null, .null, .null, .null, .null, .null, .null, .null])), (hg, .inr (1, [.int (iI r), .int (iI st), .ref g6, .ref g7, .ref g8, .int (iI r)])), (g6, .inl (c0, mo, .inl (fun j : Nat => iI (g_row r j)))), (q1, .inl (c1, 60, .inl (fun _ => iI 0)))] := hD
  have hK : va_K D vCl [(c0, .int), (c1, .int)] s := hK
  refine va_putF (D := D) (ci := 4) (v := .ref q1) (ty := .array .int) (C := R_Fi) (T := T_Fi) (N := 8) hx hb hts in_Fi t_Fi to_Fi nm_Fi hown hK hP hD hS 0 rfl rfl 3 (by decide) (hts _ tw_182) (fun _ h => h) rfl hin rfl (by decide +kernel) rfl rfl (Nat.le_of_ble_eq_true rfl) d_Fi_init_9 (fun H locs hP hD hS => ?_)
  have hP : va_P D vCl [(h0, .inr (4, [.null, .null, .null, .ref q1, .null, .null, .null, .null])), (hg, .inr (1, [.int (iI r), .int (iI st), .ref g6, .ref g7, .ref g8, .int (iI r)])), (g6, .inl (c0, mo, .inl (fun j : Nat => iI (g_row r j)))), (q1, .inl (c1, 60, .inl (fun _ => iI 0)))] H := hP
  have hD : va_D A [(h0, .inr (4, [.null, .null, .null, .ref q1, .null, .null, .null, .null])), (hg, .inr (1, [.int (iI r), .int (iI st), .ref g6, .ref g7, .ref g8, .int (iI r)])), (g6, .inl (c0, mo, .inl (fun j : Nat => iI (g_row r j)))), (q1, .inl (c1, 60, .inl (fun _ => iI 0)))] := hD
  refine lv_aload_n hx hb d_Fi_init_12 rfl (lv_at hl 0 rfl) ?_
  refine r_bipush hx hb d_Fi_init_13 (by decide +kernel) ?_
  refine va_newa (atype := .int) (ty := .int) (N' := 60) (a0 := (60, .inl (fun _ => iI 0))) hx hb (hts _ tw_68) rfl hK hP hD hS hA (fun _ => rfl) (by decide +kernel) (by decide +kernel) (by decide +kernel) (by show _ ≤ 11; omega) (by show _ ≤ 24500; omega) d_Fi_init_15 (fun q2 c2 H hK hP hD hS => ?_)
  have hP : va_P D vCl [(h0, .inr (4, [.null, .null, .null, .ref q1, .null, .null, .null, .null])), (hg, .inr (1, [.int (iI r), .int (iI st), .ref g6, .ref g7, .ref g8, .int (iI r)])), (g6, .inl (c0, mo, .inl (fun j : Nat => iI (g_row r j)))), (q1, .inl (c1, 60, .inl (fun _ => iI 0))), (q2, .inl (c2, 60, .inl (fun _ => iI 0)))] H := hP
  have hD : va_D A [(h0, .inr (4, [.null, .null, .null, .ref q1, .null, .null, .null, .null])), (hg, .inr (1, [.int (iI r), .int (iI st), .ref g6, .ref g7, .ref g8, .int (iI r)])), (g6, .inl (c0, mo, .inl (fun j : Nat => iI (g_row r j)))), (q1, .inl (c1, 60, .inl (fun _ => iI 0))), (q2, .inl (c2, 60, .inl (fun _ => iI 0)))] := hD
  have hK : va_K D vCl [(c0, .int), (c1, .int), (c2, .int)] s := hK
  refine va_putF (D := D) (ci := 4) (v := .ref q2) (ty := .array .int) (C := R_Fi) (T := T_Fi) (N := 8) hx hb hts in_Fi t_Fi to_Fi nm_Fi hown hK hP hD hS 0 rfl rfl 4 (by decide) (hts _ tw_183) (fun _ h => h) rfl hin rfl (by decide +kernel) rfl rfl (Nat.le_of_ble_eq_true rfl) d_Fi_init_17 (fun H locs hP hD hS => ?_)
  have hP : va_P D vCl [(h0, .inr (4, [.null, .null, .null, .ref q1, .ref q2, .null, .null, .null])), (hg, .inr (1, [.int (iI r), .int (iI st), .ref g6, .ref g7, .ref g8, .int (iI r)])), (g6, .inl (c0, mo, .inl (fun j : Nat => iI (g_row r j)))), (q1, .inl (c1, 60, .inl (fun _ => iI 0))), (q2, .inl (c2, 60, .inl (fun _ => iI 0)))] H := hP
  have hD : va_D A [(h0, .inr (4, [.null, .null, .null, .ref q1, .ref q2, .null, .null, .null])), (hg, .inr (1, [.int (iI r), .int (iI st), .ref g6, .ref g7, .ref g8, .int (iI r)])), (g6, .inl (c0, mo, .inl (fun j : Nat => iI (g_row r j)))), (q1, .inl (c1, 60, .inl (fun _ => iI 0))), (q2, .inl (c2, 60, .inl (fun _ => iI 0)))] := hD
  refine lv_aload_n hx hb d_Fi_init_20 rfl (lv_at hl 0 rfl) ?_
  refine lv_aload_n hx hb d_Fi_init_21 rfl (lv_at hl 1 rfl) ?_
  refine va_putF (D := D) (ci := 4) (v := .ref hg) (ty := .object "LegalRows$Ground") (C := R_Fi) (T := T_Fi) (N := 8) hx hb hts in_Fi t_Fi to_Fi nm_Fi hown hK hP hD hS 0 rfl rfl 0 (by decide) (hts _ tw_179) (fun _ h => h) rfl hin rfl (by decide +kernel) rfl rfl (Nat.le_of_ble_eq_true rfl) d_Fi_init_22 (fun H locs hP hD hS => ?_)
  have hP : va_P D vCl [(h0, .inr (4, [.ref hg, .null, .null, .ref q1, .ref q2, .null, .null, .null])), (hg, .inr (1, [.int (iI r), .int (iI st), .ref g6, .ref g7, .ref g8, .int (iI r)])), (g6, .inl (c0, mo, .inl (fun j : Nat => iI (g_row r j)))), (q1, .inl (c1, 60, .inl (fun _ => iI 0))), (q2, .inl (c2, 60, .inl (fun _ => iI 0)))] H := hP
  have hD : va_D A [(h0, .inr (4, [.ref hg, .null, .null, .ref q1, .ref q2, .null, .null, .null])), (hg, .inr (1, [.int (iI r), .int (iI st), .ref g6, .ref g7, .ref g8, .int (iI r)])), (g6, .inl (c0, mo, .inl (fun j : Nat => iI (g_row r j)))), (q1, .inl (c1, 60, .inl (fun _ => iI 0))), (q2, .inl (c2, 60, .inl (fun _ => iI 0)))] := hD
  refine lv_aload_n hx hb d_Fi_init_25 rfl (lv_at hl 0 rfl) ?_
  refine lv_aload_n hx hb d_Fi_init_26 rfl (lv_at hl 2 rfl) ?_
  refine va_putF (D := D) (ci := 4) (v := .ref hc) (ty := .object "LegalRows$Cells") (C := R_Fi) (T := T_Fi) (N := 8) hx hb hts in_Fi t_Fi to_Fi nm_Fi hown hK hP hD hS 0 rfl rfl 1 (by decide) (hts _ tw_180) (fun _ h => h) rfl hin rfl (by decide +kernel) rfl rfl (Nat.le_of_ble_eq_true rfl) d_Fi_init_27 (fun H locs hP hD hS => ?_)
  have hP : va_P D vCl [(h0, .inr (4, [.ref hg, .ref hc, .null, .ref q1, .ref q2, .null, .null, .null])), (hg, .inr (1, [.int (iI r), .int (iI st), .ref g6, .ref g7, .ref g8, .int (iI r)])), (g6, .inl (c0, mo, .inl (fun j : Nat => iI (g_row r j)))), (q1, .inl (c1, 60, .inl (fun _ => iI 0))), (q2, .inl (c2, 60, .inl (fun _ => iI 0)))] H := hP
  have hD : va_D A [(h0, .inr (4, [.ref hg, .ref hc, .null, .ref q1, .ref q2, .null, .null, .null])), (hg, .inr (1, [.int (iI r), .int (iI st), .ref g6, .ref g7, .ref g8, .int (iI r)])), (g6, .inl (c0, mo, .inl (fun j : Nat => iI (g_row r j)))), (q1, .inl (c1, 60, .inl (fun _ => iI 0))), (q2, .inl (c2, 60, .inl (fun _ => iI 0)))] := hD
  refine lv_aload_n hx hb d_Fi_init_30 rfl (lv_at hl 0 rfl) ?_
  refine va_new (ci := 5) (fs := [.null, .null, .null, .null, .null, .null, .int (iI 0), .int (iI 0), .int (iI 0), .int (iI 0)]) (C := R_Li) (T := T_Li) (N := 10) hx hb hts in_Li t_Li to_Li hown (hts _ tw_141) (hts _ tw_142) (hts _ tw_7) hK hP hD hS hA rfl (by decide +kernel) (by show _ ≤ 11; omega) (by show _ ≤ 24500; omega) d_Fi_init_31 (fun q3 H hP hD hS => ?_)
  have hP : va_P D vCl [(h0, .inr (4, [.ref hg, .ref hc, .null, .ref q1, .ref q2, .null, .null, .null])), (hg, .inr (1, [.int (iI r), .int (iI st), .ref g6, .ref g7, .ref g8, .int (iI r)])), (g6, .inl (c0, mo, .inl (fun j : Nat => iI (g_row r j)))), (q1, .inl (c1, 60, .inl (fun _ => iI 0))), (q2, .inl (c2, 60, .inl (fun _ => iI 0))), (q3, .inr (5, [.null, .null, .null, .null, .null, .null, .int (iI 0), .int (iI 0), .int (iI 0), .int (iI 0)]))] H := hP
  have hD : va_D A [(h0, .inr (4, [.ref hg, .ref hc, .null, .ref q1, .ref q2, .null, .null, .null])), (hg, .inr (1, [.int (iI r), .int (iI st), .ref g6, .ref g7, .ref g8, .int (iI r)])), (g6, .inl (c0, mo, .inl (fun j : Nat => iI (g_row r j)))), (q1, .inl (c1, 60, .inl (fun _ => iI 0))), (q2, .inl (c2, 60, .inl (fun _ => iI 0))), (q3, .inr (5, [.null, .null, .null, .null, .null, .null, .int (iI 0), .int (iI 0), .int (iI 0), .int (iI 0)]))] := hD
  refine lv_dup hx hb d_Fi_init_34 rfl ?_
  refine lv_aload_n hx hb d_Fi_init_35 rfl (lv_at hl 2 rfl) ?_
  have hPc := hP.sub (ws' := [(q3, .inr (5, [.null, .null, .null, .null, .null, .null, .int (iI 0), .int (iI 0), .int (iI 0), .int (iI 0)]))]) [5] rfl
  have hDc := hD.sub (ws' := [(q3, .inr (5, [.null, .null, .null, .null, .null, .null, .int (iI 0), .int (iI 0), .int (iI 0), .int (iI 0)]))]) [5] (by decide) rfl
  have hKc := hK.sub (tys' := []) [] rfl
  have hFc := va_free (wc := [(q3, .inr (5, [.null, .null, .null, .null, .null, .null, .int (iI 0), .int (iI 0), .int (iI 0), .int (iI 0)]))]) hD hS hA [5] rfl
  refine va_callv (va_runI (As := [.ref hc]) (rest := [.ref q3, .ref h0]) ⟨hx, hb, hml, hown, hts⟩ (ct_Li_init l D _ q3 hc) (cwI 1 hts (gW tw_145) rfl rfl rfl (hts _ tw_7) (hts _ tw_143) (hts _ tw_144) rfl (by decide +kernel) ⟨Nat.le_of_ble_eq_true rfl, Nat.le_of_ble_eq_true rfl⟩) ⟨fun a U g mk q => by obtain ⟨q0, q1, qP, qK, qD⟩ := q; exact ⟨q0, q1, qP, va_K.moved (u := U) (U := U.calling g mk a) (Vm.Alike.refl U.vm) qK, qD⟩, fun U hU hW => ⟨rfl, by rw [hU], by rw [hU]; exact hPc, va_K.moved hW.alike hKc, hDc.weaken (fun _ _ _ _ => trivial)⟩⟩ rfl rfl hl.1 rfl (lv_room (Nat.le_of_ble_eq_true rfl)) d_Fi_init_36 ⟨by show _ ≤ 11; omega, by show _ ≤ 24500; omega⟩) hS (fun q _ h => hFc q h) hFc (fun u t H1 locs ht hvm hw hB hz1 hk1 hS => ?_)
  obtain ⟨aL, cL⟩ := u
  obtain ⟨hP1, hK1, hD1⟩ := hB
  rw [ht] at hP1
  have hK1 := va_K.moved hvm.symm hK1
  obtain ⟨hP, hD⟩ := va_join (wr := [(h0, .inr (4, [.ref hg, .ref hc, .null, .ref q1, .ref q2, .null, .null, .null])), (hg, .inr (1, [.int (iI r), .int (iI st), .ref g6, .ref g7, .ref g8, .int (iI r)])), (g6, .inl (c0, mo, .inl (fun j : Nat => iI (g_row r j)))), (q1, .inl (c1, 60, .inl (fun _ => iI 0))), (q2, .inl (c2, 60, .inl (fun _ => iI 0)))]) (w1 := [(q3, .inr (5, [.ref hc, .ref (aL 25), .ref (aL 26), .ref (aL 27), .ref (aL 28), .ref (aL 29), .int (iI 0), .int (iI 0), .int (iI 0), .int (iI 0)])), ((aL 25), .inl ((cL 19), 60, .inl (fun _ => iI 0))), ((aL 26), .inl ((cL 20), 60, .inl (fun _ => iI 0))), ((aL 27), .inl ((cL 21), 60, .inl (fun _ => iI 0))), ((aL 28), .inl ((cL 22), 60, .inl (fun _ => iI 0))), ((aL 29), .inl ((cL 23), 61, .inl (fun _ => iI 0)))]) hP hD [5] [0, 1, 2, 3, 4] rfl rfl (by decide) (by decide) hk1 hFc hP1 hD1
  have hK := (hK.sub (tys' := [(c0, .int), (c1, .int), (c2, .int)]) [0, 1, 2] rfl).app hK1
  generalize H1 = H at hP hS ⊢
  have hP : va_P D vCl [(h0, .inr (4, [.ref hg, .ref hc, .null, .ref q1, .ref q2, .null, .null, .null])), (hg, .inr (1, [.int (iI r), .int (iI st), .ref g6, .ref g7, .ref g8, .int (iI r)])), (g6, .inl (c0, mo, .inl (fun j : Nat => iI (g_row r j)))), (q1, .inl (c1, 60, .inl (fun _ => iI 0))), (q2, .inl (c2, 60, .inl (fun _ => iI 0))), (q3, .inr (5, [.ref hc, .ref (aL 25), .ref (aL 26), .ref (aL 27), .ref (aL 28), .ref (aL 29), .int (iI 0), .int (iI 0), .int (iI 0), .int (iI 0)])), ((aL 25), .inl ((cL 19), 60, .inl (fun _ => iI 0))), ((aL 26), .inl ((cL 20), 60, .inl (fun _ => iI 0))), ((aL 27), .inl ((cL 21), 60, .inl (fun _ => iI 0))), ((aL 28), .inl ((cL 22), 60, .inl (fun _ => iI 0))), ((aL 29), .inl ((cL 23), 61, .inl (fun _ => iI 0)))] H := hP
  have hD : va_D A [(h0, .inr (4, [.ref hg, .ref hc, .null, .ref q1, .ref q2, .null, .null, .null])), (hg, .inr (1, [.int (iI r), .int (iI st), .ref g6, .ref g7, .ref g8, .int (iI r)])), (g6, .inl (c0, mo, .inl (fun j : Nat => iI (g_row r j)))), (q1, .inl (c1, 60, .inl (fun _ => iI 0))), (q2, .inl (c2, 60, .inl (fun _ => iI 0))), (q3, .inr (5, [.ref hc, .ref (aL 25), .ref (aL 26), .ref (aL 27), .ref (aL 28), .ref (aL 29), .int (iI 0), .int (iI 0), .int (iI 0), .int (iI 0)])), ((aL 25), .inl ((cL 19), 60, .inl (fun _ => iI 0))), ((aL 26), .inl ((cL 20), 60, .inl (fun _ => iI 0))), ((aL 27), .inl ((cL 21), 60, .inl (fun _ => iI 0))), ((aL 28), .inl ((cL 22), 60, .inl (fun _ => iI 0))), ((aL 29), .inl ((cL 23), 61, .inl (fun _ => iI 0)))] := hD
  have hK : va_K D vCl [(c0, .int), (c1, .int), (c2, .int), ((cL 19), .int), ((cL 20), .int), ((cL 21), .int), ((cL 22), .int), ((cL 23), .int)] s := hK
  refine va_putF (D := D) (ci := 4) (v := .ref q3) (ty := .object "LegalRows$Line") (C := R_Fi) (T := T_Fi) (N := 8) hx hb hts in_Fi t_Fi to_Fi nm_Fi hown hK hP hD hS 0 rfl rfl 2 (by decide) (hts _ tw_181) (fun _ h => h) rfl hin rfl (by decide +kernel) rfl rfl (Nat.le_of_ble_eq_true rfl) d_Fi_init_39 (fun H locs hP hD hS => ?_)
  have hP : va_P D vCl [(h0, .inr (4, [.ref hg, .ref hc, .ref q3, .ref q1, .ref q2, .null, .null, .null])), (hg, .inr (1, [.int (iI r), .int (iI st), .ref g6, .ref g7, .ref g8, .int (iI r)])), (g6, .inl (c0, mo, .inl (fun j : Nat => iI (g_row r j)))), (q1, .inl (c1, 60, .inl (fun _ => iI 0))), (q2, .inl (c2, 60, .inl (fun _ => iI 0))), (q3, .inr (5, [.ref hc, .ref (aL 25), .ref (aL 26), .ref (aL 27), .ref (aL 28), .ref (aL 29), .int (iI 0), .int (iI 0), .int (iI 0), .int (iI 0)])), ((aL 25), .inl ((cL 19), 60, .inl (fun _ => iI 0))), ((aL 26), .inl ((cL 20), 60, .inl (fun _ => iI 0))), ((aL 27), .inl ((cL 21), 60, .inl (fun _ => iI 0))), ((aL 28), .inl ((cL 22), 60, .inl (fun _ => iI 0))), ((aL 29), .inl ((cL 23), 61, .inl (fun _ => iI 0)))] H := hP
  have hD : va_D A [(h0, .inr (4, [.ref hg, .ref hc, .ref q3, .ref q1, .ref q2, .null, .null, .null])), (hg, .inr (1, [.int (iI r), .int (iI st), .ref g6, .ref g7, .ref g8, .int (iI r)])), (g6, .inl (c0, mo, .inl (fun j : Nat => iI (g_row r j)))), (q1, .inl (c1, 60, .inl (fun _ => iI 0))), (q2, .inl (c2, 60, .inl (fun _ => iI 0))), (q3, .inr (5, [.ref hc, .ref (aL 25), .ref (aL 26), .ref (aL 27), .ref (aL 28), .ref (aL 29), .int (iI 0), .int (iI 0), .int (iI 0), .int (iI 0)])), ((aL 25), .inl ((cL 19), 60, .inl (fun _ => iI 0))), ((aL 26), .inl ((cL 20), 60, .inl (fun _ => iI 0))), ((aL 27), .inl ((cL 21), 60, .inl (fun _ => iI 0))), ((aL 28), .inl ((cL 22), 60, .inl (fun _ => iI 0))), ((aL 29), .inl ((cL 23), 61, .inl (fun _ => iI 0)))] := hD
  refine lv_aload_n hx hb d_Fi_init_42 rfl (lv_at hl 1 rfl) ?_
  refine va_get (D := D) (ci := 1) (v := .ref g6) (C := R_Gr) (T := T_Gr) (N := 6) hx hb hts in_Gr hown hK hP 1 rfl rfl 2 (by decide) (hts _ tw_48) (fun _ h => h) rfl d_Fi_init_43 ?_
  refine va_alen hx hb hK hP 2 0 rfl rfl (iI_ofNat _) d_Fi_init_46 ?_
  refine lv_istore_n (lv' := [(3, .int (iI (mo : Int))), (0, .ref h0), (1, .ref hg), (2, .ref hc)]) hx hb d_Fi_init_47 rfl hl (by decide) rfl (fun ls hl => ?_)
  refine lv_aload_n hx hb d_Fi_init_48 rfl (lv_at hl 1 rfl) ?_
  refine lv_iload_n hx hb d_Fi_init_49 rfl (lv_at hl 0 rfl) ?_
  refine va_newa (atype := .int) (ty := .int) (N' := mo) (a0 := (mo, .inl (fun _ => iI 0))) hx hb (hts _ tw_68) rfl hK hP hD hS hA (fun _ => rfl) (nw_n hmo hmo2).1 (nw_n hmo hmo2).2 (by show mo * 4 ≤ 536870912; omega) (by show _ ≤ 11; omega) (by show _ ≤ 24500; omega) d_Fi_init_50 (fun q4 c4 H hK hP hD hS => ?_)
  have hP : va_P D vCl [(h0, .inr (4, [.ref hg, .ref hc, .ref q3, .ref q1, .ref q2, .null, .null, .null])), (hg, .inr (1, [.int (iI r), .int (iI st), .ref g6, .ref g7, .ref g8, .int (iI r)])), (g6, .inl (c0, mo, .inl (fun j : Nat => iI (g_row r j)))), (q1, .inl (c1, 60, .inl (fun _ => iI 0))), (q2, .inl (c2, 60, .inl (fun _ => iI 0))), (q3, .inr (5, [.ref hc, .ref (aL 25), .ref (aL 26), .ref (aL 27), .ref (aL 28), .ref (aL 29), .int (iI 0), .int (iI 0), .int (iI 0), .int (iI 0)])), ((aL 25), .inl ((cL 19), 60, .inl (fun _ => iI 0))), ((aL 26), .inl ((cL 20), 60, .inl (fun _ => iI 0))), ((aL 27), .inl ((cL 21), 60, .inl (fun _ => iI 0))), ((aL 28), .inl ((cL 22), 60, .inl (fun _ => iI 0))), ((aL 29), .inl ((cL 23), 61, .inl (fun _ => iI 0))), (q4, .inl (c4, mo, .inl (fun _ => iI 0)))] H := hP
  have hD : va_D A [(h0, .inr (4, [.ref hg, .ref hc, .ref q3, .ref q1, .ref q2, .null, .null, .null])), (hg, .inr (1, [.int (iI r), .int (iI st), .ref g6, .ref g7, .ref g8, .int (iI r)])), (g6, .inl (c0, mo, .inl (fun j : Nat => iI (g_row r j)))), (q1, .inl (c1, 60, .inl (fun _ => iI 0))), (q2, .inl (c2, 60, .inl (fun _ => iI 0))), (q3, .inr (5, [.ref hc, .ref (aL 25), .ref (aL 26), .ref (aL 27), .ref (aL 28), .ref (aL 29), .int (iI 0), .int (iI 0), .int (iI 0), .int (iI 0)])), ((aL 25), .inl ((cL 19), 60, .inl (fun _ => iI 0))), ((aL 26), .inl ((cL 20), 60, .inl (fun _ => iI 0))), ((aL 27), .inl ((cL 21), 60, .inl (fun _ => iI 0))), ((aL 28), .inl ((cL 22), 60, .inl (fun _ => iI 0))), ((aL 29), .inl ((cL 23), 61, .inl (fun _ => iI 0))), (q4, .inl (c4, mo, .inl (fun _ => iI 0)))] := hD
  have hK : va_K D vCl [(c0, .int), (c1, .int), (c2, .int), ((cL 19), .int), ((cL 20), .int), ((cL 21), .int), ((cL 22), .int), ((cL 23), .int), (c4, .int)] s := hK
  refine va_putF (D := D) (ci := 4) (v := .ref q4) (ty := .array .int) (C := R_Fi) (T := T_Fi) (N := 8) hx hb hts in_Fi t_Fi to_Fi nm_Fi hown hK hP hD hS 0 rfl rfl 5 (by decide) (hts _ tw_184) (fun _ h => h) rfl hin rfl (by decide +kernel) rfl rfl (Nat.le_of_ble_eq_true rfl) d_Fi_init_52 (fun H locs hP hD hS => ?_)
  have hP : va_P D vCl [(h0, .inr (4, [.ref hg, .ref hc, .ref q3, .ref q1, .ref q2, .ref q4, .null, .null])), (hg, .inr (1, [.int (iI r), .int (iI st), .ref g6, .ref g7, .ref g8, .int (iI r)])), (g6, .inl (c0, mo, .inl (fun j : Nat => iI (g_row r j)))), (q1, .inl (c1, 60, .inl (fun _ => iI 0))), (q2, .inl (c2, 60, .inl (fun _ => iI 0))), (q3, .inr (5, [.ref hc, .ref (aL 25), .ref (aL 26), .ref (aL 27), .ref (aL 28), .ref (aL 29), .int (iI 0), .int (iI 0), .int (iI 0), .int (iI 0)])), ((aL 25), .inl ((cL 19), 60, .inl (fun _ => iI 0))), ((aL 26), .inl ((cL 20), 60, .inl (fun _ => iI 0))), ((aL 27), .inl ((cL 21), 60, .inl (fun _ => iI 0))), ((aL 28), .inl ((cL 22), 60, .inl (fun _ => iI 0))), ((aL 29), .inl ((cL 23), 61, .inl (fun _ => iI 0))), (q4, .inl (c4, mo, .inl (fun _ => iI 0)))] H := hP
  have hD : va_D A [(h0, .inr (4, [.ref hg, .ref hc, .ref q3, .ref q1, .ref q2, .ref q4, .null, .null])), (hg, .inr (1, [.int (iI r), .int (iI st), .ref g6, .ref g7, .ref g8, .int (iI r)])), (g6, .inl (c0, mo, .inl (fun j : Nat => iI (g_row r j)))), (q1, .inl (c1, 60, .inl (fun _ => iI 0))), (q2, .inl (c2, 60, .inl (fun _ => iI 0))), (q3, .inr (5, [.ref hc, .ref (aL 25), .ref (aL 26), .ref (aL 27), .ref (aL 28), .ref (aL 29), .int (iI 0), .int (iI 0), .int (iI 0), .int (iI 0)])), ((aL 25), .inl ((cL 19), 60, .inl (fun _ => iI 0))), ((aL 26), .inl ((cL 20), 60, .inl (fun _ => iI 0))), ((aL 27), .inl ((cL 21), 60, .inl (fun _ => iI 0))), ((aL 28), .inl ((cL 22), 60, .inl (fun _ => iI 0))), ((aL 29), .inl ((cL 23), 61, .inl (fun _ => iI 0))), (q4, .inl (c4, mo, .inl (fun _ => iI 0)))] := hD
  refine lv_aload_n hx hb d_Fi_init_55 rfl (lv_at hl 1 rfl) ?_
  refine lv_iload_n hx hb d_Fi_init_56 rfl (lv_at hl 0 rfl) ?_
  refine va_newa (atype := .int) (ty := .int) (N' := mo) (a0 := (mo, .inl (fun _ => iI 0))) hx hb (hts _ tw_68) rfl hK hP hD hS hA (fun _ => rfl) (nw_n hmo hmo2).1 (nw_n hmo hmo2).2 (by show mo * 4 ≤ 536870912; omega) (by show _ ≤ 11; omega) (by show _ ≤ 24500; omega) d_Fi_init_57 (fun q5 c5 H hK hP hD hS => ?_)
  have hP : va_P D vCl [(h0, .inr (4, [.ref hg, .ref hc, .ref q3, .ref q1, .ref q2, .ref q4, .null, .null])), (hg, .inr (1, [.int (iI r), .int (iI st), .ref g6, .ref g7, .ref g8, .int (iI r)])), (g6, .inl (c0, mo, .inl (fun j : Nat => iI (g_row r j)))), (q1, .inl (c1, 60, .inl (fun _ => iI 0))), (q2, .inl (c2, 60, .inl (fun _ => iI 0))), (q3, .inr (5, [.ref hc, .ref (aL 25), .ref (aL 26), .ref (aL 27), .ref (aL 28), .ref (aL 29), .int (iI 0), .int (iI 0), .int (iI 0), .int (iI 0)])), ((aL 25), .inl ((cL 19), 60, .inl (fun _ => iI 0))), ((aL 26), .inl ((cL 20), 60, .inl (fun _ => iI 0))), ((aL 27), .inl ((cL 21), 60, .inl (fun _ => iI 0))), ((aL 28), .inl ((cL 22), 60, .inl (fun _ => iI 0))), ((aL 29), .inl ((cL 23), 61, .inl (fun _ => iI 0))), (q4, .inl (c4, mo, .inl (fun _ => iI 0))), (q5, .inl (c5, mo, .inl (fun _ => iI 0)))] H := hP
  have hD : va_D A [(h0, .inr (4, [.ref hg, .ref hc, .ref q3, .ref q1, .ref q2, .ref q4, .null, .null])), (hg, .inr (1, [.int (iI r), .int (iI st), .ref g6, .ref g7, .ref g8, .int (iI r)])), (g6, .inl (c0, mo, .inl (fun j : Nat => iI (g_row r j)))), (q1, .inl (c1, 60, .inl (fun _ => iI 0))), (q2, .inl (c2, 60, .inl (fun _ => iI 0))), (q3, .inr (5, [.ref hc, .ref (aL 25), .ref (aL 26), .ref (aL 27), .ref (aL 28), .ref (aL 29), .int (iI 0), .int (iI 0), .int (iI 0), .int (iI 0)])), ((aL 25), .inl ((cL 19), 60, .inl (fun _ => iI 0))), ((aL 26), .inl ((cL 20), 60, .inl (fun _ => iI 0))), ((aL 27), .inl ((cL 21), 60, .inl (fun _ => iI 0))), ((aL 28), .inl ((cL 22), 60, .inl (fun _ => iI 0))), ((aL 29), .inl ((cL 23), 61, .inl (fun _ => iI 0))), (q4, .inl (c4, mo, .inl (fun _ => iI 0))), (q5, .inl (c5, mo, .inl (fun _ => iI 0)))] := hD
  have hK : va_K D vCl [(c0, .int), (c1, .int), (c2, .int), ((cL 19), .int), ((cL 20), .int), ((cL 21), .int), ((cL 22), .int), ((cL 23), .int), (c4, .int), (c5, .int)] s := hK
  refine va_putF (D := D) (ci := 4) (v := .ref q5) (ty := .array .int) (C := R_Fi) (T := T_Fi) (N := 8) hx hb hts in_Fi t_Fi to_Fi nm_Fi hown hK hP hD hS 0 rfl rfl 6 (by decide) (hts _ tw_185) (fun _ h => h) rfl hin rfl (by decide +kernel) rfl rfl (Nat.le_of_ble_eq_true rfl) d_Fi_init_59 (fun H locs hP hD hS => ?_)
  have hP : va_P D vCl [(h0, .inr (4, [.ref hg, .ref hc, .ref q3, .ref q1, .ref q2, .ref q4, .ref q5, .null])), (hg, .inr (1, [.int (iI r), .int (iI st), .ref g6, .ref g7, .ref g8, .int (iI r)])), (g6, .inl (c0, mo, .inl (fun j : Nat => iI (g_row r j)))), (q1, .inl (c1, 60, .inl (fun _ => iI 0))), (q2, .inl (c2, 60, .inl (fun _ => iI 0))), (q3, .inr (5, [.ref hc, .ref (aL 25), .ref (aL 26), .ref (aL 27), .ref (aL 28), .ref (aL 29), .int (iI 0), .int (iI 0), .int (iI 0), .int (iI 0)])), ((aL 25), .inl ((cL 19), 60, .inl (fun _ => iI 0))), ((aL 26), .inl ((cL 20), 60, .inl (fun _ => iI 0))), ((aL 27), .inl ((cL 21), 60, .inl (fun _ => iI 0))), ((aL 28), .inl ((cL 22), 60, .inl (fun _ => iI 0))), ((aL 29), .inl ((cL 23), 61, .inl (fun _ => iI 0))), (q4, .inl (c4, mo, .inl (fun _ => iI 0))), (q5, .inl (c5, mo, .inl (fun _ => iI 0)))] H := hP
  have hD : va_D A [(h0, .inr (4, [.ref hg, .ref hc, .ref q3, .ref q1, .ref q2, .ref q4, .ref q5, .null])), (hg, .inr (1, [.int (iI r), .int (iI st), .ref g6, .ref g7, .ref g8, .int (iI r)])), (g6, .inl (c0, mo, .inl (fun j : Nat => iI (g_row r j)))), (q1, .inl (c1, 60, .inl (fun _ => iI 0))), (q2, .inl (c2, 60, .inl (fun _ => iI 0))), (q3, .inr (5, [.ref hc, .ref (aL 25), .ref (aL 26), .ref (aL 27), .ref (aL 28), .ref (aL 29), .int (iI 0), .int (iI 0), .int (iI 0), .int (iI 0)])), ((aL 25), .inl ((cL 19), 60, .inl (fun _ => iI 0))), ((aL 26), .inl ((cL 20), 60, .inl (fun _ => iI 0))), ((aL 27), .inl ((cL 21), 60, .inl (fun _ => iI 0))), ((aL 28), .inl ((cL 22), 60, .inl (fun _ => iI 0))), ((aL 29), .inl ((cL 23), 61, .inl (fun _ => iI 0))), (q4, .inl (c4, mo, .inl (fun _ => iI 0))), (q5, .inl (c5, mo, .inl (fun _ => iI 0)))] := hD
  refine lv_aload_n hx hb d_Fi_init_62 rfl (lv_at hl 1 rfl) ?_
  refine lv_iload_n hx hb d_Fi_init_63 rfl (lv_at hl 0 rfl) ?_
  refine va_newa (atype := .int) (ty := .int) (N' := mo) (a0 := (mo, .inl (fun _ => iI 0))) hx hb (hts _ tw_68) rfl hK hP hD hS hA (fun _ => rfl) (nw_n hmo hmo2).1 (nw_n hmo hmo2).2 (by show mo * 4 ≤ 536870912; omega) (by show _ ≤ 11; omega) (by show _ ≤ 24500; omega) d_Fi_init_64 (fun q6 c6 H hK hP hD hS => ?_)
  have hP : va_P D vCl [(h0, .inr (4, [.ref hg, .ref hc, .ref q3, .ref q1, .ref q2, .ref q4, .ref q5, .null])), (hg, .inr (1, [.int (iI r), .int (iI st), .ref g6, .ref g7, .ref g8, .int (iI r)])), (g6, .inl (c0, mo, .inl (fun j : Nat => iI (g_row r j)))), (q1, .inl (c1, 60, .inl (fun _ => iI 0))), (q2, .inl (c2, 60, .inl (fun _ => iI 0))), (q3, .inr (5, [.ref hc, .ref (aL 25), .ref (aL 26), .ref (aL 27), .ref (aL 28), .ref (aL 29), .int (iI 0), .int (iI 0), .int (iI 0), .int (iI 0)])), ((aL 25), .inl ((cL 19), 60, .inl (fun _ => iI 0))), ((aL 26), .inl ((cL 20), 60, .inl (fun _ => iI 0))), ((aL 27), .inl ((cL 21), 60, .inl (fun _ => iI 0))), ((aL 28), .inl ((cL 22), 60, .inl (fun _ => iI 0))), ((aL 29), .inl ((cL 23), 61, .inl (fun _ => iI 0))), (q4, .inl (c4, mo, .inl (fun _ => iI 0))), (q5, .inl (c5, mo, .inl (fun _ => iI 0))), (q6, .inl (c6, mo, .inl (fun _ => iI 0)))] H := hP
  have hD : va_D A [(h0, .inr (4, [.ref hg, .ref hc, .ref q3, .ref q1, .ref q2, .ref q4, .ref q5, .null])), (hg, .inr (1, [.int (iI r), .int (iI st), .ref g6, .ref g7, .ref g8, .int (iI r)])), (g6, .inl (c0, mo, .inl (fun j : Nat => iI (g_row r j)))), (q1, .inl (c1, 60, .inl (fun _ => iI 0))), (q2, .inl (c2, 60, .inl (fun _ => iI 0))), (q3, .inr (5, [.ref hc, .ref (aL 25), .ref (aL 26), .ref (aL 27), .ref (aL 28), .ref (aL 29), .int (iI 0), .int (iI 0), .int (iI 0), .int (iI 0)])), ((aL 25), .inl ((cL 19), 60, .inl (fun _ => iI 0))), ((aL 26), .inl ((cL 20), 60, .inl (fun _ => iI 0))), ((aL 27), .inl ((cL 21), 60, .inl (fun _ => iI 0))), ((aL 28), .inl ((cL 22), 60, .inl (fun _ => iI 0))), ((aL 29), .inl ((cL 23), 61, .inl (fun _ => iI 0))), (q4, .inl (c4, mo, .inl (fun _ => iI 0))), (q5, .inl (c5, mo, .inl (fun _ => iI 0))), (q6, .inl (c6, mo, .inl (fun _ => iI 0)))] := hD
  have hK : va_K D vCl [(c0, .int), (c1, .int), (c2, .int), ((cL 19), .int), ((cL 20), .int), ((cL 21), .int), ((cL 22), .int), ((cL 23), .int), (c4, .int), (c5, .int), (c6, .int)] s := hK
  refine va_putF (D := D) (ci := 4) (v := .ref q6) (ty := .array .int) (C := R_Fi) (T := T_Fi) (N := 8) hx hb hts in_Fi t_Fi to_Fi nm_Fi hown hK hP hD hS 0 rfl rfl 7 (by decide) (hts _ tw_186) (fun _ h => h) rfl hin rfl (by decide +kernel) rfl rfl (Nat.le_of_ble_eq_true rfl) d_Fi_init_66 (fun H locs hP hD hS => ?_)
  have hP : va_P D vCl [(h0, .inr (4, [.ref hg, .ref hc, .ref q3, .ref q1, .ref q2, .ref q4, .ref q5, .ref q6])), (hg, .inr (1, [.int (iI r), .int (iI st), .ref g6, .ref g7, .ref g8, .int (iI r)])), (g6, .inl (c0, mo, .inl (fun j : Nat => iI (g_row r j)))), (q1, .inl (c1, 60, .inl (fun _ => iI 0))), (q2, .inl (c2, 60, .inl (fun _ => iI 0))), (q3, .inr (5, [.ref hc, .ref (aL 25), .ref (aL 26), .ref (aL 27), .ref (aL 28), .ref (aL 29), .int (iI 0), .int (iI 0), .int (iI 0), .int (iI 0)])), ((aL 25), .inl ((cL 19), 60, .inl (fun _ => iI 0))), ((aL 26), .inl ((cL 20), 60, .inl (fun _ => iI 0))), ((aL 27), .inl ((cL 21), 60, .inl (fun _ => iI 0))), ((aL 28), .inl ((cL 22), 60, .inl (fun _ => iI 0))), ((aL 29), .inl ((cL 23), 61, .inl (fun _ => iI 0))), (q4, .inl (c4, mo, .inl (fun _ => iI 0))), (q5, .inl (c5, mo, .inl (fun _ => iI 0))), (q6, .inl (c6, mo, .inl (fun _ => iI 0)))] H := hP
  have hD : va_D A [(h0, .inr (4, [.ref hg, .ref hc, .ref q3, .ref q1, .ref q2, .ref q4, .ref q5, .ref q6])), (hg, .inr (1, [.int (iI r), .int (iI st), .ref g6, .ref g7, .ref g8, .int (iI r)])), (g6, .inl (c0, mo, .inl (fun j : Nat => iI (g_row r j)))), (q1, .inl (c1, 60, .inl (fun _ => iI 0))), (q2, .inl (c2, 60, .inl (fun _ => iI 0))), (q3, .inr (5, [.ref hc, .ref (aL 25), .ref (aL 26), .ref (aL 27), .ref (aL 28), .ref (aL 29), .int (iI 0), .int (iI 0), .int (iI 0), .int (iI 0)])), ((aL 25), .inl ((cL 19), 60, .inl (fun _ => iI 0))), ((aL 26), .inl ((cL 20), 60, .inl (fun _ => iI 0))), ((aL 27), .inl ((cL 21), 60, .inl (fun _ => iI 0))), ((aL 28), .inl ((cL 22), 60, .inl (fun _ => iI 0))), ((aL 29), .inl ((cL 23), 61, .inl (fun _ => iI 0))), (q4, .inl (c4, mo, .inl (fun _ => iI 0))), (q5, .inl (c5, mo, .inl (fun _ => iI 0))), (q6, .inl (c6, mo, .inl (fun _ => iI 0)))] := hD
  have hP := hP.sub (ws' := [(h0, .inr (4, [.ref hg, .ref hc, .ref q3, .ref q1, .ref q2, .ref q4, .ref q5, .ref q6])), (q1, .inl (c1, 60, .inl (fun _ => iI 0))), (q2, .inl (c2, 60, .inl (fun _ => iI 0))), (q4, .inl (c4, mo, .inl (fun _ => iI 0))), (q5, .inl (c5, mo, .inl (fun _ => iI 0))), (q6, .inl (c6, mo, .inl (fun _ => iI 0))), (q3, .inr (5, [.ref hc, .ref (aL 25), .ref (aL 26), .ref (aL 27), .ref (aL 28), .ref (aL 29), .int (iI 0), .int (iI 0), .int (iI 0), .int (iI 0)])), ((aL 25), .inl ((cL 19), 60, .inl (fun _ => iI 0))), ((aL 26), .inl ((cL 20), 60, .inl (fun _ => iI 0))), ((aL 27), .inl ((cL 21), 60, .inl (fun _ => iI 0))), ((aL 28), .inl ((cL 22), 60, .inl (fun _ => iI 0))), ((aL 29), .inl ((cL 23), 61, .inl (fun _ => iI 0))), (hg, .inr (1, [.int (iI r), .int (iI st), .ref g6, .ref g7, .ref g8, .int (iI r)])), (g6, .inl (c0, mo, .inl (fun j : Nat => iI (g_row r j))))]) [0, 3, 4, 11, 12, 13, 5, 6, 7, 8, 9, 10, 1, 2] rfl
  have hD := hD.sub (ws' := [(h0, .inr (4, [.ref hg, .ref hc, .ref q3, .ref q1, .ref q2, .ref q4, .ref q5, .ref q6])), (q1, .inl (c1, 60, .inl (fun _ => iI 0))), (q2, .inl (c2, 60, .inl (fun _ => iI 0))), (q4, .inl (c4, mo, .inl (fun _ => iI 0))), (q5, .inl (c5, mo, .inl (fun _ => iI 0))), (q6, .inl (c6, mo, .inl (fun _ => iI 0))), (q3, .inr (5, [.ref hc, .ref (aL 25), .ref (aL 26), .ref (aL 27), .ref (aL 28), .ref (aL 29), .int (iI 0), .int (iI 0), .int (iI 0), .int (iI 0)])), ((aL 25), .inl ((cL 19), 60, .inl (fun _ => iI 0))), ((aL 26), .inl ((cL 20), 60, .inl (fun _ => iI 0))), ((aL 27), .inl ((cL 21), 60, .inl (fun _ => iI 0))), ((aL 28), .inl ((cL 22), 60, .inl (fun _ => iI 0))), ((aL 29), .inl ((cL 23), 61, .inl (fun _ => iI 0))), (hg, .inr (1, [.int (iI r), .int (iI st), .ref g6, .ref g7, .ref g8, .int (iI r)])), (g6, .inl (c0, mo, .inl (fun j : Nat => iI (g_row r j))))]) [0, 3, 4, 11, 12, 13, 5, 6, 7, 8, 9, 10, 1, 2] (by decide) rfl
  have hK := hK.sub (tys' := [(c1, .int), (c2, .int), (c4, .int), (c5, .int), (c6, .int), ((cL 19), .int), ((cL 20), .int), ((cL 21), .int), ((cL 22), .int), ((cL 23), .int), (c0, .int)]) [1, 2, 8, 9, 10, 3, 4, 5, 6, 7, 0] rfl
  refine W.widen (k := 11) (n := 24500) (by omega) (by omega) ?_
  exact W.vret hx hb hr (fun t ht hW => ⟨⟨((fun k => if k = 5 then q3 else if k = 20 then q1 else if k = 21 then q2 else if k = 22 then q4 else if k = 23 then q5 else if k = 24 then q6 else aL k), (fun k => if k = 14 then c1 else if k = 15 then c2 else if k = 16 then c4 else if k = 17 then c5 else if k = 18 then c6 else cL k)), rfl, trivial, by rw [ht]; exact hP, va_K.moved hW.alike hK, hD⟩, hS.F ht⟩) hS.2.2 d_Fi_init_69 hlocks
