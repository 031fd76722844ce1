theorem nw_n {z : Int} {n : Nat} (hz : z = n) (hn : n < 2147483648) : ¬ iI z < 0 ∧ (iI z).toNatClampNeg = n := by
  subst hz
  refine ⟨fun h => ?_, ?_⟩
  · have := (iI_lt ⟨by omega, by omega⟩ rg_0).mp h
    omega
  · rw [iI_c (by omega) (by omega)]; rfl
def k_Ce (h0 : Nat) (a : Nat → Nat) (c : Nat → ClassId) : va_W := [(h0, .inr (2, [.ref (a 9), .ref (a 10), .ref (a 11), .ref (a 12), .ref (a 13), .ref (a 14), .ref (a 15), .ref (a 16), .int (iI 0)])), (a 9, .inl (c 3, 60, .inl (fun _ => iI 0))), (a 10, .inl (c 4, 60, .inl (fun _ => iI 0))), (a 11, .inl (c 5, 60, .inl (fun _ => iI 0))), (a 12, .inl (c 6, 60, .inl (fun _ => iI 0))), (a 13, .inl (c 7, 60, .inl (fun _ => iI 0))), (a 14, .inl (c 8, 60, .inl (fun _ => iI 0))), (a 15, .inl (c 9, 60, .inl (fun _ => iI 0))), (a 16, .inl (c 10, 16, .inl (fun _ => iI 0)))]
def kt_Ce (c : Nat → ClassId) : List (ClassId × FieldType) := [(c 3, .int), (c 4, .int), (c 5, .int), (c 6, .int), (c 7, .int), (c 8, .int), (c 9, .int), (c 10, .int)]
set_option maxHeartbeats 4000000 in
set_option maxRecDepth 100000 in
theorem ct_Ce_init (l : Launch) (D : va_G) (sz : Nat) (h0 : Nat)   : Met l y_Ce_init (Cond.code y_Ce_init c_Ce_init 1 (none) :: gT) ({ frames := 1, cells := 8, slots := 436, locals := 40 } : Room) (va_Pc [.ref h0] (fun U => U.heap.size = sz ∧ va_P D vCl [(h0, .inr (2, [.null, .null, .null, .null, .null, .null, .null, .null, .int (iI 0)]))] U.heap ∧ va_K D vCl [] U ∧ va_D (fun _ => True) [(h0, .inr (2, [.null, .null, .null, .null, .null, .null, .null, .null, .int (iI 0)]))])) (va_Qv (fun u : ((Nat → Nat) × (Nat → ClassId)) => True) (fun u t => va_P D vCl (k_Ce h0 u.1 u.2) t.heap ∧ va_K D vCl (kt_Ce u.2) t ∧ va_D (va_A [(h0, .inr (2, [.null, .null, .null, .null, .null, .null, .null, .null, .int (iI 0)]))] sz) (k_Ce h0 u.1 u.2)) (va_A [(h0, .inr (2, [.null, .null, .null, .null, .null, .null, .null, .null, .int (iI 0)]))] sz)) 8 436 (va_A [(h0, .inr (2, [.null, .null, .null, .null, .null, .null, .null, .null, .int (iI 0)]))] sz) := by
  refine Met.ofW (cc := c_Ce_init) (maxL := 1) (ret := none) (by decide) rfl ?_
  intro p e s m args below meth c s₁ B hml hv
  obtain ⟨rfl, hsz, hP, hK, hD0⟩ := hv
  have hx := B.exec
  have hb := B.bytes
  have hr := B.returns
  have hts0 := atoms_spec (ws := (Cond.code y_Ce_init c_Ce_init 1 (none) :: gT)) B.pre
  have hts : ∀ w ∈ gT, w.before _ s = true := fun w h => hts0 w (List.mem_cons_of_mem _ h)
  have hown : s.vm.findClass R_Ce = some m.cls := findClass_of_methodNamed B.named
  have hlocks := B.notSynchronized
  have hin : meth.name = "<init>" := (name_of_methodNamed B.named B.method).1
  subst hsz
  have hD := hD0.self (sz := s.heap.size)
  generalize hAe : va_A [(h0, .inr (2, [.null, .null, .null, .null, .null, .null, .null, .null, .int (iI 0)]))] s.heap.size = A at hD ⊢
  have hA : ∀ q : Nat, s.heap.size ≤ q → A q := fun q h => by rw [← hAe]; exact Or.inr h
  have hS : va_S A s.heap s.heap [] := va_S.rf
  have hP : va_P D vCl [(h0, .inr (2, [.null, .null, .null, .null, .null, .null, .null, .null, .int (iI 0)]))] s.heap := hP
  have hl := lv_entry [.ref h0] (n := 1) (Nat.le_of_ble_eq_true rfl)
  rw [lg_entry_eq]
  generalize (lg_sl [.ref h0] ++ List.replicate (1 - (lg_sl [.ref h0]).length) Slot.unset).toArray = ls at hl ⊢
  have hl : lv_has ls 1 [(0, .ref h0)] := hl
  refine lv_aload_n hx hb d_Ce_init_0 rfl (lv_at hl 0 rfl) ?_
  refine W.objInit hx hb hown (hts _ tw_74) (hts _ tw_22) (hts _ tw_23) rfl (by rw [hml]; exact hl.1) rfl d_Ce_init_1 (Nat.le_of_ble_eq_true rfl) (Nat.le_of_ble_eq_true rfl) ?_
  refine lv_aload_n hx hb d_Ce_init_4 rfl (lv_at hl 0 rfl) ?_
  refine r_bipush hx hb d_Ce_init_5 (by decide +kernel) ?_
  refine va_newa (atype := .int) (ty := .int) (N' := 60) (a0 := (60, .inl (fun _ => iI 0))) hx hb (hts _ tw_68) rfl hK hP hD hS hA (fun _ => rfl) (by decide +kernel) (by decide +kernel) (by decide +kernel) (by show _ ≤ 8; omega) (by show _ ≤ 436; omega) d_Ce_init_7 (fun q1 c1 H hK hP hD hS => ?_)
  have hP : va_P D vCl [(h0, .inr (2, [.null, .null, .null, .null, .null, .null, .null, .null, .int (iI 0)])), (q1, .inl (c1, 60, .inl (fun _ => iI 0)))] H := hP
  have hD : va_D A [(h0, .inr (2, [.null, .null, .null, .null, .null, .null, .null, .null, .int (iI 0)])), (q1, .inl (c1, 60, .inl (fun _ => iI 0)))] := hD
  have hK : va_K D vCl [(c1, .int)] s := hK
  refine va_putF (D := D) (ci := 2) (v := .ref q1) (ty := .array .int) (C := R_Ce) (T := T_Ce) (N := 9) hx hb hts in_Ce t_Ce to_Ce nm_Ce hown hK hP hD hS 0 rfl rfl 0 (by decide) (hts _ tw_75) (fun _ h => h) rfl hin rfl (by decide +kernel) rfl rfl (Nat.le_of_ble_eq_true rfl) d_Ce_init_9 (fun H locs hP hD hS => ?_)
  have hP : va_P D vCl [(h0, .inr (2, [.ref q1, .null, .null, .null, .null, .null, .null, .null, .int (iI 0)])), (q1, .inl (c1, 60, .inl (fun _ => iI 0)))] H := hP
  have hD : va_D A [(h0, .inr (2, [.ref q1, .null, .null, .null, .null, .null, .null, .null, .int (iI 0)])), (q1, .inl (c1, 60, .inl (fun _ => iI 0)))] := hD
  refine lv_aload_n hx hb d_Ce_init_12 rfl (lv_at hl 0 rfl) ?_
  refine r_bipush hx hb d_Ce_init_13 (by decide +kernel) ?_
  refine va_newa (atype := .int) (ty := .int) (N' := 60) (a0 := (60, .inl (fun _ => iI 0))) hx hb (hts _ tw_68) rfl hK hP hD hS hA (fun _ => rfl) (by decide +kernel) (by decide +kernel) (by decide +kernel) (by show _ ≤ 8; omega) (by show _ ≤ 436; omega) d_Ce_init_15 (fun q2 c2 H hK hP hD hS => ?_)
  have hP : va_P D vCl [(h0, .inr (2, [.ref q1, .null, .null, .null, .null, .null, .null, .null, .int (iI 0)])), (q1, .inl (c1, 60, .inl (fun _ => iI 0))), (q2, .inl (c2, 60, .inl (fun _ => iI 0)))] H := hP
  have hD : va_D A [(h0, .inr (2, [.ref q1, .null, .null, .null, .null, .null, .null, .null, .int (iI 0)])), (q1, .inl (c1, 60, .inl (fun _ => iI 0))), (q2, .inl (c2, 60, .inl (fun _ => iI 0)))] := hD
  have hK : va_K D vCl [(c1, .int), (c2, .int)] s := hK
  refine va_putF (D := D) (ci := 2) (v := .ref q2) (ty := .array .int) (C := R_Ce) (T := T_Ce) (N := 9) hx hb hts in_Ce t_Ce to_Ce nm_Ce hown hK hP hD hS 0 rfl rfl 1 (by decide) (hts _ tw_78) (fun _ h => h) rfl hin rfl (by decide +kernel) rfl rfl (Nat.le_of_ble_eq_true rfl) d_Ce_init_17 (fun H locs hP hD hS => ?_)
  have hP : va_P D vCl [(h0, .inr (2, [.ref q1, .ref q2, .null, .null, .null, .null, .null, .null, .int (iI 0)])), (q1, .inl (c1, 60, .inl (fun _ => iI 0))), (q2, .inl (c2, 60, .inl (fun _ => iI 0)))] H := hP
  have hD : va_D A [(h0, .inr (2, [.ref q1, .ref q2, .null, .null, .null, .null, .null, .null, .int (iI 0)])), (q1, .inl (c1, 60, .inl (fun _ => iI 0))), (q2, .inl (c2, 60, .inl (fun _ => iI 0)))] := hD
  refine lv_aload_n hx hb d_Ce_init_20 rfl (lv_at hl 0 rfl) ?_
  refine r_bipush hx hb d_Ce_init_21 (by decide +kernel) ?_
  refine va_newa (atype := .int) (ty := .int) (N' := 60) (a0 := (60, .inl (fun _ => iI 0))) hx hb (hts _ tw_68) rfl hK hP hD hS hA (fun _ => rfl) (by decide +kernel) (by decide +kernel) (by decide +kernel) (by show _ ≤ 8; omega) (by show _ ≤ 436; omega) d_Ce_init_23 (fun q3 c3 H hK hP hD hS => ?_)
  have hP : va_P D vCl [(h0, .inr (2, [.ref q1, .ref q2, .null, .null, .null, .null, .null, .null, .int (iI 0)])), (q1, .inl (c1, 60, .inl (fun _ => iI 0))), (q2, .inl (c2, 60, .inl (fun _ => iI 0))), (q3, .inl (c3, 60, .inl (fun _ => iI 0)))] H := hP
  have hD : va_D A [(h0, .inr (2, [.ref q1, .ref q2, .null, .null, .null, .null, .null, .null, .int (iI 0)])), (q1, .inl (c1, 60, .inl (fun _ => iI 0))), (q2, .inl (c2, 60, .inl (fun _ => iI 0))), (q3, .inl (c3, 60, .inl (fun _ => iI 0)))] := hD
  have hK : va_K D vCl [(c1, .int), (c2, .int), (c3, .int)] s := hK
  refine va_putF (D := D) (ci := 2) (v := .ref q3) (ty := .array .int) (C := R_Ce) (T := T_Ce) (N := 9) hx hb hts in_Ce t_Ce to_Ce nm_Ce hown hK hP hD hS 0 rfl rfl 2 (by decide) (hts _ tw_79) (fun _ h => h) rfl hin rfl (by decide +kernel) rfl rfl (Nat.le_of_ble_eq_true rfl) d_Ce_init_25 (fun H locs hP hD hS => ?_)
  have hP : va_P D vCl [(h0, .inr (2, [.ref q1, .ref q2, .ref q3, .null, .null, .null, .null, .null, .int (iI 0)])), (q1, .inl (c1, 60, .inl (fun _ => iI 0))), (q2, .inl (c2, 60, .inl (fun _ => iI 0))), (q3, .inl (c3, 60, .inl (fun _ => iI 0)))] H := hP
  have hD : va_D A [(h0, .inr (2, [.ref q1, .ref q2, .ref q3, .null, .null, .null, .null, .null, .int (iI 0)])), (q1, .inl (c1, 60, .inl (fun _ => iI 0))), (q2, .inl (c2, 60, .inl (fun _ => iI 0))), (q3, .inl (c3, 60, .inl (fun _ => iI 0)))] := hD
  refine lv_aload_n hx hb d_Ce_init_28 rfl (lv_at hl 0 rfl) ?_
  refine r_bipush hx hb d_Ce_init_29 (by decide +kernel) ?_
  refine va_newa (atype := .int) (ty := .int) (N' := 60) (a0 := (60, .inl (fun _ => iI 0))) hx hb (hts _ tw_68) rfl hK hP hD hS hA (fun _ => rfl) (by decide +kernel) (by decide +kernel) (by decide +kernel) (by show _ ≤ 8; omega) (by show _ ≤ 436; omega) d_Ce_init_31 (fun q4 c4 H hK hP hD hS => ?_)
  have hP : va_P D vCl [(h0, .inr (2, [.ref q1, .ref q2, .ref q3, .null, .null, .null, .null, .null, .int (iI 0)])), (q1, .inl (c1, 60, .inl (fun _ => iI 0))), (q2, .inl (c2, 60, .inl (fun _ => iI 0))), (q3, .inl (c3, 60, .inl (fun _ => iI 0))), (q4, .inl (c4, 60, .inl (fun _ => iI 0)))] H := hP
  have hD : va_D A [(h0, .inr (2, [.ref q1, .ref q2, .ref q3, .null, .null, .null, .null, .null, .int (iI 0)])), (q1, .inl (c1, 60, .inl (fun _ => iI 0))), (q2, .inl (c2, 60, .inl (fun _ => iI 0))), (q3, .inl (c3, 60, .inl (fun _ => iI 0))), (q4, .inl (c4, 60, .inl (fun _ => iI 0)))] := hD
  have hK : va_K D vCl [(c1, .int), (c2, .int), (c3, .int), (c4, .int)] s := hK
  refine va_putF (D := D) (ci := 2) (v := .ref q4) (ty := .array .int) (C := R_Ce) (T := T_Ce) (N := 9) hx hb hts in_Ce t_Ce to_Ce nm_Ce hown hK hP hD hS 0 rfl rfl 3 (by decide) (hts _ tw_80) (fun _ h => h) rfl hin rfl (by decide +kernel) rfl rfl (Nat.le_of_ble_eq_true rfl) d_Ce_init_33 (fun H locs hP hD hS => ?_)
  have hP : va_P D vCl [(h0, .inr (2, [.ref q1, .ref q2, .ref q3, .ref q4, .null, .null, .null, .null, .int (iI 0)])), (q1, .inl (c1, 60, .inl (fun _ => iI 0))), (q2, .inl (c2, 60, .inl (fun _ => iI 0))), (q3, .inl (c3, 60, .inl (fun _ => iI 0))), (q4, .inl (c4, 60, .inl (fun _ => iI 0)))] H := hP
  have hD : va_D A [(h0, .inr (2, [.ref q1, .ref q2, .ref q3, .ref q4, .null, .null, .null, .null, .int (iI 0)])), (q1, .inl (c1, 60, .inl (fun _ => iI 0))), (q2, .inl (c2, 60, .inl (fun _ => iI 0))), (q3, .inl (c3, 60, .inl (fun _ => iI 0))), (q4, .inl (c4, 60, .inl (fun _ => iI 0)))] := hD
  refine lv_aload_n hx hb d_Ce_init_36 rfl (lv_at hl 0 rfl) ?_
  refine r_bipush hx hb d_Ce_init_37 (by decide +kernel) ?_
  refine va_newa (atype := .int) (ty := .int) (N' := 60) (a0 := (60, .inl (fun _ => iI 0))) hx hb (hts _ tw_68) rfl hK hP hD hS hA (fun _ => rfl) (by decide +kernel) (by decide +kernel) (by decide +kernel) (by show _ ≤ 8; omega) (by show _ ≤ 436; omega) d_Ce_init_39 (fun q5 c5 H hK hP hD hS => ?_)
  have hP : va_P D vCl [(h0, .inr (2, [.ref q1, .ref q2, .ref q3, .ref q4, .null, .null, .null, .null, .int (iI 0)])), (q1, .inl (c1, 60, .inl (fun _ => iI 0))), (q2, .inl (c2, 60, .inl (fun _ => iI 0))), (q3, .inl (c3, 60, .inl (fun _ => iI 0))), (q4, .inl (c4, 60, .inl (fun _ => iI 0))), (q5, .inl (c5, 60, .inl (fun _ => iI 0)))] H := hP
  have hD : va_D A [(h0, .inr (2, [.ref q1, .ref q2, .ref q3, .ref q4, .null, .null, .null, .null, .int (iI 0)])), (q1, .inl (c1, 60, .inl (fun _ => iI 0))), (q2, .inl (c2, 60, .inl (fun _ => iI 0))), (q3, .inl (c3, 60, .inl (fun _ => iI 0))), (q4, .inl (c4, 60, .inl (fun _ => iI 0))), (q5, .inl (c5, 60, .inl (fun _ => iI 0)))] := hD
  have hK : va_K D vCl [(c1, .int), (c2, .int), (c3, .int), (c4, .int), (c5, .int)] s := hK
  refine va_putF (D := D) (ci := 2) (v := .ref q5) (ty := .array .int) (C := R_Ce) (T := T_Ce) (N := 9) hx hb hts in_Ce t_Ce to_Ce nm_Ce hown hK hP hD hS 0 rfl rfl 4 (by decide) (hts _ tw_83) (fun _ h => h) rfl hin rfl (by decide +kernel) rfl rfl (Nat.le_of_ble_eq_true rfl) d_Ce_init_41 (fun H locs hP hD hS => ?_)
  have hP : va_P D vCl [(h0, .inr (2, [.ref q1, .ref q2, .ref q3, .ref q4, .ref q5, .null, .null, .null, .int (iI 0)])), (q1, .inl (c1, 60, .inl (fun _ => iI 0))), (q2, .inl (c2, 60, .inl (fun _ => iI 0))), (q3, .inl (c3, 60, .inl (fun _ => iI 0))), (q4, .inl (c4, 60, .inl (fun _ => iI 0))), (q5, .inl (c5, 60, .inl (fun _ => iI 0)))] H := hP
  have hD : va_D A [(h0, .inr (2, [.ref q1, .ref q2, .ref q3, .ref q4, .ref q5, .null, .null, .null, .int (iI 0)])), (q1, .inl (c1, 60, .inl (fun _ => iI 0))), (q2, .inl (c2, 60, .inl (fun _ => iI 0))), (q3, .inl (c3, 60, .inl (fun _ => iI 0))), (q4, .inl (c4, 60, .inl (fun _ => iI 0))), (q5, .inl (c5, 60, .inl (fun _ => iI 0)))] := hD
  refine lv_aload_n hx hb d_Ce_init_44 rfl (lv_at hl 0 rfl) ?_
  refine r_bipush hx hb d_Ce_init_45 (by decide +kernel) ?_
  refine va_newa (atype := .int) (ty := .int) (N' := 60) (a0 := (60, .inl (fun _ => iI 0))) hx hb (hts _ tw_68) rfl hK hP hD hS hA (fun _ => rfl) (by decide +kernel) (by decide +kernel) (by decide +kernel) (by show _ ≤ 8; omega) (by show _ ≤ 436; omega) d_Ce_init_47 (fun q6 c6 H hK hP hD hS => ?_)
  have hP : va_P D vCl [(h0, .inr (2, [.ref q1, .ref q2, .ref q3, .ref q4, .ref q5, .null, .null, .null, .int (iI 0)])), (q1, .inl (c1, 60, .inl (fun _ => iI 0))), (q2, .inl (c2, 60, .inl (fun _ => iI 0))), (q3, .inl (c3, 60, .inl (fun _ => iI 0))), (q4, .inl (c4, 60, .inl (fun _ => iI 0))), (q5, .inl (c5, 60, .inl (fun _ => iI 0))), (q6, .inl (c6, 60, .inl (fun _ => iI 0)))] H := hP
  have hD : va_D A [(h0, .inr (2, [.ref q1, .ref q2, .ref q3, .ref q4, .ref q5, .null, .null, .null, .int (iI 0)])), (q1, .inl (c1, 60, .inl (fun _ => iI 0))), (q2, .inl (c2, 60, .inl (fun _ => iI 0))), (q3, .inl (c3, 60, .inl (fun _ => iI 0))), (q4, .inl (c4, 60, .inl (fun _ => iI 0))), (q5, .inl (c5, 60, .inl (fun _ => iI 0))), (q6, .inl (c6, 60, .inl (fun _ => iI 0)))] := hD
  have hK : va_K D vCl [(c1, .int), (c2, .int), (c3, .int), (c4, .int), (c5, .int), (c6, .int)] s := hK
  refine va_putF (D := D) (ci := 2) (v := .ref q6) (ty := .array .int) (C := R_Ce) (T := T_Ce) (N := 9) hx hb hts in_Ce t_Ce to_Ce nm_Ce hown hK hP hD hS 0 rfl rfl 5 (by decide) (hts _ tw_84) (fun _ h => h) rfl hin rfl (by decide +kernel) rfl rfl (Nat.le_of_ble_eq_true rfl) d_Ce_init_49 (fun H locs hP hD hS => ?_)
  have hP : va_P D vCl [(h0, .inr (2, [.ref q1, .ref q2, .ref q3, .ref q4, .ref q5, .ref q6, .null, .null, .int (iI 0)])), (q1, .inl (c1, 60, .inl (fun _ => iI 0))), (q2, .inl (c2, 60, .inl (fun _ => iI 0))), (q3, .inl (c3, 60, .inl (fun _ => iI 0))), (q4, .inl (c4, 60, .inl (fun _ => iI 0))), (q5, .inl (c5, 60, .inl (fun _ => iI 0))), (q6, .inl (c6, 60, .inl (fun _ => iI 0)))] H := hP
  have hD : va_D A [(h0, .inr (2, [.ref q1, .ref q2, .ref q3, .ref q4, .ref q5, .ref q6, .null, .null, .int (iI 0)])), (q1, .inl (c1, 60, .inl (fun _ => iI 0))), (q2, .inl (c2, 60, .inl (fun _ => iI 0))), (q3, .inl (c3, 60, .inl (fun _ => iI 0))), (q4, .inl (c4, 60, .inl (fun _ => iI 0))), (q5, .inl (c5, 60, .inl (fun _ => iI 0))), (q6, .inl (c6, 60, .inl (fun _ => iI 0)))] := hD
  refine lv_aload_n hx hb d_Ce_init_52 rfl (lv_at hl 0 rfl) ?_
  refine r_bipush hx hb d_Ce_init_53 (by decide +kernel) ?_
  refine va_newa (atype := .int) (ty := .int) (N' := 60) (a0 := (60, .inl (fun _ => iI 0))) hx hb (hts _ tw_68) rfl hK hP hD hS hA (fun _ => rfl) (by decide +kernel) (by decide +kernel) (by decide +kernel) (by show _ ≤ 8; omega) (by show _ ≤ 436; omega) d_Ce_init_55 (fun q7 c7 H hK hP hD hS => ?_)
  have hP : va_P D vCl [(h0, .inr (2, [.ref q1, .ref q2, .ref q3, .ref q4, .ref q5, .ref q6, .null, .null, .int (iI 0)])), (q1, .inl (c1, 60, .inl (fun _ => iI 0))), (q2, .inl (c2, 60, .inl (fun _ => iI 0))), (q3, .inl (c3, 60, .inl (fun _ => iI 0))), (q4, .inl (c4, 60, .inl (fun _ => iI 0))), (q5, .inl (c5, 60, .inl (fun _ => iI 0))), (q6, .inl (c6, 60, .inl (fun _ => iI 0))), (q7, .inl (c7, 60, .inl (fun _ => iI 0)))] H := hP
  have hD : va_D A [(h0, .inr (2, [.ref q1, .ref q2, .ref q3, .ref q4, .ref q5, .ref q6, .null, .null, .int (iI 0)])), (q1, .inl (c1, 60, .inl (fun _ => iI 0))), (q2, .inl (c2, 60, .inl (fun _ => iI 0))), (q3, .inl (c3, 60, .inl (fun _ => iI 0))), (q4, .inl (c4, 60, .inl (fun _ => iI 0))), (q5, .inl (c5, 60, .inl (fun _ => iI 0))), (q6, .inl (c6, 60, .inl (fun _ => iI 0))), (q7, .inl (c7, 60, .inl (fun _ => iI 0)))] := hD
  have hK : va_K D vCl [(c1, .int), (c2, .int), (c3, .int), (c4, .int), (c5, .int), (c6, .int), (c7, .int)] s := hK
  refine va_putF (D := D) (ci := 2) (v := .ref q7) (ty := .array .int) (C := R_Ce) (T := T_Ce) (N := 9) hx hb hts in_Ce t_Ce to_Ce nm_Ce hown hK hP hD hS 0 rfl rfl 6 (by decide) (hts _ tw_86) (fun _ h => h) rfl hin rfl (by decide +kernel) rfl rfl (Nat.le_of_ble_eq_true rfl) d_Ce_init_57 (fun H locs hP hD hS => ?_)
  have hP : va_P D vCl [(h0, .inr (2, [.ref q1, .ref q2, .ref q3, .ref q4, .ref q5, .ref q6, .ref q7, .null, .int (iI 0)])), (q1, .inl (c1, 60, .inl (fun _ => iI 0))), (q2, .inl (c2, 60, .inl (fun _ => iI 0))), (q3, .inl (c3, 60, .inl (fun _ => iI 0))), (q4, .inl (c4, 60, .inl (fun _ => iI 0))), (q5, .inl (c5, 60, .inl (fun _ => iI 0))), (q6, .inl (c6, 60, .inl (fun _ => iI 0))), (q7, .inl (c7, 60, .inl (fun _ => iI 0)))] H := hP
  have hD : va_D A [(h0, .inr (2, [.ref q1, .ref q2, .ref q3, .ref q4, .ref q5, .ref q6, .ref q7, .null, .int (iI 0)])), (q1, .inl (c1, 60, .inl (fun _ => iI 0))), (q2, .inl (c2, 60, .inl (fun _ => iI 0))), (q3, .inl (c3, 60, .inl (fun _ => iI 0))), (q4, .inl (c4, 60, .inl (fun _ => iI 0))), (q5, .inl (c5, 60, .inl (fun _ => iI 0))), (q6, .inl (c6, 60, .inl (fun _ => iI 0))), (q7, .inl (c7, 60, .inl (fun _ => iI 0)))] := hD
  refine lv_aload_n hx hb d_Ce_init_60 rfl (lv_at hl 0 rfl) ?_
  refine r_bipush hx hb d_Ce_init_61 (by decide +kernel) ?_
  refine va_newa (atype := .int) (ty := .int) (N' := 16) (a0 := (16, .inl (fun _ => iI 0))) hx hb (hts _ tw_68) rfl hK hP hD hS hA (fun _ => rfl) (by decide +kernel) (by decide +kernel) (by decide +kernel) (by show _ ≤ 8; omega) (by show _ ≤ 436; omega) d_Ce_init_63 (fun q8 c8 H hK hP hD hS => ?_)
  have hP : va_P D vCl [(h0, .inr (2, [.ref q1, .ref q2, .ref q3, .ref q4, .ref q5, .ref q6, .ref q7, .null, .int (iI 0)])), (q1, .inl (c1, 60, .inl (fun _ => iI 0))), (q2, .inl (c2, 60, .inl (fun _ => iI 0))), (q3, .inl (c3, 60, .inl (fun _ => iI 0))), (q4, .inl (c4, 60, .inl (fun _ => iI 0))), (q5, .inl (c5, 60, .inl (fun _ => iI 0))), (q6, .inl (c6, 60, .inl (fun _ => iI 0))), (q7, .inl (c7, 60, .inl (fun _ => iI 0))), (q8, .inl (c8, 16, .inl (fun _ => iI 0)))] H := hP
  have hD : va_D A [(h0, .inr (2, [.ref q1, .ref q2, .ref q3, .ref q4, .ref q5, .ref q6, .ref q7, .null, .int (iI 0)])), (q1, .inl (c1, 60, .inl (fun _ => iI 0))), (q2, .inl (c2, 60, .inl (fun _ => iI 0))), (q3, .inl (c3, 60, .inl (fun _ => iI 0))), (q4, .inl (c4, 60, .inl (fun _ => iI 0))), (q5, .inl (c5, 60, .inl (fun _ => iI 0))), (q6, .inl (c6, 60, .inl (fun _ => iI 0))), (q7, .inl (c7, 60, .inl (fun _ => iI 0))), (q8, .inl (c8, 16, .inl (fun _ => iI 0)))] := hD
  have hK : va_K D vCl [(c1, .int), (c2, .int), (c3, .int), (c4, .int), (c5, .int), (c6, .int), (c7, .int), (c8, .int)] s := hK
  refine va_putF (D := D) (ci := 2) (v := .ref q8) (ty := .array .int) (C := R_Ce) (T := T_Ce) (N := 9) hx hb hts in_Ce t_Ce to_Ce nm_Ce hown hK hP hD hS 0 rfl rfl 7 (by decide) (hts _ tw_88) (fun _ h => h) rfl hin rfl (by decide +kernel) rfl rfl (Nat.le_of_ble_eq_true rfl) d_Ce_init_65 (fun H locs hP hD hS => ?_)
  have hP : va_P D vCl [(h0, .inr (2, [.ref q1, .ref q2, .ref q3, .ref q4, .ref q5, .ref q6, .ref q7, .ref q8, .int (iI 0)])), (q1, .inl (c1, 60, .inl (fun _ => iI 0))), (q2, .inl (c2, 60, .inl (fun _ => iI 0))), (q3, .inl (c3, 60, .inl (fun _ => iI 0))), (q4, .inl (c4, 60, .inl (fun _ => iI 0))), (q5, .inl (c5, 60, .inl (fun _ => iI 0))), (q6, .inl (c6, 60, .inl (fun _ => iI 0))), (q7, .inl (c7, 60, .inl (fun _ => iI 0))), (q8, .inl (c8, 16, .inl (fun _ => iI 0)))] H := hP
  have hD : va_D A [(h0, .inr (2, [.ref q1, .ref q2, .ref q3, .ref q4, .ref q5, .ref q6, .ref q7, .ref q8, .int (iI 0)])), (q1, .inl (c1, 60, .inl (fun _ => iI 0))), (q2, .inl (c2, 60, .inl (fun _ => iI 0))), (q3, .inl (c3, 60, .inl (fun _ => iI 0))), (q4, .inl (c4, 60, .inl (fun _ => iI 0))), (q5, .inl (c5, 60, .inl (fun _ => iI 0))), (q6, .inl (c6, 60, .inl (fun _ => iI 0))), (q7, .inl (c7, 60, .inl (fun _ => iI 0))), (q8, .inl (c8, 16, .inl (fun _ => iI 0)))] := hD
  refine W.widen (k := 8) (n := 436) (by omega) (by omega) ?_
  exact W.vret hx hb hr (fun t ht hW => ⟨⟨((fun k => if k = 9 then q1 else if k = 10 then q2 else if k = 11 then q3 else if k = 12 then q4 else if k = 13 then q5 else if k = 14 then q6 else if k = 15 then q7 else if k = 16 then q8 else q1), (fun k => if k = 3 then c1 else if k = 4 then c2 else if k = 5 then c3 else if k = 6 then c4 else if k = 7 then c5 else if k = 8 then c6 else if k = 9 then c7 else if k = 10 then c8 else c1)), rfl, trivial, by rw [ht]; exact hP, va_K.moved hW.alike hK, hD⟩, hS.F ht⟩) hS.2.2 d_Ce_init_68 hlocks
def k_Li (h0 : Nat) (hc : Nat) (a : Nat → Nat) (c : Nat → ClassId) : va_W := [(h0, .inr (5, [.ref hc, .ref (a 25), .ref (a 26), .ref (a 27), .ref (a 28), .ref (a 29), .int (iI 0), .int (iI 0), .int (iI 0), .int (iI 0)])), (a 25, .inl (c 19, 60, .inl (fun _ => iI 0))), (a 26, .inl (c 20, 60, .inl (fun _ => iI 0))), (a 27, .inl (c 21, 60, .inl (fun _ => iI 0))), (a 28, .inl (c 22, 60, .inl (fun _ => iI 0))), (a 29, .inl (c 23, 61, .inl (fun _ => iI 0)))]
def kt_Li (c : Nat → ClassId) : List (ClassId × FieldType) := [(c 19, .int), (c 20, .int), (c 21, .int), (c 22, .int), (c 23, .int)]
set_option maxHeartbeats 4000000 in
set_option maxRecDepth 100000 in
theorem ct_Li_init (l : Launch) (D : va_G) (sz : Nat) (h0 : Nat) (hc : Nat)  : Met l y_Li_init (Cond.code y_Li_init c_Li_init 2 (none) :: gT) ({ frames := 1, cells := 5, slots := 301, locals := 40 } : Room) (va_Pc [.ref h0, .ref hc] (fun U => U.heap.size = sz ∧ va_P D vCl [(h0, .inr (5, [.null, .null, .null, .null, .null, .null, .int (iI 0), .int (iI 0), .int (iI 0), .int (iI 0)]))] U.heap ∧ va_K D vCl [] U ∧ va_D (fun _ => True) [(h0, .inr (5, [.null, .null, .null, .null, .null, .null, .int (iI 0), .int (iI 0), .int (iI 0), .int (iI 0)]))])) (va_Qv (fun u : ((Nat → Nat) × (Nat → ClassId)) => True) (fun u t => va_P D vCl (k_Li h0 hc u.1 u.2) t.heap ∧ va_K D vCl (kt_Li u.2) t ∧ va_D (va_A [(h0, .inr (5, [.null, .null, .null, .null, .null, .null, .int (iI 0), .int (iI 0), .int (iI 0), .int (iI 0)]))] sz) (k_Li h0 hc u.1 u.2)) (va_A [(h0, .inr (5, [.null, .null, .null, .null, .null, .null, .int (iI 0), .int (iI 0), .int (iI 0), .int (iI 0)]))] sz)) 5 301 (va_A [(h0, .inr (5, [.null, .null, .null, .null, .null, .null, .int (iI 0), .int (iI 0), .int (iI 0), .int (iI 0)]))] sz) := by
  refine Met.ofW (cc := c_Li_init) (maxL := 2) (ret := none) (by decide) rfl ?_
  intro p e s m args below meth c s₁ B hml hv
  obtain ⟨rfl, hsz, hP, hK, hD0⟩ := hv
  have hx := B.exec
  have hb := B.bytes
  have hr := B.returns
  have hts0 := atoms_spec (ws := (Cond.code y_Li_init c_Li_init 2 (none) :: gT)) B.pre
  have hts : ∀ w ∈ gT, w.before _ s = true := fun w h => hts0 w (List.mem_cons_of_mem _ h)
  have hown : s.vm.findClass R_Li = some m.cls := findClass_of_methodNamed B.named
  have hlocks := B.notSynchronized
  have hin : meth.name = "<init>" := (name_of_methodNamed B.named B.method).1
  subst hsz
  have hD := hD0.self (sz := s.heap.size)
  generalize hAe : va_A [(h0, .inr (5, [.null, .null, .null, .null, .null, .null, .int (iI 0), .int (iI 0), .int (iI 0), .int (iI 0)]))] s.heap.size = A at hD ⊢
  have hA : ∀ q : Nat, s.heap.size ≤ q → A q := fun q h => by rw [← hAe]; exact Or.inr h
  have hS : va_S A s.heap s.heap [] := va_S.rf
  have hP : va_P D vCl [(h0, .inr (5, [.null, .null, .null, .null, .null, .null, .int (iI 0), .int (iI 0), .int (iI 0), .int (iI 0)]))] s.heap := hP
  have hl := lv_entry [.ref h0, .ref hc] (n := 2) (Nat.le_of_ble_eq_true rfl)
  rw [lg_entry_eq]
  generalize (lg_sl [.ref h0, .ref hc] ++ List.replicate (2 - (lg_sl [.ref h0, .ref hc]).length) Slot.unset).toArray = ls at hl ⊢
  have hl : lv_has ls 2 [(0, .ref h0), (1, .ref hc)] := hl
  refine lv_aload_n hx hb d_Li_init_0 rfl (lv_at hl 0 rfl) ?_
  refine W.objInit hx hb hown (hts _ tw_146) (hts _ tw_22) (hts _ tw_23) rfl (by rw [hml]; exact hl.1) rfl d_Li_init_1 (Nat.le_of_ble_eq_true rfl) (Nat.le_of_ble_eq_true rfl) ?_
  refine lv_aload_n hx hb d_Li_init_4 rfl (lv_at hl 0 rfl) ?_
  refine r_bipush hx hb d_Li_init_5 (by decide +kernel) ?_
  refine va_newa (atype := .int) (ty := .int) (N' := 60) (a0 := (60, .inl (fun _ => iI 0))) hx hb (hts _ tw_68) rfl hK hP hD hS hA (fun _ => rfl) (by decide +kernel) (by decide +kernel) (by decide +kernel) (by show _ ≤ 5; omega) (by show _ ≤ 301; omega) d_Li_init_7 (fun q1 c1 H hK hP hD hS => ?_)
  have hP : va_P D vCl [(h0, .inr (5, [.null, .null, .null, .null, .null, .null, .int (iI 0), .int (iI 0), .int (iI 0), .int (iI 0)])), (q1, .inl (c1, 60, .inl (fun _ => iI 0)))] H := hP
  have hD : va_D A [(h0, .inr (5, [.null, .null, .null, .null, .null, .null, .int (iI 0), .int (iI 0), .int (iI 0), .int (iI 0)])), (q1, .inl (c1, 60, .inl (fun _ => iI 0)))] := hD
  have hK : va_K D vCl [(c1, .int)] s := hK
  refine va_putF (D := D) (ci := 5) (v := .ref q1) (ty := .array .int) (C := R_Li) (T := T_Li) (N := 10) hx hb hts in_Li t_Li to_Li nm_Li hown hK hP hD hS 0 rfl rfl 1 (by decide) (hts _ tw_148) (fun _ h => h) rfl hin rfl (by decide +kernel) rfl rfl (Nat.le_of_ble_eq_true rfl) d_Li_init_9 (fun H locs hP hD hS => ?_)
  have hP : va_P D vCl [(h0, .inr (5, [.null, .ref q1, .null, .null, .null, .null, .int (iI 0), .int (iI 0), .int (iI 0), .int (iI 0)])), (q1, .inl (c1, 60, .inl (fun _ => iI 0)))] H := hP
  have hD : va_D A [(h0, .inr (5, [.null, .ref q1, .null, .null, .null, .null, .int (iI 0), .int (iI 0), .int (iI 0), .int (iI 0)])), (q1, .inl (c1, 60, .inl (fun _ => iI 0)))] := hD
  refine lv_aload_n hx hb d_Li_init_12 rfl (lv_at hl 0 rfl) ?_
  refine r_bipush hx hb d_Li_init_13 (by decide +kernel) ?_
  refine va_newa (atype := .int) (ty := .int) (N' := 60) (a0 := (60, .inl (fun _ => iI 0))) hx hb (hts _ tw_68) rfl hK hP hD hS hA (fun _ => rfl) (by decide +kernel) (by decide +kernel) (by decide +kernel) (by show _ ≤ 5; omega) (by show _ ≤ 301; omega) d_Li_init_15 (fun q2 c2 H hK hP hD hS => ?_)
  have hP : va_P D vCl [(h0, .inr (5, [.null, .ref q1, .null, .null, .null, .null, .int (iI 0), .int (iI 0), .int (iI 0), .int (iI 0)])), (q1, .inl (c1, 60, .inl (fun _ => iI 0))), (q2, .inl (c2, 60, .inl (fun _ => iI 0)))] H := hP
  have hD : va_D A [(h0, .inr (5, [.null, .ref q1, .null, .null, .null, .null, .int (iI 0), .int (iI 0), .int (iI 0), .int (iI 0)])), (q1, .inl (c1, 60, .inl (fun _ => iI 0))), (q2, .inl (c2, 60, .inl (fun _ => iI 0)))] := hD
  have hK : va_K D vCl [(c1, .int), (c2, .int)] s := hK
  refine va_putF (D := D) (ci := 5) (v := .ref q2) (ty := .array .int) (C := R_Li) (T := T_Li) (N := 10) hx hb hts in_Li t_Li to_Li nm_Li hown hK hP hD hS 0 rfl rfl 2 (by decide) (hts _ tw_149) (fun _ h => h) rfl hin rfl (by decide +kernel) rfl rfl (Nat.le_of_ble_eq_true rfl) d_Li_init_17 (fun H locs hP hD hS => ?_)
  have hP : va_P D vCl [(h0, .inr (5, [.null, .ref q1, .ref q2, .null, .null, .null, .int (iI 0), .int (iI 0), .int (iI 0), .int (iI 0)])), (q1, .inl (c1, 60, .inl (fun _ => iI 0))), (q2, .inl (c2, 60, .inl (fun _ => iI 0)))] H := hP
  have hD : va_D A [(h0, .inr (5, [.null, .ref q1, .ref q2, .null, .null, .null, .int (iI 0), .int (iI 0), .int (iI 0), .int (iI 0)])), (q1, .inl (c1, 60, .inl (fun _ => iI 0))), (q2, .inl (c2, 60, .inl (fun _ => iI 0)))] := hD
  refine lv_aload_n hx hb d_Li_init_20 rfl (lv_at hl 0 rfl) ?_
  refine r_bipush hx hb d_Li_init_21 (by decide +kernel) ?_
  refine va_newa (atype := .int) (ty := .int) (N' := 60) (a0 := (60, .inl (fun _ => iI 0))) hx hb (hts _ tw_68) rfl hK hP hD hS hA (fun _ => rfl) (by decide +kernel) (by decide +kernel) (by decide +kernel) (by show _ ≤ 5; omega) (by show _ ≤ 301; omega) d_Li_init_23 (fun q3 c3 H hK hP hD hS => ?_)
  have hP : va_P D vCl [(h0, .inr (5, [.null, .ref q1, .ref q2, .null, .null, .null, .int (iI 0), .int (iI 0), .int (iI 0), .int (iI 0)])), (q1, .inl (c1, 60, .inl (fun _ => iI 0))), (q2, .inl (c2, 60, .inl (fun _ => iI 0))), (q3, .inl (c3, 60, .inl (fun _ => iI 0)))] H := hP
  have hD : va_D A [(h0, .inr (5, [.null, .ref q1, .ref q2, .null, .null, .null, .int (iI 0), .int (iI 0), .int (iI 0), .int (iI 0)])), (q1, .inl (c1, 60, .inl (fun _ => iI 0))), (q2, .inl (c2, 60, .inl (fun _ => iI 0))), (q3, .inl (c3, 60, .inl (fun _ => iI 0)))] := hD
  have hK : va_K D vCl [(c1, .int), (c2, .int), (c3, .int)] s := hK
  refine va_putF (D := D) (ci := 5) (v := .ref q3) (ty := .array .int) (C := R_Li) (T := T_Li) (N := 10) hx hb hts in_Li t_Li to_Li nm_Li hown hK hP hD hS 0 rfl rfl 3 (by decide) (hts _ tw_150) (fun _ h => h) rfl hin rfl (by decide +kernel) rfl rfl (Nat.le_of_ble_eq_true rfl) d_Li_init_25 (fun H locs hP hD hS => ?_)
  have hP : va_P D vCl [(h0, .inr (5, [.null, .ref q1, .ref q2, .ref q3, .null, .null, .int (iI 0), .int (iI 0), .int (iI 0), .int (iI 0)])), (q1, .inl (c1, 60, .inl (fun _ => iI 0))), (q2, .inl (c2, 60, .inl (fun _ => iI 0))), (q3, .inl (c3, 60, .inl (fun _ => iI 0)))] H := hP
  have hD : va_D A [(h0, .inr (5, [.null, .ref q1, .ref q2, .ref q3, .null, .null, .int (iI 0), .int (iI 0), .int (iI 0), .int (iI 0)])), (q1, .inl (c1, 60, .inl (fun _ => iI 0))), (q2, .inl (c2, 60, .inl (fun _ => iI 0))), (q3, .inl (c3, 60, .inl (fun _ => iI 0)))] := hD
  refine lv_aload_n hx hb d_Li_init_28 rfl (lv_at hl 0 rfl) ?_
  refine r_bipush hx hb d_Li_init_29 (by decide +kernel) ?_
  refine va_newa (atype := .int) (ty := .int) (N' := 60) (a0 := (60, .inl (fun _ => iI 0))) hx hb (hts _ tw_68) rfl hK hP hD hS hA (fun _ => rfl) (by decide +kernel) (by decide +kernel) (by decide +kernel) (by show _ ≤ 5; omega) (by show _ ≤ 301; omega) d_Li_init_31 (fun q4 c4 H hK hP hD hS => ?_)
  have hP : va_P D vCl [(h0, .inr (5, [.null, .ref q1, .ref q2, .ref q3, .null, .null, .int (iI 0), .int (iI 0), .int (iI 0), .int (iI 0)])), (q1, .inl (c1, 60, .inl (fun _ => iI 0))), (q2, .inl (c2, 60, .inl (fun _ => iI 0))), (q3, .inl (c3, 60, .inl (fun _ => iI 0))), (q4, .inl (c4, 60, .inl (fun _ => iI 0)))] H := hP
  have hD : va_D A [(h0, .inr (5, [.null, .ref q1, .ref q2, .ref q3, .null, .null, .int (iI 0), .int (iI 0), .int (iI 0), .int (iI 0)])), (q1, .inl (c1, 60, .inl (fun _ => iI 0))), (q2, .inl (c2, 60, .inl (fun _ => iI 0))), (q3, .inl (c3, 60, .inl (fun _ => iI 0))), (q4, .inl (c4, 60, .inl (fun _ => iI 0)))] := hD
  have hK : va_K D vCl [(c1, .int), (c2, .int), (c3, .int), (c4, .int)] s := hK
  refine va_putF (D := D) (ci := 5) (v := .ref q4) (ty := .array .int) (C := R_Li) (T := T_Li) (N := 10) hx hb hts in_Li t_Li to_Li nm_Li hown hK hP hD hS 0 rfl rfl 4 (by decide) (hts _ tw_151) (fun _ h => h) rfl hin rfl (by decide +kernel) rfl rfl (Nat.le_of_ble_eq_true rfl) d_Li_init_33 (fun H locs hP hD hS => ?_)
  have hP : va_P D vCl [(h0, .inr (5, [.null, .ref q1, .ref q2, .ref q3, .ref q4, .null, .int (iI 0), .int (iI 0), .int (iI 0), .int (iI 0)])), (q1, .inl (c1, 60, .inl (fun _ => iI 0))), (q2, .inl (c2, 60, .inl (fun _ => iI 0))), (q3, .inl (c3, 60, .inl (fun _ => iI 0))), (q4, .inl (c4, 60, .inl (fun _ => iI 0)))] H := hP
  have hD : va_D A [(h0, .inr (5, [.null, .ref q1, .ref q2, .ref q3, .ref q4, .null, .int (iI 0), .int (iI 0), .int (iI 0), .int (iI 0)])), (q1, .inl (c1, 60, .inl (fun _ => iI 0))), (q2, .inl (c2, 60, .inl (fun _ => iI 0))), (q3, .inl (c3, 60, .inl (fun _ => iI 0))), (q4, .inl (c4, 60, .inl (fun _ => iI 0)))] := hD
  refine lv_aload_n hx hb d_Li_init_36 rfl (lv_at hl 0 rfl) ?_
  refine r_bipush hx hb d_Li_init_37 (by decide +kernel) ?_
  refine va_newa (atype := .int) (ty := .int) (N' := 61) (a0 := (61, .inl (fun _ => iI 0))) hx hb (hts _ tw_68) rfl hK hP hD hS hA (fun _ => rfl) (by decide +kernel) (by decide +kernel) (by decide +kernel) (by show _ ≤ 5; omega) (by show _ ≤ 301; omega) d_Li_init_39 (fun q5 c5 H hK hP hD hS => ?_)
  have hP : va_P D vCl [(h0, .inr (5, [.null, .ref q1, .ref q2, .ref q3, .ref q4, .null, .int (iI 0), .int (iI 0), .int (iI 0), .int (iI 0)])), (q1, .inl (c1, 60, .inl (fun _ => iI 0))), (q2, .inl (c2, 60, .inl (fun _ => iI 0))), (q3, .inl (c3, 60, .inl (fun _ => iI 0))), (q4, .inl (c4, 60, .inl (fun _ => iI 0))), (q5, .inl (c5, 61, .inl (fun _ => iI 0)))] H := hP
  have hD : va_D A [(h0, .inr (5, [.null, .ref q1, .ref q2, .ref q3, .ref q4, .null, .int (iI 0), .int (iI 0), .int (iI 0), .int (iI 0)])), (q1, .inl (c1, 60, .inl (fun _ => iI 0))), (q2, .inl (c2, 60, .inl (fun _ => iI 0))), (q3, .inl (c3, 60, .inl (fun _ => iI 0))), (q4, .inl (c4, 60, .inl (fun _ => iI 0))), (q5, .inl (c5, 61, .inl (fun _ => iI 0)))] := hD
  have hK : va_K D vCl [(c1, .int), (c2, .int), (c3, .int), (c4, .int), (c5, .int)] s := hK
  refine va_putF (D := D) (ci := 5) (v := .ref q5) (ty := .array .int) (C := R_Li) (T := T_Li) (N := 10) hx hb hts in_Li t_Li to_Li nm_Li hown hK hP hD hS 0 rfl rfl 5 (by decide) (hts _ tw_152) (fun _ h => h) rfl hin rfl (by decide +kernel) rfl rfl (Nat.le_of_ble_eq_true rfl) d_Li_init_41 (fun H locs hP hD hS => ?_)
  have hP : va_P D vCl [(h0, .inr (5, [.null, .ref q1, .ref q2, .ref q3, .ref q4, .ref q5, .int (iI 0), .int (iI 0), .int (iI 0), .int (iI 0)])), (q1, .inl (c1, 60, .inl (fun _ => iI 0))), (q2, .inl (c2, 60, .inl (fun _ => iI 0))), (q3, .inl (c3, 60, .inl (fun _ => iI 0))), (q4, .inl (c4, 60, .inl (fun _ => iI 0))), (q5, .inl (c5, 61, .inl (fun _ => iI 0)))] H := hP
  have hD : va_D A [(h0, .inr (5, [.null, .ref q1, .ref q2, .ref q3, .ref q4, .ref q5, .int (iI 0), .int (iI 0), .int (iI 0), .int (iI 0)])), (q1, .inl (c1, 60, .inl (fun _ => iI 0))), (q2, .inl (c2, 60, .inl (fun _ => iI 0))), (q3, .inl (c3, 60, .inl (fun _ => iI 0))), (q4, .inl (c4, 60, .inl (fun _ => iI 0))), (q5, .inl (c5, 61, .inl (fun _ => iI 0)))] := hD
  refine lv_aload_n hx hb d_Li_init_44 rfl (lv_at hl 0 rfl) ?_
  refine lv_aload_n hx hb d_Li_init_45 rfl (lv_at hl 1 rfl) ?_
  refine va_putF (D := D) (ci := 5) (v := .ref hc) (ty := .object "LegalRows$Cells") (C := R_Li) (T := T_Li) (N := 10) hx hb hts in_Li t_Li to_Li nm_Li hown hK hP hD hS 0 rfl rfl 0 (by decide) (hts _ tw_147) (fun _ h => h) rfl hin rfl (by decide +kernel) rfl rfl (Nat.le_of_ble_eq_true rfl) d_Li_init_46 (fun H locs hP hD hS => ?_)
  have hP : va_P D vCl [(h0, .inr (5, [.ref hc, .ref q1, .ref q2, .ref q3, .ref q4, .ref q5, .int (iI 0), .int (iI 0), .int (iI 0), .int (iI 0)])), (q1, .inl (c1, 60, .inl (fun _ => iI 0))), (q2, .inl (c2, 60, .inl (fun _ => iI 0))), (q3, .inl (c3, 60, .inl (fun _ => iI 0))), (q4, .inl (c4, 60, .inl (fun _ => iI 0))), (q5, .inl (c5, 61, .inl (fun _ => iI 0)))] H := hP
  have hD : va_D A [(h0, .inr (5, [.ref hc, .ref q1, .ref q2, .ref q3, .ref q4, .ref q5, .int (iI 0), .int (iI 0), .int (iI 0), .int (iI 0)])), (q1, .inl (c1, 60, .inl (fun _ => iI 0))), (q2, .inl (c2, 60, .inl (fun _ => iI 0))), (q3, .inl (c3, 60, .inl (fun _ => iI 0))), (q4, .inl (c4, 60, .inl (fun _ => iI 0))), (q5, .inl (c5, 61, .inl (fun _ => iI 0)))] := hD
  refine W.widen (k := 5) (n := 301) (by omega) (by omega) ?_
  exact W.vret hx hb hr (fun t ht hW => ⟨⟨((fun k => if k = 25 then q1 else if k = 26 then q2 else if k = 27 then q3 else if k = 28 then q4 else if k = 29 then q5 else q1), (fun k => if k = 19 then c1 else if k = 20 then c2 else if k = 21 then c3 else if k = 22 then c4 else if k = 23 then c5 else c1)), rfl, trivial, by rw [ht]; exact hP, va_K.moved hW.alike hK, hD⟩, hS.F ht⟩) hS.2.2 d_Li_init_49 hlocks
