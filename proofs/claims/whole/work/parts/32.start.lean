set_option maxHeartbeats 8000000 in
set_option maxRecDepth 100000 in
theorem law_start {p : Program} {e : Env} {s : State} {m : MethodId} {below : List Frame} {meth : Method} {c : Code} (l : Launch) (hlT : l.stackTraces = false) {b L : Nat} {xs : Nat → Int32} (hL : L ≤ 3074) (C0 : lw_At p s m meth c b L xs)
    (hpure : ∀ (mo : Nat) (r st : Int), 1 ≤ r → r ≤ 16 → 1 ≤ st → st ≤ 1000 → min (r * ((st + 1) / 2)) (r + 512) = (mo : Int) → r ≤ mo → mo ≤ 8000 → w_law_b45 mo L xs 2 (F0i r st) (A0i r st)) : W p l e room_1 s m #[Value.ref b] below meth c s.heap [] 0 0 (lw_Z below #[Value.ref b] s) (entryFrame m ([Value.ref b] : List Value).toArray 8) := by
  obtain ⟨hx, hb, hr, hml, hown, hts0, hX, hbl, hlocks, hgv⟩ := id C0
  have hts : ∀ w ∈ gT, w.before #[Value.ref b] s = true := fun w h => hts0 w (List.mem_filter.mp h).1
  have hZ := y_Zof hts0 hgv
  have hA : ∀ q : Nat, s.heap.size ≤ q → (fun q : Nat => s.heap.size ≤ q) q := fun _ h => h
  obtain ⟨k0, iS0, hKn0⟩ := u_known (C := R_Lr) (T := T_Lr) (N := 5) (n := 5) hts in_Lr (hts _ tw_17)
  obtain ⟨k1, iS1, hKn1⟩ := u_known (C := R_Gr) (T := T_Gr) (N := 6) (n := 6) hts in_Gr (hts _ tw_38)
  obtain ⟨k2, iS2, hKn2⟩ := u_known (C := R_Ce) (T := T_Ce) (N := 9) (n := 9) hts in_Ce (hts _ tw_71)
  obtain ⟨k3, iS3, hKn3⟩ := u_known (C := R_Ne) (T := T_Ne) (N := 5) (n := 5) hts in_Ne (hts _ tw_114)
  obtain ⟨k4, iS4, hKn4⟩ := u_known (C := R_Fi) (T := T_Fi) (N := 8) (n := 8) hts in_Fi (hts _ tw_137)
  obtain ⟨k5, iS5, hKn5⟩ := u_known (C := R_Li) (T := T_Li) (N := 10) (n := 10) hts in_Li (hts _ tw_143)
  obtain ⟨k6, iS6, hKn6⟩ := u_known (C := R_Mo) (T := T_Mo) (N := 28) (n := 28) hts in_Mo (hts _ tw_627)
  have hN : y_N s := y_Nof hts0 ⟨_, hKn0.2.1⟩ hgv
  obtain ⟨D, hKc⟩ : ∃ (D : va_G), ∀ (k : Nat) (q : vw_C), vCl[k]? = some q → u_Kn s q.1 q.2.1 q.2.2 (D.1 k) (D.2 k) := by
    refine ⟨(fun k => if k = 0 then k0 else if k = 1 then k1 else if k = 2 then k2 else if k = 3 then k3 else if k = 4 then k4 else if k = 5 then k5 else k6, fun k => if k = 0 then iS0 else if k = 1 then iS1 else if k = 2 then iS2 else if k = 3 then iS3 else if k = 4 then iS4 else if k = 5 then iS5 else iS6), ?_⟩
    intro k q hq
    match k, hq with
    | 0, hq => cases hq; exact hKn0
    | 1, hq => cases hq; exact hKn1
    | 2, hq => cases hq; exact hKn2
    | 3, hq => cases hq; exact hKn3
    | 4, hq => cases hq; exact hKn4
    | 5, hq => cases hq; exact hKn5
    | 6, hq => cases hq; exact hKn6
    | k + 7, hq => simp [vCl] at hq
  have hS : va_S (fun q : Nat => s.heap.size ≤ q) s.heap s.heap [] := va_S.rf
  have hK : va_K D vCl [] s := ⟨hKc, fun k q h => by simp at h⟩
  have hP : va_P D vCl [] s.heap := fun k q h => by simp at h
  have hD : va_D (fun q : Nat => s.heap.size ≤ q) [] := ⟨fun i j p q h => by simp at h, fun k q h => by simp at h⟩
  have hl := lv_entry ([.ref b]) (n := 8) (Nat.le_of_ble_eq_true rfl)
  rw [lg_entry_eq]
  generalize (lg_sl ([.ref b]) ++ List.replicate (8 - (lg_sl ([.ref b])).length) Slot.unset).toArray = ls at hl ⊢
  have hl : lv_has ls 8 [(0, .ref b)] := hl
  refine va_new (ci := 0) (fs := [.null, .null, .null, .null, .int (iI 0)]) (C := R_Lr) (T := T_Lr) (N := 5) hx hb hts in_Lr t_Lr to_Lr hown (hts _ tw_16) (hts _ tw_17) (hts _ tw_1) hK hP hD hS hA rfl (by decide +kernel) (Nat.le_of_ble_eq_true rfl) (Nat.le_of_ble_eq_true rfl) d_La_law_0 (fun h0 H hP hD hS => ?_)
  have hP : va_P D vCl [(h0, .inr (0, [.null, .null, .null, .null, .int (iI 0)]))] H := hP
  have hD : va_D (fun q : Nat => s.heap.size ≤ q) [(h0, .inr (0, [.null, .null, .null, .null, .int (iI 0)]))] := hD
  refine lv_dup hx hb d_La_law_3 rfl ?_
  refine lv_aload_n hx hb d_La_law_4 rfl (lv_at hl 0 rfl) ?_
  refine r_iconst hx hb d_La_law_5 ?_
  refine r_c1 hL C0 hl.1 hP hS 0 (by omega) (by omega) (Nat.le_of_ble_eq_true rfl) d_La_law_6 (by omega) (by omega) (fun H locs hP hS => ?_)
  refine lv_aload_n hx hb d_La_law_9 rfl (lv_at hl 0 rfl) ?_
  refine r_iconst hx hb d_La_law_10 ?_
  refine r_c1 hL C0 hl.1 hP hS 1 (by omega) (by omega) (Nat.le_of_ble_eq_true rfl) d_La_law_11 (by omega) (by omega) (fun H locs hP hS => ?_)
  refine r_i2l hx hb (rg_c1v _ _ _) d_La_law_14 ?_
  obtain ⟨x1, hx1e⟩ : ∃ x1, x1 = c1v xs L 0 := ⟨_, rfl⟩
  obtain ⟨x2, hx2e⟩ : ∃ x2, x2 = c1v xs L 1 := ⟨_, rfl⟩
  have hx1 : rg x1 := by rw [hx1e]; exact rg_c1v _ _ _
  have hx2g : rg x2 := by rw [hx2e]; exact rg_c1v _ _ _
  have hx2 : rL x2 := ⟨by have := hx2g.1; omega, by have := hx2g.2; omega⟩
  obtain ⟨r, hrr⟩ : ∃ r, max 1 (min 16 x1) = r := ⟨_, rfl⟩
  obtain ⟨st, hss⟩ : ∃ st, max 1 (min 1000 x2) = st := ⟨_, rfl⟩
  have hr0 : 1 ≤ r := by omega
  have hr1 : r ≤ 16 := by omega
  have hs0 : 1 ≤ st := by omega
  have hs1 : st ≤ 1000 := by omega
  have hmp : r * 1 ≤ r * ((st + 1) / 2) := Int.mul_le_mul_of_nonneg_left (by omega) (by omega)
  have hmq : r * ((st + 1) / 2) ≤ 16 * ((st + 1) / 2) := Int.mul_le_mul_of_nonneg_right hr1 (by omega)
  obtain ⟨mo, hmo⟩ : ∃ mo : Nat, min (r * ((st + 1) / 2)) (r + 512) = (mo : Int) := ⟨(min (r * ((st + 1) / 2)) (r + 512)).toNat, by omega⟩
  have hmr : r ≤ mo := by omega
  have hmo8 : mo ≤ 8000 := by omega
  rw [← hx1e, ← hx2e]
  have hFc := va_free (wc := [(h0, .inr (0, [.null, .null, .null, .null, .int (iI 0)]))]) hD hS hA [0] rfl
  have hnest : va_Nw (.methodLinkNest R_Lr 36 y_Ce_init R_Lr) s := va_Nw.of rfl (hts0 _ (List.mem_append_right _ (List.mem_of_getElem? (i := 72) (by decide +kernel))))
  refine va_callv (va_runI (As := [.int (iI x1), .long (lI x2)]) (rest := [.ref h0]) ⟨hx, hb, hml, hown, hts⟩ (ct_Lr_init l D _ h0 mo x1 x2 r st hx1 hx2 hrr hss hmo hmr hmo8) (cwI 2 hts (gW tw_20) rfl rfl rfl (hts _ tw_1) (hts _ tw_18) (hts _ tw_19) rfl (by decide +kernel) ⟨Nat.le_of_ble_eq_true rfl, Nat.le_of_ble_eq_true rfl⟩) ⟨fun a U g mk q => by obtain ⟨q0, q1, qP, qK, qD, qN⟩ := q; exact ⟨q0, q1, qP, va_K.moved (u := U) (U := U.calling g mk a) (Vm.Alike.refl U.vm) qK, qD, va_Nw.same rfl rfl qN⟩, fun U hU hW => ⟨rfl, by rw [hU], by rw [hU]; exact hP, va_K.moved hW.alike hK, hD.weaken (fun _ _ _ _ => trivial), va_Nw.warmM hW hnest⟩⟩ rfl rfl hl.1 rfl (lv_room (Nat.le_of_ble_eq_true rfl)) d_La_law_15 ⟨Nat.le_of_ble_eq_true rfl, Nat.le_of_ble_eq_true rfl⟩) hS (fun q _ h => hFc q h) hFc (fun u t H1 locs ht hvm hw hB hz1 hk1 hS => ?_)
  obtain ⟨aC, cC⟩ := u
  obtain ⟨hP1, hK1, hD1⟩ := hB
  rw [ht] at hP1
  have hK1 := va_K.moved hvm.symm hK1
  obtain ⟨hP, hD⟩ := va_join (wr := []) (w1 := k_Lr h0 mo r st aC cC) hP hD [0] [] rfl rfl (by decide) (by decide) hk1 hFc hP1 hD1
  have hK : va_K D vCl (kt_Lr cC) s := hK1
  generalize H1 = H at hP hS ⊢
  have hP : va_P D vCl (k_Lr h0 mo r st aC cC) H := hP
  have hD : va_D (fun q : Nat => s.heap.size ≤ q) (k_Lr h0 mo r st aC cC) := hD
  refine lv_astore_n (lv' := [(1, .ref h0), (0, .ref b)]) hx hb d_La_law_18 rfl hl (by decide) rfl (fun ls hl => ?_)
  refine va_new (ci := 6) (fs := [.int (iI 0), .int (iI 0), .int (iI 0), .null, .int (iI 0), .null, .null, .null, .null, .null, .null, .null, .null, .int (iI 0), .null, .null, .null, .int (iI 0), .null, .int (iI 0), .int (iI 0), .int (iI 0), .null, .null, .int (iI 0), .null, .null, .null]) (C := R_Mo) (T := T_Mo) (N := 28) hx hb hts in_Mo t_Mo to_Mo hown (hts _ tw_626) (hts _ tw_627) (hts _ tw_8) hK hP hD hS hA rfl (by decide +kernel) (Nat.le_of_ble_eq_true rfl) (Nat.le_of_ble_eq_true rfl) d_La_law_19 (fun hm H hP hD hS => ?_)
  refine lv_dup hx hb d_La_law_22 rfl ?_
  refine lv_aload_n hx hb d_La_law_23 rfl (lv_at hl 1 rfl) ?_
  refine r_iconst hx hb d_La_law_24 ?_
  refine r_c1 hL C0 hl.1 hP hS 0 (by omega) (by omega) (Nat.le_of_ble_eq_true rfl) d_La_law_25 (by omega) (by omega) (fun H locs hP hS => ?_)
  refine lv_aload_n hx hb d_La_law_28 rfl (lv_at hl 1 rfl) ?_
  refine r_iconst hx hb d_La_law_29 ?_
  refine r_c1 hL C0 hl.1 hP hS 1 (by omega) (by omega) (Nat.le_of_ble_eq_true rfl) d_La_law_30 (by omega) (by omega) (fun H locs hP hS => ?_)
  refine r_i2l hx hb (rg_c1v _ _ _) d_La_law_33 ?_
  rw [← hx1e, ← hx2e]
  have hPc := hP.sub (ws' := [(hm, .inr (6, [.int (iI 0), .int (iI 0), .int (iI 0), .null, .int (iI 0), .null, .null, .null, .null, .null, .null, .null, .null, .int (iI 0), .null, .null, .null, .int (iI 0), .null, .int (iI 0), .int (iI 0), .int (iI 0), .null, .null, .int (iI 0), .null, .null, .null]))]) [30] rfl
  have hDc := hD.sub (ws' := [(hm, .inr (6, [.int (iI 0), .int (iI 0), .int (iI 0), .null, .int (iI 0), .null, .null, .null, .null, .null, .null, .null, .null, .int (iI 0), .null, .null, .null, .int (iI 0), .null, .int (iI 0), .int (iI 0), .int (iI 0), .null, .null, .int (iI 0), .null, .null, .null]))]) [30] (by decide) rfl
  have hKc2 := hK.sub (tys' := []) [] rfl
  have hFc := va_free (wc := [(hm, .inr (6, [.int (iI 0), .int (iI 0), .int (iI 0), .null, .int (iI 0), .null, .null, .null, .null, .null, .null, .null, .null, .int (iI 0), .null, .null, .null, .int (iI 0), .null, .int (iI 0), .int (iI 0), .int (iI 0), .null, .null, .int (iI 0), .null, .null, .null]))]) hD hS hA [30] rfl
  refine va_callv (va_runI (As := [.int (iI x1), .long (lI x2)]) (rest := [.ref hm]) ⟨hx, hb, hml, hown, hts⟩ (ct_Mo_init l D _ hm x1 x2 r st hx1 hx2 hrr hss) (cwI 2 hts (gW tw_630) rfl rfl rfl (hts _ tw_8) (hts _ tw_628) (hts _ tw_629) rfl (by decide +kernel) ⟨Nat.le_of_ble_eq_true rfl, Nat.le_of_ble_eq_true rfl⟩) ⟨fun a U g mk q => by obtain ⟨q0, q1, qP, qK, qD⟩ := q; exact ⟨q0, q1, qP, va_K.moved (u := U) (U := U.calling g mk a) (Vm.Alike.refl U.vm) qK, qD⟩, fun U hU hW => ⟨rfl, by rw [hU], by rw [hU]; exact hPc, va_K.moved hW.alike hKc2, hDc.weaken (fun _ _ _ _ => trivial)⟩⟩ rfl rfl hl.1 rfl (lv_room (Nat.le_of_ble_eq_true rfl)) d_La_law_34 ⟨Nat.le_of_ble_eq_true rfl, Nat.le_of_ble_eq_true rfl⟩) hS (fun q _ h => hFc q h) hFc (fun u t H1 locs ht hvm hw hB hz1 hk1 hS => ?_)
  obtain ⟨aM, cM⟩ := u
  obtain ⟨hP1, hK1, hD1⟩ := hB
  rw [ht] at hP1
  have hK1 := va_K.moved hvm.symm hK1
  obtain ⟨hP, hD⟩ := va_join (wr := k_Lr h0 mo r st aC cC) (w1 := k_Mo hm r st aM cM) hP hD [30] [0, 1, 2, 3, 4, 5, 6, 7, 8, 9, 10, 11, 12, 13, 14, 15, 16, 17, 18, 19, 20, 21, 22, 23, 24, 25, 26, 27, 28, 29] rfl rfl (by decide) (by decide) hk1 hFc hP1 hD1
  have hK : va_K D vCl (kt_Lr cC ++ kt_Mo cM) s := hK.app hK1
  generalize H1 = H at hP hS ⊢
  refine lv_astore_n (lv' := [(2, .ref hm), (1, .ref h0), (0, .ref b)]) hx hb d_La_law_37 rfl hl (by decide) rfl (fun ls hl => ?_)
  refine r_iconst hx hb d_La_law_38 ?_
  refine va_newa (atype := .long) (ty := .long) (N' := 1) (a0 := (1, .inr (.inl (fun _ => lI 0)))) hx hb (hts _ tw_720) rfl hK hP hD hS hA (fun _ => rfl) (by decide +kernel) (by decide +kernel) (by decide +kernel) (Nat.le_of_ble_eq_true rfl) (Nat.le_of_ble_eq_true rfl) d_La_law_39 (fun ot co H hK hP hD hS => ?_)
  have hSy : x_S D vCl shU (ad0 h0 hm ot aC aM) (cA0 co cC cM) (NN mo) (fun q : Nat => s.heap.size ≤ q) s (F0i r st) (A0i r st) H locs := by
    refine ⟨by rw [t0_eq]; exact hK, by rw [w0_eq]; exact hP, by rw [w0_eq]; exact hD, hS, fun k => ?_⟩
    have : NN mo k ≤ 100000 := by
      unfold NN
      split <;> omega
    omega
  refine lv_astore_n (lv' := [(3, .ref ot), (2, .ref hm), (1, .ref h0), (0, .ref b)]) hx hb d_La_law_41 rfl hl (by decide) rfl (fun ls hl => ?_)
  refine r_iconst hx hb d_La_law_42 ?_
  refine lv_istore (lv' := [(4, .int (iI 2)), (3, .ref ot), (2, .ref hm), (1, .ref h0), (0, .ref b)]) hx hb d_La_law_43 hl (by decide) rfl (fun ls hl => ?_)
  refine W.widen (k := 100000 + (2 : Int).toNat) (n := 1000000 + 6 * (2 : Int).toNat) (Nat.le_of_ble_eq_true rfl) (Nat.le_of_ble_eq_true rfl) ?_
  exact s_law_b45 (ad := ad0 h0 hm ot aC aM) (cA := cA0 co cC cM) C0 hL hlT hZ hN (Nat.le_refl 100000) (Nat.le_refl 1000000) 2 (F0i r st) (A0i r st) (hpure mo r st hr0 hr1 hs0 hs1 hmo hmr hmo8) ⟨by omega, by omega⟩ H locs ls hSy (lv_sub hl [4, 3, 2, 1, 0] rfl)

