/-! THE RUN, side by side -/
section RUN10
variable {mo mb : Nat} {F : Nat → Int} {A : Nat → Int → Int} {n p r st : Int} {wd wt wr : Int → Int} {sp : Int → Int → Int} {pr pf pt : Int → Int} {σ asg asg' : Nat → Int}
theorem Gr_no {k k' : Nat} (h : Gr wd wt wr sp p pr pf pt σ asg k) (h' : Gr wd wt wr sp p pr pf pt σ asg' k') (hk : k < k') (hno : ∀ j, 0 ≤ j → j < p → ¬ fe wd sp pf pt (fun i => lnf σ asg i k) (fun i => cn asg i k) (σ k) j) : False := by
  have e := Gr_one h (Gr_lt h' (by omega))
  obtain ⟨a, b, c⟩ := Gr_in h' hk
  have q := fe_asg (wd := wd) (wt := wt) (wr := wr) (sp := sp) (pr := pr) (pf := pf) (pt := pt) (σ := σ) e (σ k)
  have g := hno (asg' k) a b
  rw [q.1] at g
  exact g c
theorem places {A : Nat → Int → Int} {ba : Int → Int} (h : iv_pt mb r st p pr pf pt ba) (hr : r ≤ 16) (hst : st ≤ 1000) (hB : BD n wd wt wr sp) (n0 : 0 ≤ n) (hG : Gr wd wt wr sp p pr pf pt (isrt wt n.toNat) asg n.toNat) (hG' : Gr wd wt wr sp p pr pf pt (isrt wt n.toNat) asg' n.toNat)
    (hC : PL wd wt sp p pr pf pt (fun i => lnf (isrt wt n.toNat) asg i n.toNat) (fun i => cn asg i n.toNat) A)
    (hR : ∀ i, 0 ≤ i → i < p → RW wd wt sp (pr i) (pf i) (pt i) (lnf (isrt wt n.toNat) asg' i n.toNat) (cn asg' i n.toNat) A) :
    ∀ c, 0 ≤ c → c < n → A 8 c = A 33 c ∧ A 9 c = A 34 c ∧ 0 ≤ A 9 c ∧ A 9 c < r ∧ 0 ≤ A 8 c ∧ A 8 c + wd c ≤ st := by
  have hP := pt_PB h hr hst
  intro c c0 c1
  have hσ : ∀ t, t < n.toNat → 0 ≤ isrt wt n.toNat t ∧ isrt wt n.toNat t < n := fun t ht => by have := isrt_in wt n.toNat t ht; omega
  have hI := Gr_LI hP hσ hG
  obtain ⟨t, t1, t2⟩ := isrt_sur wt n.toNat c c0 (by omega)
  obtain ⟨i0, i1, _⟩ := Gr_in hG t1
  obtain ⟨q, q1, q2, q3⟩ := lnf_ps (isrt wt n.toNat) asg (asg t) n.toNat
  obtain ⟨j, j1, j2⟩ := q3 t t1 rfl
  have ej : lnf (isrt wt n.toNat) asg (asg t) n.toNat j = c := by rw [(q1 j j1).2.2, j2, t2]
  generalize asg t = i at i0 i1 q1 j1 ej
  obtain ⟨l1, l2, l3⟩ := hI i i0 i1
  obtain ⟨B, b1, b2⟩ := hC i i0 i1
  obtain ⟨y, y1, y2⟩ := hR i i0 i1
  have cg := cn_congr (σ := isrt wt n.toNat) (i := i) (Gr_one hG' hG)
  rw [cg.1, cg.2] at y1 y2
  dsimp only at l1 l2 l3 b1 b2
  have e := rway_eq l3 y1 b1 j j1
  have wi := wback_in B _ (fun a ha => (b1 a ha).1) l3 j j1
  obtain ⟨z1, z2⟩ := b2 j j1
  obtain ⟨z3, z4⟩ := y2 j j1
  rw [ej] at z1 z2 z3 z4
  have o := off_in hB l1 j j1
  have ol := off_len hB l1 (cn asg i n.toNat - j - 1) j (by omega)
  rw [ej] at ol
  have pp := h.2.2.1 i i0 i1
  rw [z1, z2, z3, z4, e]
  refine ⟨rfl, rfl, by omega, by omega, by omega, by omega⟩
set_option maxHeartbeats 1000000 in
theorem op_run {P : Int → Int → (Nat → Int) → (Nat → Int → Int) → Prop} (hI : Inv mb r st F A) (hmb : mb ≤ mo) (hmo : (mo : Int) ≤ 8000) (hP : ∀ z z2 F2 A2, Inv mb r st F2 A2 → z = z2 → 0 ≤ z → z ≤ 60 → P z z2 F2 A2) :
    w_Lr_run mo F A (fun z F1 A1 => w_Mo_run mo F1 A1 (fun z2 F2 A2 => P z z2 F2 A2)) := by
  obtain ⟨i1, i2, i3, i4, i5, i6, i7, i8, i9, i10, i11⟩ := id hI
  obtain ⟨a1, a2, a3, a4, a5, a6, a7, a8⟩ := i1
  obtain ⟨n1, n2, n3, n4, n5, n6, n7, n8⟩ := i2
  have hB : BD (F 4) (A 3) (A 6) (A 7) (fun a b => A 10 (A 5 a * 4 + A 4 b)) := fun c c0 c1 => by
    have x3 := i3 c c0 c1
    have x6 := i6 c c0 (by omega)
    have x7 := i7 c c0 (by omega)
    have x5 := i5 c c0 (by omega)
    refine ⟨x3.2.1, x3.2.2, x6.2.1, by omega, x7.2.1, by omega, fun b b0 b1 => ?_⟩
    have x4 := i4 b b0 (by omega)
    exact (i8 (A 5 c * 4 + A 4 b) (by omega) (by omega)).2
  have hC : CD (F 4) (A 3) (A 6) (A 7) (fun a b => A 10 (A 5 a * 4 + A 4 b)) A := fun c c0 c1 => by
    have x5 := i5 c c0 (by omega)
    refine ⟨rfl, rfl, rfl, fun b b0 b1 => ?_⟩
    have x4 := i4 b b0 (by omega)
    exact ⟨by omega, by omega, rfl⟩
  have hD : RD (F 4) (A 3) (A 6) (A 7) (fun a b => A 10 (A 5 a * 4 + A 4 b)) A := fun c c0 c1 => by
    have x5 := i5 c c0 (by omega)
    refine ⟨(i3 c c0 c1).1.symm, (i6 c c0 (by omega)).1.symm, (i7 c c0 (by omega)).1.symm, fun b b0 b1 => ?_⟩
    have x4 := i4 b b0 (by omega)
    have e : 4 * A 27 c + A 26 b = A 5 c * 4 + A 4 b := by omega
    rw [e]
    exact ⟨by omega, by omega, (i8 (A 5 c * 4 + A 4 b) (by omega) (by omega)).1.symm⟩
  have hPB := pt_PB i10 a6 a8
  -- the reference behind the class
  have ref : ∀ (F1 : Nat → Int) (A1 : Nat → Int → Int) (Q : Int → (Nat → Int) → (Nat → Int → Int) → Prop), frF [0, 6, 7, 8, 9] F1 F → frA [8, 9, 14, 15, 16, 17, 18, 19, 20, 21, 22, 23] A1 A →
      (∀ F' A' asg, Gr (A 3) (A 6) (A 7) (fun a b => A 10 (A 5 a * 4 + A 4 b)) (F 3) (A 0) (A 1) (A 2) (isrt (A 6) (F 4).toNat) asg (F 4).toNat → (∀ i, 0 ≤ i → i < F 3 → RW (A 3) (A 6) (fun a b => A 10 (A 5 a * 4 + A 4 b)) (A 0 i) (A 1 i) (A 2 i) (lnf (isrt (A 6) (F 4).toNat) asg i (F 4).toNat) (cn asg i (F 4).toNat) A') → frF [10, 15, 16, 17, 18, 19] F' F1 → F' 15 = 1 → frA [33, 34, 35, 36, 37, 38, 39, 40, 41] A' A1 → Q 0 F' A') →
      (∀ F' A' asg k, k < (F 4).toNat → Gr (A 3) (A 6) (A 7) (fun a b => A 10 (A 5 a * 4 + A 4 b)) (F 3) (A 0) (A 1) (A 2) (isrt (A 6) (F 4).toNat) asg k → (∀ j, 0 ≤ j → j < F 3 → ¬ fe (A 3) (fun a b => A 10 (A 5 a * 4 + A 4 b)) (A 1) (A 2) (fun i => lnf (isrt (A 6) (F 4).toNat) asg i k) (fun i => cn asg i k) (isrt (A 6) (F 4).toNat k) j) → frF [10, 15, 16, 17, 18, 19] F' F1 → F' 15 = 0 → frA [33, 34, 35, 36, 37, 38, 39, 40, 41] A' A1 → Q (1 + isrt (A 6) (F 4).toNat k) F' A') → w_Mo_run mo F1 A1 Q := by
    intro F1 A1 Q ff fr q1 q2
    refine m_run (r := r) (st := st) (p := F 3) (pr := A 0) (pf := A 1) (pt := A 2) (n := F 4) (by rw [fr 24 (by decide)]; exact i10) (by omega) a6 (by omega) a8 (by rw [ff 11 (by decide)]; exact a3) (by rw [ff 12 (by decide)]; exact a4) (by rw [ff 13 (by decide)]; exact n1.symm) hB (fun c c0 c1 => ?_) n2 n3 q1 q2
    rw [fr 25 (by decide), fr 26 (by decide), fr 27 (by decide), fr 28 (by decide), fr 29 (by decide), fr 30 (by decide)]
    exact hD c c0 c1
  -- the invariant behind both
  have inv : ∀ (F1 F2 : Nat → Int) (A1 A2 : Nat → Int → Int), frF [0, 6, 7, 8, 9] F1 F → frA [8, 9, 14, 15, 16, 17, 18, 19, 20, 21, 22, 23] A1 A → frF [10, 15, 16, 17, 18, 19] F2 F1 → frA [33, 34, 35, 36, 37, 38, 39, 40, 41] A2 A1 → F1 0 = F2 15 → (F2 15 = 0 ∨ F2 15 = 1) → (F2 15 = 1 → ∀ c, 0 ≤ c → c < F 4 → A2 8 c = A2 33 c ∧ A2 9 c = A2 34 c ∧ 0 ≤ A2 9 c ∧ A2 9 c < r ∧ 0 ≤ A2 8 c ∧ A2 8 c + A 3 c ≤ st) → Inv mb r st F2 A2 := by
    intro F1 F2 A1 A2 ff fr ff2 fr2 e0 e15 hpl
    have g : ∀ k, k ∉ [0, 6, 7, 8, 9, 10, 15, 16, 17, 18, 19] → F2 k = F k := fun k hk => by
      simp only [List.mem_cons, List.not_mem_nil, or_false, not_or] at hk
      rw [ff2 k (by simp only [List.mem_cons, List.not_mem_nil, or_false, not_or]; omega), ff k (by simp only [List.mem_cons, List.not_mem_nil, or_false, not_or]; omega)]
    have gA : ∀ k, k ∉ [8, 9, 14, 15, 16, 17, 18, 19, 20, 21, 22, 23, 33, 34, 35, 36, 37, 38, 39, 40, 41] → A2 k = A k := fun k hk => by
      simp only [List.mem_cons, List.not_mem_nil, or_false, not_or] at hk
      rw [fr2 k (by simp only [List.mem_cons, List.not_mem_nil, or_false, not_or]; omega), fr k (by simp only [List.mem_cons, List.not_mem_nil, or_false, not_or]; omega)]
    have e00 : F2 0 = F2 15 := by rw [ff2 0 (by decide)]; exact e0
    unfold Inv
    rw [g 1 (by decide), g 2 (by decide), g 11 (by decide), g 12 (by decide), g 4 (by decide), g 13 (by decide), g 5 (by decide), g 14 (by decide), g 3 (by decide)]
    rw [gA 3 (by decide), gA 25 (by decide), gA 4 (by decide), gA 26 (by decide), gA 5 (by decide), gA 27 (by decide), gA 6 (by decide), gA 28 (by decide), gA 7 (by decide), gA 29 (by decide), gA 10 (by decide), gA 30 (by decide), gA 11 (by decide), gA 12 (by decide), gA 13 (by decide), gA 31 (by decide), gA 32 (by decide), gA 0 (by decide), gA 1 (by decide), gA 2 (by decide), gA 24 (by decide)]
    refine ⟨⟨a1, a2, a3, a4, a5, a6, a7, a8⟩, ⟨n1, n2, n3, n4, n5, n6, e00, by rw [e00]; exact e15⟩, i3, i4, i5, i6, i7, i8, i9, i10, fun hp => hpl (by rw [← e00]; exact hp)⟩
  refine c_placeAll (n := F 4) (p := F 3) (pr := A 0) (pf := A 1) (pt := A 2) hmo hB hC n2 n3 hPB i10.1 (by have := i10.2.1; omega) rfl rfl rfl rfl rfl (fun F1 A1 asg hG ff fr hL => ?_) (fun F1 A1 asg k hk hG hno ff fr => ?_)
  · refine ⟨⟨by omega, by omega⟩, fun h => absurd rfl h, fun _ => ⟨Or.inr rfl, ⟨by omega, by omega⟩, fun h => absurd h (by omega), fun _ => ?_⟩⟩
    have ff' : frF [0, 6, 7, 8, 9] (uf F1 0 1) F := frF_u (frF_s ff (by decide)) (by decide)
    refine ref _ _ _ ff' fr (fun F2 A2 asg2 hG2 hW ff2 e15 fr2 => ?_) (fun F2 A2 asg2 k hk hG2 hno _ _ _ => (Gr_no hG2 hG hk hno).elim)
    refine hP 0 0 F2 A2 (inv _ _ _ _ ff' fr ff2 fr2 (by rw [uf_s]; exact e15.symm) (Or.inr e15) (fun _ => ?_)) rfl (by omega) (by omega)
    refine places i10 a6 a8 hB n2 hG hG2 (fun i i0 i1 => ?_) hW
    rw [fr2 8 (by decide), fr2 9 (by decide)]
    exact hL i i0 i1
  · have s := isrt_in (A 6) (F 4).toNat k hk
    refine ⟨⟨by omega, by omega⟩, fun _ => ⟨Or.inl rfl, ⟨by omega, by omega⟩, fun _ => ?_, fun h => absurd rfl h⟩, fun h => absurd h (by omega)⟩
    have ff' : frF [0, 6, 7, 8, 9] (uf F1 0 0) F := frF_u (frF_s ff (by decide)) (by decide)
    refine ref _ _ _ ff' fr (fun F2 A2 asg2 hG2 hW ff2 e15 fr2 => (Gr_no hG hG2 hk hno).elim) (fun F2 A2 asg2 k2 hk2 hG2 hno2 ff2 e15 fr2 => ?_)
    have ek : k = k2 := by
      by_cases x : k < k2
      · exact (Gr_no hG hG2 x hno).elim
      · by_cases y : k2 < k
        · exact (Gr_no hG2 hG y hno2).elim
        · omega
    subst ek
    exact hP _ _ F2 A2 (inv _ _ _ _ ff' fr ff2 fr2 (by rw [uf_s]; exact e15.symm) (Or.inl e15) (fun h => by omega)) rfl (by omega) (by omega)
end RUN10
