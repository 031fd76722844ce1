/-! THE REFERENCE'S RUN -/
section RUN9
variable {mo mb : Nat} {F : Nat → Int} {A : Nat → Int → Int} {n p r st : Int} {wd wt wr : Int → Int} {sp : Int → Int → Int} {pr pf pt : Int → Int} {ln : Nat → Int} {m k : Nat} {f t : Int} {σ asg : Nat → Int}
theorem pv_app {y : Nat → Int} {k j : Nat} {u : Int} (h : j ≤ k) : pv (app y k u) j = pv y j := by
  cases j with
  | zero => rfl
  | succ j => exact app_lt (by omega)
set_option maxHeartbeats 1000000 in
theorem r_settle {Q : (Nat → Int) → (Nat → Int → Int) → Prop} {row : Int} (hB : BD n wd wt wr sp) (hD : RD n wd wt wr sp A) (hn : n ≤ 60) (hl : lnIn n ln m) (hm : m ≤ 60) (hL : RL ln m f t F A) (f0 : 0 ≤ f) (ft : f < t) (t1 : t ≤ 1000) (hr : 0 ≤ t - f - lenF wd sp ln m) (hd : ∀ a b, a < b → b < m → ln a ≠ ln b)
    (hQ : ∀ A' y, frA [33, 34, 37] A' A → rway (dF wd wt sp f ln) y (t - f - lenF wd sp ln m) m → (∀ j : Nat, j < m → A' 33 (ln j) = f + offF wd sp ln j + y j ∧ A' 34 (ln j) = row) → (∀ c, (∀ j, j < m → ln j ≠ c) → A' 33 c = A 33 c ∧ A' 34 c = A 34 c) → Q F A') : w_Mo_settle mo F A row Q := by
  refine r_lay hB hD hn hl hm hL f0 ft t1 hr (fun _ A0 fr0 hT => ?_)
  have hw := way_in (wt := wt) hB hl f0 t1
  rw [hL.2.1]
  refine Lp4_by (fun (x2 x3 : Int) F' A' => ∃ (k : Nat) (y : Nat → Int), x3 = k ∧ k ≤ m ∧ F' = F ∧ frA [33, 34] A' A0 ∧ (k < m → x2 = f + offF wd sp ln k + pv y k ∧ 0 ≤ pv y k ∧ pv y k ≤ t - f - lenF wd sp ln m) ∧ (∀ j, j < k → pv y j ≤ y j ∧ y j ≤ t - f - lenF wd sp ln m ∧ ((y j - dF wd wt sp f ln j).natAbs : Int) + Bm (dF wd wt sp f ln) (t - f - lenF wd sp ln m) (j + 1) (m - j - 1) (y j) = Bm (dF wd wt sp f ln) (t - f - lenF wd sp ln m) j (m - j - 1 + 1) (pv y j) ∧ ∀ u, pv y j ≤ u → u < y j → ((u - dF wd wt sp f ln j).natAbs : Int) + Bm (dF wd wt sp f ln) (t - f - lenF wd sp ln m) (j + 1) (m - j - 1) u ≠ Bm (dF wd wt sp f ln) (t - f - lenF wd sp ln m) j (m - j - 1 + 1) (pv y j)) ∧ (∀ j : Nat, j < k → A' 33 (ln j) = f + offF wd sp ln j + y j ∧ A' 34 (ln j) = row) ∧ (∀ c, (∀ j, j < k → ln j ≠ c) → A' 33 c = A 33 c ∧ A' 34 c = A 34 c)) (fun (x2 x3 : Int) _ _ => (m - x3).toNat) ?_ f 0 F A0 ⟨0, fun _ => 0, rfl, by omega, rfl, frA_r, fun _ => ⟨by show f = f + 0 + 0; omega, Int.le_refl _, hr⟩, fun j h => absurd h (Nat.not_lt_zero _), fun j h => absurd h (Nat.not_lt_zero _), fun c _ => by rw [fr0 33 (by decide), fr0 34 (by decide)]; exact ⟨rfl, rfl⟩⟩
  rintro x2 x3 F1 A1 ⟨k, y, rfl, k1, rfl, fr1, g1, g2, g3, g4⟩ P hP
  rw [hL.1]
  refine ⟨⟨by omega, by omega⟩, ⟨by omega, by omega⟩, fun h => ?_, fun h => ?_⟩
  · have e : k = m := by omega
    subst e
    refine hQ A1 y (frA_t (frA_s fr1 (by decide)) (frA_s fr0 (by decide))) (fun j e he => ?_) g3 g4
    have q := g2 j (by omega)
    rw [show k - j - 1 = e by omega] at q
    exact q
  have hk : k < m := by omega
  obtain ⟨e2, v0, v1⟩ := g1 hk
  obtain ⟨l1, l2⟩ := hl k hk
  have o := off_in hB hl k hk
  have ol := off_len hB hl (m - k - 1) k (by omega)
  have wk := hB (ln k) l1 l2
  have e37 : A1 37 = A0 37 := fr1 37 (by decide)
  have eT := (hT k hk x2 (by omega) (by omega)).2.2 (by omega)
  have es : x2 - f - offF wd sp ln k = pv y k := by omega
  rw [es] at eT
  unfold tbv at eT
  rw [if_pos v1, show m - k = m - k - 1 + 1 by omega] at eT
  rw [e37, eT]
  refine ⟨by omega, by omega, ?_⟩
  have hV : Bm (dF wd wt sp f ln) (t - f - lenF wd sp ln m) k (m - k - 1 + 1) (pv y k) = smin (fun u => ((u - dF wd wt sp f ln k).natAbs : Int) + Bm (dF wd wt sp f ln) (t - f - lenF wd sp ln m) (k + 1) (m - k - 1) u) (pv y k) (t - f - lenF wd sp ln m) := rfl
  have tb := tbv_in (d := dF wd wt sp f ln) (r := t - f - lenF wd sp ln m) (k := k) (s := pv y k) (by omega) v0 hm hw
  unfold tbv at tb
  rw [if_pos v1, show m - k = m - k - 1 + 1 by omega] at tb
  generalize hVV : Bm (dF wd wt sp f ln) (t - f - lenF wd sp ln m) k (m - k - 1 + 1) (pv y k) = V at hV tb
  have fr : frA [33, 34, 37] A1 A := frA_t (frA_s fr1 (by decide)) (frA_s fr0 (by decide))
  have hL1 : RL ln m f t F1 A1 := ⟨hL.1, hL.2.1, hL.2.2.1, fun j hj => by rw [fr 36 (by decide)]; exact hL.2.2.2 j hj⟩
  have hD1 := RD_fr hD (frA_s fr (by decide))
  refine Lp1_by (fun (x : Int) => ∃ u, x = f + offF wd sp ln k + u ∧ pv y k ≤ u ∧ u ≤ t - f - lenF wd sp ln m ∧ ∀ s, pv y k ≤ s → s < u → ((s - dF wd wt sp f ln k).natAbs : Int) + Bm (dF wd wt sp f ln) (t - f - lenF wd sp ln m) (k + 1) (m - k - 1) s ≠ V) (fun (x : Int) => (2000 - x).toNat) ?_ x2 ⟨pv y k, e2, Int.le_refl _, v1, fun s a b => by omega⟩
  rintro x ⟨u, rfl, u0, u1, u2⟩ P1 hP1
  refine r_costAt hB hD1 hn hl hm hL1 hk f0 ft t1 hr (by omega) (by omega) (fun hk1 => ?_) (fun z z0 z1 hz => ?_)
  · have := hT (k + 1) hk1
    unfold RO at this ⊢
    rw [e37]
    exact this
  have hz' := hz (by omega)
  rw [show f + offF wd sp ln k + u - f - offF wd sp ln k = u by omega] at hz'
  unfold cv at hz'
  rw [if_pos u1] at hz'
  refine ⟨⟨by omega, by omega⟩, ⟨by omega, by omega⟩, fun e => ?_, fun e => ?_⟩
  · rw [hL1.2.2.2 k hk]
    refine ⟨by omega, by omega, l1, by omega, ?_⟩
    have frN : frA [33, 34] (ua (ua A1 33 (ln k) (f + offF wd sp ln k + u)) 34 (ln k) row) A0 := frA_u (frA_u fr1 (by decide)) (by decide)
    have nx : ∀ x', (k + 1 < m → x' = f + offF wd sp ln (k + 1) + u) → P x' ((k : Int) + 1) F1 (ua (ua A1 33 (ln k) (f + offF wd sp ln k + u)) 34 (ln k) row) := by
      intro x' hx'
      refine hP _ _ _ _ ⟨k + 1, app y k u, by omega, by omega, rfl, frN, fun hk1 => ?_, fun j hj => ?_, fun j hj => ?_, fun c hc => ?_⟩ (by omega)
      · have ep : pv (app y k u) (k + 1) = u := app_eq
        rw [ep]
        exact ⟨hx' hk1, by omega, u1⟩
      · by_cases ej : j = k
        · subst ej
          rw [app_eq, pv_app (Nat.le_refl j), hVV]
          exact ⟨u0, u1, by omega, u2⟩
        · rw [app_lt (by omega), pv_app (by omega)]
          exact g2 j (by omega)
      · rw [ua_n (a := 33) (by decide), ua_at, ua_at]
        by_cases ej : j = k
        · rw [ej, if_pos rfl, if_pos rfl, app_eq]
          exact ⟨rfl, rfl⟩
        · rw [if_neg (hd j k (by omega) hk), if_neg (hd j k (by omega) hk), ua_n (a := 34) (by decide), app_lt (by omega)]
          exact g3 j (by omega)
      · have ec := hc k (by omega)
        rw [ua_n (a := 33) (by decide), ua_at, ua_at, if_neg (fun e => ec e.symm), if_neg (fun e => ec e.symm), ua_n (a := 34) (by decide)]
        exact g4 c (fun j hj => hc j (by omega))
    refine r_behind (ln := ln) (m := m) (f := f) (t := t) (RD_fr hD (frA_t (frA_s frN (by decide)) (frA_s fr0 (by decide)))) hn hl hm ⟨hL.1, hL.2.1, hL.2.2.1, fun j hj => ?_⟩ hk (fun h1 => nx _ (fun _ => by omega)) (fun h1 => nx _ (fun h2 => absurd h2 (by omega)))
    rw [ua_n (by decide), ua_n (by decide)]
    exact hL1.2.2.2 j hj
  · obtain ⟨s, s0, s1, s2⟩ := smin_at (fun u => ((u - dF wd wt sp f ln k).natAbs : Int) + Bm (dF wd wt sp f ln) (t - f - lenF wd sp ln m) (k + 1) (m - k - 1) u) v1
    rw [← hV] at s2
    have hsu : u < s := by
      by_cases a : s < u
      · exact absurd s2.symm (u2 s s0 a)
      · by_cases b : s = u
        · rw [b] at s2
          exact absurd (hz'.trans s2.symm) e
        · omega
    refine hP1 _ ⟨u + 1, by omega, by omega, by omega, fun w w0 w1 => ?_⟩ (by omega)
    by_cases b : w = u
    · rw [b, ← hz']
      exact e
    · exact u2 w w0 (by omega)
theorem r_gather {Q : (Nat → Int) → (Nat → Int → Int) → Prop} {a x i : Int} {N : Nat} {ba : Int → Int} (h : iv_pt mb r st p pr pf pt ba) (hr : r ≤ 16) (hst : st ≤ 1000) (i0 : 0 ≤ i) (i1 : i < p) (ea : pr i = a) (ex : pf i = x) (hN : N ≤ 60) (e19 : F 19 = N) (hσ : ∀ t, t < N → 0 ≤ σ t ∧ σ t < 60) (h38 : ∀ j : Nat, j < N → A 38 j = σ j) (h35 : ∀ t, t < N → A 35 (σ t) = key pr pf (asg t) ∧ 0 ≤ asg t ∧ asg t < p)
    (hQ : ∀ F' A', frF [16] F' F → frA [36] A' A → F' 16 = cn asg i N → (∀ j : Nat, j < cn asg i N → A' 36 j = lnf σ asg i N j) → Q F' A') : w_Mo_gather mo F A a x Q := by
  have hP := pt_PB h hr hst
  have pi := hP i i0 i1
  refine Lp3_by (fun (x3 : Int) F' A' => ∃ t : Nat, x3 = t ∧ t ≤ N ∧ frF [16] F' F ∧ frA [36] A' A ∧ F' 16 = cn asg i t ∧ ∀ j : Nat, j < cn asg i t → A' 36 j = lnf σ asg i t j) (fun (x3 : Int) _ _ => (N - x3).toNat) ?_ 0 (uf F 16 0) A ⟨0, rfl, by omega, frF_u frF_r (by decide), frA_r, uf_s, fun j h => absurd h (Nat.not_lt_zero _)⟩
  rintro x3 F1 A1 ⟨t, rfl, t1, ff, fr, c16, c36⟩ P hP'
  have f19 : F1 19 = N := (ff 19 (by decide)).trans e19
  have cl : cn asg i t ≤ t := by
    clear c36 c16 t1 hP'
    induction t with
    | zero => exact Nat.le_refl _
    | succ t ih =>
      by_cases e : asg t = i
      · rw [cn_1 e]; omega
      · rw [cn_0 e]; omega
  rw [f19]
  refine ⟨⟨by omega, by omega⟩, ⟨by omega, by omega⟩, fun g => ?_, fun g => ?_⟩
  · have e : t = N := by omega
    subst e
    exact hQ F1 A1 ff fr c16 c36
  have ht : t < N := by omega
  obtain ⟨s0, s1⟩ := hσ t ht
  obtain ⟨k0, k1, k2⟩ := h35 t ht
  have pa := hP (asg t) k1 k2
  have e38 : A1 38 t = σ t := by rw [fr 38 (by decide)]; exact h38 t ht
  have e35 : A1 35 (σ t) = key pr pf (asg t) := by rw [fr 35 (by decide)]; exact k0
  have ek : 1000 * a + x = key pr pf i := by unfold key; rw [ea, ex]
  rw [e38, e35, ek, c16]
  have r1 : rg (key pr pf (asg t)) := by unfold key; exact ⟨by omega, by omega⟩
  have r2 : rg (key pr pf i) := by unfold key; exact ⟨by omega, by omega⟩
  refine ⟨by omega, by omega, s0, s1, r1, r2, fun e => ?_, fun e => ?_⟩
  · have en : ¬ asg t = i := fun x => e (by rw [x])
    refine hP' _ _ _ ⟨t + 1, by omega, by omega, ff, fr, ?_, fun j hj => ?_⟩ (by omega)
    · rw [cn_0 en]; exact c16
    · rw [cn_0 en] at hj
      rw [lnf_0 en]
      exact c36 j hj
  · have en : asg t = i := key_one h hst k1 k2 i0 i1 e
    refine ⟨by omega, by omega, hP' _ _ _ ⟨t + 1, by omega, by omega, frF_u ff (by decide), frA_u fr (by decide), ?_, fun j hj => ?_⟩ (by omega)⟩
    · rw [cn_1 en, uf_s]
      omega
    · rw [cn_1 en] at hj
      rw [lnf_1 en, ua_at]
      by_cases ej : j = cn asg i t
      · rw [if_pos (by omega), ej, app_eq]
      · rw [if_neg (by omega), app_lt (by omega)]
        exact c36 j (by omega)
/-- where the reference put the cells of a part -/
def RW (wd wt : Int → Int) (sp : Int → Int → Int) (a f t : Int) (ln : Nat → Int) (m : Nat) (A : Nat → Int → Int) : Prop := ∃ y, rway (dF wd wt sp f ln) y (t - f - lenF wd sp ln m) m ∧ ∀ j : Nat, j < m → A 33 (ln j) = f + offF wd sp ln j + y j ∧ A 34 (ln j) = a
set_option maxHeartbeats 1000000 in
theorem r_phase2 {Q : Int → (Nat → Int) → (Nat → Int → Int) → Prop} {N : Nat} (h : iv_pt mb r st p pr pf pt (A 24)) (r0 : 0 ≤ r) (hr : r ≤ 16) (s0 : 0 ≤ st) (hst : st ≤ 1000) (e11 : F 11 = r) (e12 : F 12 = st) (hB : BD n wd wt wr sp) (hD : RD n wd wt wr sp A) (hn : n ≤ 60) (hN : N ≤ 60) (e19 : F 19 = N) (hσ : ∀ t, t < N → 0 ≤ σ t ∧ σ t < n) (hinj : sInj σ N) (hG : Gr wd wt wr sp p pr pf pt σ asg N) (h38 : ∀ j : Nat, j < N → A 38 j = σ j) (h35 : ∀ t, t < N → A 35 (σ t) = key pr pf (asg t))
    (hQ : ∀ F' A', frF [16, 17, 18] F' F → frA [33, 34, 36, 37] A' A → (∀ i, 0 ≤ i → i < p → RW wd wt sp (pr i) (pf i) (pt i) (lnf σ asg i N) (cn asg i N) A') → Q 0 (uf F' 15 1) A') : w_Mo_run_b95 mo Q 0 F A := by
  have hP := pt_PB h hr hst
  have hI := Gr_LI hP hσ hG
  refine Lp3_by (fun (x1 : Int) F' A' => 0 ≤ x1 ∧ x1 ≤ r ∧ frF [16, 17, 18] F' F ∧ frA [33, 34, 36, 37] A' A ∧ ∃ q, QG p pr pf q (1000 * x1 + 0) ∧ ∀ i, 0 ≤ i → i < q → RW wd wt sp (pr i) (pf i) (pt i) (lnf σ asg i N) (cn asg i N) A') (fun (x1 : Int) _ _ => (r - x1).toNat) ?_ 0 F A ⟨by omega, r0, frF_r, frA_r, 0, QG_0 h, fun i a b => by omega⟩
  rintro x1 F1 A1 ⟨g0, g1, ff, fr, q, hq, hw⟩ P hP'
  have f11 : F1 11 = r := (ff 11 (by decide)).trans e11
  rw [f11]
  refine ⟨⟨by omega, by omega⟩, ⟨by omega, by omega⟩, fun hx => ?_, fun hx => ?_⟩
  · have e5 : x1 = r := by omega
    subst e5
    have eq := QG_end h hst hq
    subst eq
    exact hQ F1 A1 ff fr hw
  refine Lp3_by (fun (x2 : Int) F' A' => 0 ≤ x2 ∧ x2 ≤ st ∧ frF [16, 17, 18] F' F ∧ frA [33, 34, 36, 37] A' A ∧ ∃ q, QG p pr pf q (1000 * x1 + x2) ∧ ∀ i, 0 ≤ i → i < q → RW wd wt sp (pr i) (pf i) (pt i) (lnf σ asg i N) (cn asg i N) A') (fun (x2 : Int) _ _ => (st - x2).toNat) ?_ 0 F1 A1 ⟨by omega, s0, ff, fr, q, hq, hw⟩
  clear hw hq q fr ff f11
  clear F1 A1
  rintro x2 F2 A2 ⟨k0, k1, ff, fr, q, hq, hw⟩ P2 hP2
  have f12 : F2 12 = st := (ff 12 (by decide)).trans e12
  rw [f12]
  refine ⟨⟨by omega, by omega⟩, ⟨by omega, by omega⟩, fun hy => ?_, fun hy => ?_⟩
  · exact hP' _ _ _ ⟨by omega, by omega, ff, fr, q, QG_row h hst (by omega) hq, hw⟩ (by omega)
  have h2 : iv_pt mb r st p pr pf pt (A2 24) := by rw [fr 24 (by decide)]; exact h
  refine r_begin h2 hr hst g0 (by omega) k0 (by omega) (fun i i0 i1 i2 i3 => ?_) (fun hno => ?_)
  · refine ⟨⟨by omega, by omega⟩, fun e => absurd e (by omega), fun _ => ?_⟩
    obtain ⟨eqi, hq'⟩ := QG_yes h hst hq i0 i1 i2 i3
    subst eqi
    obtain ⟨q1, q2, q3, q4, q5⟩ := hP q i0 i1
    obtain ⟨l1, l2, l3⟩ := hI q i0 i1
    dsimp only at l1 l2 l3
    refine r_end (i := q) h2 hr hst (by rw [uf_n (by decide)]; exact f12) i0 i1 i2.symm i3.symm ?_
    refine r_gather (i := q) (σ := σ) (asg := asg) (N := N) h2 hr hst i0 i1 i2 i3 hN (by rw [uf_n (by decide), uf_n (by decide), ff 19 (by decide)]; exact e19) (fun t ht => by have := hσ t ht; omega) (fun j hj => by rw [fr 38 (by decide)]; exact h38 j hj) (fun t ht => ⟨by rw [fr 35 (by decide)]; exact h35 t ht, (Gr_in hG ht).1, (Gr_in hG ht).2.1⟩) (fun F6 A6 ff6 fr6 c16 c36 => ?_)
    have ffN : frF [16, 17, 18] F6 F := frF_t (frF_s ff6 (by decide)) (frF_u (frF_u ff (by decide)) (by decide))
    have frN : frA [33, 34, 36, 37] A6 A := frA_t (frA_s fr6 (by decide)) fr
    have hL : RL (lnf σ asg q N) (cn asg q N) (pf q) (pt q) F6 A6 := ⟨c16, by rw [ff6 17 (by decide), uf_n (by decide), uf_s]; exact i3.symm, by rw [ff6 18 (by decide), uf_s], c36⟩
    refine r_settle (ln := lnf σ asg q N) (m := cn asg q N) (f := pf q) (t := pt q) hB (RD_fr hD (frA_s frN (by decide))) hn l1 (by omega) hL q3 q4 q5 l3 (lnf_dist hinj (Nat.le_refl N)) (fun A7 y fr7 hy hpl hpo => ?_)
    refine hP2 _ _ _ ⟨by omega, by omega, ffN, frA_t (frA_s fr7 (by decide)) frN, q + 1, hq', fun i j0 j1 => ?_⟩ (by omega)
    by_cases e : i = q
    · subst e
      refine ⟨y, hy, fun j hj => ?_⟩
      rw [i2]
      exact hpl j hj
    · obtain ⟨y', hy', hp'⟩ := hw i j0 (by omega)
      refine ⟨y', hy', fun j hj => ?_⟩
      obtain ⟨u, w⟩ := hpo (lnf σ asg i N j) (fun a ha => lnf_dis hinj (Nat.le_refl N) (fun x => e x.symm) a j ha hj)
      rw [u, w, fr6 33 (by decide), fr6 34 (by decide)]
      exact hp' j hj
  · exact ⟨⟨by omega, by omega⟩, fun _ => hP2 _ _ _ ⟨by omega, by omega, ff, fr, q, QG_no h hst k0 (by omega) hq hno, hw⟩ (by omega), fun e => absurd rfl e⟩
set_option maxHeartbeats 1000000 in
theorem m_run {Q : Int → (Nat → Int) → (Nat → Int → Int) → Prop} (h : iv_pt mb r st p pr pf pt (A 24)) (r0 : 0 ≤ r) (hr : r ≤ 16) (s0 : 0 ≤ st) (hst : st ≤ 1000) (e11 : F 11 = r) (e12 : F 12 = st) (e13 : F 13 = n) (hB : BD n wd wt wr sp) (hD : RD n wd wt wr sp A) (n0 : 0 ≤ n) (hn : n ≤ 60)
    (hQ1 : ∀ F' A' asg, Gr wd wt wr sp p pr pf pt (isrt wt n.toNat) asg n.toNat → (∀ i, 0 ≤ i → i < p → RW wd wt sp (pr i) (pf i) (pt i) (lnf (isrt wt n.toNat) asg i n.toNat) (cn asg i n.toNat) A') → frF [10, 15, 16, 17, 18, 19] F' F → F' 15 = 1 → frA [33, 34, 35, 36, 37, 38, 39, 40, 41] A' A → Q 0 F' A')
    (hQ2 : ∀ F' A' asg k, k < n.toNat → Gr wd wt wr sp p pr pf pt (isrt wt n.toNat) asg k → (∀ j, 0 ≤ j → j < p → ¬ fe wd sp pf pt (fun i => lnf (isrt wt n.toNat) asg i k) (fun i => cn asg i k) (isrt wt n.toNat k) j) → frF [10, 15, 16, 17, 18, 19] F' F → F' 15 = 0 → frA [33, 34, 35, 36, 37, 38, 39, 40, 41] A' A → Q (1 + isrt wt n.toNat k) F' A') : w_Mo_run mo F A Q := by
  have hP := pt_PB h hr hst
  have ffI : frF [10, 15, 16, 17, 18, 19] (uf (uf F 10 0) 15 0) F := frF_u (frF_u frF_r (by decide)) (by decide)
  refine m_sort (n := n) (wt := wt) (by rw [uf_n (by decide), uf_n (by decide)]; exact e13) n0 hn (fun c a b => ?_) (fun A2 fr2 so => ?_)
  · have := hB c a b
    exact ⟨(hD c a b).2.1, ⟨by omega, by omega⟩⟩
  have hσ : ∀ t, t < n.toNat → 0 ≤ isrt wt n.toNat t ∧ isrt wt n.toNat t < n := fun t ht => by have := isrt_in wt n.toNat t ht; omega
  have hinj : sInj (isrt wt n.toNat) n.toNat := fun i j a b => isrt_inj wt n.toNat i j a b
  generalize isrt wt n.toNat = σ at hQ1 hQ2 so hσ hinj
  generalize hF2 : uf (uf F 10 0) 15 0 = F2 at ffI
  have f15 : F2 15 = 0 := by rw [← hF2, uf_s]
  refine Lp3_by (fun (x1 : Int) F' A' => 0 ≤ x1 ∧ x1 ≤ 16000 ∧ F' = F2 ∧ frA [40] A' A2 ∧ ∀ x, 0 ≤ x → x < x1 → A' 40 x = -1) (fun (x1 : Int) _ _ => (16000 - x1).toNat) ?_ 0 F2 A2 ⟨by omega, by omega, rfl, frA_r, fun x a b => by omega⟩
  rintro x1 F3 A3 ⟨g0, g1, rfl, fr3, g2⟩ P hP'
  refine ⟨⟨by omega, by omega⟩, fun hx => ?_, fun hx => ⟨g0, by omega, hP' _ _ _ ⟨by omega, by omega, rfl, frA_u fr3 (by decide), fun x a b => ?_⟩ (by omega)⟩⟩
  · have frI : frA [35, 38, 39, 40, 41] A3 A := frA_t (frA_s fr3 (by decide)) (frA_s fr2 (by decide))
    have so3 : ∀ j : Nat, j < n.toNat → A3 38 j = σ j := fun j hj => by rw [fr3 38 (by decide)]; exact so j hj
    refine Lp2_by (fun (F' : Nat → Int) (A' : Nat → Int → Int) => ∃ (k : Nat) (asg : Nat → Int), F' 19 = (k : Int) ∧ k ≤ n.toNat ∧ Gr wd wt wr sp p pr pf pt σ asg k ∧ frF [17, 18, 19] F' F3 ∧ frA [35, 38, 39, 40, 41] A' A ∧ (∀ j : Nat, j < n.toNat → A' 38 j = σ j) ∧ (∀ t, t < k → A' 35 (σ t) = key pr pf (asg t)) ∧ ∀ i, 0 ≤ i → i < p → RP wd wt sp (pr i) (pf i) (pt i) (lnf σ asg i k) (cn asg i k) A') (fun (F' : Nat → Int) (_ : Nat → Int → Int) => (n - F' 19).toNat) ?_ (uf F3 19 0) A3 ⟨0, fun _ => 0, uf_s, by omega, fun t h => absurd h (Nat.not_lt_zero _), frF_u frF_r (by decide), frI, so3, fun t h => absurd h (Nat.not_lt_zero _), fun i i0 i1 => ?_⟩
    · rintro F4 A4 ⟨k, asg, e19, k1, hG, ff, fr, so4, h35, hR⟩ P4 hP4
      have ffF : frF [10, 15, 16, 17, 18, 19] F4 F := frF_t (frF_s ff (by decide)) ffI
      have f13 : F4 13 = n := (ffF 13 (by decide)).trans e13
      have f11 : F4 11 = r := (ffF 11 (by decide)).trans e11
      have f12 : F4 12 = st := (ffF 12 (by decide)).trans e12
      have f15' : F4 15 = 0 := (ff 15 (by decide)).trans f15
      have h4 : iv_pt mb r st p pr pf pt (A4 24) := by rw [fr 24 (by decide)]; exact h
      have hD4 := RD_fr hD (frA_s fr (by decide))
      rw [e19, f13]
      refine ⟨⟨by omega, by omega⟩, ⟨by omega, by omega⟩, fun hk => ?_, fun hk => ?_⟩
      · have e : k = n.toNat := by omega
        subst e
        refine r_phase2 (N := n.toNat) h4 r0 hr s0 hst f11 f12 hB hD4 hn (by omega) e19 hσ hinj hG so4 h35 (fun F5 A5 ff5 fr5 hw => ?_)
        exact hQ1 _ _ asg hG hw (frF_u (frF_t (frF_s ff5 (by decide)) ffF) (by decide)) uf_s (frA_t (frA_s fr5 (by decide)) (frA_s fr (by decide)))
      · have hk' : k < n.toNat := by omega
        obtain ⟨c0, c1⟩ := hσ k hk'
        have hI := Gr_LI hP (fun t ht => hσ t (by omega)) hG
        rw [so4 k hk']
        refine ⟨by omega, by omega, r_taken (lns := fun i => lnf σ asg i k) (ms := fun i => cn asg i k) (k := k) h4 r0 hr s0 hst f11 f12 hB hD4 hn hI (by omega) c0 c1 hR (fun hno F5 A5 ff5 fr5 => ?_) (fun z v F5 A5 z0 z1 hb ff5 fr5 e35 e35o hRz hRo => ?_)⟩
        · have f19 : F5 19 = k := (ff5 19 (by decide)).trans e19
          refine ⟨⟨by omega, by omega⟩, fun e => absurd rfl e, fun _ => ?_⟩
          rw [f19, fr5 38 (by decide), so4 k hk']
          exact ⟨by omega, by omega, hQ2 F5 A5 asg k hk' hG hno (frF_t (frF_s ff5 (by decide)) ffF) ((ff5 15 (by decide)).trans f15') (frA_t (frA_s fr5 (by decide)) (frA_s fr (by decide)))⟩
        · have f19 : F5 19 = k := (ff5 19 (by decide)).trans e19
          refine ⟨⟨by omega, by omega⟩, fun _ => ?_, fun e => absurd e (by omega)⟩
          rw [f19]
          have cg := fun i => cn_congr (σ := σ) (asg := app asg k z) (asg' := asg) (i := i) (k := k) (fun t ht => app_lt ht)
          refine hP4 _ _ ⟨k + 1, app asg k z, by rw [uf_s]; omega, by omega, Gr_step hG z0 hb, frF_u (frF_t (frF_s ff5 (by decide)) ff) (by decide), frA_t (frA_s fr5 (by decide)) fr, fun j hj => by rw [fr5 38 (by decide)]; exact so4 j hj, fun t ht => ?_, fun i i0 i1 => ?_⟩ (by rw [uf_s, e19]; omega)
          · by_cases e : t = k
            · rw [e, app_eq]
              exact e35
            · rw [app_lt (by omega), e35o _ (hinj t k (by omega) hk')]
              exact h35 t (by omega)
          · by_cases e : i = z
            · rw [e, lnf_1 app_eq, cn_1 app_eq, (cg z).1, (cg z).2]
              exact hRz
            · have hx : ¬ app asg k z k = i := by rw [app_eq]; exact fun e' => e e'.symm
              rw [lnf_0 hx, cn_0 hx, (cg i).1, (cg i).2]
              exact hRo i i0 i1 e
    · have pi := hP i i0 i1
      exact ⟨g2 _ (by omega) (by omega), fun hm => absurd hm (Nat.not_lt_zero _)⟩
  · rw [ua_at]
    by_cases e : x = x1
    · rw [if_pos e]
    · rw [if_neg e]
      exact g2 x a (by omega)
end RUN9
