/-! THE REFERENCE: a cell tried in a part; the part taken -/
section RUN6
variable {mo : Nat} {F : Nat → Int} {A : Nat → Int → Int} {n p r st : Int} {wd wt wr : Int → Int} {sp : Int → Int → Int} {pr pf pt : Int → Int} {ln : Nat → Int} {m k : Nat} {f t : Int}
set_option maxHeartbeats 1000000 in
theorem r_w65 {Q : Int → (Nat → Int) → (Nat → Int → Int) → Prop} {a c x3 gap : Int} (hB : BD n wd wt wr sp) (hD : RD n wd wt wr sp A) (hn : n ≤ 60) (hl : lnIn n ln m) (hm : m < 60) (c0 : 0 ≤ c) (c1 : c < n) (a0 : 0 ≤ a) (a1 : a ≤ 15) (f0 : 0 ≤ f) (ft : f < t) (t1 : t ≤ 1000) (e17 : F 17 = f) (e18 : F 18 = t) (r3 : rg x3) (g0 : 0 ≤ gap) (g1 : gap ≤ 100)
    (hv : ∀ x, f ≤ x → x < t → (x3 = -1 → (0 : Int) = if x - f - offF wd sp (app ln m c) m < 0 then 1000000000 else Fm (dF wd wt sp f ln) m (min (x - f - offF wd sp (app ln m c) m) (t - f - lenF wd sp ln m))) ∧ (¬ x3 = -1 → (f ≤ x - gap → A 39 (1000 * a + x - gap) = if x - f - offF wd sp (app ln m c) m < 0 then 1000000000 else Fm (dF wd wt sp f ln) m (min (x - f - offF wd sp (app ln m c) m) (t - f - lenF wd sp ln m))) ∧ (¬ f ≤ x - gap → (1000000000 : Int) = if x - f - offF wd sp (app ln m c) m < 0 then 1000000000 else Fm (dF wd wt sp f ln) m (min (x - f - offF wd sp (app ln m c) m) (t - f - lenF wd sp ln m)))))
    (hQ : ∀ A', frA [41] A' A → (∀ x, f ≤ x → x < t → A' 41 (x - f) = frv wd wt sp f t (app ln m c) (m + 1) x) → Q (frv wd wt sp f t (app ln m c) (m + 1) (t - 1)) F A') : w_Mo_with_b52 mo Q a c x3 gap F A := by
  have hl' := app_in hl c0 c1
  obtain ⟨al1, al2⟩ := app_len hB hl c0 c1
  have w := hB c c0 c1
  have o := off_in hB hl' m (by omega)
  have ln0 := len_in hB hl
  have em : dF wd wt sp f (app ln m c) m = wt c - offF wd sp (app ln m c) m - f := by unfold dF; rw [app_eq]
  have efm : ∀ s, Fm (dF wd wt sp f (app ln m c)) m s = Fm (dF wd wt sp f ln) m s := fun s => Fm_ln s (fun j hj => app_lt hj)
  show w_Mo_with_b65 mo Q a c x3 gap 1000000000 (F 17) F A
  rw [e17]
  refine Lp4_by (fun (x5 x7 : Int) F' A' => f ≤ x7 ∧ x7 ≤ t ∧ F' = F ∧ frA [41] A' A ∧ x5 = frv wd wt sp f t (app ln m c) (m + 1) (x7 - 1) ∧ ∀ x, f ≤ x → x < x7 → A' 41 (x - f) = frv wd wt sp f t (app ln m c) (m + 1) x) (fun (x5 x7 : Int) _ _ => (t - x7).toNat) ?_ 1000000000 f F A ⟨by omega, by omega, rfl, frA_r, ?_, fun x a b => by omega⟩
  · rintro x5 x7 F1 A1 ⟨h0, h1, rfl, fr, e5, hx⟩ P hP
    rw [e18]
    refine ⟨⟨by omega, by omega⟩, ⟨by omega, by omega⟩, fun h => ?_, fun h => ?_⟩
    · have e : x7 = t := by omega
      subst e
      rw [e5]
      exact hQ A1 fr (fun x a b => hx x a b)
    have i5 := frv_in (wt := wt) hB hl' f0 t1 (by omega) (x7 - 1)
    rw [← e5] at i5
    have stp := frv_S (wt := wt) hB hl' f0 t1 (by omega) x7
    rw [← e5, em, efm] at stp
    have i6 := frv_in (wt := wt) hB hl' f0 t1 (by omega) x7
    have fin : ∀ y, y = (if 0 ≤ x7 - f - offF wd sp (app ln m c) m ∧ x7 - f - offF wd sp (app ln m c) m ≤ t - f - lenF wd sp (app ln m c) (m + 1) then Fm (dF wd wt sp f ln) m (x7 - f - offF wd sp (app ln m c) m) + ((x7 - f - offF wd sp (app ln m c) m - (wt c - offF wd sp (app ln m c) m - f)).natAbs : Int) else 1000000000) → 0 ≤ y → y ≤ 1000100000 → w_Mo_with_b165 mo Q P a c x3 gap x5 x7 y F1 A1 := by
      intro y hy y0 y1
      rw [← hy] at stp
      have last : ∀ v, v = frv wd wt sp f t (app ln m c) (m + 1) x7 → w_Mo_with_b182 mo Q P a c x3 gap x7 v F1 A1 := by
        intro v hv
        unfold w_Mo_with_b182
        rw [e17]
        refine ⟨by omega, by omega, hP _ _ _ _ ⟨by omega, by omega, rfl, frA_u fr (by decide), by rw [hv, show x7 + 1 - 1 = x7 by omega], fun x b0 b1 => ?_⟩ (by omega)⟩
        rw [ua_at]
        by_cases e : x = x7
        · rw [if_pos (by omega), e]
          exact hv
        · rw [if_neg (by omega)]
          exact hx x b0 (by omega)
      exact ⟨⟨by omega, by omega⟩, ⟨by omega, by omega⟩, fun g => last x5 (by omega), fun g => last y (by omega)⟩
    have finN : ¬ (0 ≤ x7 - f - offF wd sp (app ln m c) m ∧ x7 - f - offF wd sp (app ln m c) m ≤ t - f - lenF wd sp (app ln m c) (m + 1)) → w_Mo_with_b144 mo Q P a c x3 gap x5 x7 F1 A1 := fun g => fin 1000000000 (by rw [if_neg g]) (by omega) (by omega)
    have e25 : A1 25 c = wd c := by rw [fr 25 (by decide)]; exact (hD c c0 c1).1
    have e28 : A1 28 c = wt c := by rw [fr 28 (by decide)]; exact (hD c c0 c1).2.1
    have body : ∀ y0, y0 = (if x7 - f - offF wd sp (app ln m c) m < 0 then 1000000000 else Fm (dF wd wt sp f ln) m (min (x7 - f - offF wd sp (app ln m c) m) (t - f - lenF wd sp ln m))) → w_Mo_with_b117 mo Q P a c x3 gap x5 x7 y0 F1 A1 := by
      intro y0 hy0
      unfold w_Mo_with_b117
      rw [e18, e25, e28]
      refine ⟨c0, by omega, ⟨by omega, by omega⟩, ⟨by omega, by omega⟩, fun g => finN (by omega), fun g => ?_⟩
      by_cases s0 : x7 - f - offF wd sp (app ln m c) m < 0
      · rw [if_pos s0] at hy0
        exact ⟨⟨by omega, by omega⟩, fun g => absurd g (by omega), fun _ => finN (by omega)⟩
      · rw [if_neg s0, show min (x7 - f - offF wd sp (app ln m c) m) (t - f - lenF wd sp ln m) = x7 - f - offF wd sp (app ln m c) m by omega] at hy0
        have y00 := Fm_nn (dF wd wt sp f ln) m (x7 - f - offF wd sp (app ln m c) m)
        have y01 := Fm_ub (d := dF wd wt sp f ln) (S := t - f - lenF wd sp ln m) (K := 1000) (by omega) m (s := x7 - f - offF wd sp (app ln m c) m) (way_in hB hl f0 t1 (wt := wt)) (by omega) (by omega)
        refine ⟨⟨by omega, by omega⟩, fun _ => m_far ⟨by omega, by omega⟩ ⟨by omega, by omega⟩ ⟨⟨by omega, by omega⟩, fin _ ?_ (by omega) (by omega)⟩, fun g => absurd g (by omega)⟩
        rw [if_pos ⟨by omega, by omega⟩, hy0]
        omega
    obtain ⟨v1, v2⟩ := hv x7 h0 (by omega)
    refine ⟨r3, fun g => ⟨⟨by omega, by omega⟩, by rw [e17]; exact ⟨by omega, by omega⟩, fun d => ?_, fun d => ?_⟩, fun g => body 0 (v1 g)⟩
    · rw [e17] at d
      refine ⟨by omega, by omega, body _ ?_⟩
      rw [fr 39 (by decide)]
      exact (v2 g).1 d
    · rw [e17] at d
      exact body _ ((v2 g).2 d)
  · show (1000000000 : Int) = if f - 1 - f - offF wd sp (app ln m c) m < 0 ∨ _ then _ else _
    rw [if_pos (Or.inl (by omega))]
theorem r_with {Q : Int → (Nat → Int) → (Nat → Int → Int) → Prop} {a c : Int} (hB : BD n wd wt wr sp) (hD : RD n wd wt wr sp A) (hn : n ≤ 60) (hl : lnIn n ln m) (hm : m < 60) (c0 : 0 ≤ c) (c1 : c < n) (a0 : 0 ≤ a) (a1 : a ≤ 15) (f0 : 0 ≤ f) (ft : f < t) (t1 : t ≤ 1000) (e17 : F 17 = f) (e18 : F 18 = t) (hR : RP wd wt sp a f t ln m A) (hr : 0 ≤ t - f - lenF wd sp ln m)
    (hQ : ∀ A', frA [41] A' A → (∀ x, f ≤ x → x < t → A' 41 (x - f) = frv wd wt sp f t (app ln m c) (m + 1) x) → Q (frv wd wt sp f t (app ln m c) (m + 1) (t - 1)) F A') : w_Mo_with mo F A a c Q := by
  unfold w_Mo_with
  rw [e17, hR.1]
  cases m with
  | zero =>
    show 0 ≤ 1000 * a + f ∧ 1000 * a + f < 16000 ∧ rg (-1) ∧ ((¬ (-1 : Int) = -1 → _) ∧ ((-1 : Int) = -1 → w_Mo_with_b52 mo Q a c (-1) 0 F A))
    refine ⟨by omega, by omega, ⟨by omega, by omega⟩, fun h => absurd rfl h, fun _ => r_w65 hB hD hn hl hm c0 c1 a0 a1 f0 ft t1 e17 e18 ⟨by omega, by omega⟩ (by omega) (by omega) (fun x b0 b1 => ⟨fun _ => ?_, fun h => absurd rfl h⟩) hQ⟩
    show (0 : Int) = if x - f - 0 < 0 then 1000000000 else 0
    rw [if_neg (by omega)]
  | succ m =>
    obtain ⟨l1, l2⟩ := hl m (by omega)
    obtain ⟨s1, s2, s3⟩ := (hD (ln m) l1 l2).2.2.2 c c0 c1
    have w := hB (ln m) l1 l2
    have ws := w.2.2.2.2.2.2 c c0 c1
    have o := off_in hB hl m (by omega)
    show 0 ≤ 1000 * a + f ∧ 1000 * a + f < 16000 ∧ rg (ln m) ∧ ((¬ ln m = -1 → 0 ≤ ln m ∧ ln m < 60 ∧ 0 ≤ c ∧ c < 60 ∧ 0 ≤ 4 * A 27 (ln m) + A 26 c ∧ 4 * A 27 (ln m) + A 26 c < 16 ∧ w_Mo_with_b52 mo Q a c (ln m) (A 25 (ln m) + A 30 (4 * A 27 (ln m) + A 26 c)) F A) ∧ (ln m = -1 → _))
    rw [s3, (hD (ln m) l1 l2).1]
    refine ⟨by omega, by omega, ⟨by omega, by omega⟩, fun _ => ⟨l1, by omega, c0, by omega, s1, s2, r_w65 hB hD hn hl hm c0 c1 a0 a1 f0 ft t1 e17 e18 ⟨by omega, by omega⟩ (by omega) (by omega) (fun x b0 b1 => ⟨fun h => absurd h (by omega), fun _ => ?_⟩) hQ⟩, fun h => absurd h (by omega)⟩
    have eo : offF wd sp (app ln (m + 1) c) (m + 1) = offF wd sp ln m + wd (ln m) + sp (ln m) c := by
      show offF wd sp (app ln (m + 1) c) m + wd (app ln (m + 1) c m) + sp (app ln (m + 1) c m) (app ln (m + 1) c (m + 1)) = _
      rw [app_eq, app_lt (by omega), off_congr (ln := app ln (m + 1) c) (ln' := ln) (fun j hj => app_lt (by omega))]
    rw [eo]
    refine ⟨fun g => ?_, fun g => ?_⟩
    · rw [show 1000 * a + x - (wd (ln m) + sp (ln m) c) = 1000 * a + (x - (wd (ln m) + sp (ln m) c)) by omega, hR.2 (by omega) _ g (by omega)]
      show (if x - (wd (ln m) + sp (ln m) c) - f - offF wd sp ln m < 0 ∨ t - f - lenF wd sp ln (m + 1) < 0 then (1000000000 : Int) else Fm (dF wd wt sp f ln) (m + 1) (min (x - (wd (ln m) + sp (ln m) c) - f - offF wd sp ln m) (t - f - lenF wd sp ln (m + 1)))) = _
      rw [show x - (wd (ln m) + sp (ln m) c) - f - offF wd sp ln m = x - f - (offF wd sp ln m + wd (ln m) + sp (ln m) c) by omega]
      by_cases s : x - f - (offF wd sp ln m + wd (ln m) + sp (ln m) c) < 0
      · rw [if_pos (Or.inl s), if_pos s]
      · rw [if_neg (by omega), if_neg s]
    · rw [if_pos (by omega)]
end RUN6
