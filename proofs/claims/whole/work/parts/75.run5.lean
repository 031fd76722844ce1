/-! THE REFERENCE: where a part begins and ends; one cell more -/
def RD (n : Int) (wd wt wr : Int → Int) (sp : Int → Int → Int) (A : Nat → Int → Int) : Prop := ∀ c, 0 ≤ c → c < n → A 25 c = wd c ∧ A 28 c = wt c ∧ A 29 c = wr c ∧ ∀ b, 0 ≤ b → b < n → 0 ≤ 4 * A 27 c + A 26 b ∧ 4 * A 27 c + A 26 b < 16 ∧ A 30 (4 * A 27 c + A 26 b) = sp c b
/-- the reference's number of the last cell at most at x; none: 1000000000 -/
def frv (wd wt : Int → Int) (sp : Int → Int → Int) (f t : Int) (ln : Nat → Int) : Nat → Int → Int
  | 0, _ => 0
  | k + 1, x => if x - f - offF wd sp ln k < 0 ∨ t - f - lenF wd sp ln (k + 1) < 0 then 1000000000 else Fm (dF wd wt sp f ln) (k + 1) (min (x - f - offF wd sp ln k) (t - f - lenF wd sp ln (k + 1)))
section RUN5
variable {mo mb : Nat} {F : Nat → Int} {A : Nat → Int → Int} {n p r st : Int} {wd wt wr : Int → Int} {sp : Int → Int → Int} {pr pf pt : Int → Int} {ln : Nat → Int} {m k : Nat} {f t : Int}
theorem RD_fr {A' : Nat → Int → Int} (h : RD n wd wt wr sp A) (fr : frA [33, 34, 35, 36, 37, 38, 39, 40, 41] A' A) : RD n wd wt wr sp A' := by
  intro c a b
  rw [fr 25 (by decide), fr 26 (by decide), fr 27 (by decide), fr 28 (by decide), fr 29 (by decide), fr 30 (by decide)]
  exact h c a b
theorem pt_sp {ba : Int → Int} (h : iv_pt mb r st p pr pf pt ba) : iv_sp p pr pf pt := iv_sp_of (fun i a b => (h.2.2.1 i a b).2.2.2.1) h.2.2.2.1
theorem pt_one {ba : Int → Int} (h : iv_pt mb r st p pr pf pt ba) {i j a x : Int} (i0 : 0 ≤ i) (i1 : i < p) (j0 : 0 ≤ j) (j1 : j < p) (h1 : pr i = a) (h2 : pf i ≤ x) (h3 : x ≤ pt i) (g1 : pr j = a) (g2 : pf j ≤ x) (g3 : x ≤ pt j) : i = j := by
  have s := pt_sp h
  by_cases a : i < j
  · have := s i j i0 a j1
    omega
  · by_cases b : j < i
    · have := s j i j0 b i1
      omega
    · omega
theorem r_begin {Q : Int → Prop} {a x : Int} (h : iv_pt mb r st p pr pf pt (A 24)) (hr : r ≤ 16) (hst : st ≤ 1000) (a0 : 0 ≤ a) (a1 : a < r) (x0 : 0 ≤ x) (x1 : x < st)
    (h1 : ∀ i, 0 ≤ i → i < p → pr i = a → pf i = x → Q 1) (h0 : (∀ i, 0 ≤ i → i < p → pr i = a → ¬ pf i = x) → Q 0) : w_Mo_isBegin mo F A a x Q := by
  obtain ⟨b1, b2⟩ := h.2.2.2.2 a x a0 a1 x0 x1
  refine ⟨by omega, by omega, by rcases b1 with e | e <;> rw [e] <;> exact ⟨by omega, by omega⟩, fun e => h0 (fun i i0 i1 g1 g2 => ?_), fun e => ⟨⟨by omega, by omega⟩, fun z => ?_, fun z => ?_⟩⟩
  · have q := h.2.2.1 i i0 i1
    exact e (b2.2 ⟨i, i0, i1, g1, by omega, by omega⟩)
  · obtain ⟨i, i0, i1, g1, g2, g3⟩ := b2.1 e
    have q := h.2.2.1 i i0 i1
    exact h1 i i0 i1 g1 (by omega)
  · obtain ⟨c1, c2⟩ := h.2.2.2.2 a (x - 1) a0 a1 (by omega) (by omega)
    rw [show 1000 * a + (x - 1) = 1000 * a + x - 1 by omega] at c1 c2
    obtain ⟨i, i0, i1, g1, g2, g3⟩ := b2.1 e
    refine ⟨by omega, by omega, by rcases c1 with e | e <;> rw [e] <;> exact ⟨by omega, by omega⟩, fun d => h0 (fun j j0 j1 k1 k2 => ?_), fun d => h1 i i0 i1 g1 ?_⟩
    · obtain ⟨l, l0, l1, m1, m2, m3⟩ := c2.1 d
      have q := h.2.2.1 j j0 j1
      have e := pt_one h l0 l1 j0 j1 (x := x) m1 (by omega) (by omega) k1 (by omega) (by omega)
      rw [e] at m2
      omega
    · by_cases y : pf i = x
      · exact y
      · exact absurd (c2.2 ⟨i, i0, i1, g1, by omega, by omega⟩) d
theorem r_end {Q : Int → Prop} {i a x : Int} (h : iv_pt mb r st p pr pf pt (A 24)) (hr : r ≤ 16) (hst : st ≤ 1000) (e12 : F 12 = st) (i0 : 0 ≤ i) (i1 : i < p) (ha : a = pr i) (hx : x = pf i) (hQ : Q (pt i)) : w_Mo_endOf mo F A a x Q := by
  subst ha hx
  obtain ⟨q1, q2, q3, q4, q5⟩ := h.2.2.1 i i0 i1
  refine Lp1_by (fun (x3 : Int) => pf i ≤ x3 ∧ x3 ≤ pt i) (fun (x3 : Int) => (pt i - x3).toNat) ?_ (pf i) ⟨by omega, by omega⟩
  rintro x3 ⟨g0, g1⟩ P hP
  rw [e12]
  refine ⟨⟨by omega, by omega⟩, ⟨by omega, by omega⟩, fun e => ?_, fun e => ?_⟩
  · rw [show x3 = pt i by omega]
    exact hQ
  · obtain ⟨b1, b2⟩ := h.2.2.2.2 (pr i) x3 q1 q2 (by omega) (by omega)
    refine ⟨by omega, by omega, by rcases b1 with e | e <;> rw [e] <;> exact ⟨by omega, by omega⟩, fun d => ?_, fun d => hP (x3 + 1) ⟨by omega, ?_⟩ ?_⟩
    · by_cases y : x3 = pt i
      · rw [y]
        exact hQ
      · exact absurd (b2.2 ⟨i, i0, i1, rfl, g0, by omega⟩) d
    all_goals
      obtain ⟨j, j0, j1, k1, k2, k3⟩ := b2.1 d
      have e := pt_one h i0 i1 j0 j1 (x := x3) rfl g0 g1 k1 k2 (by omega)
      rw [← e] at k3
      omega
theorem frv_S (hB : BD n wd wt wr sp) (hl : lnIn n ln (m + 1)) (f0 : 0 ≤ f) (t1 : t ≤ 1000) (hm : m ≤ 60) (x : Int) :
    frv wd wt sp f t ln (m + 1) x = min (frv wd wt sp f t ln (m + 1) (x - 1)) (if 0 ≤ x - f - offF wd sp ln m ∧ x - f - offF wd sp ln m ≤ t - f - lenF wd sp ln (m + 1) then Fm (dF wd wt sp f ln) m (x - f - offF wd sp ln m) + ((x - f - offF wd sp ln m - dF wd wt sp f ln m).natAbs : Int) else 1000000000) := by
  have ub := fun s s0 s1 => Fm_ub (d := dF wd wt sp f ln) (S := t - f - lenF wd sp ln (m + 1)) (K := 1000) (by omega) (m + 1) (s := s) (way_in hB hl f0 t1 (wt := wt)) s0 s1
  show (if x - f - offF wd sp ln m < 0 ∨ t - f - lenF wd sp ln (m + 1) < 0 then (1000000000 : Int) else Fm (dF wd wt sp f ln) (m + 1) (min (x - f - offF wd sp ln m) (t - f - lenF wd sp ln (m + 1)))) = min (if x - 1 - f - offF wd sp ln m < 0 ∨ t - f - lenF wd sp ln (m + 1) < 0 then (1000000000 : Int) else Fm (dF wd wt sp f ln) (m + 1) (min (x - 1 - f - offF wd sp ln m) (t - f - lenF wd sp ln (m + 1)))) _
  generalize hs : x - f - offF wd sp ln m = s
  rw [show x - 1 - f - offF wd sp ln m = s - 1 by omega]
  generalize t - f - lenF wd sp ln (m + 1) = r at ub ⊢
  by_cases h1 : s < 0
  · rw [if_pos (Or.inl h1), if_pos (Or.inl (by omega)), if_neg (by omega)]
    omega
  · by_cases h2 : r < 0
    · rw [if_pos (Or.inr h2), if_pos (Or.inr h2), if_neg (by omega)]
      omega
    · rw [if_neg (by omega)]
      by_cases h3 : s ≤ r
      · rw [if_pos (c := 0 ≤ s ∧ s ≤ r) ⟨by omega, h3⟩, show min s r = s by omega]
        by_cases h4 : s = 0
        · rw [if_pos (Or.inl (by omega)), h4]
          have := ub 0 (by omega) (by omega)
          rw [Fm_S0] at this ⊢
          omega
        · rw [if_neg (by omega), show min (s - 1) r = s - 1 by omega]
          have := Fm_SS (dF wd wt sp f ln) m (s := s - 1) (by omega)
          rw [show s - 1 + 1 = s by omega] at this
          exact this
      · rw [if_neg (c := 0 ≤ s ∧ s ≤ r) (by omega), if_neg (by omega), show min s r = r by omega, show min (s - 1) r = r by omega]
        have := ub r (by omega) (by omega)
        omega
theorem frv_last (hB : BD n wd wt wr sp) (hl : lnIn n ln (m + 1)) : frv wd wt sp f t ln (m + 1) (t - 1) = if t - f - lenF wd sp ln (m + 1) < 0 then 1000000000 else LC wd wt sp f t ln (m + 1) := by
  obtain ⟨a, b⟩ := hl m (by omega)
  have w := hB (ln m) a b
  have e : lenF wd sp ln (m + 1) = offF wd sp ln m + wd (ln m) := rfl
  show (if t - 1 - f - offF wd sp ln m < 0 ∨ t - f - lenF wd sp ln (m + 1) < 0 then (1000000000 : Int) else Fm (dF wd wt sp f ln) (m + 1) (min (t - 1 - f - offF wd sp ln m) (t - f - lenF wd sp ln (m + 1)))) = _
  by_cases h : t - f - lenF wd sp ln (m + 1) < 0
  · rw [if_pos (Or.inr h), if_pos h]
  · rw [if_neg (by omega), if_neg h, show min (t - 1 - f - offF wd sp ln m) (t - f - lenF wd sp ln (m + 1)) = t - f - lenF wd sp ln (m + 1) by omega]
    rfl
theorem frv_in (hB : BD n wd wt wr sp) (hl : lnIn n ln m) (f0 : 0 ≤ f) (t1 : t ≤ 1000) (hm : m ≤ 61) (x : Int) : 0 ≤ frv wd wt sp f t ln m x ∧ frv wd wt sp f t ln m x ≤ 1000000000 := by
  cases m with
  | zero => exact ⟨Int.le_refl _, by show (0 : Int) ≤ _; omega⟩
  | succ m =>
    show 0 ≤ (if x - f - offF wd sp ln m < 0 ∨ t - f - lenF wd sp ln (m + 1) < 0 then (1000000000 : Int) else Fm (dF wd wt sp f ln) (m + 1) (min (x - f - offF wd sp ln m) (t - f - lenF wd sp ln (m + 1)))) ∧ (if x - f - offF wd sp ln m < 0 ∨ t - f - lenF wd sp ln (m + 1) < 0 then (1000000000 : Int) else Fm (dF wd wt sp f ln) (m + 1) (min (x - f - offF wd sp ln m) (t - f - lenF wd sp ln (m + 1)))) ≤ _
    split
    · omega
    · have a := Fm_nn (dF wd wt sp f ln) (m + 1) (min (x - f - offF wd sp ln m) (t - f - lenF wd sp ln (m + 1)))
      have b := Fm_ub (d := dF wd wt sp f ln) (S := t - f - lenF wd sp ln (m + 1)) (K := 1000) (by omega) (m + 1) (s := min (x - f - offF wd sp ln m) (t - f - lenF wd sp ln (m + 1))) (way_in hB hl f0 t1 (wt := wt)) (by omega) (by omega)
      omega
/-- what the reference keeps of a part: its last cell, its numbers -/
def RP (wd wt : Int → Int) (sp : Int → Int → Int) (a f t : Int) (ln : Nat → Int) (m : Nat) (A : Nat → Int → Int) : Prop := A 40 (1000 * a + f) = lst ln m ∧ (0 < m → ∀ x, f ≤ x → x < t → A 39 (1000 * a + x) = frv wd wt sp f t ln m x)
theorem r_without {Q : Int → Prop} {a : Int} (hB : BD n wd wt wr sp) (hn : n ≤ 60) (hl : lnIn n ln m) (a0 : 0 ≤ a) (a1 : a ≤ 15) (f0 : 0 ≤ f) (ft : f < t) (t1 : t ≤ 1000) (e17 : F 17 = f) (e18 : F 18 = t) (hR : RP wd wt sp a f t ln m A) (hr : 0 ≤ t - f - lenF wd sp ln m) (hQ : Q (LC wd wt sp f t ln m)) : w_Mo_without mo F A a Q := by
  unfold w_Mo_without
  rw [e17, e18, hR.1]
  cases m with
  | zero => exact ⟨by omega, by omega, ⟨by show (-2147483648 : Int) ≤ -1; omega, by show (-1 : Int) ≤ _; omega⟩, fun h => absurd rfl h, fun _ => hQ⟩
  | succ m =>
    obtain ⟨l1, l2⟩ := hl m (by omega)
    show 0 ≤ 1000 * a + f ∧ 1000 * a + f < 16000 ∧ rg (ln m) ∧ ((¬ ln m = -1 → _) ∧ (ln m = -1 → _))
    refine ⟨by omega, by omega, ⟨by omega, by omega⟩, fun _ => ⟨by omega, by omega, ?_⟩, fun h => absurd h (by omega)⟩
    rw [show 1000 * a + t - 1 = 1000 * a + (t - 1) by omega, hR.2 (by omega) (t - 1) (by omega) (by omega), frv_last hB hl, if_neg (by omega)]
    exact hQ
end RUN5
