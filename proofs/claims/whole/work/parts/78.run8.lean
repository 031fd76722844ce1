/-! THE REFERENCE: a part's cells laid -/
theorem smin_last (f : Int → Int) (r : Int) : smin f r r = f r := by
  obtain ⟨t, a, b, c⟩ := smin_at f (Int.le_refl r)
  rw [c, show t = r by omega]
theorem smin_S (f : Int → Int) {s r : Int} (h : s < r) : smin f s r = min (smin f (s + 1) r) (f s) := by
  obtain ⟨t, a, b, c⟩ := smin_at f (show s ≤ r by omega)
  obtain ⟨u, a2, b2, c2⟩ := smin_at f (show s + 1 ≤ r by omega)
  have x := smin_le f (show s ≤ s by omega) (show s ≤ r by omega)
  have y := smin_le f (show s ≤ u by omega) b2
  by_cases e : t = s
  · rw [e] at c
    omega
  · have z := smin_le f (show s + 1 ≤ t by omega) b
    omega
theorem Bm_nn (d : Nat → Int) (r : Int) : ∀ (m k : Nat) (s : Int), s ≤ r → 0 ≤ Bm d r k m s := by
  intro m
  induction m with
  | zero => intro k s _; exact Int.le_refl _
  | succ m ih =>
    intro k s h
    obtain ⟨t, a, b, c⟩ := smin_at (fun t => ((t - d k).natAbs : Int) + Bm d r (k + 1) m t) h
    show 0 ≤ smin _ s r
    rw [c]
    have := ih (k + 1) t b
    omega
theorem Bm_ub {d : Nat → Int} {r K : Int} : ∀ (m k : Nat) (s : Int), (∀ j, k ≤ j → j < k + m → ∀ t, 0 ≤ t → t ≤ r → ((t - d j).natAbs : Int) ≤ K) → 0 ≤ s → s ≤ r → Bm d r k m s ≤ m * K := by
  intro m
  induction m with
  | zero => intro k s _ _ _; show (0 : Int) ≤ _; omega
  | succ m ih =>
    intro k s h h0 h1
    have x := smin_le (fun t => ((t - d k).natAbs : Int) + Bm d r (k + 1) m t) (Int.le_refl s) h1
    have y := ih (k + 1) s (fun j a b => h j (by omega) (by omega)) h0 h1
    have z := h k (by omega) (by omega) s h0 h1
    have e : ((m + 1 : Nat) : Int) * K = m * K + K := by
      rw [Int.natCast_add, Int.add_mul]
      show m * K + 1 * K = _
      omega
    rw [e]
    show smin _ s r ≤ _
    exact Int.le_trans x (by show ((s - d k).natAbs : Int) + Bm d r (k + 1) m s ≤ _; omega)
/-- the reference's number of a cell at the shift s, and the table's -/
def cv (d : Nat → Int) (r : Int) (m k : Nat) (s : Int) : Int := if s ≤ r then ((s - d k).natAbs : Int) + Bm d r (k + 1) (m - k - 1) s else 1000000000
def tbv (d : Nat → Int) (r : Int) (m k : Nat) (s : Int) : Int := if s ≤ r then Bm d r k (m - k) s else 1000000000
theorem tbv_S {d : Nat → Int} {r : Int} {m k : Nat} {s : Int} (hk : k < m) (h0 : 0 ≤ s) (hm : m ≤ 60) (hw : ∀ j, j < m → ∀ t, 0 ≤ t → t ≤ r → ((t - d j).natAbs : Int) ≤ 1000) : tbv d r m k s = min (tbv d r m k (s + 1)) (cv d r m k s) := by
  unfold tbv cv
  obtain ⟨e, he⟩ : ∃ e, m - k = e + 1 := ⟨m - k - 1, by omega⟩
  rw [show m - k - 1 = e by omega, he]
  by_cases h : s ≤ r
  · rw [if_pos h, if_pos h]
    by_cases g : s + 1 ≤ r
    · rw [if_pos g]
      exact smin_S (fun t => ((t - d k).natAbs : Int) + Bm d r (k + 1) e t) (by omega)
    · rw [if_neg g]
      have es : s = r := by omega
      subst es
      have u := Bm_ub (d := d) (r := s) (K := 1000) e (k + 1) s (fun j a b => hw j (by omega)) h0 (by omega)
      have v := hw k hk s h0 (by omega)
      have : Bm d s k (e + 1) s = ((s - d k).natAbs : Int) + Bm d s (k + 1) e s := smin_last (fun t => ((t - d k).natAbs : Int) + Bm d s (k + 1) e t) s
      omega
  · rw [if_neg h, if_neg h, if_neg (by omega)]
    omega
theorem tbv_in {d : Nat → Int} {r : Int} {m k : Nat} {s : Int} (hk : k ≤ m) (h0 : 0 ≤ s) (hm : m ≤ 60) (hw : ∀ j, j < m → ∀ t, 0 ≤ t → t ≤ r → ((t - d j).natAbs : Int) ≤ 1000) : 0 ≤ tbv d r m k s ∧ tbv d r m k s ≤ 1000000000 ∧ (s ≤ r → tbv d r m k s ≤ 60000) := by
  unfold tbv
  by_cases h : s ≤ r
  · rw [if_pos h]
    have a := Bm_nn d r (m - k) k s h
    have b := Bm_ub (d := d) (r := r) (K := 1000) (m - k) k s (fun j a b => hw j (by omega)) h0 h
    omega
  · rw [if_neg h]
    omega
/-- the table's row of cell k is right from lo on -/
def RO (wd wt : Int → Int) (sp : Int → Int → Int) (f t : Int) (ln : Nat → Int) (m k : Nat) (lo : Int) (A : Nat → Int → Int) : Prop := ∀ x, lo ≤ x → x ≤ t → 0 ≤ A 37 (1001 * (k : Int) + x) ∧ A 37 (1001 * (k : Int) + x) ≤ 1000000000 ∧ (0 ≤ x - f - offF wd sp ln k → A 37 (1001 * (k : Int) + x) = tbv (dF wd wt sp f ln) (t - f - lenF wd sp ln m) m k (x - f - offF wd sp ln k))
def RL (ln : Nat → Int) (m : Nat) (f t : Int) (F : Nat → Int) (A : Nat → Int → Int) : Prop := F 16 = m ∧ F 17 = f ∧ F 18 = t ∧ ∀ j : Nat, j < m → A 36 j = ln j
section RUN8
variable {mo : Nat} {F : Nat → Int} {A : Nat → Int → Int} {n : Int} {wd wt wr : Int → Int} {sp : Int → Int → Int} {ln : Nat → Int} {m k : Nat} {f t : Int}
theorem r_behind {Q : Int → Prop} {x : Int} (hD : RD n wd wt wr sp A) (hn : n ≤ 60) (hl : lnIn n ln m) (hm : m ≤ 60) (hL : RL ln m f t F A) (hk : k < m) (h1 : k + 1 < m → Q (x + (offF wd sp ln (k + 1) - offF wd sp ln k))) (h2 : k + 1 = m → Q (x + wd (ln k))) : w_Mo_behind mo F A k x Q := by
  obtain ⟨l1, l2⟩ := hl k hk
  have e36 := hL.2.2.2 k hk
  unfold w_Mo_behind w_Mo_behind_b46
  rw [hL.1, e36, (hD (ln k) l1 l2).1]
  refine ⟨⟨by omega, by omega⟩, ⟨by omega, by omega⟩, fun h => ⟨by omega, by omega, l1, by omega, ?_⟩, fun h => ?_⟩
  · have := h2 (by omega)
    rw [show x + wd (ln k) + 0 = x + wd (ln k) by omega]
    exact this
  · have hk1 : k + 1 < m := by omega
    obtain ⟨l3, l4⟩ := hl (k + 1) hk1
    have e361 := hL.2.2.2 (k + 1) hk1
    rw [show ((k : Int) + 1) = ((k + 1 : Nat) : Int) by omega, e361]
    obtain ⟨s1, s2, s3⟩ := (hD (ln k) l1 l2).2.2.2 (ln (k + 1)) l3 l4
    rw [s3]
    refine ⟨by omega, by omega, l1, by omega, by omega, by omega, l3, by omega, s1, s2, by omega, by omega, l1, by omega, ?_⟩
    have := h1 hk1
    have e : offF wd sp ln (k + 1) = offF wd sp ln k + wd (ln k) + sp (ln k) (ln (k + 1)) := rfl
    rw [e, show x + (offF wd sp ln k + wd (ln k) + sp (ln k) (ln (k + 1)) - offF wd sp ln k) = x + wd (ln k) + sp (ln k) (ln (k + 1)) by omega] at this
    exact this
theorem r_costAt {Q : Int → Prop} {x : Int} (hB : BD n wd wt wr sp) (hD : RD n wd wt wr sp A) (hn : n ≤ 60) (hl : lnIn n ln m) (hm : m ≤ 60) (hL : RL ln m f t F A) (hk : k < m) (f0 : 0 ≤ f) (ft : f < t) (t1 : t ≤ 1000) (hr : 0 ≤ t - f - lenF wd sp ln m) (x0 : f ≤ x) (x1 : x ≤ t) (hT : k + 1 < m → RO wd wt sp f t ln m (k + 1) f A)
    (hQ : ∀ z, 0 ≤ z → z ≤ 1000100000 → (0 ≤ x - f - offF wd sp ln k → z = cv (dF wd wt sp f ln) (t - f - lenF wd sp ln m) m k (x - f - offF wd sp ln k)) → Q z) : w_Mo_costAt mo F A k x Q := by
  obtain ⟨l1, l2⟩ := hl k hk
  have e36 := hL.2.2.2 k hk
  have w := hB (ln k) l1 l2
  have o := off_in hB hl k hk
  have ol := off_len hB hl (m - k - 1) k (by omega)
  have hw := way_in (wt := wt) hB hl f0 t1
  have ed : dF wd wt sp f ln k = wt (ln k) - offF wd sp ln k - f := rfl
  have no : (0 ≤ x - f - offF wd sp ln k → t - f - lenF wd sp ln m < x - f - offF wd sp ln k) → Q 1000000000 := fun g => hQ 1000000000 (by omega) (by omega) (fun h => by
    unfold cv
    rw [if_neg (by have := g h; omega)])
  have body : ∀ y, 0 ≤ y → y ≤ 1000000000 → (0 ≤ x - f - offF wd sp ln k → (x - f - offF wd sp ln k ≤ t - f - lenF wd sp ln m → y < 1000000000 ∧ y = Bm (dF wd wt sp f ln) (t - f - lenF wd sp ln m) (k + 1) (m - k - 1) (x - f - offF wd sp ln k)) ∧ (t - f - lenF wd sp ln m < x - f - offF wd sp ln k → y = 1000000000)) → w_Mo_costAt_b75 mo F A Q k x y := by
    intro y y0 y1 hy
    unfold w_Mo_costAt_b75
    rw [e36, (hD (ln k) l1 l2).2.1]
    refine ⟨⟨by omega, by omega⟩, fun g => ⟨by omega, by omega, l1, by omega, m_far ⟨by omega, by omega⟩ ⟨by omega, by omega⟩ ⟨⟨by omega, by omega⟩, hQ _ (by omega) (by omega) (fun h => ?_)⟩⟩, fun g => no (fun h => ?_)⟩
    · obtain ⟨h1, h2⟩ := hy h
      by_cases c : x - f - offF wd sp ln k ≤ t - f - lenF wd sp ln m
      · unfold cv
        rw [if_pos c, ← (h1 c).2, ed]
        omega
      · have := h2 (by omega)
        omega
    · obtain ⟨h1, h2⟩ := hy h
      by_cases c : x - f - offF wd sp ln k ≤ t - f - lenF wd sp ln m
      · have := (h1 c).1
        omega
      · omega
  unfold w_Mo_costAt
  rw [e36, (hD (ln k) l1 l2).1, hL.1, hL.2.2.1]
  refine ⟨by omega, by omega, l1, by omega, ⟨by omega, by omega⟩, ⟨by omega, by omega⟩, fun g => ⟨⟨by omega, by omega⟩, ⟨by omega, by omega⟩, fun h => body 0 (by omega) (by omega) (fun hs => ⟨fun c => ⟨by omega, ?_⟩, fun c => ?_⟩), fun h => ?_⟩, fun g => no (fun h => by omega)⟩
  · rw [show m - k - 1 = 0 by omega]
    rfl
  · have em : m = k + 1 := by omega
    have el : lenF wd sp ln m = offF wd sp ln k + wd (ln k) := by rw [em]; rfl
    omega
  · have hk1 : k + 1 < m := by omega
    refine r_behind hD hn hl hm hL hk (fun _ => ?_) (fun e => absurd e (by omega))
    obtain ⟨l3, l4⟩ := hl (k + 1) hk1
    have w3 := hB (ln (k + 1)) l3 l4
    have o3 := off_in hB hl (k + 1) hk1
    have oS := off_S hB hl hk1
    have ol3 := off_len hB hl (m - (k + 1) - 1) (k + 1) (by omega)
    have es : x + (offF wd sp ln (k + 1) - offF wd sp ln k) - f - offF wd sp ln (k + 1) = x - f - offF wd sp ln k := by omega
    refine ⟨⟨by omega, by omega⟩, fun c => ?_, fun c => body _ (by omega) (by omega) (fun hs => ⟨fun d => by omega, fun _ => rfl⟩)⟩
    obtain ⟨t0, t1', t2⟩ := hT hk1 (x + (offF wd sp ln (k + 1) - offF wd sp ln k)) (by omega) c
    rw [es] at t2
    rw [show ((k + 1 : Nat) : Int) = (k : Int) + 1 by omega] at t0 t1' t2
    refine ⟨by omega, by omega, body _ t0 t1' (fun hs => ?_)⟩
    rw [t2 hs]
    have ti := tbv_in (d := dF wd wt sp f ln) (r := t - f - lenF wd sp ln m) (k := k + 1) (by omega) hs hm hw
    refine ⟨fun c => ⟨by have := ti.2.2 c; omega, ?_⟩, fun c => ?_⟩
    · unfold tbv
      rw [if_pos c, show m - (k + 1) = m - k - 1 by omega]
    · unfold tbv
      rw [if_neg (by omega)]
theorem r_lay {Q : Int → (Nat → Int) → (Nat → Int → Int) → Prop} (hB : BD n wd wt wr sp) (hD : RD n wd wt wr sp A) (hn : n ≤ 60) (hl : lnIn n ln m) (hm : m ≤ 60) (hL : RL ln m f t F A) (f0 : 0 ≤ f) (ft : f < t) (t1 : t ≤ 1000) (hr : 0 ≤ t - f - lenF wd sp ln m)
    (hQ : ∀ z A', frA [37] A' A → (∀ k, k < m → RO wd wt sp f t ln m k f A') → Q z F A') : w_Mo_lay mo F A Q := by
  have hw := way_in (wt := wt) hB hl f0 t1
  show w_Mo_lay_b7 mo Q (F 16 - 1) F A
  rw [hL.1]
  refine Lp3_by (fun (x1 : Int) F' A' => ∃ k : Nat, x1 = (k : Int) - 1 ∧ k ≤ m ∧ F' = F ∧ frA [37] A' A ∧ ∀ j, k ≤ j → j < m → RO wd wt sp f t ln m j f A') (fun (x1 : Int) _ _ => (x1 + 1).toNat) ?_ ((m : Int) - 1) F A ⟨m, rfl, Nat.le_refl m, rfl, frA_r, fun j a b => by omega⟩
  rintro x1 F1 A1 ⟨k, rfl, k1, rfl, fr, hT⟩ P hP
  refine ⟨⟨by omega, by omega⟩, fun h => ?_, fun h => ?_⟩
  · have e : k = 0 := by omega
    subst e
    rw [hL.1, hL.2.1]
    exact ⟨⟨by omega, by omega⟩, fun _ => ⟨by omega, by omega, hQ _ A1 fr (fun j hj => hT j (by omega) hj)⟩, fun _ => hQ _ A1 fr (fun j hj => hT j (by omega) hj)⟩
  obtain ⟨i, rfl⟩ : ∃ i, k = i + 1 := ⟨k - 1, by omega⟩
  rw [show (((i + 1 : Nat) : Int) - 1) = (i : Int) by omega, hL.2.2.1]
  have hi : i < m := by omega
  have o := off_in hB hl i hi
  have ol := off_len hB hl (m - i - 1) i (by omega)
  have wi := hB (ln i) (hl i hi).1 (hl i hi).2
  refine Lp4_by (fun (x2 x4 : Int) F' A' => f - 1 ≤ x4 ∧ x4 ≤ t ∧ F' = F1 ∧ frA [37] A' A ∧ 0 ≤ x2 ∧ x2 ≤ 1000000000 ∧ (0 ≤ x4 + 1 - f - offF wd sp ln i → x2 = tbv (dF wd wt sp f ln) (t - f - lenF wd sp ln m) m i (x4 + 1 - f - offF wd sp ln i)) ∧ (∀ j, i + 1 ≤ j → j < m → RO wd wt sp f t ln m j f A') ∧ RO wd wt sp f t ln m i (x4 + 1) A') (fun (x2 x4 : Int) _ _ => (x4 - f + 1).toNat) ?_ 1000000000 t F1 A1 ⟨by omega, by omega, rfl, fr, by omega, by omega, fun _ => ?_, hT, fun x a b => by omega⟩
  · rintro x2 x4 F2 A2 ⟨h0, h1, rfl, fr2, h2, h3, h4, hT2, hO⟩ P2 hP2
    rw [hL.2.1]
    refine ⟨⟨by omega, by omega⟩, ⟨by omega, by omega⟩, fun g => hP _ _ _ ⟨i, by omega, by omega, rfl, fr2, fun j a b => ?_⟩ (by omega), fun g => ?_⟩
    · by_cases e : j = i
      · rw [e]
        intro x a b
        exact hO x (by omega) b
      · exact hT2 j (by omega) b
    have hL2 : RL ln m f t F2 A2 := ⟨hL.1, hL.2.1, hL.2.2.1, fun j hj => by rw [fr2 36 (by decide)]; exact hL.2.2.2 j hj⟩
    refine r_costAt hB (RD_fr hD (frA_s fr2 (by decide))) hn hl hm hL2 hi f0 ft t1 hr (by omega) h1 (fun h => hT2 (i + 1) (by omega) h) (fun z z0 z1 hz => ?_)
    have fin : ∀ y, y = min x2 z → w_Mo_lay_b52 mo Q P P2 i x4 y F2 A2 := by
      intro y hy
      have ey : 0 ≤ x4 - f - offF wd sp ln i → y = tbv (dF wd wt sp f ln) (t - f - lenF wd sp ln m) m i (x4 - f - offF wd sp ln i) := fun hs => by
        rw [hy, tbv_S hi hs hm hw, ← hz hs, h4 (by omega), show x4 + 1 - f - offF wd sp ln i = x4 - f - offF wd sp ln i + 1 by omega]
      refine ⟨by omega, by omega, hP2 _ _ _ _ ⟨by omega, by omega, rfl, frA_u fr2 (by decide), by omega, by omega, fun hs => ?_, fun j a b x c d => ?_, fun x a b => ?_⟩ (by omega)⟩
      · rw [show x4 + -1 + 1 = x4 by omega] at hs ⊢
        exact ey hs
      · rw [ua_at, if_neg (by omega)]
        exact hT2 j a b x c d
      · rw [ua_at]
        by_cases e : x = x4
        · rw [if_pos (by omega), e]
          exact ⟨by omega, by omega, ey⟩
        · rw [if_neg (by omega)]
          exact hO x (by omega) b
    exact ⟨⟨by omega, by omega⟩, ⟨by omega, by omega⟩, fun c => fin x2 (by omega), fun c => fin z (by omega)⟩
  · unfold tbv
    rw [if_neg (by omega)]
end RUN8
