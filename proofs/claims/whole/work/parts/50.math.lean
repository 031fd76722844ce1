/-! THE LEAST SUMS OF LAYING, in shifts: cell k is wanted at shift d k; shifts do not fall. -/
def pmin (f : Int → Int) : Nat → Int
  | 0 => f 0
  | n + 1 => min (pmin f n) (f ((n : Int) + 1))
theorem pmin_le (f : Int → Int) (n : Nat) : ∀ t : Int, 0 ≤ t → t ≤ n → pmin f n ≤ f t := by
  induction n with
  | zero =>
    intro t h0 h1
    have e : t = 0 := by omega
    subst e
    exact Int.le_refl _
  | succ n ih =>
    intro t h0 h1
    show min (pmin f n) (f ((n : Int) + 1)) ≤ f t
    by_cases h : t ≤ n
    · have := ih t h0 h
      omega
    · have e : t = (n : Int) + 1 := by omega
      subst e
      omega
theorem pmin_at (f : Int → Int) (n : Nat) : ∃ t : Int, 0 ≤ t ∧ t ≤ n ∧ pmin f n = f t := by
  induction n with
  | zero => exact ⟨0, by omega, by omega, rfl⟩
  | succ n ih =>
    obtain ⟨t, h0, h1, h2⟩ := ih
    by_cases h : pmin f n ≤ f ((n : Int) + 1)
    · exact ⟨t, h0, by omega, by show min (pmin f n) (f ((n : Int) + 1)) = f t; omega⟩
    · exact ⟨(n : Int) + 1, by omega, by omega, by show min (pmin f n) (f ((n : Int) + 1)) = f ((n : Int) + 1); omega⟩
theorem pmin_eq (f : Int → Int) (n : Nat) (v : Int) (h1 : ∀ t : Int, 0 ≤ t → t ≤ n → v ≤ f t) (h2 : ∃ t : Int, 0 ≤ t ∧ t ≤ n ∧ f t = v) : pmin f n = v := by
  obtain ⟨t, a, b, c⟩ := h2
  obtain ⟨u, a2, b2, c2⟩ := pmin_at f n
  have := pmin_le f n t a b
  have := h1 u a2 b2
  omega
theorem pmin_congr (f g : Int → Int) (n : Nat) (h : ∀ t : Int, 0 ≤ t → t ≤ n → f t = g t) : pmin f n = pmin g n := by
  induction n with
  | zero => exact h 0 (by omega) (by omega)
  | succ n ih =>
    show min (pmin f n) (f ((n : Int) + 1)) = min (pmin g n) (g ((n : Int) + 1))
    rw [ih (fun t a b => h t a (by omega)), h ((n : Int) + 1) (by omega) (by omega)]
/-- the least sum of cells 0 .. k - 1 with the last one's shift at most s -/
def Fm (d : Nat → Int) : Nat → Int → Int
  | 0, _ => 0
  | k + 1, s => pmin (fun t => Fm d k t + ((t - d k).natAbs : Int)) s.toNat
/-- what bends add at t -/
def bsum (b : Nat → Int) : Nat → Int → Int
  | 0, _ => 0
  | n + 1, t => bsum b n t + max 0 (b n - t)
theorem bsum_nn (b : Nat → Int) (n : Nat) (t : Int) : 0 ≤ bsum b n t := by
  induction n with
  | zero => exact Int.le_refl _
  | succ n ih => show 0 ≤ bsum b n t + max 0 (b n - t); omega
theorem bsum_mono (b : Nat → Int) (n : Nat) {t u : Int} (h : t ≤ u) : bsum b n u ≤ bsum b n t := by
  induction n with
  | zero => exact Int.le_refl _
  | succ n ih => show bsum b n u + max 0 (b n - u) ≤ bsum b n t + max 0 (b n - t); omega
theorem bsum_0 (b : Nat → Int) (n : Nat) (t : Int) (h : ∀ j, j < n → b j ≤ t) : bsum b n t = 0 := by
  induction n with
  | zero => rfl
  | succ n ih =>
    show bsum b n t + max 0 (b n - t) = 0
    rw [ih (fun j hj => h j (by omega))]
    have := h n (by omega)
    omega
theorem bsum_congr (b b' : Nat → Int) (n : Nat) (t : Int) (h : ∀ j, j < n → b j = b' j) : bsum b n t = bsum b' n t := by
  induction n with
  | zero => rfl
  | succ n ih =>
    show bsum b n t + max 0 (b n - t) = bsum b' n t + max 0 (b' n - t)
    rw [ih (fun j hj => h j (by omega)), h n (by omega)]
/-- one cell more: bends b (k of them) become b' (k + 1 of them): w came twice, the greatest, M, went -/
def bstep (b b' : Nat → Int) (k : Nat) (w M : Int) : Prop :=
  (∀ t, bsum b' (k + 1) t + max 0 (M - t) = bsum b k t + 2 * max 0 (w - t)) ∧ (∀ j, j < k + 1 → b' j ≤ b' k) ∧ b' k ≤ M
theorem bstep_g {b b' : Nat → Int} {k : Nat} {w M C : Int} (h : bstep b b' k w M) (t : Int) : C + bsum b k t + ((t - w).natAbs : Int) = C + M - w + bsum b' (k + 1) t + max 0 (t - M) := by
  have := h.1 t
  omega
theorem bstep_F {b b' : Nat → Int} {k : Nat} {w M C : Int} {d : Nat → Int} {r : Int} (h : bstep b b' k w M) (hM0 : 0 ≤ M) (hw : d k = w) (hF : ∀ t, 0 ≤ t → t ≤ r → Fm d k t = C + bsum b k t) :
    ∀ s, 0 ≤ s → s ≤ r → Fm d (k + 1) s = C + M - w + bsum b' (k + 1) s := by
  intro s h0 h1
  show pmin (fun t => Fm d k t + ((t - d k).natAbs : Int)) s.toNat = _
  have g : ∀ t, 0 ≤ t → t ≤ r → Fm d k t + ((t - d k).natAbs : Int) = C + M - w + bsum b' (k + 1) t + max 0 (t - M) := fun t a c => by
    rw [hF t a c, hw]
    exact bstep_g h t
  refine pmin_eq _ _ _ (fun t a c => ?_) ?_
  · rw [g t a (by omega)]
    have := bsum_mono b' (k + 1) (show t ≤ s by omega)
    omega
  · by_cases hs : s ≤ M
    · exact ⟨s, h0, by omega, by rw [g s h0 h1]; omega⟩
    · refine ⟨M, hM0, by omega, ?_⟩
      rw [g M hM0 (by omega), bsum_0 b' (k + 1) M (fun j hj => Int.le_trans (h.2.1 j hj) h.2.2), bsum_0 b' (k + 1) s (fun j hj => by have := h.2.1 j hj; have := h.2.2; omega)]
      omega
/-- the least place of the least: where the last bend is -/
theorem bstep_least {b b' : Nat → Int} {k : Nat} {w M C : Int} {d : Nat → Int} {r : Int} (h : bstep b b' k w M) (hw : d k = w) (hF : ∀ t, 0 ≤ t → t ≤ r → Fm d k t = C + bsum b k t) (hb0 : 0 ≤ b' k)
    {u : Int} (hu0 : 0 ≤ u) (hur : u ≤ r) : Fm d (k + 1) u = Fm d k (min u (b' k)) + ((min u (b' k) - d k).natAbs : Int) ∧ ∀ t, 0 ≤ t → t ≤ u → Fm d k t + ((t - d k).natAbs : Int) ≤ Fm d (k + 1) u → min u (b' k) ≤ t := by
  have g : ∀ t, 0 ≤ t → t ≤ r → Fm d k t + ((t - d k).natAbs : Int) = C + M - w + bsum b' (k + 1) t + max 0 (t - M) := fun t a c => by
    rw [hF t a c, hw]
    exact bstep_g h t
  have hbM := h.2.2
  have e0 := bstep_F h (by omega) hw hF u hu0 hur
  have z : ∀ t, b' k ≤ t → bsum b' (k + 1) t = 0 := fun t ht => bsum_0 b' (k + 1) t (fun j hj => Int.le_trans (h.2.1 j hj) ht)
  have st : ∀ t t', t < t' → t' ≤ b' k → bsum b' (k + 1) t' < bsum b' (k + 1) t := fun t t' h1 h2 => by
    show bsum b' k t' + max 0 (b' k - t') < bsum b' k t + max 0 (b' k - t)
    have := bsum_mono b' k (Int.le_of_lt h1)
    omega
  constructor
  · rw [g (min u (b' k)) (by omega) (by omega), e0]
    by_cases hc : u ≤ b' k
    · rw [show min u (b' k) = u by omega]
      omega
    · rw [show min u (b' k) = b' k by omega, z (b' k) (Int.le_refl _), z u (by omega)]
      omega
  · intro t h0 h1 h2
    rw [g t h0 (by omega), e0] at h2
    by_cases hc : min u (b' k) ≤ t
    · exact hc
    · have := st t (min u (b' k)) (by omega) (by omega)
      have := bsum_mono b' (k + 1) (show min u (b' k) ≤ u by omega)
      by_cases hd : u ≤ b' k
      · rw [show min u (b' k) = u by omega] at this
        have := st t u (by omega) hd
        omega
      · have e1 : min u (b' k) = b' k := by omega
        have := st t (b' k) (by omega) (Int.le_refl _)
        have := z (b' k) (Int.le_refl _)
        have := z u (by omega)
        omega
/-- the sum of a way -/
def wsum (d x : Nat → Int) : Nat → Int
  | 0 => 0
  | k + 1 => wsum d x k + ((x k - d k).natAbs : Int)
theorem wsum_congr {d x y : Nat → Int} {k : Nat} (h : ∀ i, i < k → x i = y i) : wsum d x k = wsum d y k := by
  induction k with
  | zero => rfl
  | succ k ih =>
    show wsum d x k + _ = wsum d y k + _
    rw [ih (fun i hi => h i (by omega)), h k (by omega)]
/-- no way is better than Fm says -/
theorem Fm_le {d x : Nat → Int} {k : Nat} : ∀ {u : Int}, (∀ i, i < k → 0 ≤ x i) → (∀ i, i + 1 < k → x i ≤ x (i + 1)) → (0 < k → x (k - 1) ≤ u) → Fm d k u ≤ wsum d x k := by
  induction k with
  | zero => intro u _ _ _; exact Int.le_refl _
  | succ k ih =>
    intro u h0 h1 h2
    have hu := h2 (by omega)
    rw [Nat.add_sub_cancel] at hu
    have := h0 k (by omega)
    have p := pmin_le (fun t => Fm d k t + ((t - d k).natAbs : Int)) u.toNat (x k) this (by omega)
    have q := ih (u := x k) (fun i hi => h0 i (by omega)) (fun i hi => h1 i (by omega)) (fun hk => by have := h1 (k - 1) (by omega); rwa [Nat.sub_add_cancel hk] at this)
    show pmin _ u.toNat ≤ wsum d x k + ((x k - d k).natAbs : Int)
    omega
/-- the way back from bends B: the last cell at most at u -/
def wback (B : Nat → Int) : Nat → Int → Nat → Int
  | 0, _, _ => 0
  | k + 1, u, i => if i = k then min u (B k) else wback B k (min u (B k)) i
theorem wback_last (B : Nat → Int) (k : Nat) (u : Int) : wback B (k + 1) u k = min u (B k) := by
  show (if k = k then min u (B k) else _) = _
  rw [if_pos rfl]
theorem wback_lt (B : Nat → Int) (k : Nat) (u : Int) {i : Nat} (h : i < k) : wback B (k + 1) u i = wback B k (min u (B k)) i := by
  show (if i = k then min u (B k) else _) = _
  rw [if_neg (by omega)]
theorem wback_mono (B : Nat → Int) (k : Nat) : ∀ {u v : Int}, u ≤ v → ∀ i, i < k → wback B k u i ≤ wback B k v i := by
  induction k with
  | zero => intro u v _ i hi; omega
  | succ k ih =>
    intro u v h i hi
    by_cases e : i = k
    · subst e
      rw [wback_last, wback_last]
      omega
    · rw [wback_lt B k u (by omega), wback_lt B k v (by omega)]
      exact ih (by omega) i (by omega)
theorem wback_in (B : Nat → Int) (k : Nat) (hB : ∀ i, i < k → 0 ≤ B i) : ∀ {u : Int}, 0 ≤ u → ∀ i, i < k → 0 ≤ wback B k u i ∧ wback B k u i ≤ u ∧ (i + 1 < k → wback B k u i ≤ wback B k u (i + 1)) := by
  induction k with
  | zero => intro u _ i hi; omega
  | succ k ih =>
    intro u h i hi
    have hk := hB k (by omega)
    by_cases e : i = k
    · subst e
      rw [wback_last]
      exact ⟨by omega, by omega, fun g => by omega⟩
    · have q := ih (fun j hj => hB j (by omega)) (u := min u (B k)) (by omega) i (by omega)
      rw [wback_lt B k u (by omega)]
      refine ⟨q.1, by omega, fun g => ?_⟩
      by_cases e2 : i + 1 = k
      · rw [e2, wback_last]
        exact q.2.1
      · rw [wback_lt B k u (by omega)]
        exact q.2.2 (by omega)
/-- what a kept row of bends must say of each cell -/
def bleast (d B : Nat → Int) (r : Int) (k : Nat) : Prop := ∀ i, i < k → 0 ≤ B i ∧ ∀ u, 0 ≤ u → u ≤ r → Fm d (i + 1) u = Fm d i (min u (B i)) + ((min u (B i) - d i).natAbs : Int) ∧ ∀ t, 0 ≤ t → t ≤ u → Fm d i t + ((t - d i).natAbs : Int) ≤ Fm d (i + 1) u → min u (B i) ≤ t
theorem wback_sum {d B : Nat → Int} {r : Int} {k : Nat} (h : bleast d B r k) : ∀ {u : Int}, 0 ≤ u → u ≤ r → wsum d (wback B k u) k = Fm d k u := by
  induction k with
  | zero => intro u _ _; rfl
  | succ k ih =>
    intro u h0 h1
    have hk := h k (by omega)
    show wsum d (wback B (k + 1) u) k + _ = _
    rw [wsum_congr (y := wback B k (min u (B k))) (fun i hi => wback_lt B k u hi), wback_last, ih (fun i hi => h i (by omega)) (by have := hk.1; omega) (by omega)]
    exact ((hk.2 u h0 h1).1).symm
theorem wback_least {d B : Nat → Int} {r : Int} {k : Nat} (h : bleast d B r k) : ∀ {u : Int} {x : Nat → Int}, 0 ≤ u → u ≤ r → (∀ i, i < k → 0 ≤ x i) → (∀ i, i + 1 < k → x i ≤ x (i + 1)) → (0 < k → x (k - 1) ≤ u) → wsum d x k ≤ Fm d k u → ∀ i, i < k → wback B k u i ≤ x i := by
  induction k with
  | zero => intro u x _ _ _ _ _ _ i hi; omega
  | succ k ih =>
    intro u x h0 h1 hx0 hx1 hx2 hs i hi
    have hk := h k (by omega)
    have hu := hx2 (by omega)
    rw [Nat.add_sub_cancel] at hu
    have hxk := hx0 k (by omega)
    have low : Fm d k (x k) ≤ wsum d x k := Fm_le (fun i hi => hx0 i (by omega)) (fun i hi => hx1 i (by omega)) (fun hk => by have := hx1 (k - 1) (by omega); rwa [Nat.sub_add_cancel hk] at this)
    have hs' : wsum d x k + ((x k - d k).natAbs : Int) ≤ Fm d (k + 1) u := hs
    have hl := (hk.2 u h0 h1).2 (x k) hxk hu (by omega)
    have opt : Fm d (k + 1) u ≤ Fm d k (x k) + ((x k - d k).natAbs : Int) := pmin_le (fun t => Fm d k t + ((t - d k).natAbs : Int)) u.toNat (x k) hxk (by omega)
    by_cases e : i = k
    · subst e
      rw [wback_last]
      exact hl
    · rw [wback_lt B k u (by omega)]
      refine Int.le_trans (wback_mono B k hl i (by omega)) ?_
      exact ih (fun i hi => h i (by omega)) hxk (by omega) (fun i hi => hx0 i (by omega)) (fun i hi => hx1 i (by omega)) (fun hk => by have := hx1 (k - 1) (by omega); rwa [Nat.sub_add_cancel hk] at this) (by omega) i (by omega)
/-! THE SAME FROM THE RIGHT: the reference's table, and the way that it takes -/
def tsum (d x : Nat → Int) : Nat → Nat → Int
  | _, 0 => 0
  | k, n + 1 => ((x k - d k).natAbs : Int) + tsum d x (k + 1) n
theorem tsum_split (d x : Nat → Int) (n : Nat) : ∀ k, wsum d x (k + n) = wsum d x k + tsum d x k n := by
  induction n with
  | zero => intro k; show wsum d x k = wsum d x k + 0; omega
  | succ n ih =>
    intro k
    have := ih (k + 1)
    rw [show k + 1 + n = k + (n + 1) by omega] at this
    rw [this]
    show wsum d x k + ((x k - d k).natAbs : Int) + tsum d x (k + 1) n = wsum d x k + (((x k - d k).natAbs : Int) + tsum d x (k + 1) n)
    omega
def smin (f : Int → Int) (s r : Int) : Int := pmin (fun j => f (s + j)) (r - s).toNat
theorem smin_le (f : Int → Int) {s r t : Int} (h0 : s ≤ t) (h1 : t ≤ r) : smin f s r ≤ f t := by
  have := pmin_le (fun j => f (s + j)) (r - s).toNat (t - s) (by omega) (by omega)
  rwa [show s + (t - s) = t by omega] at this
theorem smin_at (f : Int → Int) {s r : Int} (h : s ≤ r) : ∃ t, s ≤ t ∧ t ≤ r ∧ smin f s r = f t := by
  obtain ⟨t, a, b, c⟩ := pmin_at (fun j => f (s + j)) (r - s).toNat
  exact ⟨s + t, by omega, by omega, c⟩
def Bm (d : Nat → Int) (r : Int) : Nat → Nat → Int → Int
  | _, 0, _ => 0
  | k, n + 1, s => smin (fun t => ((t - d k).natAbs : Int) + Bm d r (k + 1) n t) s r
theorem Bm_le {d x : Nat → Int} {r : Int} {m : Nat} (hm : ∀ i j, i ≤ j → j < m → x i ≤ x j) (hr : ∀ i, i < m → x i ≤ r) (n : Nat) : ∀ (k : Nat) (s : Int), k + n = m → (0 < n → s ≤ x k) → Bm d r k n s ≤ tsum d x k n := by
  induction n with
  | zero => intro k s _ _; exact Int.le_refl _
  | succ n ih =>
    intro k s hk hs
    have p := smin_le (fun t => ((t - d k).natAbs : Int) + Bm d r (k + 1) n t) (hs (by omega)) (hr k (by omega))
    have q := ih (k + 1) (x k) (by omega) (fun _ => hm k (k + 1) (by omega) (by omega))
    show smin _ s r ≤ ((x k - d k).natAbs : Int) + tsum d x (k + 1) n
    omega
def pv (x : Nat → Int) (k : Nat) : Int := match k with
  | 0 => 0
  | k + 1 => x k
/-- the reference's way: each cell at the first place that reaches the table's number -/
def rway (d x : Nat → Int) (r : Int) (m : Nat) : Prop := ∀ k n, k + n + 1 = m → pv x k ≤ x k ∧ x k ≤ r ∧ ((x k - d k).natAbs : Int) + Bm d r (k + 1) n (x k) = Bm d r k (n + 1) (pv x k) ∧ ∀ t, pv x k ≤ t → t < x k → ((t - d k).natAbs : Int) + Bm d r (k + 1) n t ≠ Bm d r k (n + 1) (pv x k)
theorem rway_mono {d x : Nat → Int} {r : Int} {m : Nat} (h : rway d x r m) : ∀ j i, i ≤ j → j < m → x i ≤ x j := by
  intro j
  induction j with
  | zero => intro i h1 h2; rw [show i = 0 by omega]; exact Int.le_refl _
  | succ j ih =>
    intro i h1 h2
    by_cases e : i = j + 1
    · rw [e]; exact Int.le_refl _
    · have := ih i (by omega) (by omega)
      have q := (h (j + 1) (m - (j + 2)) (by omega)).1
      have : pv x (j + 1) = x j := rfl
      omega
theorem rway_nn {d x : Nat → Int} {r : Int} {m : Nat} (h : rway d x r m) {i : Nat} (hi : i < m) : 0 ≤ x i := by
  have a := (h 0 (m - 1) (by omega)).1
  have b := rway_mono h i 0 (by omega) hi
  have : pv x 0 = 0 := rfl
  omega
theorem rway_sum {d x : Nat → Int} {r : Int} {m : Nat} (h : rway d x r m) (n : Nat) : ∀ k, k + n = m → tsum d x k n = Bm d r k n (pv x k) := by
  induction n with
  | zero => intro k _; rfl
  | succ n ih =>
    intro k hk
    have q := (h k n (by omega)).2.2.1
    have e := ih (k + 1) (by omega)
    show ((x k - d k).natAbs : Int) + tsum d x (k + 1) n = _
    rw [e]
    exact q
theorem mono_of {x : Nat → Int} {m : Nat} (h : ∀ i, i + 1 < m → x i ≤ x (i + 1)) : ∀ j i, i ≤ j → j < m → x i ≤ x j := by
  intro j
  induction j with
  | zero => intro i h1 h2; rw [show i = 0 by omega]; exact Int.le_refl _
  | succ j ih =>
    intro i h1 h2
    by_cases e : i = j + 1
    · rw [e]; exact Int.le_refl _
    · have := ih i (by omega) (by omega)
      have := h j h2
      omega
/-- both ways are one -/
theorem rway_eq {d x B : Nat → Int} {r : Int} {m : Nat} (hr : 0 ≤ r) (h : rway d x r m) (hB : bleast d B r m) : ∀ k, k < m → x k = wback B m r k := by
  have hin := wback_in B m (fun i hi => (hB i hi).1) hr
  have ym := mono_of (x := wback B m r) (m := m) (fun i hi => (hin i (by omega)).2.2 hi)
  have ys := wback_sum hB hr (Int.le_refl r)
  have t0 : wsum d x m = tsum d x 0 m := by
    have := tsum_split d x m 0
    rw [Nat.zero_add] at this
    rw [this]
    show (0 : Int) + _ = _
    omega
  have t1 : wsum d (wback B m r) m = tsum d (wback B m r) 0 m := by
    have := tsum_split d (wback B m r) m 0
    rw [Nat.zero_add] at this
    rw [this]
    show (0 : Int) + _ = _
    omega
  have b0 : Bm d r 0 m 0 ≤ tsum d (wback B m r) 0 m := Bm_le (m := m) (fun i j a b => ym j i a b) (fun i hi => (hin i hi).2.1) m 0 0 (by omega) (fun hm => (hin 0 hm).1)
  have x0 : tsum d x 0 m = Bm d r 0 m 0 := rway_sum h m 0 (by omega)
  have le : wsum d x m ≤ Fm d m r := by omega
  have low := wback_least hB hr (Int.le_refl r) (x := x) (fun i hi => rway_nn h hi) (fun i hi => rway_mono h (i + 1) i (by omega) hi) (fun hm => (h (m - 1) 0 (by omega)).2.1) le
  have fl : Fm d m r ≤ wsum d x m := Fm_le (fun i hi => rway_nn h hi) (fun i hi => rway_mono h (i + 1) i (by omega) hi) (fun hm => (h (m - 1) 0 (by omega)).2.1)
  intro k
  induction k using Nat.strongRecOn with
  | ind k ih =>
    intro hk
    obtain ⟨g1, g2, g3, g4⟩ := h k (m - k - 1) (by omega)
    have lk := low k hk
    by_cases e : x k ≤ wback B m r k
    · omega
    · exfalso
      have wk : wsum d x k = wsum d (wback B m r) k := wsum_congr (fun i hi => ih i hi (by omega))
      have s1 := tsum_split d x (m - k) k
      have s2 := tsum_split d (wback B m r) (m - k) k
      rw [show k + (m - k) = m by omega] at s1 s2
      have s3 := rway_sum h (m - k) k (by omega)
      have pvy : pv x k ≤ wback B m r k := by
        match k, ih, hk with
        | 0, _, hk => exact (hin 0 hk).1
        | k + 1, ih, hk =>
          show x k ≤ _
          rw [ih k (by omega) (by omega)]
          exact (hin k (by omega)).2.2 hk
      have tl : Bm d r (k + 1) (m - k - 1) (wback B m r k) ≤ tsum d (wback B m r) (k + 1) (m - k - 1) := Bm_le (m := m) (fun i j a b => ym j i a b) (fun i hi => (hin i hi).2.1) (m - k - 1) (k + 1) _ (by omega) (fun hm => ym (k + 1) k (by omega) (by omega))
      have sp : tsum d (wback B m r) k (m - k - 1 + 1) = ((wback B m r k - d k).natAbs : Int) + tsum d (wback B m r) (k + 1) (m - k - 1) := rfl
      have mn : Bm d r k (m - k - 1 + 1) (pv x k) ≤ ((wback B m r k - d k).natAbs : Int) + Bm d r (k + 1) (m - k - 1) (wback B m r k) := smin_le (fun t => ((t - d k).natAbs : Int) + Bm d r (k + 1) (m - k - 1) t) pvy (hin k hk).2.1
      rw [show m - k = m - k - 1 + 1 by omega] at s3
      rw [show m - k = m - k - 1 + 1 by omega] at s1 s2
      exact g4 (wback B m r k) pvy (by omega) (by omega)
