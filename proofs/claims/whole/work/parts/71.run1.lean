/-! LINES OF CELLS, over whole numbers -/
def insf (b : Nat → Int) (w : Int) (q : Nat) : Nat → Int := fun j => if j < q then b j else if j = q then w else b (j - 1)
theorem insf_lt {b : Nat → Int} {w : Int} {q j : Nat} (h : j < q) : insf b w q j = b j := by unfold insf; rw [if_pos h]
theorem insf_eq {b : Nat → Int} {w : Int} {q : Nat} : insf b w q q = w := by unfold insf; rw [if_neg (by omega), if_pos rfl]
theorem insf_gt {b : Nat → Int} {w : Int} {q j : Nat} (h : q < j) : insf b w q j = b (j - 1) := by unfold insf; rw [if_neg (by omega), if_neg (by omega)]
theorem insf_sum (b : Nat → Int) (w t : Int) (q : Nat) : ∀ k, q ≤ k → bsum (insf b w q) (k + 1) t = bsum b k t + max 0 (w - t) := by
  intro k
  induction k with
  | zero =>
    intro h
    have e : q = 0 := by omega
    subst e
    show bsum (insf b w 0) 0 t + max 0 (insf b w 0 0 - t) = _
    rw [insf_eq]
    rfl
  | succ k ih =>
    intro h
    show bsum (insf b w q) (k + 1) t + max 0 (insf b w q (k + 1) - t) = (bsum b k t + max 0 (b k - t)) + max 0 (w - t)
    by_cases e : q = k + 1
    · subst e
      rw [insf_eq, bsum_congr _ b (k + 1) t (fun j hj => insf_lt hj)]
      rfl
    · rw [ih (by omega), insf_gt (by omega), Nat.add_sub_cancel]
      omega
def frA (S : List Nat) (A' A : Nat → Int → Int) : Prop := ∀ k, k ∉ S → A' k = A k
def frF (S : List Nat) (F' F : Nat → Int) : Prop := ∀ k, k ∉ S → F' k = F k
theorem frA_r {S : List Nat} {A : Nat → Int → Int} : frA S A A := fun _ _ => rfl
theorem frF_r {S : List Nat} {F : Nat → Int} : frF S F F := fun _ _ => rfl
theorem frA_t {S : List Nat} {A A' A'' : Nat → Int → Int} (h : frA S A'' A') (g : frA S A' A) : frA S A'' A := fun k hk => (h k hk).trans (g k hk)
theorem frF_t {S : List Nat} {F F' F'' : Nat → Int} (h : frF S F'' F') (g : frF S F' F) : frF S F'' F := fun k hk => (h k hk).trans (g k hk)
theorem frA_s {S T : List Nat} {A A' : Nat → Int → Int} (h : frA S A' A) (hs : ∀ k, k ∈ S → k ∈ T) : frA T A' A := fun k hk => h k (fun q => hk (hs k q))
theorem frF_s {S T : List Nat} {F F' : Nat → Int} (h : frF S F' F) (hs : ∀ k, k ∈ S → k ∈ T) : frF T F' F := fun k hk => h k (fun q => hk (hs k q))
theorem frA_u {S : List Nat} {A A' : Nat → Int → Int} {k : Nat} {i v : Int} (h : frA S A' A) (hk : k ∈ S) : frA S (ua A' k i v) A := fun a ha => by
  rw [ua_n (fun e => ha (by rw [e]; exact hk))]
  exact h a ha
theorem frF_u {S : List Nat} {F F' : Nat → Int} {k : Nat} {v : Int} (h : frF S F' F) (hk : k ∈ S) : frF S (uf F' k v) F := fun a ha => by
  rw [uf_n (fun e => ha (by rw [e]; exact hk))]
  exact h a ha
/-! the least sums: more of them -/
theorem Fm_congr {d d' : Nat → Int} : ∀ {m : Nat} (s : Int), (∀ k, k < m → d k = d' k) → Fm d m s = Fm d' m s := by
  intro m
  induction m with
  | zero => intro s _; rfl
  | succ m ih =>
    intro s h
    refine pmin_congr _ _ _ (fun t _ _ => ?_)
    show Fm d m t + _ = Fm d' m t + _
    rw [ih t (fun k hk => h k (by omega)), h m (by omega)]
theorem pmin_nn {f : Int → Int} {n : Nat} (h : ∀ t : Int, 0 ≤ t → t ≤ n → 0 ≤ f t) : 0 ≤ pmin f n := by
  obtain ⟨t, a, b, c⟩ := pmin_at f n
  rw [c]
  exact h t a b
theorem Fm_nn (d : Nat → Int) : ∀ (m : Nat) (s : Int), 0 ≤ Fm d m s := by
  intro m
  induction m with
  | zero => intro s; exact Int.le_refl _
  | succ m ih =>
    intro s
    refine pmin_nn (fun t _ _ => ?_)
    have := ih t
    show 0 ≤ Fm d m t + _
    omega
theorem Fm_anti {d : Nat → Int} {m : Nat} {s s' : Int} (h0 : 0 ≤ s) (h : s ≤ s') : Fm d m s' ≤ Fm d m s := by
  cases m with
  | zero => exact Int.le_refl _
  | succ m =>
    obtain ⟨t, a, b, c⟩ := pmin_at (fun t => Fm d m t + ((t - d m).natAbs : Int)) s.toNat
    show pmin _ s'.toNat ≤ pmin _ s.toNat
    rw [c]
    exact pmin_le _ _ t a (by omega)
theorem Fm_ub {d : Nat → Int} {S K : Int} (hK : 0 ≤ K) : ∀ (m : Nat) {s : Int}, (∀ k, k < m → ∀ t, 0 ≤ t → t ≤ S → ((t - d k).natAbs : Int) ≤ K) → 0 ≤ s → s ≤ S → Fm d m s ≤ m * K := by
  intro m
  induction m with
  | zero => intro s _ _ _; show (0 : Int) ≤ _; omega
  | succ m ih =>
    intro s h h0 h1
    have q := pmin_le (fun t => Fm d m t + ((t - d m).natAbs : Int)) s.toNat s h0 (by omega)
    have p := ih (fun k hk => h k (by omega)) h0 h1
    have e := h m (by omega) s h0 h1
    show pmin _ s.toNat ≤ _
    have : ((m + 1 : Nat) : Int) * K = m * K + K := by
      rw [Int.natCast_add, Int.add_mul]
      show m * K + 1 * K = _
      omega
    rw [this]
    exact Int.le_trans q (by show Fm d m s + ((s - d m).natAbs : Int) ≤ _; omega)
theorem Fm_S0 (d : Nat → Int) (m : Nat) : Fm d (m + 1) 0 = Fm d m 0 + ((0 - d m).natAbs : Int) := rfl
theorem Fm_SS (d : Nat → Int) (m : Nat) {s : Int} (h : 0 ≤ s) : Fm d (m + 1) (s + 1) = min (Fm d (m + 1) s) (Fm d m (s + 1) + ((s + 1 - d m).natAbs : Int)) := by
  show pmin _ (s + 1).toNat = min (pmin _ s.toNat) _
  rw [show (s + 1).toNat = s.toNat + 1 by omega]
  show min (pmin _ s.toNat) (Fm d m ((s.toNat : Int) + 1) + (((s.toNat : Int) + 1 - d m).natAbs : Int)) = _
  rw [show ((s.toNat : Int)) = s by omega]
/-- wanted shifts drawn into 0 .. r -/
def clp (r : Int) (d : Nat → Int) : Nat → Int := fun k => max 0 (min r (d k))
def csum (r : Int) (d : Nat → Int) : Nat → Int
  | 0 => 0
  | k + 1 => csum r d k + ((d k - clp r d k).natAbs : Int)
theorem clp_abs {r : Int} (d : Nat → Int) (k : Nat) {t : Int} (h0 : 0 ≤ t) (h1 : t ≤ r) : ((t - d k).natAbs : Int) = ((t - clp r d k).natAbs : Int) + ((d k - clp r d k).natAbs : Int) := by
  unfold clp
  omega
theorem Fm_clip {r : Int} (d : Nat → Int) : ∀ (m : Nat) (s : Int), 0 ≤ s → s ≤ r → Fm d m s = Fm (clp r d) m s + csum r d m := by
  intro m
  induction m with
  | zero => intro s _ _; rfl
  | succ m ih =>
    intro s h0 h1
    show pmin (fun t => Fm d m t + ((t - d m).natAbs : Int)) s.toNat = pmin (fun t => Fm (clp r d) m t + ((t - clp r d m).natAbs : Int)) s.toNat + (csum r d m + ((d m - clp r d m).natAbs : Int))
    have g : ∀ t, 0 ≤ t → t ≤ s → Fm d m t + ((t - d m).natAbs : Int) = Fm (clp r d) m t + ((t - clp r d m).natAbs : Int) + (csum r d m + ((d m - clp r d m).natAbs : Int)) := fun t a b => by
      rw [ih t a (by omega), clp_abs d m a (show t ≤ r by omega)]
      omega
    refine pmin_eq _ _ _ (fun t a b => ?_) ?_
    · have := pmin_le (fun t => Fm (clp r d) m t + ((t - clp r d m).natAbs : Int)) s.toNat t a b
      show _ ≤ Fm d m t + ((t - d m).natAbs : Int)
      rw [g t a (by omega)]
      omega
    · obtain ⟨t, a, b, c⟩ := pmin_at (fun t => Fm (clp r d) m t + ((t - clp r d m).natAbs : Int)) s.toNat
      refine ⟨t, a, b, ?_⟩
      rw [c]
      exact g t a (by omega)
theorem bleast_clip {r : Int} {d B : Nat → Int} {m : Nat} (h : bleast (clp r d) B r m) : bleast d B r m := by
  intro i hi
  obtain ⟨q, p⟩ := h i hi
  refine ⟨q, fun u u0 u1 => ?_⟩
  obtain ⟨p1, p2⟩ := p u u0 u1
  have e1 := Fm_clip (r := r) d (i + 1) u u0 u1
  have e2 : csum r d (i + 1) = csum r d i + ((d i - clp r d i).natAbs : Int) := rfl
  refine ⟨?_, fun t t0 t1 ht => p2 t t0 t1 ?_⟩
  · have e3 := Fm_clip (r := r) d i (min u (B i)) (by omega) (by omega)
    have e4 := clp_abs d i (t := min u (B i)) (r := r) (by omega) (by omega)
    omega
  · have e3 := Fm_clip (r := r) d i t t0 (by omega)
    have e4 := clp_abs d i (t := t) (r := r) t0 (by omega)
    omega
/-! a line: its cells ln 0 .. ln (m - 1) -/
def offF (wd : Int → Int) (sp : Int → Int → Int) (ln : Nat → Int) : Nat → Int
  | 0 => 0
  | k + 1 => offF wd sp ln k + wd (ln k) + sp (ln k) (ln (k + 1))
def lenF (wd : Int → Int) (sp : Int → Int → Int) (ln : Nat → Int) : Nat → Int
  | 0 => 0
  | k + 1 => offF wd sp ln k + wd (ln k)
def dF (wd wt : Int → Int) (sp : Int → Int → Int) (f : Int) (ln : Nat → Int) (k : Nat) : Int := wt (ln k) - offF wd sp ln k - f
def LC (wd wt : Int → Int) (sp : Int → Int → Int) (f t : Int) (ln : Nat → Int) (m : Nat) : Int := Fm (dF wd wt sp f ln) m (t - f - lenF wd sp ln m)
def app (ln : Nat → Int) (m : Nat) (c : Int) : Nat → Int := fun j => if j = m then c else ln j
theorem app_lt {ln : Nat → Int} {m j : Nat} {c : Int} (h : j < m) : app ln m c j = ln j := by unfold app; rw [if_neg (by omega)]
theorem app_eq {ln : Nat → Int} {m : Nat} {c : Int} : app ln m c m = c := by unfold app; rw [if_pos rfl]
def BD (n : Int) (wd wt wr : Int → Int) (sp : Int → Int → Int) : Prop := ∀ c, 0 ≤ c → c < n → 1 ≤ wd c ∧ wd c ≤ 40 ∧ 0 ≤ wt c ∧ wt c ≤ 999 ∧ 0 ≤ wr c ∧ wr c ≤ 15 ∧ ∀ b, 0 ≤ b → b < n → 0 ≤ sp c b ∧ sp c b ≤ 20
def lnIn (n : Int) (ln : Nat → Int) (m : Nat) : Prop := ∀ j, j < m → 0 ≤ ln j ∧ ln j < n
section LN
variable {n : Int} {wd wt wr : Int → Int} {sp : Int → Int → Int} {ln ln' : Nat → Int} {m : Nat}
theorem off_congr : ∀ {k : Nat}, (∀ j, j ≤ k → ln j = ln' j) → offF wd sp ln k = offF wd sp ln' k := by
  intro k
  induction k with
  | zero => intro _; rfl
  | succ k ih =>
    intro h
    show offF wd sp ln k + wd (ln k) + sp (ln k) (ln (k + 1)) = offF wd sp ln' k + wd (ln' k) + sp (ln' k) (ln' (k + 1))
    rw [ih (fun j hj => h j (by omega)), h k (by omega), h (k + 1) (by omega)]
theorem len_congr (h : ∀ j, j < m → ln j = ln' j) : lenF wd sp ln m = lenF wd sp ln' m := by
  cases m with
  | zero => rfl
  | succ k =>
    show offF wd sp ln k + wd (ln k) = offF wd sp ln' k + wd (ln' k)
    rw [off_congr (fun j hj => h j (by omega)), h k (by omega)]
theorem d_congr {f : Int} {k : Nat} (h : ∀ j, j ≤ k → ln j = ln' j) : dF wd wt sp f ln k = dF wd wt sp f ln' k := by
  unfold dF
  rw [off_congr h, h k (Nat.le_refl k)]
theorem Fm_ln {f : Int} (s : Int) (h : ∀ j, j < m → ln j = ln' j) : Fm (dF wd wt sp f ln) m s = Fm (dF wd wt sp f ln') m s := Fm_congr s (fun k hk => d_congr (fun j hj => h j (by omega)))
theorem LC_congr {f t : Int} (h : ∀ j, j < m → ln j = ln' j) : LC wd wt sp f t ln m = LC wd wt sp f t ln' m := by
  unfold LC
  rw [len_congr h, Fm_ln _ h]
theorem off_in (hB : BD n wd wt wr sp) (hl : lnIn n ln m) : ∀ k, k < m → 0 ≤ offF wd sp ln k ∧ offF wd sp ln k ≤ 60 * k := by
  intro k
  induction k with
  | zero => intro _; exact ⟨Int.le_refl _, by show (0 : Int) ≤ _; omega⟩
  | succ k ih =>
    intro h
    have q := ih (by omega)
    obtain ⟨a, b⟩ := hl k (by omega)
    obtain ⟨a', b'⟩ := hl (k + 1) h
    obtain ⟨p1, p2, _, _, _, _, p⟩ := hB (ln k) a b
    have p3 := p (ln (k + 1)) a' b'
    show 0 ≤ offF wd sp ln k + wd (ln k) + sp (ln k) (ln (k + 1)) ∧ offF wd sp ln k + wd (ln k) + sp (ln k) (ln (k + 1)) ≤ _
    omega
theorem off_S (hB : BD n wd wt wr sp) (hl : lnIn n ln m) {k : Nat} (h : k + 1 < m) : offF wd sp ln k + wd (ln k) ≤ offF wd sp ln (k + 1) := by
  obtain ⟨a, b⟩ := hl k (by omega)
  obtain ⟨a', b'⟩ := hl (k + 1) h
  have p3 := (hB (ln k) a b).2.2.2.2.2.2 (ln (k + 1)) a' b'
  show _ ≤ offF wd sp ln k + wd (ln k) + sp (ln k) (ln (k + 1))
  omega
theorem off_len (hB : BD n wd wt wr sp) (hl : lnIn n ln m) : ∀ (e k : Nat), k + e + 1 = m → offF wd sp ln k + wd (ln k) ≤ lenF wd sp ln m := by
  intro e
  induction e with
  | zero => intro k h; rw [← h]; exact Int.le_refl _
  | succ e ih =>
    intro k h
    have q := ih (k + 1) (by omega)
    have p := off_S hB hl (k := k) (by omega)
    obtain ⟨a', b'⟩ := hl (k + 1) (by omega)
    have := (hB (ln (k + 1)) a' b').1
    omega
theorem len_in (hB : BD n wd wt wr sp) (hl : lnIn n ln m) : 0 ≤ lenF wd sp ln m ∧ lenF wd sp ln m ≤ 60 * m := by
  cases m with
  | zero => exact ⟨Int.le_refl _, by show (0 : Int) ≤ _; omega⟩
  | succ k =>
    have q := off_in hB hl k (by omega)
    obtain ⟨a, b⟩ := hl k (by omega)
    have := hB (ln k) a b
    show 0 ≤ offF wd sp ln k + wd (ln k) ∧ offF wd sp ln k + wd (ln k) ≤ _
    omega
theorem app_in {c : Int} (hl : lnIn n ln m) (c0 : 0 ≤ c) (c1 : c < n) : lnIn n (app ln m c) (m + 1) := by
  intro j hj
  by_cases e : j = m
  · rw [e, app_eq]; exact ⟨c0, c1⟩
  · rw [app_lt (by omega)]; exact hl j (by omega)
/-- the way of each cell within a part is at most 1000 -/
theorem way_in {f t : Int} (hB : BD n wd wt wr sp) (hl : lnIn n ln m) (f0 : 0 ≤ f) (t1 : t ≤ 1000) : ∀ k, k < m → ∀ s, 0 ≤ s → s ≤ t - f - lenF wd sp ln m → ((s - dF wd wt sp f ln k).natAbs : Int) ≤ 1000 := by
  intro k hk s s0 s1
  obtain ⟨a, b⟩ := hl k hk
  have q := hB (ln k) a b
  have p := off_len hB hl (m - k - 1) k (by omega)
  have o := off_in hB hl k hk
  unfold dF
  omega
theorem LC_in {f t : Int} (hB : BD n wd wt wr sp) (hl : lnIn n ln m) (f0 : 0 ≤ f) (t1 : t ≤ 1000) (hm : m ≤ 61) (hr : 0 ≤ t - f - lenF wd sp ln m) : 0 ≤ LC wd wt sp f t ln m ∧ LC wd wt sp f t ln m ≤ 61000 := by
  refine ⟨Fm_nn _ _ _, ?_⟩
  have := Fm_ub (K := 1000) (by omega) m (way_in hB hl f0 t1 (wt := wt)) hr (Int.le_refl _)
  unfold LC
  omega
theorem app_len {c : Int} (hB : BD n wd wt wr sp) (hl : lnIn n ln m) (c0 : 0 ≤ c) (c1 : c < n) : lenF wd sp ln m ≤ offF wd sp (app ln m c) m ∧ lenF wd sp (app ln m c) (m + 1) = offF wd sp (app ln m c) m + wd c := by
  refine ⟨?_, by show offF wd sp (app ln m c) m + wd (app ln m c m) = _; rw [app_eq]⟩
  cases m with
  | zero => exact Int.le_refl _
  | succ k =>
    show offF wd sp ln k + wd (ln k) ≤ offF wd sp (app ln (k + 1) c) k + wd (app ln (k + 1) c k) + sp (app ln (k + 1) c k) (app ln (k + 1) c (k + 1))
    rw [app_eq, app_lt (by omega), off_congr (ln := app ln (k + 1) c) (ln' := ln) (fun j hj => app_lt (by omega))]
    obtain ⟨a, b⟩ := hl k (by omega)
    have := (hB (ln k) a b).2.2.2.2.2.2 c c0 c1
    omega
theorem LC_ge {f t c : Int} (hB : BD n wd wt wr sp) (hl : lnIn n ln m) (c0 : 0 ≤ c) (c1 : c < n) (hr : 0 ≤ t - f - lenF wd sp (app ln m c) (m + 1)) :
    max 0 (max (f - wt c) (wt c + wd c - t)) ≤ LC wd wt sp f t (app ln m c) (m + 1) - LC wd wt sp f t ln m := by
  obtain ⟨q1, q2⟩ := app_len hB hl c0 c1
  have w := hB c c0 c1
  have o := off_in hB (app_in hl c0 c1) m (by omega)
  obtain ⟨s, s0, s1, s2⟩ := pmin_at (fun t => Fm (dF wd wt sp f (app ln m c)) m t + ((t - dF wd wt sp f (app ln m c) m).natAbs : Int)) (t - f - lenF wd sp (app ln m c) (m + 1)).toNat
  have e : LC wd wt sp f t (app ln m c) (m + 1) = Fm (dF wd wt sp f (app ln m c)) m s + ((s - dF wd wt sp f (app ln m c) m).natAbs : Int) := s2
  have e2 : dF wd wt sp f (app ln m c) m = wt c - offF wd sp (app ln m c) m - f := by unfold dF; rw [app_eq]
  have e3 : Fm (dF wd wt sp f (app ln m c)) m s = Fm (dF wd wt sp f ln) m s := Fm_ln s (fun j hj => app_lt hj)
  have e4 : LC wd wt sp f t ln m ≤ Fm (dF wd wt sp f ln) m s := Fm_anti s0 (by omega)
  rw [e, e3, e2]
  omega
end LN
