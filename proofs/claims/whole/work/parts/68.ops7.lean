/-! BAR: parts that are cut -/
def iv_rn (r st p : Int) (pr pf pt : Int → Int) : Prop := ∀ i, 0 ≤ i → i < p → 0 ≤ pr i ∧ pr i < r ∧ 0 ≤ pf i ∧ pf i < pt i ∧ pt i ≤ st
def ivi (lo p : Int) (pr pf pt : Int → Int) (a x : Int) : Prop := ∃ i, lo ≤ i ∧ i < p ∧ pr i = a ∧ pf i ≤ x ∧ x < pt i
/-- no more parts than there is room for -/
theorem iv_cap {r st p : Int} {pr pf pt : Int → Int} (h : iv_rn r st p pr pf pt) (sp : iv_sp p pr pf pt) (hr : 0 ≤ r) (hs : 1 ≤ st) : p ≤ r * ((st + 1) / 2) := by
  have K0 : 0 ≤ (st + 1) / 2 := by omega
  by_cases hp : p ≤ 0
  · have := Int.mul_nonneg hr K0
    omega
  have key : ∀ n : Nat, (n : Int) < p → (n : Int) ≤ pr n * ((st + 1) / 2) + pf n / 2 := by
    intro n
    induction n with
    | zero =>
      intro h0
      have q := h 0 (by omega) h0
      have := Int.mul_nonneg q.1 K0
      show (0 : Int) ≤ pr 0 * ((st + 1) / 2) + pf 0 / 2
      omega
    | succ n ih =>
      intro h0
      have q := h n (by omega) (by omega)
      have q2 := h ((n + 1 : Nat) : Int) (by omega) h0
      have i0 := ih (by omega)
      have s := sp n ((n + 1 : Nat) : Int) (by omega) (by omega) h0
      rcases s with s | ⟨s1, s2⟩
      · have := Int.mul_le_mul_of_nonneg_right (show pr n + 1 ≤ pr ((n + 1 : Nat) : Int) by omega) K0
        rw [Int.add_mul] at this
        omega
      · rw [s1] at i0
        omega
  have q := h (p - 1) (by omega) (by omega)
  have k := key (p - 1).toNat (by omega)
  rw [show (((p - 1).toNat : Nat) : Int) = p - 1 by omega] at k
  have := Int.mul_le_mul_of_nonneg_right (show pr (p - 1) ≤ r - 1 by omega) K0
  rw [Int.sub_mul] at this
  omega
/-- what a cut of part i must leave -/
def cutR (r st p i f t : Int) (pr pf pt : Int → Int) (p' : Int) (pr' pf' pt' : Int → Int) : Prop :=
  iv_rn r st p' pr' pf' pt' ∧ iv_sp p' pr' pf' pt' ∧ i ≤ p' ∧ (∀ j, 0 ≤ j → j < i → pr' j = pr j ∧ pf' j = pf j ∧ pt' j = pt j) ∧
  ∀ a x, ivi i p' pr' pf' pt' a x ↔ (ivi (i + 1) p pr pf pt a x ∨ (pr i = a ∧ pf i ≤ x ∧ x < pt i ∧ ¬ (f ≤ x ∧ x < t)))
section CUT
variable {r st p i f t : Int} {pr pf pt : Int → Int}
theorem cut_both (h : iv_rn r st p pr pf pt) (sp : iv_sp p pr pf pt) (i0 : 0 ≤ i) (i1 : i < p) (ov : max (pf i) f < min (pt i) t) {pr' pf' pt' : Int → Int} (hl : pf i < f) (hr : t < pt i) (a1 : ∀ j, 0 ≤ j → j ≤ i → pr' j = pr j) (a2 : ∀ j, i < j → j ≤ p → pr' j = pr (j - 1)) (b1 : ∀ j, 0 ≤ j → j ≤ i → pf' j = pf j) (b2 : pf' (i + 1) = t) (b3 : ∀ j, i + 1 < j → j ≤ p → pf' j = pf (j - 1)) (c1 : ∀ j, 0 ≤ j → j < i → pt' j = pt j) (c2 : pt' i = f) (c3 : ∀ j, i < j → j ≤ p → pt' j = pt (j - 1)) : cutR r st p i f t pr pf pt (p + 1) pr' pf' pt' := by
  have hi := h i i0 i1
  refine ⟨fun j j0 j1 => ?_, fun j k j0 jk kp => ?_, by omega, fun j j0 j1 => ⟨a1 j j0 (by omega), b1 j j0 (by omega), c1 j j0 j1⟩, fun a x => ⟨?_, ?_⟩⟩
  · by_cases e1 : j < i
    · rw [a1 j j0 (by omega), b1 j j0 (by omega), c1 j j0 e1]; exact h j j0 (by omega)
    · by_cases e2 : j = i
      · subst e2; rw [a1 j j0 (by omega), b1 j j0 (by omega), c2]; omega
      · by_cases e3 : j = i + 1
        · subst e3; rw [a2 _ (by omega) (by omega), b2, c3 _ (by omega) (by omega), show i + 1 - 1 = i by omega]; omega
        · rw [a2 j (by omega) (by omega), b3 j (by omega) (by omega), c3 j (by omega) (by omega)]; exact h (j - 1) (by omega) (by omega)
  · by_cases k1 : k ≤ i
    · rw [a1 j j0 (by omega), a1 k (by omega) k1, b1 k (by omega) k1, c1 j j0 (by omega)]
      exact sp j k j0 jk (by omega)
    · rw [a2 k (by omega) (by omega)]
      by_cases k2 : k = i + 1
      · subst k2
        rw [b2, a1 j j0 (by omega), show i + 1 - 1 = i by omega]
        by_cases e : j = i
        · subst e; rw [c2]; omega
        · rw [c1 j j0 (by omega)]
          have := sp j i j0 (by omega) i1
          omega
      · rw [b3 k (by omega) (by omega)]
        by_cases e1 : j < i
        · rw [a1 j j0 (by omega), c1 j j0 e1]
          exact sp j (k - 1) j0 (by omega) (by omega)
        · by_cases e2 : j = i
          · subst e2
            rw [a1 j j0 (by omega), c2]
            have := sp j (k - 1) j0 (by omega) (by omega)
            omega
          · rw [a2 j (by omega) (by omega), c3 j (by omega) (by omega)]
            exact sp (j - 1) (k - 1) (by omega) (by omega) (by omega)
  · rintro ⟨j, j0, j1, j2, j3, j4⟩
    by_cases e2 : j = i
    · subst e2
      rw [a1 j i0 (by omega)] at j2
      rw [b1 j i0 (by omega)] at j3
      rw [c2] at j4
      exact Or.inr ⟨j2, j3, by omega, by omega⟩
    · rw [a2 j (by omega) (by omega)] at j2
      rw [c3 j (by omega) (by omega)] at j4
      by_cases e3 : j = i + 1
      · subst e3
        rw [show i + 1 - 1 = i by omega] at j2 j4
        rw [b2] at j3
        exact Or.inr ⟨j2, by omega, j4, by omega⟩
      · rw [b3 j (by omega) (by omega)] at j3
        exact Or.inl ⟨j - 1, by omega, by omega, j2, j3, j4⟩
  · rintro (⟨j, j0, j1, j2, j3, j4⟩ | ⟨j2, j3, j4, j5⟩)
    · refine ⟨j + 1, by omega, by omega, ?_, ?_, ?_⟩
      · rw [a2 _ (by omega) (by omega), Int.add_sub_cancel]; exact j2
      · rw [b3 _ (by omega) (by omega), Int.add_sub_cancel]; exact j3
      · rw [c3 _ (by omega) (by omega), Int.add_sub_cancel]; exact j4
    · by_cases e : x < f
      · exact ⟨i, by omega, by omega, by rw [a1 i i0 (by omega)]; exact j2, by rw [b1 i i0 (by omega)]; exact j3, by rw [c2]; exact e⟩
      · refine ⟨i + 1, by omega, by omega, ?_, ?_, ?_⟩
        · rw [a2 _ (by omega) (by omega), Int.add_sub_cancel]; exact j2
        · rw [b2]; omega
        · rw [c3 _ (by omega) (by omega), Int.add_sub_cancel]; exact j4
theorem cut_left (h : iv_rn r st p pr pf pt) (sp : iv_sp p pr pf pt) (i0 : 0 ≤ i) (i1 : i < p) (ov : max (pf i) f < min (pt i) t) {pt' : Int → Int} (hl : pf i < f) (hr : ¬ t < pt i) (c1 : ∀ j, ¬ j = i → pt' j = pt j) (c2 : pt' i = f) : cutR r st p i f t pr pf pt p pr pf pt' := by
  have hi := h i i0 i1
  refine ⟨fun j j0 j1 => ?_, fun j k j0 jk kp => ?_, by omega, fun j j0 j1 => ⟨rfl, rfl, c1 j (by omega)⟩, fun a x => ⟨?_, ?_⟩⟩
  · by_cases e : j = i
    · subst e; rw [c2]; omega
    · rw [c1 j e]; exact h j j0 j1
  · have := sp j k j0 jk kp
    by_cases e : j = i
    · subst e; rw [c2]; omega
    · rw [c1 j e]; exact this
  · rintro ⟨j, j0, j1, j2, j3, j4⟩
    by_cases e : j = i
    · subst e
      rw [c2] at j4
      exact Or.inr ⟨j2, j3, by omega, by omega⟩
    · rw [c1 j e] at j4
      exact Or.inl ⟨j, by omega, j1, j2, j3, j4⟩
  · rintro (⟨j, j0, j1, j2, j3, j4⟩ | ⟨j2, j3, j4, j5⟩)
    · exact ⟨j, by omega, j1, j2, j3, by rw [c1 j (by omega)]; exact j4⟩
    · exact ⟨i, by omega, i1, j2, j3, by rw [c2]; omega⟩
theorem cut_right (h : iv_rn r st p pr pf pt) (sp : iv_sp p pr pf pt) (i0 : 0 ≤ i) (i1 : i < p) (ov : max (pf i) f < min (pt i) t) {pf' : Int → Int} (hl : ¬ pf i < f) (hr : t < pt i) (c1 : ∀ j, ¬ j = i → pf' j = pf j) (c2 : pf' i = t) : cutR r st p i f t pr pf pt p pr pf' pt := by
  have hi := h i i0 i1
  refine ⟨fun j j0 j1 => ?_, fun j k j0 jk kp => ?_, by omega, fun j j0 j1 => ⟨rfl, c1 j (by omega), rfl⟩, fun a x => ⟨?_, ?_⟩⟩
  · by_cases e : j = i
    · subst e; rw [c2]; omega
    · rw [c1 j e]; exact h j j0 j1
  · have := sp j k j0 jk kp
    by_cases e : k = i
    · subst e; rw [c2]; omega
    · rw [c1 k e]; exact this
  · rintro ⟨j, j0, j1, j2, j3, j4⟩
    by_cases e : j = i
    · subst e
      rw [c2] at j3
      exact Or.inr ⟨j2, by omega, j4, by omega⟩
    · rw [c1 j e] at j3
      exact Or.inl ⟨j, by omega, j1, j2, j3, j4⟩
  · rintro (⟨j, j0, j1, j2, j3, j4⟩ | ⟨j2, j3, j4, j5⟩)
    · exact ⟨j, by omega, j1, j2, by rw [c1 j (by omega)]; exact j3, j4⟩
    · exact ⟨i, by omega, i1, j2, by rw [c2]; omega, j4⟩
theorem cut_none (h : iv_rn r st p pr pf pt) (sp : iv_sp p pr pf pt) (i0 : 0 ≤ i) (i1 : i < p) {pr' pf' pt' : Int → Int} (hl : ¬ pf i < f) (hr : ¬ t < pt i) (a1 : ∀ j, 0 ≤ j → j < i → pr' j = pr j ∧ pf' j = pf j ∧ pt' j = pt j) (a2 : ∀ j, i ≤ j → j < p - 1 → pr' j = pr (j + 1) ∧ pf' j = pf (j + 1) ∧ pt' j = pt (j + 1)) : cutR r st p i f t pr pf pt (p - 1) pr' pf' pt' := by
  have hi := h i i0 i1
  refine ⟨fun j j0 j1 => ?_, fun j k j0 jk kp => ?_, by omega, a1, fun a x => ⟨?_, ?_⟩⟩
  · by_cases e : j < i
    · obtain ⟨q1, q2, q3⟩ := a1 j j0 e
      rw [q1, q2, q3]; exact h j j0 (by omega)
    · obtain ⟨q1, q2, q3⟩ := a2 j (by omega) j1
      rw [q1, q2, q3]; exact h (j + 1) (by omega) (by omega)
  · by_cases e : k < i
    · obtain ⟨q1, q2, q3⟩ := a1 j j0 (by omega)
      obtain ⟨p1, p2, p3⟩ := a1 k (by omega) e
      rw [q1, q3, p1, p2]; exact sp j k j0 jk (by omega)
    · obtain ⟨p1, p2, p3⟩ := a2 k (by omega) kp
      rw [p1, p2]
      by_cases e2 : j < i
      · obtain ⟨q1, q2, q3⟩ := a1 j j0 e2
        rw [q1, q3]; exact sp j (k + 1) j0 (by omega) (by omega)
      · obtain ⟨q1, q2, q3⟩ := a2 j (by omega) (by omega)
        rw [q1, q3]; exact sp (j + 1) (k + 1) (by omega) (by omega) (by omega)
  · rintro ⟨j, j0, j1, j2, j3, j4⟩
    obtain ⟨q1, q2, q3⟩ := a2 j j0 j1
    rw [q1] at j2
    rw [q2] at j3
    rw [q3] at j4
    exact Or.inl ⟨j + 1, by omega, by omega, j2, j3, j4⟩
  · rintro (⟨j, j0, j1, j2, j3, j4⟩ | ⟨j2, j3, j4, j5⟩)
    · obtain ⟨q1, q2, q3⟩ := a2 (j - 1) (by omega) (by omega)
      rw [Int.sub_add_cancel] at q1 q2 q3
      exact ⟨j - 1, by omega, by omega, by rw [q1]; exact j2, by rw [q2]; exact j3, by rw [q3]; exact j4⟩
    · omega
end CUT
theorem uc_n {A : Nat → Int → Int} {k a : Nat} {s d n : Int} (h : a ≠ k) : uc A k s d n a = A a := by funext j; unfold uc; rw [if_neg h]
theorem uc_at (A : Nat → Int → Int) (k : Nat) (s d n j : Int) : uc A k s d n k j = if d ≤ j ∧ j < d + n then A k (s + (j - d)) else A k j := by unfold uc; rw [if_pos rfl]
theorem le_mc {p x : Int} {mo mb mc : Nat} (a : p ≤ x + 1) (b : p ≤ mo) (c : x ≤ mb) (d : mo ≤ mc ∨ mb + 1 ≤ mc) : p ≤ mc := by omega
theorem b01 {x y : Int} (hx : x = 0 ∨ x = 1) (hy : y = 0 ∨ y = 1) (h : x = 1 ↔ y = 1) : x = y := by omega
section OP7
variable {mo mb : Nat} {r st : Int} {F : Nat → Int} {A : Nat → Int → Int} {P : Int → Int → (Nat → Int) → (Nat → Int → Int) → Prop}
theorem c_cutPart {Q : (Nat → Int) → (Nat → Int → Int) → Prop} {i f t : Int} (hmo : (mo : Int) ≤ 8000) (hr : 0 ≤ r) (hs1 : 1 ≤ st) (hs : st ≤ 1000) (cap : F 3 ≤ mo) (hK : r * ((st + 1) / 2) ≤ mo ∨ F 3 + 1 ≤ mo) (h : iv_rn r st (F 3) (A 0) (A 1) (A 2)) (sp : iv_sp (F 3) (A 0) (A 1) (A 2)) (i0 : 0 ≤ i) (i1 : i < F 3) (f0 : 0 ≤ f) (t1 : t ≤ st) (ov : max (A 1 i) f < min (A 2 i) t)
    (hQ : ∀ p' A', (p' ≤ F 3 ∨ (p' = F 3 + 1 ∧ F 3 + 1 ≤ mo ∧ A 1 i < f)) → (∀ k, k ≠ 0 → k ≠ 1 → k ≠ 2 → A' k = A k) → cutR r st (F 3) i f t (A 0) (A 1) (A 2) p' (A' 0) (A' 1) (A' 2) → Q (uf F 3 p') A') : w_Gr_cutPart mo F A i f t Q := by
  have hi := h i i0 i1
  have fs : uf F 3 (F 3) = F := by
    funext k
    unfold uf
    split
    · rename_i e; rw [e]
    · rfl
  have left : A 1 i < f → ¬ t < A 2 i → w_Gr_cutPart_b56 mo Q i f t 1 0 F A := fun hl hr' => by
    refine ⟨⟨by omega, by omega⟩, fun e => absurd e (by omega), fun _ => ⟨i0, by omega, ?_⟩⟩
    have := hQ (F 3) (ua A 2 i f) (Or.inl (by omega)) (fun k k0 k1 k2 => ua_n k2) (by
      rw [ua_n (by decide), ua_n (by decide)]
      exact cut_left h sp i0 i1 ov hl hr' (fun j e => by rw [ua_at, if_neg e]) (by rw [ua_at, if_pos rfl]))
    rw [fs] at this
    exact this
  have right : ¬ A 1 i < f → t < A 2 i → w_Gr_cutPart_b56 mo Q i f t 0 1 F A := fun hl hr' => by
    refine ⟨⟨by omega, by omega⟩, fun _ => ⟨⟨by omega, by omega⟩, fun e => absurd e (by omega), fun _ => ⟨i0, by omega, ?_⟩⟩, fun e => absurd rfl e⟩
    have := hQ (F 3) (ua A 1 i t) (Or.inl (by omega)) (fun k k0 k1 k2 => ua_n k1) (by
      rw [ua_n (a := 0) (by decide), ua_n (a := 2) (by decide)]
      exact cut_right h sp i0 i1 ov hl hr' (fun j e => by rw [ua_at, if_neg e]) (by rw [ua_at, if_pos rfl]))
    rw [fs] at this
    exact this
  have none : ¬ A 1 i < f → ¬ t < A 2 i → w_Gr_cutPart_b56 mo Q i f t 0 0 F A := fun hl hr' => by
    refine ⟨⟨by omega, by omega⟩, fun _ => ⟨⟨by omega, by omega⟩, fun _ => ?_, fun e => absurd rfl e⟩, fun e => absurd rfl e⟩
    refine ⟨⟨by omega, by omega⟩, fun g => ⟨by omega, i0, by omega, by omega, by omega, ?_⟩, fun g => ?_⟩
    · refine hQ (F 3 - 1) _ (Or.inl (by omega)) (fun k k0 k1 k2 => by rw [uc_n k2, uc_n k1, uc_n k0]) ?_
      refine cut_none h sp i0 i1 hl hr' (fun j j0 j1 => ?_) (fun j j0 j1 => ?_)
      · simp (disch := decide) only [uc_n, uc_at]
        rw [if_neg (by omega), if_neg (by omega), if_neg (by omega)]
        exact ⟨rfl, rfl, rfl⟩
      · simp (disch := decide) only [uc_n, uc_at]
        rw [if_pos (by omega), if_pos (by omega), if_pos (by omega), show i + 1 + (j - i) = j + 1 by omega]
        exact ⟨rfl, rfl, rfl⟩
    · refine hQ (F 3 - 1) A (Or.inl (by omega)) (fun k k0 k1 k2 => rfl) ?_
      exact cut_none h sp i0 i1 hl hr' (fun j j0 j1 => ⟨rfl, rfl, rfl⟩) (fun j j0 j1 => absurd j1 (by omega))
  have both : A 1 i < f → t < A 2 i → w_Gr_insertBehind mo F A i t (A 2 i) (fun F12 A12 => w_Gr_cutPart_b56 mo Q i f t 1 1 F12 A12) := fun hl hr' => by
    have room : F 3 + 1 ≤ mo := by
      have c := cut_both h sp i0 i1 ov hl hr' (pr' := fun j => if j ≤ i then A 0 j else A 0 (j - 1)) (pf' := fun j => if j ≤ i then A 1 j else if j = i + 1 then t else A 1 (j - 1)) (pt' := fun j => if j < i then A 2 j else if j = i then f else A 2 (j - 1)) (fun j a b => if_pos b) (fun j a b => if_neg (by omega)) (fun j a b => if_pos b) (by show (if i + 1 ≤ i then A 1 (i + 1) else if i + 1 = i + 1 then t else A 1 (i + 1 - 1)) = t; rw [if_neg (by omega), if_pos rfl]) (fun j a b => by show (if j ≤ i then A 1 j else if j = i + 1 then t else A 1 (j - 1)) = _; rw [if_neg (by omega), if_neg (by omega)]) (fun j a b => if_pos b) (by show (if i < i then A 2 i else if i = i then f else A 2 (i - 1)) = f; rw [if_neg (by omega), if_pos rfl]) (fun j a b => by show (if j < i then A 2 j else if j = i then f else A 2 (j - 1)) = _; rw [if_neg (by omega), if_neg (by omega)])
      have := iv_cap c.1 c.2.1 hr hs1
      omega
    have fin : ∀ A', (∀ k, k ≠ 0 → k ≠ 1 → k ≠ 2 → A' k = A k) → cutR r st (F 3) i f t (A 0) (A 1) (A 2) (F 3 + 1) (A' 0) (A' 1) (ua A' 2 i f 2) → w_Gr_cutPart_b56 mo Q i f t 1 1 (uf F 3 (F 3 + 1)) A' := fun A' fr c => by
      refine ⟨⟨by omega, by omega⟩, fun e => absurd e (by omega), fun _ => ⟨i0, by omega, ?_⟩⟩
      refine hQ (F 3 + 1) _ (Or.inr ⟨rfl, room, hl⟩) (fun k k0 k1 k2 => by rw [ua_n k2]; exact fr k k0 k1 k2) ?_
      rw [ua_n (by decide), ua_n (by decide)]
      exact c
    refine ⟨⟨by omega, by omega⟩, ⟨by omega, by omega⟩, fun _ => ?_, fun e => absurd (by omega) e⟩
    refine ⟨⟨by omega, by omega⟩, fun g => ⟨by omega, by omega, by omega, by omega, by omega, i0, by omega, by omega, by omega, ?_⟩, fun g => ⟨i0, by omega, by omega, by omega, ?_⟩⟩
    · refine fin _ (fun k k0 k1 k2 => by rw [ua_n k2, ua_n k1, ua_n k0, uc_n k2, uc_n k1, uc_n k0]) ?_
      refine cut_both h sp i0 i1 ov hl hr' (fun j a b => ?_) (fun j a b => ?_) (fun j a b => ?_) ?_ (fun j a b => ?_) (fun j a b => ?_) ?_ (fun j a b => ?_)
      · simp (disch := decide) only [uc_n, uc_at, ua_n, ua_at]
        rw [if_neg (by omega), if_neg (by omega)]
      · simp (disch := decide) only [uc_n, uc_at, ua_n, ua_at]
        by_cases e : j = i + 1
        · rw [if_pos e, if_neg (by omega), e, Int.add_sub_cancel]
        · rw [if_neg e, if_pos (by omega), show i + 1 + (j - (i + 2)) = j - 1 by omega]
      · simp (disch := decide) only [uc_n, uc_at, ua_n, ua_at]
        rw [if_neg (by omega), if_neg (by omega)]
      · simp (disch := decide) only [uc_n, uc_at, ua_n, ua_at]
        rw [if_pos trivial]
      · simp (disch := decide) only [uc_n, uc_at, ua_n, ua_at]
        rw [if_neg (by omega), if_pos (by omega), show i + 1 + (j - (i + 2)) = j - 1 by omega]
      · simp (disch := decide) only [uc_n, uc_at, ua_n, ua_at]
        rw [if_neg (by omega), if_neg (by omega), if_neg (by omega)]
      · simp (disch := decide) only [uc_n, uc_at, ua_n, ua_at]
        rw [if_pos trivial]
      · simp (disch := decide) only [uc_n, uc_at, ua_n, ua_at]
        rw [if_neg (by omega)]
        by_cases e : j = i + 1
        · rw [if_pos e, e, Int.add_sub_cancel]
        · rw [if_neg e, if_pos (by omega), show i + 1 + (j - (i + 2)) = j - 1 by omega]
    · refine fin _ (fun k k0 k1 k2 => by rw [ua_n k2, ua_n k1, ua_n k0]) ?_
      refine cut_both h sp i0 i1 ov hl hr' (fun j a b => ?_) (fun j a b => ?_) (fun j a b => ?_) ?_ (fun j a b => ?_) (fun j a b => ?_) ?_ (fun j a b => ?_)
      · simp (disch := decide) only [uc_n, uc_at, ua_n, ua_at]
        rw [if_neg (by omega)]
      · simp (disch := decide) only [uc_n, uc_at, ua_n, ua_at]
        rw [if_pos (by omega), show j - 1 = i by omega]
      · simp (disch := decide) only [uc_n, uc_at, ua_n, ua_at]
        rw [if_neg (by omega)]
      · simp (disch := decide) only [uc_n, uc_at, ua_n, ua_at]
        rw [if_pos trivial]
      · omega
      · simp (disch := decide) only [uc_n, uc_at, ua_n, ua_at]
        rw [if_neg (by omega), if_neg (by omega)]
      · simp (disch := decide) only [uc_n, uc_at, ua_n, ua_at]
        rw [if_pos trivial]
      · simp (disch := decide) only [uc_n, uc_at, ua_n, ua_at]
        rw [if_neg (by omega), if_pos (by omega), show j - 1 = i by omega]
  refine ⟨i0, by omega, ⟨by omega, by omega⟩, ⟨by omega, by omega⟩, fun a => ⟨i0, by omega, ⟨by omega, by omega⟩, ⟨by omega, by omega⟩, fun b => ?_, fun b => ?_⟩, fun a => ⟨i0, by omega, ⟨by omega, by omega⟩, ⟨by omega, by omega⟩, fun b => ?_, fun b => ?_⟩⟩
  · exact ⟨rg_0, fun _ => none (by omega) (by omega), fun e => absurd rfl e⟩
  · exact ⟨rg_0, fun _ => right (by omega) (by omega), fun e => absurd rfl e⟩
  · exact ⟨⟨by omega, by omega⟩, fun e => absurd e (by omega), fun _ => ⟨rg_0, fun _ => left (by omega) (by omega), fun e => absurd rfl e⟩⟩
  · exact ⟨⟨by omega, by omega⟩, fun e => absurd e (by omega), fun _ => ⟨⟨by omega, by omega⟩, fun e => absurd e (by omega), fun _ => ⟨i0, by omega, both (by omega) (by omega)⟩⟩⟩
theorem c_cut {Q : Int → (Nat → Int) → (Nat → Int → Int) → Prop} {row f t : Int} (hmo : (mo : Int) ≤ 8000) (hr : 0 ≤ r) (hr1 : r ≤ 16) (hs1 : 1 ≤ st) (hs : st ≤ 1000) (cap : F 3 ≤ mo) (hK : r * ((st + 1) / 2) ≤ mo ∨ F 3 + 1 ≤ mo) (p0 : 0 ≤ F 3) (h : iv_rn r st (F 3) (A 0) (A 1) (A 2)) (sp : iv_sp (F 3) (A 0) (A 1) (A 2)) (row0 : 0 ≤ row) (row1 : row < r) (f0 : 0 ≤ f) (t1 : t ≤ st) (ft : f ≤ t)
    (hQ : ∀ z p' A', (z = 0 ∨ z = 1) → (z = 1 ↔ ∃ x, f ≤ x ∧ x < t ∧ ivi 0 (F 3) (A 0) (A 1) (A 2) row x) → (∀ k, k ≠ 0 → k ≠ 1 → k ≠ 2 → A' k = A k) → 0 ≤ p' → p' ≤ F 3 + 1 → p' ≤ mo → iv_rn r st p' (A' 0) (A' 1) (A' 2) → iv_sp p' (A' 0) (A' 1) (A' 2) → (∀ a x, ivi 0 p' (A' 0) (A' 1) (A' 2) a x ↔ (ivi 0 (F 3) (A 0) (A 1) (A 2) a x ∧ ¬ (a = row ∧ f ≤ x ∧ x < t))) → Q z (uf F 3 p') A') : w_Gr_cut mo F A row f t Q := by
  have fs : uf F 3 (F 3) = F := by
    funext k
    unfold uf
    split
    · rename_i e; rw [e]
    · rfl
  refine Lp4_by (fun z x5 F' A' => (z = 0 ∨ z = 1) ∧ -1 ≤ x5 ∧ x5 < F 3 ∧ x5 < F' 3 ∧ (F' 3 ≤ F 3 + 1 ∧ F' 3 ≤ (mo : Int) ∧ (F 3 < F' 3 → ∀ j, 0 ≤ j → j ≤ x5 → A 0 j = row → A 2 j < f)) ∧ F' = uf F 3 (F' 3) ∧ (z = 1 ↔ ∃ x, f ≤ x ∧ x < t ∧ ivi (x5 + 1) (F 3) (A 0) (A 1) (A 2) row x) ∧ (∀ k, k ≠ 0 → k ≠ 1 → k ≠ 2 → A' k = A k) ∧ iv_rn r st (F' 3) (A' 0) (A' 1) (A' 2) ∧ iv_sp (F' 3) (A' 0) (A' 1) (A' 2) ∧ (∀ j, 0 ≤ j → j ≤ x5 → A' 0 j = A 0 j ∧ A' 1 j = A 1 j ∧ A' 2 j = A 2 j) ∧ (∀ a x, ivi (x5 + 1) (F' 3) (A' 0) (A' 1) (A' 2) a x ↔ (ivi (x5 + 1) (F 3) (A 0) (A 1) (A 2) a x ∧ ¬ (a = row ∧ f ≤ x ∧ x < t)))) (fun _ x5 _ _ => (x5 + 1).toNat) ?_ 0 (F 3 - 1) F A ⟨Or.inl rfl, by omega, by omega, by omega, ⟨by omega, cap, fun e => by omega⟩, fs.symm, ⟨fun e => by omega, fun ⟨x, x0, x1, j, j0, j1, _⟩ => by omega⟩, fun _ _ _ _ => rfl, h, sp, fun _ _ _ => ⟨rfl, rfl, rfl⟩, fun a x => ⟨fun ⟨j, j0, j1, _⟩ => by omega, fun ⟨⟨j, j0, j1, _⟩, _⟩ => by omega⟩⟩
  rintro z x5 F' A' ⟨z01, g0, g1, g2, ⟨gn, gm, go⟩, gF, gz, fr, h', sp', same, mem⟩ P hP
  have fF : ∀ v, uf F' 3 v = uf F 3 v := fun v => by
    rw [gF]
    funext k
    unfold uf
    split <;> rfl
  refine ⟨⟨by omega, by omega⟩, fun e => ⟨z01, ?_⟩, fun e => ?_⟩
  · have e5 : x5 + 1 = 0 := by omega
    rw [e5] at gz mem
    rw [gF]
    exact hQ z (F' 3) A' z01 gz fr (by omega) gn gm h' sp' mem
  · obtain ⟨s0, s1, s2⟩ := same x5 (by omega) (by omega)
    have hi := h' x5 (by omega) g2
    have ip : ∀ (q : Int) (pr pf pt : Int → Int) (a x : Int), x5 < q → (ivi x5 q pr pf pt a x ↔ (ivi (x5 + 1) q pr pf pt a x ∨ (pr x5 = a ∧ pf x5 ≤ x ∧ x < pt x5))) := fun q pr pf pt a x hq => by
      constructor
      · rintro ⟨j, j0, j1, j2⟩
        by_cases ej : j = x5
        · subst ej; exact Or.inr j2
        · exact Or.inl ⟨j, by omega, j1, j2⟩
      · rintro (⟨j, j0, j1, j2⟩ | j2)
        · exact ⟨j, by omega, j1, j2⟩
        · exact ⟨x5, by omega, hq, j2⟩
    have e5 : x5 + (-1) + 1 = x5 := by omega
    have skip : ¬ (A' 0 x5 = row ∧ max (A' 1 x5) f < min (A' 2 x5) t) → P z (x5 + (-1)) F' A' := fun no => by
      refine hP _ _ _ _ ⟨z01, by omega, by omega, by omega, ⟨gn, gm, fun e j j0 j1 => go e j j0 (by omega)⟩, gF, ?_, fr, h', sp', fun j j0 j1 => same j j0 (by omega), ?_⟩ (by omega)
      · rw [e5, gz]
        constructor
        · rintro ⟨x, x0, x1, x2⟩
          exact ⟨x, x0, x1, (ip _ _ _ _ _ _ g1).2 (Or.inl x2)⟩
        · rintro ⟨x, x0, x1, x2⟩
          rcases (ip _ _ _ _ _ _ g1).1 x2 with y | ⟨y1, y2, y3⟩
          · exact ⟨x, x0, x1, y⟩
          · exact absurd ⟨by rw [s0]; exact y1, by rw [s1, s2]; omega⟩ no
      · intro a x
        rw [e5, ip _ _ _ _ _ _ g2, ip _ _ _ _ _ _ g1, mem, s0, s1, s2]
        rw [s0, s1, s2] at no
        constructor
        · rintro (⟨y1, y2⟩ | ⟨y1, y2, y3⟩)
          · exact ⟨Or.inl y1, y2⟩
          · exact ⟨Or.inr ⟨y1, y2, y3⟩, fun ⟨k1, k2, k3⟩ => no ⟨by omega, by omega⟩⟩
        · rintro ⟨y | y, k⟩
          · exact Or.inl ⟨y, k⟩
          · exact Or.inr y
    refine ⟨by omega, by omega, ⟨by omega, by omega⟩, ⟨by omega, by omega⟩, fun a => skip (fun q => a q.1), fun a => ⟨⟨by omega, by omega⟩, ⟨by omega, by omega⟩, ⟨by omega, by omega⟩, ⟨by omega, by omega⟩, ⟨by omega, by omega⟩, ⟨by omega, by omega⟩, fun b => skip (fun q => by omega), fun b => ?_⟩⟩
    have few : F' 3 ≤ F 3 := by
      refine Int.not_lt.mp (fun e => ?_)
      have := go e x5 (by omega) (by omega) (by rw [← s0]; exact a)
      rw [← s2] at this
      omega
    refine c_cutPart hmo hr hs1 hs gm (hK.imp id (fun q => by omega)) h' sp' (by omega) g2 f0 t1 (by omega) (fun p' A2 pn fr2 c => ?_)
    obtain ⟨c1, c2, c3, c4, c5⟩ := c
    have pn1 : p' ≤ F 3 + 1 := by rcases pn with q | q <;> omega
    have pn2 : p' ≤ (mo : Int) := by rcases pn with q | q <;> omega
    have pn3 : F 3 < p' → A' 1 x5 < f := fun e => by
      rcases pn with q | q
      · omega
      · exact q.2.2
    rw [fF]
    have u3 : uf F 3 p' 3 = p' := uf_s
    refine hP _ _ _ _ ⟨Or.inr rfl, by omega, by omega, by rw [u3]; omega, by rw [u3]; exact ⟨pn1, pn2, fun e j j0 j1 ej => by
      have y3 := pn3 e
      rw [s1] at y3
      rw [s0] at a
      rcases sp j x5 j0 (by omega) g1 with y4 | y4
      · omega
      · omega⟩, by rw [u3], ⟨fun _ => ?_, fun _ => rfl⟩, fun k k0 k1 k2 => by rw [fr2 k k0 k1 k2]; exact fr k k0 k1 k2, by rw [u3]; exact c1, by rw [u3]; exact c2, fun j j0 j1 => ?_, fun a' x => ?_⟩ (by omega)
    · rw [e5]
      exact ⟨max (A' 1 x5) f, by omega, by omega, (ip _ _ _ _ _ _ g1).2 (Or.inr ⟨by rw [← s0]; exact a, by omega, by omega⟩)⟩
    · obtain ⟨q1, q2, q3⟩ := c4 j j0 (by omega)
      obtain ⟨q4, q5, q6⟩ := same j j0 (by omega)
      rw [q1, q2, q3]
      exact ⟨q4, q5, q6⟩
    · rw [e5, u3, c5, mem, ip _ _ _ _ _ _ g1, s0, s1, s2]
      rw [s0] at a
      constructor
      · rintro (⟨y1, y2⟩ | ⟨y1, y2, y3, y4⟩)
        · exact ⟨Or.inl y1, y2⟩
        · exact ⟨Or.inr ⟨y1, y2, y3⟩, fun k => y4 k.2⟩
      · rintro ⟨y | ⟨y1, y2, y3⟩, k⟩
        · exact Or.inl ⟨y, k⟩
        · exact Or.inr ⟨y1, y2, y3, fun k2 => k ⟨by omega, k2⟩⟩
theorem m_bar {Q : Int → (Nat → Int) → (Nat → Int → Int) → Prop} {row f t : Int} (hp : F 15 = 0 ∨ F 15 = 1) (row0 : 0 ≤ row) (row1 : row < 16) (f0 : 0 ≤ f) (t1 : t ≤ 1000) (ft : f ≤ t) (hba : ∀ x, f ≤ x → x < t → A 24 (1000 * row + x) = 0 ∨ A 24 (1000 * row + x) = 1)
    (hQ : ∀ z A', (z = 0 ∨ z = 1) → (z = 1 ↔ ∃ x, f ≤ x ∧ x < t ∧ A 24 (1000 * row + x) = 0) → (∀ k, k ≠ 24 → A' k = A k) → (∀ j, A' 24 j = if 1000 * row + f ≤ j ∧ j < 1000 * row + t then 1 else A 24 j) → Q z (uf F 15 (if F 15 = 1 ∧ z = 0 then 1 else 0)) A') : w_Mo_bar_b67 mo Q row t 0 f F A := by
  refine Lp4_by (fun z x7 F' A' => (z = 0 ∨ z = 1) ∧ f ≤ x7 ∧ x7 ≤ t ∧ F' = F ∧ (z = 1 ↔ ∃ x, f ≤ x ∧ x < x7 ∧ A 24 (1000 * row + x) = 0) ∧ (∀ k, k ≠ 24 → A' k = A k) ∧ (∀ j, A' 24 j = if 1000 * row + f ≤ j ∧ j < 1000 * row + x7 then 1 else A 24 j)) (fun _ x7 _ _ => (t - x7).toNat) ?_ 0 f F A ⟨Or.inl rfl, by omega, by omega, rfl, ⟨fun e => by omega, fun ⟨x, x0, x1, _⟩ => by omega⟩, fun _ _ => rfl, fun j => by rw [if_neg (by omega)]⟩
  rintro z x7 F' A' ⟨z01, g0, g1, rfl, gz, fr, ba⟩ P hP
  refine ⟨⟨by omega, by omega⟩, ⟨by omega, by omega⟩, ⟨by omega, by omega⟩, fun e => ?_, fun e => ?_⟩
  · have e7 : x7 = t := by omega
    rw [e7] at gz ba
    have q := hQ z A' z01 gz fr ba
    refine ⟨⟨by omega, by omega⟩, fun k => ⟨Or.inl rfl, z01, ?_⟩, fun k => ⟨⟨by omega, by omega⟩, fun k2 => ⟨Or.inl rfl, z01, ?_⟩, fun k2 => ⟨Or.inr rfl, z01, ?_⟩⟩⟩
    · rw [if_neg (by omega)] at q; exact q
    · rw [if_neg (by omega)] at q; exact q
    · rw [if_pos (by omega)] at q; exact q
  · have ba' : ∀ j, ua A' 24 (1000 * row + x7) 1 24 j = if 1000 * row + f ≤ j ∧ j < 1000 * row + (x7 + 1) then 1 else A 24 j := fun j => by
      rw [ua_at, ba]
      by_cases ej : j = 1000 * row + x7
      · rw [if_pos ej, if_pos (by omega)]
      · rw [if_neg ej]
        by_cases ek : 1000 * row + f ≤ j ∧ j < 1000 * row + x7
        · rw [if_pos ek, if_pos (by omega)]
        · rw [if_neg ek, if_neg (by omega)]
    have cur : A' 24 (1000 * row + x7) = A 24 (1000 * row + x7) := by rw [ba, if_neg (by omega)]
    have nx : ∀ z', (z' = 0 ∨ z' = 1) → (z' = 1 ↔ (z = 1 ∨ A 24 (1000 * row + x7) = 0)) → P z' (x7 + 1) F' (ua A' 24 (1000 * row + x7) 1) := fun z' z'01 hz => by
      refine hP _ _ _ _ ⟨z'01, by omega, by omega, rfl, ?_, fun k k0 => by rw [ua_n k0]; exact fr k k0, ba'⟩ (by omega)
      rw [hz, gz]
      constructor
      · rintro (⟨x, x0, x1, x2⟩ | y)
        · exact ⟨x, x0, by omega, x2⟩
        · exact ⟨x7, by omega, by omega, y⟩
      · rintro ⟨x, x0, x1, x2⟩
        by_cases ex : x = x7
        · subst ex; exact Or.inr x2
        · exact Or.inl ⟨x, x0, by omega, x2⟩
    have hb := hba x7 g0 (by omega)
    refine ⟨⟨by omega, by omega⟩, fun k => ⟨by omega, by omega, nx 1 (Or.inr rfl) ⟨fun _ => Or.inl (by omega), fun _ => rfl⟩⟩, fun k => ⟨by omega, by omega, by rw [cur]; exact ⟨by omega, by omega⟩, fun k2 => ⟨by omega, by omega, nx 0 (Or.inl rfl) ⟨fun q => by omega, fun q => by rw [cur] at k2; omega⟩⟩, fun k2 => ⟨by omega, by omega, nx 1 (Or.inr rfl) ⟨fun _ => Or.inr (by rw [← cur]; exact k2), fun _ => rfl⟩⟩⟩⟩
theorem op_bar {mc : Nat} (hI : Inv mb r st F A) (hmb : mb ≤ mo) (hmo : (mo : Int) ≤ 8000) (hK : r * ((st + 1) / 2) ≤ mo ∨ mb + 1 ≤ mo) (hmc : mb ≤ mc) (hmd : mo ≤ mc ∨ mb + 1 ≤ mc) (row f t : Int) (hrow : rg row) (hf : rL f) (ht : rL t) (hP : ∀ z z2 F2 A2, Ok mc r st z z2 F2 A2 → (z2 = 0 ∨ z2 = 1) → P z z2 F2 A2) :
    w_La_bar mo F A row f t (fun z F1 A1 => w_Mo_bar mo F1 A1 row f t (fun z2 F2 A2 => P z z2 F2 A2)) := by
  obtain ⟨i1, i2, i3, i4, i5, i6, i7, i8, i9, i10, i11⟩ := id hI
  obtain ⟨n1, n2, n3, n4, n5, n6, n7, n8⟩ := id i2
  obtain ⟨p1, p2, p3, p4, p5⟩ := id i10
  obtain ⟨r1, r2, r3, r4, r5, r6, r7, r8⟩ := id i1
  have sp := iv_sp_of (fun i a b => (p3 i a b).2.2.2.1) p4
  obtain ⟨hrow0, hrow1⟩ := hrow
  obtain ⟨hf0, hf1⟩ := hf
  obtain ⟨ht0, ht1⟩ := ht
  have bad : ¬ (0 ≤ row ∧ row < r ∧ 0 ≤ f ∧ f ≤ st ∧ f ≤ t ∧ t ≤ st) → w_Mo_bar mo F A row f t (fun z2 F2 A2 => P 1 z2 F2 A2) := fun nb => by
    have fin : w_Mo_bar_b43 mo (fun z2 F2 A2 => P 1 z2 F2 A2) row f t F A := ⟨⟨by omega, by omega⟩, fun e => absurd e (by omega), fun _ => hP _ _ _ _ ⟨⟨i1, i2, i3, i4, i5, i6, i7, i8, i9, ⟨p1, by show F 3 ≤ (mc : Int); omega, p3, p4, p5⟩, i11⟩, rfl, by omega, by omega, fun h => by omega⟩ (Or.inl rfl)⟩
    have z0 : rg 0 ∧ (((0 : Int) = 0 → w_Mo_bar_b43 mo (fun z2 F2 A2 => P 1 z2 F2 A2) row f t F A) ∧ (¬ (0 : Int) = 0 → rL f ∧ ((f < 0 → w_Mo_bar_b43 mo (fun z2 F2 A2 => P 1 z2 F2 A2) row f t F A) ∧ (¬ f < 0 → rg (F 12) ∧ rL (F 12) ∧ (((F 12) < f → w_Mo_bar_b43 mo (fun z2 F2 A2 => P 1 z2 F2 A2) row f t F A) ∧ (¬ (F 12) < f → rL t ∧ ((t < f → w_Mo_bar_b43 mo (fun z2 F2 A2 => P 1 z2 F2 A2) row f t F A) ∧ (¬ t < f → ((t ≤ (F 12) → w_Mo_bar_b48 mo (fun z2 F2 A2 => P 1 z2 F2 A2) row f t 0 F A) ∧ (¬ t ≤ (F 12) → w_Mo_bar_b43 mo (fun z2 F2 A2 => P 1 z2 F2 A2) row f t F A)))))))))) := ⟨rg_0, fun _ => fin, fun e => absurd rfl e⟩
    refine ⟨⟨hrow0, hrow1⟩, fun _ => z0, fun a => ⟨⟨by omega, by omega⟩, fun _ => z0, fun b => ⟨⟨by omega, by omega⟩, fun e => absurd e (by omega), fun _ => ⟨⟨hf0, hf1⟩, fun _ => fin, fun c => ⟨⟨by omega, by omega⟩, ⟨by omega, by omega⟩, fun _ => fin, fun d => ⟨⟨ht0, ht1⟩, fun _ => fin, fun e => ⟨fun g => absurd (by omega) nb, fun _ => fin⟩⟩⟩⟩⟩⟩⟩
  refine ⟨⟨hrow0, hrow1⟩, fun a => ⟨rfl, bad (by omega)⟩, fun a => ⟨⟨by omega, by omega⟩, fun b => ⟨⟨hf0, hf1⟩, fun c => ⟨rfl, bad (by omega)⟩, fun c => ⟨⟨by omega, by omega⟩, ⟨by omega, by omega⟩, fun d => ⟨rfl, bad (by omega)⟩, fun d => ⟨⟨ht0, ht1⟩, fun e => ⟨rfl, bad (by omega)⟩, fun e => ⟨fun g => ?_, fun g => ⟨rfl, bad (by omega)⟩⟩⟩⟩⟩, fun b => ⟨rfl, bad (by omega)⟩⟩⟩
  refine c_cut (r := r) (st := st) hmo (by omega) r6 r7 r8 (by omega) (hK.imp id (fun q => by omega)) p1 p3 sp (by omega) (by omega) (by omega) (by omega) (by omega) (fun z p' A' z01 gz fr p'0 pn pm h' sp' mem => ?_)
  have k24 : A' 24 = A 24 := fr 24 (by decide) (by decide) (by decide)
  have main : ∀ v F1, (z = 0 → F1 = uf F 3 p') → (z = 1 → F1 = uf (uf F 3 p') 0 0) → v = z → w_Mo_bar mo F1 (ua A' 42 0 v) row f t (fun z2 F2 A2 => P 0 z2 F2 A2) := fun v F1 f1 f2 hv => by
    have e11 : F1 11 = F 11 := by rcases z01 with e | e; · rw [f1 e, uf_n (by decide)]
                                  · rw [f2 e, uf_n (by decide), uf_n (by decide)]
    have e12 : F1 12 = F 12 := by rcases z01 with e | e; · rw [f1 e, uf_n (by decide)]
                                  · rw [f2 e, uf_n (by decide), uf_n (by decide)]
    have e15 : F1 15 = F 15 := by rcases z01 with e | e; · rw [f1 e, uf_n (by decide)]
                                  · rw [f2 e, uf_n (by decide), uf_n (by decide)]
    refine ⟨⟨hrow0, hrow1⟩, fun a => absurd a (by omega), fun a => ⟨by rw [e11]; exact ⟨by omega, by omega⟩, fun b => absurd b (by omega), fun b => ⟨⟨by omega, by omega⟩, fun e => absurd e (by omega), fun _ => ⟨⟨hf0, hf1⟩, fun e => absurd e (by omega), fun c => ⟨by rw [e12]; exact ⟨by omega, by omega⟩, by rw [e12]; exact ⟨by omega, by omega⟩, fun e => absurd e (by omega), fun d => ⟨⟨ht0, ht1⟩, fun e => absurd e (by omega), fun e => ⟨fun g => ?_, fun g => absurd (by omega) g⟩⟩⟩⟩⟩⟩⟩
    refine ⟨rg_0, fun _ => ?_, fun e => absurd (by omega) e⟩
    have b24 : ua A' 42 0 v 24 = A 24 := by rw [ua_n (by decide)]; exact k24
    have x15 : uf F1 10 0 15 = F 15 := by rw [uf_n (by decide)]; exact e15
    refine m_bar (by rw [x15, ← n7]; exact n8) (by omega) (by omega) (by omega) (by omega) (by omega) (fun x x0 x1 => by rw [b24]; exact (p5 row x (by omega) (by omega) (by omega) (by omega)).1) (fun z2 A2 z201 gz2 fr2 ba2 => ?_)
    rw [b24] at gz2 ba2
    rw [x15]
    have ez : z2 = z := by
      have iff : z2 = 1 ↔ z = 1 := by
        rw [gz2, gz]
        constructor
        · rintro ⟨x, x0, x1, x2⟩
          exact ⟨x, x0, x1, ((p5 row x (by omega) (by omega) (by omega) (by omega)).2).1 x2⟩
        · rintro ⟨x, x0, x1, x2⟩
          exact ⟨x, x0, x1, ((p5 row x (by omega) (by omega) (by omega) (by omega)).2).2 x2⟩
      exact b01 z201 z01 iff
    subst ez
    have gk : ∀ k, k ≠ 0 → k ≠ 1 → k ≠ 2 → k ≠ 42 → k ≠ 24 → A2 k = A k := fun k k0 k1 k2 k3 k4 => by rw [fr2 k k4, ua_n k3]; exact fr k k0 k1 k2
    have g0 : A2 0 = A' 0 := by rw [fr2 0 (by decide), ua_n (by decide)]
    have g1 : A2 1 = A' 1 := by rw [fr2 1 (by decide), ua_n (by decide)]
    have g2 : A2 2 = A' 2 := by rw [fr2 2 (by decide), ua_n (by decide)]
    have pt' : iv_pt mc r st p' (A' 0) (A' 1) (A' 2) (A2 24) := by
      refine ⟨p'0, le_mc pn pm p2 hmd, h', fun i a b => sp' i (i + 1) a (by omega) b, fun a x a0 a1 x0 x1 => ?_⟩
      obtain ⟨q1, q2⟩ := p5 a x a0 a1 x0 x1
      rw [ba2]
      have m := mem a x
      unfold ivi at m
      by_cases ein : 1000 * row + f ≤ 1000 * a + x ∧ 1000 * a + x < 1000 * row + t
      · rw [if_pos ein]
        refine ⟨Or.inr rfl, fun e => absurd e (by omega), fun e => ?_⟩
        exact absurd (m.1 e).2 (by omega)
      · rw [if_neg ein]
        refine ⟨q1, q2.trans ⟨fun e => m.2 ⟨e, by omega⟩, fun e => (m.1 e).1⟩⟩
    have sF : ∀ k, k ≠ 0 → k ≠ 3 → k ≠ 10 → k ≠ 15 → uf (uf F1 10 0) 15 (if F 15 = 1 ∧ z2 = 0 then 1 else 0) k = F k := fun k k0 k3 k10 k15 => by
      rw [uf_n k15, uf_n k10]
      rcases z01 with e | e
      · rw [f1 e, uf_n k3]
      · rw [f2 e, uf_n k0, uf_n k3]
    have s3 : uf (uf F1 10 0) 15 (if F 15 = 1 ∧ z2 = 0 then 1 else 0) 3 = p' := by
      rw [uf_n (by decide), uf_n (by decide)]
      rcases z01 with e | e
      · rw [f1 e, uf_s]
      · rw [f2 e, uf_n (by decide), uf_s]
    have s0 : uf (uf F1 10 0) 15 (if F 15 = 1 ∧ z2 = 0 then 1 else 0) 0 = if z2 = 0 then F 0 else 0 := by
      rw [uf_n (by decide), uf_n (by decide)]
      rcases z01 with e | e
      · rw [f1 e, uf_n (by decide), if_pos e]
      · rw [f2 e, uf_s, if_neg (by omega)]
    have s15 : uf (uf F1 10 0) 15 (if F 15 = 1 ∧ z2 = 0 then 1 else 0) 15 = if F 15 = 1 ∧ z2 = 0 then 1 else 0 := uf_s
    refine hP _ _ _ _ ⟨⟨?_, ?_, ?_, ?_, ?_, ?_, ?_, ?_, ?_, ?_, ?_⟩, by rw [uf_n (by decide), uf_s], by omega, by omega, fun _ => ?_⟩ z201
    · rw [sF 1 (by decide) (by decide) (by decide) (by decide), sF 2 (by decide) (by decide) (by decide) (by decide), sF 11 (by decide) (by decide) (by decide) (by decide), sF 12 (by decide) (by decide) (by decide) (by decide)]; exact i1
    · rw [sF 4 (by decide) (by decide) (by decide) (by decide), sF 13 (by decide) (by decide) (by decide) (by decide), sF 5 (by decide) (by decide) (by decide) (by decide), sF 14 (by decide) (by decide) (by decide) (by decide), s0, s15]
      refine ⟨n1, n2, n3, n4, n5, n6, ?_, ?_⟩
      · rcases z01 with e | e
        · rw [if_pos e]
          by_cases e2 : F 15 = 1
          · rw [if_pos ⟨e2, e⟩]; omega
          · rw [if_neg (fun q => e2 q.1)]; omega
        · rw [if_neg (by omega), if_neg (by omega)]
      · split
        · exact n8
        · exact Or.inl rfl
    · rw [sF 4 (by decide) (by decide) (by decide) (by decide), gk 3 (by decide) (by decide) (by decide) (by decide) (by decide), gk 25 (by decide) (by decide) (by decide) (by decide) (by decide)]; exact i3
    · rw [gk 4 (by decide) (by decide) (by decide) (by decide) (by decide), gk 26 (by decide) (by decide) (by decide) (by decide) (by decide)]; exact i4
    · rw [gk 5 (by decide) (by decide) (by decide) (by decide) (by decide), gk 27 (by decide) (by decide) (by decide) (by decide) (by decide)]; exact i5
    · rw [gk 6 (by decide) (by decide) (by decide) (by decide) (by decide), gk 28 (by decide) (by decide) (by decide) (by decide) (by decide)]; exact i6
    · rw [gk 7 (by decide) (by decide) (by decide) (by decide) (by decide), gk 29 (by decide) (by decide) (by decide) (by decide) (by decide)]; exact i7
    · rw [gk 10 (by decide) (by decide) (by decide) (by decide) (by decide), gk 30 (by decide) (by decide) (by decide) (by decide) (by decide)]; exact i8
    · rw [sF 4 (by decide) (by decide) (by decide) (by decide), sF 5 (by decide) (by decide) (by decide) (by decide), gk 11 (by decide) (by decide) (by decide) (by decide) (by decide), gk 12 (by decide) (by decide) (by decide) (by decide) (by decide), gk 13 (by decide) (by decide) (by decide) (by decide) (by decide), gk 31 (by decide) (by decide) (by decide) (by decide) (by decide), gk 32 (by decide) (by decide) (by decide) (by decide) (by decide)]; exact i9
    · rw [s3, g0, g1, g2]; exact pt'
    · rw [s0, sF 4 (by decide) (by decide) (by decide) (by decide), gk 3 (by decide) (by decide) (by decide) (by decide) (by decide), gk 8 (by decide) (by decide) (by decide) (by decide) (by decide), gk 33 (by decide) (by decide) (by decide) (by decide) (by decide), gk 9 (by decide) (by decide) (by decide) (by decide) (by decide), gk 34 (by decide) (by decide) (by decide) (by decide) (by decide)]
      split
      · exact i11
      · exact iv_pl0
    · rw [fr2 42 (by decide), ua_at, if_pos rfl]; exact hv
  refine ⟨⟨by omega, by omega⟩, fun e => ⟨z01, z01, ⟨by omega, by omega⟩, fun _ => ⟨by omega, by omega, main 0 _ (fun _ => rfl) (fun q => by omega) e.symm⟩, fun k => absurd e k⟩, fun e => ⟨z01, z01, ⟨by omega, by omega⟩, fun k => absurd k e, fun _ => ⟨by omega, by omega, main 1 _ (fun q => absurd q e) (fun _ => rfl) (by omega)⟩⟩⟩
end OP7
