/-! THE CLASS'S LINE: order, add, gather, lay -/
def ipos (wt : Int → Int) (σ : Nat → Int) (c : Int) : Nat → Nat
  | 0 => 0
  | i + 1 => if wt (σ i) ≤ wt c then i + 1 else ipos wt σ c i
theorem ipos_le (wt : Int → Int) (σ : Nat → Int) (c : Int) : ∀ i, ipos wt σ c i ≤ i := by
  intro i
  induction i with
  | zero => exact Nat.le_refl _
  | succ i ih =>
    show (if wt (σ i) ≤ wt c then i + 1 else ipos wt σ c i) ≤ i + 1
    split <;> omega
def isrt (wt : Int → Int) : Nat → Nat → Int
  | 0 => fun _ => 0
  | k + 1 => insf (isrt wt k) (k : Int) (ipos wt (isrt wt k) (k : Int) k)
theorem isrt_in (wt : Int → Int) : ∀ (k : Nat) (j : Nat), j < k → 0 ≤ isrt wt k j ∧ isrt wt k j < k := by
  intro k
  induction k with
  | zero => intro j h; omega
  | succ k ih =>
    intro j h
    have q := ipos_le wt (isrt wt k) (k : Int) k
    show 0 ≤ insf (isrt wt k) (k : Int) (ipos wt (isrt wt k) (k : Int) k) j ∧ insf (isrt wt k) (k : Int) (ipos wt (isrt wt k) (k : Int) k) j < _
    by_cases h1 : j < ipos wt (isrt wt k) (k : Int) k
    · rw [insf_lt h1]
      have := ih j (by omega)
      omega
    · by_cases h2 : j = ipos wt (isrt wt k) (k : Int) k
      · rw [h2, insf_eq]
        omega
      · rw [insf_gt (by omega)]
        have := ih (j - 1) (by omega)
        omega
theorem insf_inj {b : Nat → Int} {w : Int} {q k : Nat} (hq : q ≤ k) (hb : ∀ i j, i < j → j < k → b i ≠ b j) (hw : ∀ j, j < k → b j ≠ w) : ∀ i j, i < j → j < k + 1 → insf b w q i ≠ insf b w q j := by
  intro i j h1 h2
  by_cases a1 : j < q
  · rw [insf_lt a1, insf_lt (by omega)]
    exact hb i j h1 (by omega)
  · by_cases a2 : j = q
    · rw [a2, insf_eq, insf_lt (by omega)]
      exact hw i (by omega)
    · rw [insf_gt (j := j) (by omega)]
      by_cases b1 : i < q
      · rw [insf_lt b1]
        exact hb i (j - 1) (by omega) (by omega)
      · by_cases b2 : i = q
        · rw [b2, insf_eq]
          exact fun e => hw (j - 1) (by omega) e.symm
        · rw [insf_gt (by omega)]
          exact hb (i - 1) (j - 1) (by omega) (by omega)
theorem isrt_inj (wt : Int → Int) : ∀ (k : Nat) (i j : Nat), i < j → j < k → isrt wt k i ≠ isrt wt k j := by
  intro k
  induction k with
  | zero => intro i j _ h; omega
  | succ k ih =>
    exact insf_inj (ipos_le _ _ _ k) ih (fun j hj => by have := isrt_in wt k j hj; omega)
theorem isrt_sur (wt : Int → Int) : ∀ (k : Nat) (c : Int), 0 ≤ c → c < k → ∃ j, j < k ∧ isrt wt k j = c := by
  intro k
  induction k with
  | zero => intro c _ h; omega
  | succ k ih =>
    intro c c0 c1
    have q := ipos_le wt (isrt wt k) (k : Int) k
    by_cases e : c = k
    · exact ⟨ipos wt (isrt wt k) (k : Int) k, by omega, by rw [e]; exact insf_eq⟩
    · obtain ⟨j, j1, j2⟩ := ih c c0 (by omega)
      by_cases h : j < ipos wt (isrt wt k) (k : Int) k
      · exact ⟨j, by omega, by rw [← j2]; exact insf_lt h⟩
      · refine ⟨j + 1, by omega, ?_⟩
        rw [← j2]
        exact insf_gt (by omega)
section RUN2
variable {mo : Nat} {F : Nat → Int} {A : Nat → Int → Int} {n : Int} {wd wt wr : Int → Int} {sp : Int → Int → Int} {ln ln' : Nat → Int} {m : Nat} {f t : Int}
theorem c_sort {Q : (Nat → Int) → (Nat → Int → Int) → Prop} (hn : F 4 = n) (n0 : 0 ≤ n) (n1 : n ≤ 60) (hw : ∀ c, 0 ≤ c → c < n → A 6 c = wt c ∧ rg (wt c)) (hQ : ∀ A', frA [14] A' A → (∀ j : Nat, j < n.toNat → A' 14 j = isrt wt n.toNat j) → Q F A') : w_Fi_orderCells mo F A Q := by
  refine Lp3_by (fun (x1 : Int) F' A' => ∃ k : Nat, x1 = k ∧ k ≤ n ∧ F' = F ∧ frA [14] A' A ∧ ∀ j : Nat, j < k → A' 14 j = isrt wt k j) (fun (x1 : Int) _ _ => (n - x1).toNat) ?_ 0 F A ⟨0, rfl, n0, rfl, frA_r, fun j h => by omega⟩
  rintro x1 F1 A1 ⟨k, rfl, g1, rfl, fr, g2⟩ P hP
  refine ⟨⟨by omega, by omega⟩, ⟨by omega, by omega⟩, fun h => hQ A1 fr (fun j hj => ?_), fun h => ?_⟩
  · have e : k = n.toNat := by omega
    rw [← e]
    exact g2 j (by omega)
  refine Lp3_by (fun (x2 : Int) F' A' => ∃ i : Nat, x2 = i ∧ i ≤ k ∧ F' = F1 ∧ frA [14] A' A ∧ (∀ j : Nat, j < i → A' 14 j = isrt wt k j) ∧ (∀ j : Nat, i < j → j ≤ k → A' 14 j = isrt wt k (j - 1)) ∧ ipos wt (isrt wt k) (k : Int) k = ipos wt (isrt wt k) (k : Int) i) (fun (x2 : Int) _ _ => x2.toNat) ?_ k F1 A1 ⟨k, rfl, Nat.le_refl k, rfl, fr, g2, fun j _ _ => by omega, rfl⟩
  rintro x2 F2 A2 ⟨i, rfl, i1, rfl, fr2, i2, i3, i4⟩ P2 hP2
  have fin : ipos wt (isrt wt k) (k : Int) k = i → w_Fi_orderCells_b67 mo Q P k i F2 A2 := fun e => by
    refine ⟨by omega, by omega, hP _ _ _ ⟨k + 1, by omega, by omega, rfl, frA_u fr2 (by decide), fun j hj => ?_⟩ (by omega)⟩
    
    rw [ua_at]
    show _ = insf (isrt wt k) (k : Int) (ipos wt (isrt wt k) (k : Int) k) j
    rw [e]
    by_cases h1 : j < i
    · rw [if_neg (by omega), insf_lt h1]
      exact i2 j h1
    · by_cases h2 : j = i
      · rw [if_pos (by omega), h2, insf_eq]
      · rw [if_neg (by omega), insf_gt (by omega)]
        exact i3 j (by omega) (by omega)
  refine ⟨⟨by omega, by omega⟩, fun h => fin (by rw [i4]; have e : i = 0 := by omega
                                                 rw [e]; rfl), fun h => ?_⟩
  have e0 : ((i : Int) - 1) = ((i - 1 : Nat) : Int) := by omega
  have ea : A2 14 ((i : Int) - 1) = isrt wt k (i - 1) := by rw [e0]; exact i2 (i - 1) (by omega)
  have in1 := isrt_in wt k (i - 1) (by omega)
  have w1 := hw (isrt wt k (i - 1)) in1.1 (by omega)
  have w2 := hw k (by omega) (by omega)
  have f6 : A2 6 = A 6 := fr2 6 (by decide)
  have st : ipos wt (isrt wt k) (k : Int) i = if wt (isrt wt k (i - 1)) ≤ wt k then i else ipos wt (isrt wt k) (k : Int) (i - 1) := by
    have e : i = (i - 1) + 1 := by omega
    rw [e]
    rfl
  rw [ea, f6, w1.1, w2.1]
  refine ⟨by omega, by omega, in1.1, by omega, by omega, by omega, w1.2, w2.2, fun c => fin (by rw [i4, st, if_pos c]), fun c => ⟨by omega, by omega, hP2 _ _ _ ⟨i - 1, by omega, by omega, rfl, frA_u fr2 (by decide), fun j hj => ?_, fun j h1 h2 => ?_, by rw [i4, st, if_neg c]⟩ (by omega)⟩⟩
  · rw [ua_at, if_neg (by omega)]
    exact i2 j (by omega)
  · rw [ua_at]
    by_cases h3 : j = i
    · rw [if_pos (by omega), h3]
    · rw [if_neg (by omega)]
      exact i3 j (by omega) h2
theorem m_sort {Q : (Nat → Int) → (Nat → Int → Int) → Prop} (hn : F 13 = n) (n0 : 0 ≤ n) (n1 : n ≤ 60) (hw : ∀ c, 0 ≤ c → c < n → A 28 c = wt c ∧ rg (wt c)) (hQ : ∀ A', frA [35, 38] A' A → (∀ j : Nat, j < n.toNat → A' 38 j = isrt wt n.toNat j) → Q F A') : w_Mo_sort mo F A Q := by
  refine Lp3_by (fun (x1 : Int) F' A' => ∃ k : Nat, x1 = k ∧ k ≤ n ∧ F' = F ∧ frA [35, 38] A' A ∧ ∀ j : Nat, j < k → A' 38 j = isrt wt k j) (fun (x1 : Int) _ _ => (n - x1).toNat) ?_ 0 F A ⟨0, rfl, n0, rfl, frA_r, fun j h => by omega⟩
  rintro x1 F1 A1 ⟨k, rfl, g1, rfl, fr, g2⟩ P hP
  refine ⟨⟨by omega, by omega⟩, ⟨by omega, by omega⟩, fun h => hQ A1 fr (fun j hj => ?_), fun h => ?_⟩
  · have e : k = n.toNat := by omega
    rw [← e]
    exact g2 j (by omega)
  refine Lp3_by (fun (x2 : Int) F' A' => ∃ i : Nat, x2 = i ∧ i ≤ k ∧ F' = F1 ∧ frA [35, 38] A' A ∧ (∀ j : Nat, j < i → A' 38 j = isrt wt k j) ∧ (∀ j : Nat, i < j → j ≤ k → A' 38 j = isrt wt k (j - 1)) ∧ ipos wt (isrt wt k) (k : Int) k = ipos wt (isrt wt k) (k : Int) i) (fun (x2 : Int) _ _ => x2.toNat) ?_ k F1 A1 ⟨k, rfl, Nat.le_refl k, rfl, fr, g2, fun j _ _ => by omega, rfl⟩
  rintro x2 F2 A2 ⟨i, rfl, i1, rfl, fr2, i2, i3, i4⟩ P2 hP2
  have fin : ipos wt (isrt wt k) (k : Int) k = i → w_Mo_sort_b58 mo Q P k i F2 A2 := fun e => by
    refine ⟨by omega, by omega, by omega, by omega, hP _ _ _ ⟨k + 1, by omega, by omega, rfl, frA_u (frA_u fr2 (by decide)) (by decide), fun j hj => ?_⟩ (by omega)⟩
    rw [ua_n (by decide)]
    rw [ua_at]
    show _ = insf (isrt wt k) (k : Int) (ipos wt (isrt wt k) (k : Int) k) j
    rw [e]
    by_cases h1 : j < i
    · rw [if_neg (by omega), insf_lt h1]
      exact i2 j h1
    · by_cases h2 : j = i
      · rw [if_pos (by omega), h2, insf_eq]
      · rw [if_neg (by omega), insf_gt (by omega)]
        exact i3 j (by omega) (by omega)
  refine ⟨⟨by omega, by omega⟩, fun h => fin (by rw [i4]; have e : i = 0 := by omega
                                                 rw [e]; rfl), fun h => ?_⟩
  have e0 : ((i : Int) - 1) = ((i - 1 : Nat) : Int) := by omega
  have ea : A2 38 ((i : Int) - 1) = isrt wt k (i - 1) := by rw [e0]; exact i2 (i - 1) (by omega)
  have in1 := isrt_in wt k (i - 1) (by omega)
  have w1 := hw (isrt wt k (i - 1)) in1.1 (by omega)
  have w2 := hw k (by omega) (by omega)
  have f6 : A2 28 = A 28 := fr2 28 (by decide)
  have st : ipos wt (isrt wt k) (k : Int) i = if wt (isrt wt k (i - 1)) ≤ wt k then i else ipos wt (isrt wt k) (k : Int) (i - 1) := by
    have e : i = (i - 1) + 1 := by omega
    rw [e]
    rfl
  rw [ea, f6, w1.1, w2.1]
  refine ⟨by omega, by omega, in1.1, by omega, by omega, by omega, w1.2, w2.2, fun c => fin (by rw [i4, st, if_pos c]), fun c => ⟨by omega, by omega, hP2 _ _ _ ⟨i - 1, by omega, by omega, rfl, frA_u fr2 (by decide), fun j hj => ?_, fun j h1 h2 => ?_, by rw [i4, st, if_neg c]⟩ (by omega)⟩⟩
  · rw [ua_at, if_neg (by omega)]
    exact i2 j (by omega)
  · rw [ua_at]
    by_cases h3 : j = i
    · rw [if_pos (by omega), h3]
    · rw [if_neg (by omega)]
      exact i3 j (by omega) h2
theorem c_empty {Q : (Nat → Int) → (Nat → Int → Int) → Prop} (hmo : (mo : Int) ≤ 8000) (p0 : 0 ≤ F 3) (p1 : F 3 ≤ mo) (hQ : ∀ A', frA [16, 17, 18] A' A → (∀ i, 0 ≤ i → i < F 3 → A' 16 i = -1 ∧ A' 17 i = -1 ∧ A' 18 i = 0) → Q F A') : w_Fi_emptyParts mo F A Q := by
  refine Lp3_by (fun (x1 : Int) F' A' => 0 ≤ x1 ∧ x1 ≤ F 3 ∧ F' = F ∧ frA [16, 17, 18] A' A ∧ ∀ i, 0 ≤ i → i < x1 → A' 16 i = -1 ∧ A' 17 i = -1 ∧ A' 18 i = 0) (fun (x1 : Int) _ _ => (F 3 - x1).toNat) ?_ 0 F A ⟨by omega, p0, rfl, frA_r, fun i a b => by omega⟩
  rintro x1 F1 A1 ⟨g0, g1, rfl, fr, g2⟩ P hP
  refine ⟨⟨by omega, by omega⟩, ⟨by omega, by omega⟩, fun h => hQ A1 fr (fun i a b => g2 i a (by omega)), fun h => ⟨g0, by omega, hP _ _ _ ⟨by omega, by omega, rfl, frA_u (frA_u (frA_u fr (by decide)) (by decide)) (by decide), fun i a b => ?_⟩ (by omega)⟩⟩
  rw [ua_n (a := 16) (k := 18) (by decide), ua_n (a := 16) (k := 17) (by decide), ua_at, ua_n (a := 17) (k := 18) (by decide), ua_at, ua_at]
  by_cases e : i = x1
  · rw [if_pos e, if_pos e, if_pos e]
    exact ⟨rfl, rfl, rfl⟩
  · rw [if_neg e, if_neg e, if_neg e, ua_n (a := 17) (k := 16) (by decide), ua_n (a := 18) (k := 17) (by decide), ua_n (a := 18) (k := 16) (by decide)]
    exact g2 i a (by omega)
def CD (n : Int) (wd wt wr : Int → Int) (sp : Int → Int → Int) (A : Nat → Int → Int) : Prop := ∀ c, 0 ≤ c → c < n → A 3 c = wd c ∧ A 6 c = wt c ∧ A 7 c = wr c ∧ ∀ b, 0 ≤ b → b < n → 0 ≤ A 5 c * 4 + A 4 b ∧ A 5 c * 4 + A 4 b < 16 ∧ A 10 (A 5 c * 4 + A 4 b) = sp c b
theorem CD_fr {A' : Nat → Int → Int} (h : CD n wd wt wr sp A) (fr : frA [8, 9, 14, 15, 16, 17, 18, 19, 20, 21, 22, 23] A' A) : CD n wd wt wr sp A' := by
  intro c a b
  rw [fr 3 (by decide), fr 4 (by decide), fr 5 (by decide), fr 6 (by decide), fr 7 (by decide), fr 10 (by decide)]
  exact h c a b
/-- bends in order, all within 0 .. r -/
def bOK (b : Nat → Int) (k : Nat) (r : Int) : Prop := (∀ j, j < k → 0 ≤ b j ∧ b j ≤ r) ∧ ∀ i j, i ≤ j → j < k → b i ≤ b j
theorem insf_OK {b : Nat → Int} {w r : Int} {q k : Nat} (hb : bOK b k r) (w0 : 0 ≤ w) (w1 : w ≤ r) (hq : q ≤ k) (h1 : ∀ j, j < q → b j ≤ w) (h2 : ∀ j, q ≤ j → j < k → w ≤ b j) : bOK (insf b w q) (k + 1) r := by
  constructor
  · intro j hj
    by_cases a1 : j < q
    · rw [insf_lt a1]; exact hb.1 j (by omega)
    · by_cases a2 : j = q
      · rw [a2, insf_eq]; exact ⟨w0, w1⟩
      · rw [insf_gt (by omega)]; exact hb.1 (j - 1) (by omega)
  · intro i j hij hj
    by_cases a1 : j < q
    · rw [insf_lt a1, insf_lt (by omega)]; exact hb.2 i j hij (by omega)
    · by_cases a2 : j = q
      · rw [a2, insf_eq]
        by_cases b1 : i < q
        · rw [insf_lt b1]; exact h1 i b1
        · rw [show i = q by omega, insf_eq]; exact Int.le_refl _
      · rw [insf_gt (j := j) (by omega)]
        by_cases b1 : i < q
        · rw [insf_lt b1]; exact hb.2 i (j - 1) (by omega) (by omega)
        · by_cases b2 : i = q
          · rw [b2, insf_eq]; exact h2 (j - 1) (by omega) (by omega)
          · rw [insf_gt (by omega)]; exact hb.2 (i - 1) (j - 1) (by omega) (by omega)
theorem bOK_congr {b b' : Nat → Int} {k : Nat} {r : Int} (h : bOK b k r) (e : ∀ j, j < k → b' j = b j) : bOK b' k r := by
  refine ⟨fun j hj => ?_, fun i j hij hj => ?_⟩
  · rw [e j hj]; exact h.1 j hj
  · rw [e j hj, e i (by omega)]; exact h.2 i j hij hj
theorem c_insB {Q : (Nat → Int) → (Nat → Int → Int) → Prop} {k : Nat} {w r : Int} (hF : F 6 = k) (hk : k ≤ 60) (r1 : r ≤ 2000) (hb : bOK (fun j => A 23 j) k r) (w0 : 0 ≤ w) (w1 : w ≤ r)
    (hQ : ∀ A', frA [23] A' A → bOK (fun j => A' 23 j) (k + 1) r → (∀ u, bsum (fun j => A' 23 j) (k + 1) u = bsum (fun j => A 23 j) k u + max 0 (w - u)) → Q (uf F 6 (k + 1)) A') : w_Li_insertBend mo F A w Q := by
  refine ⟨⟨by omega, by omega⟩, fun _ => ?_, fun h => absurd h (by omega)⟩
  rw [hF]
  refine Lp3_by (fun (x2 : Int) F' A' => ∃ i : Nat, x2 = i ∧ i ≤ k ∧ F' = F ∧ frA [23] A' A ∧ (∀ j : Nat, j < i → A' 23 j = A 23 j) ∧ (∀ j : Nat, i < j → j ≤ k → A' 23 j = A 23 ((j - 1 : Nat) : Int)) ∧ ∀ j : Nat, i ≤ j → j < k → w ≤ A 23 j) (fun (x2 : Int) _ _ => x2.toNat) ?_ k F A ⟨k, rfl, Nat.le_refl k, rfl, frA_r, fun _ _ => rfl, fun j _ _ => by omega, fun j _ _ => by omega⟩
  rintro x2 F2 A2 ⟨i, rfl, i1, rfl, fr2, i2, i3, i4⟩ P2 hP2
  have fin : (0 < i → A2 23 ((i : Int) - 1) ≤ w) → w_Li_insertBend_b54 mo Q w i F2 A2 := fun h => by
    have key : ∀ j : Nat, j < k + 1 → ua A2 23 i w 23 j = insf (fun j => A 23 j) w i j := fun j hj => by
      rw [ua_at]
      by_cases h1 : j < i
      · rw [if_neg (by omega), insf_lt h1]
        exact i2 j h1
      · by_cases h2 : j = i
        · rw [if_pos (by omega), h2, insf_eq]
        · rw [if_neg (by omega), insf_gt (by omega)]
          exact i3 j (by omega) (by omega)
    refine ⟨by omega, by omega, ?_⟩
    rw [hF]
    refine hQ _ (frA_u fr2 (by decide)) (bOK_congr (insf_OK hb w0 w1 i1 (fun j hj => ?_) i4) key) (fun u => ?_)
    · have q := h (by omega)
      rw [show ((i : Int) - 1) = ((i - 1 : Nat) : Int) by omega, i2 (i - 1) (by omega)] at q
      exact Int.le_trans (hb.2 j (i - 1) (by omega) (by omega)) q
    · rw [bsum_congr _ (insf (fun j => A 23 j) w i) (k + 1) u key]
      exact insf_sum _ _ _ _ _ i1
  refine ⟨⟨by omega, by omega⟩, fun h => fin (fun q => absurd q (by omega)), fun h => ?_⟩
  have e0 : ((i : Int) - 1) = ((i - 1 : Nat) : Int) := by omega
  have ea := i2 (i - 1) (by omega)
  rw [← e0] at ea
  have bb : 0 ≤ A 23 ((i - 1 : Nat) : Int) ∧ A 23 ((i - 1 : Nat) : Int) ≤ r := hb.1 (i - 1) (by omega)
  rw [← e0] at bb
  refine ⟨by omega, by omega, ⟨by omega, by omega⟩, ⟨by omega, by omega⟩, fun c => fin (fun _ => c), fun c => ⟨by omega, by omega, hP2 _ _ _ ⟨i - 1, by omega, by omega, rfl, frA_u fr2 (by decide), fun j hj => ?_, fun j h1 h2 => ?_, fun j h1 h2 => ?_⟩ (by omega)⟩⟩
  · rw [ua_at, if_neg (by omega)]
    exact i2 j (by omega)
  · rw [ua_at]
    by_cases h3 : j = i
    · rw [if_pos (by omega), h3, ea, e0]
    · rw [if_neg (by omega)]
      exact i3 j (by omega) h2
  · by_cases h3 : j = i - 1
    · rw [h3, ← e0, ← ea]
      omega
    · exact i4 j (by omega) h2
def LnOK (wd : Int → Int) (sp : Int → Int → Int) (ln : Nat → Int) (m : Nat) (F : Nat → Int) (A : Nat → Int → Int) : Prop := F 7 = m ∧ F 8 = lenF wd sp ln m ∧ ∀ j : Nat, j < m → A 19 j = ln j ∧ A 20 j = offF wd sp ln j
theorem LnOK_congr (h : LnOK wd sp ln m F A) (e : ∀ j, j < m → ln j = ln' j) : LnOK wd sp ln' m F A := by
  refine ⟨h.1, ?_, fun j hj => ?_⟩
  · rw [← len_congr e]; exact h.2.1
  · rw [← e j hj, ← off_congr (fun i hi => e i (by omega))]; exact h.2.2 j hj
theorem c_best {Q : (Nat → Int) → (Nat → Int → Int) → Prop} {r : Int} (hB : BD n wd wt wr sp) (hl : lnIn n ln m) (hn : n ≤ 60) (hm : m ≤ 60) (hA : ∀ c, 0 ≤ c → c < n → A 6 c = wt c) (hL : LnOK wd sp ln m F A) (f0 : 0 ≤ f) (f1 : f ≤ 1000) (r0 : 0 ≤ r) (r1 : r ≤ 1000)
    (hQ : ∀ F' A', frF [6] F' F → frA [21, 23] A' A → bleast (dF wd wt sp f ln) (fun j => A' 21 j) r m → (∀ j : Nat, j < m → A' 21 j ≤ r) → Q F' A') : w_Li_findBestShifts mo F A f r Q := by
  refine Lp3_by (fun (x3 : Int) F' A' => ∃ i : Nat, x3 = i ∧ i ≤ m ∧ frF [6] F' F ∧ frA [21, 23] A' A ∧ F' 6 = i ∧ bOK (fun j => A' 23 j) i r ∧ bleast (clp r (dF wd wt sp f ln)) (fun j => A' 21 j) r i ∧ (∀ j : Nat, j < i → A' 21 j ≤ r) ∧ ∃ C, ∀ u, 0 ≤ u → u ≤ r → Fm (clp r (dF wd wt sp f ln)) i u = C + bsum (fun j => A' 23 j) i u) (fun (x3 : Int) _ _ => (m - x3).toNat) ?_ 0 (uf F 6 0) A ⟨0, rfl, by omega, frF_u frF_r (by decide), frA_r, uf_s, ⟨fun j h => by omega, fun i j _ h => by omega⟩, fun i h => by omega, fun j h => by omega, 0, fun u _ _ => rfl⟩
  rintro x3 F1 A1 ⟨i, rfl, i1, ff, fr, i2, i3, i4, i6, C, i5⟩ P hP
  have e7 : F1 7 = m := (ff 7 (by decide)).trans hL.1
  refine ⟨⟨by omega, by omega⟩, ⟨by omega, by omega⟩, fun h => hQ F1 A1 ff fr ?_ (fun j hj => i6 j (by omega)), fun h => ?_⟩
  · have e : i = m := by omega
    rw [← e]
    exact bleast_clip i4
  have hi : i < m := by omega
  obtain ⟨l1, l2⟩ := hL.2.2 i hi
  obtain ⟨l3, l4⟩ := hl i hi
  have e19 : A1 19 i = ln i := by rw [fr 19 (by decide)]; exact l1
  have e20 : A1 20 i = offF wd sp ln i := by rw [fr 20 (by decide)]; exact l2
  have e6 : A1 6 (ln i) = wt (ln i) := by rw [fr 6 (by decide)]; exact hA _ l3 l4
  have o := off_in hB hl i hi
  have w := hB (ln i) l3 l4
  have ed : ((wt (ln i) - offF wd sp ln i) - f) = dF wd wt sp f ln i := rfl
  have ec : max 0 (min r (dF wd wt sp f ln i)) = clp r (dF wd wt sp f ln) i := rfl
  have dl : -5000 ≤ dF wd wt sp f ln i ∧ dF wd wt sp f ln i ≤ 1000 := by unfold dF; omega
  rw [e19, e20, e6, ed, ec]
  have w0 : 0 ≤ clp r (dF wd wt sp f ln) i := by unfold clp; omega
  have w1 : clp r (dF wd wt sp f ln) i ≤ r := by unfold clp; omega
  refine ⟨by omega, by omega, l3, by omega, ⟨by omega, by omega⟩, ⟨by omega, by omega⟩, ⟨by omega, by omega⟩, ?_⟩
  refine c_insB i2 (by omega) (by omega) i3 w0 w1 (fun A2 fr2 b2 s2 => ?_)
  refine c_insB (k := i + 1) (by rw [uf_s]; omega) (by omega) (by omega) b2 w0 w1 (fun A3 fr3 b3 s3 => ?_)
  have hs : ∀ u, bsum (fun j => A3 23 j) (i + 1) u + max 0 (A3 23 ((i + 1 : Nat) : Int) - u) = bsum (fun j => A1 23 j) i u + 2 * max 0 (clp r (dF wd wt sp f ln) i - u) := fun u => by
    have a := s3 u
    rw [s2 u] at a
    have b : bsum (fun j => A3 23 j) (i + 1 + 1) u = bsum (fun j => A3 23 j) (i + 1) u + max 0 (A3 23 ((i + 1 : Nat) : Int) - u) := rfl
    omega
  have hst : bstep (fun j => A1 23 j) (fun j => A3 23 j) i (clp r (dF wd wt sp f ln) i) (A3 23 ((i + 1 : Nat) : Int)) := ⟨hs, fun j hj => b3.2 j i (by omega) (by omega), b3.2 i (i + 1) (by omega) (by omega)⟩
  have bi := b3.1 i (by omega)
  have bi1 := b3.1 (i + 1) (by omega)
  rw [uf_s, show (((i + 1 : Nat) : Int) + 1 - 1 - 1) = (i : Int) by omega]
  refine ⟨by omega, by omega, hP _ _ _ ⟨i + 1, by omega, by omega, ?_, ?_, ?_, ?_, ?_, ?_, C + A3 23 ((i + 1 : Nat) : Int) - clp r (dF wd wt sp f ln) i, ?_⟩ (by omega)⟩
  · exact frF_u (frF_u (frF_u ff (by decide)) (by decide)) (by decide)
  · exact frA_u (frA_t (frA_s fr3 (by decide)) (frA_t (frA_s fr2 (by decide)) fr)) (by decide)
  · rw [uf_s]
    omega
  · refine ⟨fun j hj => ?_, fun a b h1 h2 => ?_⟩
    · rw [ua_n (by decide)]
      exact b3.1 j (by omega)
    · rw [ua_n (by decide)]
      exact b3.2 a b h1 (by omega)
  · intro j hj
    show 0 ≤ ua A3 21 i (A3 23 i) 21 j ∧ ∀ u, 0 ≤ u → u ≤ r → _ = Fm _ j (min u (ua A3 21 i (A3 23 i) 21 j)) + ((min u (ua A3 21 i (A3 23 i) 21 j) - _).natAbs : Int) ∧ ∀ t, 0 ≤ t → t ≤ u → _ → min u (ua A3 21 i (A3 23 i) 21 j) ≤ t
    rw [ua_at]
    by_cases e : j = i
    · rw [if_pos (by omega), e]
      exact ⟨bi.1, fun u u0 u1 => bstep_least hst rfl i5 bi.1 u0 u1⟩
    · rw [if_neg (by omega)]
      have q := i4 j (by omega)
      have e1 : A3 21 = A1 21 := (fr3 21 (by decide)).trans (fr2 21 (by decide))
      rw [e1]
      exact q
  · intro j hj
    rw [ua_at]
    by_cases e : j = i
    · rw [if_pos (by omega)]
      exact bi.2
    · rw [if_neg (by omega), (fr3 21 (by decide)).trans (fr2 21 (by decide))]
      exact i6 j (by omega)
  · intro u u0 u1
    rw [ua_n (by decide)]
    exact bstep_F hst bi1.1 rfl i5 u u0 u1
theorem c_sites {Q : (Nat → Int) → (Nat → Int → Int) → Prop} {r : Int} (hB : BD n wd wt wr sp) (hl : lnIn n ln m) (hn : n ≤ 60) (hm : m ≤ 60) (hA : ∀ c, 0 ≤ c → c < n → A 6 c = wt c) (hL : LnOK wd sp ln m F A) (f0 : 0 ≤ f) (f1 : f ≤ 1000) (r0 : 0 ≤ r) (r1 : r ≤ 1000) (hb : bleast (dF wd wt sp f ln) (fun j => A 21 j) r m) (hb2 : ∀ j : Nat, j < m → A 21 j ≤ r)
    (hQ : ∀ F' A', frF [9] F' F → frA [22] A' A → F' 9 = Fm (dF wd wt sp f ln) m r → (∀ j : Nat, j < m → A' 22 j = f + offF wd sp ln j + wback (fun j => A 21 j) m r j) → Q F' A') : w_Li_setSites mo F A f r Q := by
  show w_Li_setSites_b15 mo Q f r (F 7 - 1) (uf F 9 0) A
  rw [hL.1]
  refine Lp4_by (fun (x3 x4 : Int) F' A' => ∃ k : Nat, x4 = (k : Int) - 1 ∧ k ≤ m ∧ 0 ≤ x3 ∧ x3 ≤ r ∧ frF [9] F' F ∧ frA [22] A' A ∧ F' 9 + wsum (dF wd wt sp f ln) (wback (fun j => A 21 j) k x3) k = Fm (dF wd wt sp f ln) m r ∧ (∀ j : Nat, k ≤ j → j < m → A' 22 j = f + offF wd sp ln j + wback (fun j => A 21 j) m r j) ∧ ∀ j : Nat, j < k → wback (fun j => A 21 j) m r j = wback (fun j => A 21 j) k x3 j) (fun (x3 x4 : Int) _ _ => (x4 + 1).toNat) ?_ r ((m : Int) - 1) (uf F 9 0) A ⟨m, rfl, Nat.le_refl m, r0, Int.le_refl r, frF_u frF_r (by decide), frA_r, ?_, fun j _ _ => by omega, fun _ _ => rfl⟩
  · rintro x3 x4 F1 A1 ⟨k, rfl, k1, u0, u1, ff, fr, s1, s2, s3⟩ P hP
    refine ⟨⟨by omega, by omega⟩, fun h => hQ F1 A1 ff fr ?_ (fun j hj => s2 j (by omega) hj), fun h => ?_⟩
    · have e : k = 0 := by omega
      subst e
      rw [← s1]
      show F1 9 = F1 9 + 0
      omega
    obtain ⟨i, rfl⟩ : ∃ i, k = i + 1 := ⟨k - 1, by omega⟩
    have hi : i < m := by omega
    rw [show (((i + 1 : Nat) : Int) - 1) = (i : Int) by omega]
    obtain ⟨l1, l2⟩ := hL.2.2 i hi
    obtain ⟨l3, l4⟩ := hl i hi
    have e19 : A1 19 i = ln i := by rw [fr 19 (by decide)]; exact l1
    have e20 : A1 20 i = offF wd sp ln i := by rw [fr 20 (by decide)]; exact l2
    have e6 : A1 6 (ln i) = wt (ln i) := by rw [fr 6 (by decide)]; exact hA _ l3 l4
    have e21 : A1 21 = A 21 := fr 21 (by decide)
    have o := off_in hB hl i hi
    have w := hB (ln i) l3 l4
    have bi : 0 ≤ A 21 i := (hb i hi).1
    rw [e19, e20, e6, e21, ua_at, if_pos rfl]
    have wl : wback (fun j => A 21 j) (i + 1) x3 i = min x3 (A 21 i) := wback_last _ i x3
    have ws : wsum (dF wd wt sp f ln) (wback (fun j => A 21 j) (i + 1) x3) (i + 1) = wsum (dF wd wt sp f ln) (wback (fun j => A 21 j) i (min x3 (A 21 i))) i + ((min x3 (A 21 i) - dF wd wt sp f ln i).natAbs : Int) := by
      show wsum (dF wd wt sp f ln) (wback (fun j => A 21 j) (i + 1) x3) i + ((wback (fun j => A 21 j) (i + 1) x3 i - dF wd wt sp f ln i).natAbs : Int) = _
      rw [wl, wsum_congr (y := wback (fun j => A 21 j) i (min x3 (A 21 i))) (fun j hj => wback_lt _ i x3 hj)]
    have ea : f + offF wd sp ln i + min x3 (A 21 i) - wt (ln i) = min x3 (A 21 i) - dF wd wt sp f ln i := by unfold dF; omega
    have bm : min x3 (A 21 i) ≤ x3 := Int.min_le_left _ _
    have bm0 : 0 ≤ min x3 (A 21 i) := by omega
    refine ⟨by omega, by omega, ⟨by omega, by omega⟩, ?_, l3, by omega, ?_, hP _ _ _ _ ⟨i, by omega, by omega, bm0, by omega, frF_u ff (by decide), frA_u fr (by decide), ?_, fun j h1 h2 => ?_, fun j hj => ?_⟩ (by omega)⟩
    · have := hb2 i hi
      exact ⟨by omega, by omega⟩
    · exact ⟨by omega, by omega⟩
    · rw [uf_s, ea]
      omega
    · rw [ua_at]
      by_cases e : j = i
      · rw [if_pos (by omega), e, s3 i (by omega), wl]
      · rw [if_neg (by omega)]
        exact s2 j (by omega) h2
    · rw [s3 j (by omega)]
      exact wback_lt _ i x3 hj
  · rw [uf_s]
    have := wback_sum hb r0 (Int.le_refl r)
    omega
theorem c_layIn {Q : Int → (Nat → Int) → (Nat → Int → Int) → Prop} (hB : BD n wd wt wr sp) (hl : lnIn n ln m) (hn : n ≤ 60) (hm : m ≤ 60) (hA : ∀ c, 0 ≤ c → c < n → A 6 c = wt c) (hL : LnOK wd sp ln m F A) (f0 : 0 ≤ f) (ft : f ≤ t) (t1 : t ≤ 1000)
    (h0 : t - f - lenF wd sp ln m < 0 → Q 0 F A)
    (h1 : 0 ≤ t - f - lenF wd sp ln m → ∀ F' A' B, frF [6, 9] F' F → frA [21, 22, 23] A' A → bleast (dF wd wt sp f ln) B (t - f - lenF wd sp ln m) m → F' 9 = LC wd wt sp f t ln m → (∀ j : Nat, j < m → A' 22 j = f + offF wd sp ln j + wback B m (t - f - lenF wd sp ln m) j) → Q 1 F' A') : w_Li_layIn mo F A f t Q := by
  have q := len_in hB hl
  unfold w_Li_layIn
  rw [hL.2.1]
  refine ⟨⟨by omega, by omega⟩, fun h => ?_, fun h => h0 (by omega)⟩
  refine c_best hB hl hn hm hA hL f0 (by omega) h (by omega) (fun F2 A2 ff fr hb hb2 => ?_)
  refine c_sites hB hl hn hm (fun c a b => by rw [fr 6 (by decide)]; exact hA c a b) ⟨by rw [ff 7 (by decide)]; exact hL.1, by rw [ff 8 (by decide)]; exact hL.2.1, fun j hj => by rw [fr 19 (by decide), fr 20 (by decide)]; exact hL.2.2 j hj⟩ f0 (by omega) h (by omega) hb hb2 (fun F3 A3 ff3 fr3 e1 e2 => ?_)
  exact h1 h F3 A3 _ (frF_t (frF_s ff3 (by decide)) (frF_s ff (by decide))) (frA_t (frA_s fr3 (by decide)) (frA_s fr (by decide))) hb e1 e2
theorem c_add {Q : (Nat → Int) → (Nat → Int → Int) → Prop} {c : Int} (hC : CD n wd wt wr sp A) (hl : lnIn n ln m) (hn : n ≤ 60) (hm : m < 60) (hL : LnOK wd sp ln m F A) (c0 : 0 ≤ c) (c1 : c < n)
    (hQ : ∀ F' A', frF [7, 8] F' F → frA [19, 20] A' A → LnOK wd sp (app ln m c) (m + 1) F' A' → Q F' A') : w_Li_add mo F A c Q := by
  obtain ⟨q1, q2, q3, q4⟩ := hC c c0 c1
  have fin : ∀ z, F 8 + z = offF wd sp (app ln m c) m → ∀ F1, (F1 = uf F 8 (F 8 + z) ∨ (z = 0 ∧ F1 = F)) → w_Li_add_b45 mo Q c F1 A := by
    intro z hz F1 hF1
    have e7 : F1 7 = m := by
      rcases hF1 with h | ⟨_, h⟩
      · rw [h, uf_n (by decide)]; exact hL.1
      · rw [h]; exact hL.1
    have e8 : F1 8 = offF wd sp (app ln m c) m := by
      rcases hF1 with h | ⟨h, h'⟩
      · rw [h, uf_s]; exact hz
      · rw [h']; omega
    have ff : frF [7, 8] F1 F := by
      rcases hF1 with h | ⟨h, h'⟩
      · rw [h]; exact frF_u frF_r (by decide)
      · rw [h']; exact frF_r
    unfold w_Li_add_b45
    rw [e7, e8, q1]
    refine ⟨by omega, by omega, c0, by omega, hQ _ _ (frF_u (frF_u ff (by decide)) (by decide)) (frA_u (frA_u frA_r (by decide)) (by decide)) ⟨by rw [uf_s]; omega, ?_, fun j hj => ?_⟩⟩
    · rw [uf_n (by decide), uf_s]
      show _ = offF wd sp (app ln m c) m + wd (app ln m c m)
      rw [app_eq]
    · rw [ua_n (a := 19) (by decide), ua_at, ua_at, ua_n (a := 20) (k := 19) (by decide)]
      by_cases e : j = m
      · rw [if_pos (by omega), if_pos (by omega), e, app_eq]
        exact ⟨rfl, rfl⟩
      · rw [if_neg (by omega), if_neg (by omega), app_lt (by omega), off_congr (ln := app ln m c) (ln' := ln) (fun i hi => app_lt (by omega))]
        exact hL.2.2 j (by omega)
  unfold w_Li_add
  rw [hL.1]
  refine ⟨⟨by omega, by omega⟩, fun _ => ⟨fun h => fin 0 ?_ F (Or.inr ⟨rfl, rfl⟩), fun h => ?_⟩, fun h => absurd h (by omega)⟩
  · have e : m = 0 := by omega
    subst e
    rw [hL.2.1]
    rfl
  · obtain ⟨k, rfl⟩ : ∃ k, m = k + 1 := ⟨m - 1, by omega⟩
    rw [show (((k + 1 : Nat) : Int) - 1) = (k : Int) by omega, (hL.2.2 k (by omega)).1]
    obtain ⟨l3, l4⟩ := hl k (by omega)
    obtain ⟨s1, s2, s3⟩ := (hC (ln k) l3 l4).2.2.2 c c0 c1
    refine ⟨by omega, by omega, l3, by omega, c0, by omega, s1, s2, ?_⟩
    rw [s3]
    refine fin _ ?_ _ (Or.inl rfl)
    rw [hL.2.1]
    show offF wd sp ln k + wd (ln k) + _ = offF wd sp (app ln (k + 1) c) k + wd (app ln (k + 1) c k) + sp (app ln (k + 1) c k) (app ln (k + 1) c (k + 1))
    rw [app_eq, app_lt (by omega), off_congr (ln := app ln (k + 1) c) (ln' := ln) (fun j hj => app_lt (by omega))]
def nxt (ln : Nat → Int) (m j : Nat) : Int := if j < m then ln j else -1
/-- a part's chain of cells -/
def CH (ln : Nat → Int) (m : Nat) (i : Int) (A : Nat → Int → Int) : Prop := A 16 i = nxt ln m 0 ∧ ∀ j, j < m → A 15 (ln j) = nxt ln m (j + 1)
theorem c_gather {Q : (Nat → Int) → (Nat → Int → Int) → Prop} {i : Int} (hC : CD n wd wt wr sp A) (hl : lnIn n ln m) (hn : n ≤ 60) (hm : m ≤ 60) (i0 : 0 ≤ i) (i1 : i < mo) (hH : CH ln m i A)
    (hQ : ∀ F' A', frF [7, 8] F' F → frA [19, 20] A' A → LnOK wd sp ln m F' A' → Q F' A') : w_Fi_gather mo F A i Q := by
  refine ⟨i0, i1, ?_⟩
  rw [hH.1]
  refine Lp4_by (fun (x2 x3 : Int) F' A' => ∃ k : Nat, x3 = k ∧ k ≤ m ∧ x2 = nxt ln m k ∧ frF [7, 8] F' F ∧ frA [19, 20] A' A ∧ LnOK wd sp ln k F' A') (fun (x2 x3 : Int) _ _ => (60 - x3).toNat) ?_ _ 0 _ A ⟨0, rfl, by omega, rfl, frF_u (frF_u frF_r (by decide)) (by decide), frA_r, ⟨by rw [uf_n (by decide), uf_s]; rfl, by rw [uf_s]; rfl, fun j h => by omega⟩⟩
  rintro x2 x3 F1 A1 ⟨k, rfl, k1, rfl, ff, fr, kl⟩ P hP
  refine ⟨⟨by omega, by omega⟩, fun h => ?_, fun h => ⟨?_, fun e => ?_, fun e => ?_⟩⟩
  · have e : k = m := by omega
    rw [e] at kl
    exact hQ F1 A1 ff fr kl
  · unfold nxt
    split
    · have := hl k (by assumption)
      exact ⟨by omega, by omega⟩
    · exact ⟨by omega, by omega⟩
  · unfold nxt at e
    split at e
    · have := hl k (by assumption)
      omega
    · have e : k = m := by omega
      rw [e] at kl
      exact hQ F1 A1 ff fr kl
  · have hk : k < m := by
      unfold nxt at e
      split at e
      · assumption
      · exact absurd rfl e
    have en : nxt ln m k = ln k := by unfold nxt; rw [if_pos hk]
    rw [en]
    obtain ⟨l1, l2⟩ := hl k hk
    refine c_add (m := k) (CD_fr hC (frA_s fr (by decide))) (fun j hj => hl j (by omega)) hn (by omega) kl l1 l2 (fun F2 A2 ff2 fr2 kl2 => ?_)
    refine ⟨l1, by omega, hP _ _ _ _ ⟨k + 1, by omega, by omega, ?_, frF_t ff2 ff, frA_t fr2 fr, LnOK_congr kl2 (fun j hj => ?_)⟩ (by omega)⟩
    · rw [fr2 15 (by decide), fr 15 (by decide)]
      exact hH.2 k hk
    · by_cases e : j = k
      · rw [e, app_eq]
      · exact app_lt (by omega)
theorem c_layWith {Q : Int → (Nat → Int) → (Nat → Int → Int) → Prop} {i c : Int} (hB : BD n wd wt wr sp) (hC : CD n wd wt wr sp A) (hl : lnIn n ln m) (hn : n ≤ 60) (hm : m < 60) (i0 : 0 ≤ i) (i1 : i < mo) (hH : CH ln m i A) (c0 : 0 ≤ c) (c1 : c < n) (f0 : 0 ≤ A 1 i) (ft : A 1 i ≤ A 2 i) (t1 : A 2 i ≤ 1000)
    (h0 : A 2 i - A 1 i - lenF wd sp (app ln m c) (m + 1) < 0 → ∀ F' A', frF [6, 7, 8, 9] F' F → frA [19, 20, 21, 22, 23] A' A → Q 0 F' A')
    (h1 : 0 ≤ A 2 i - A 1 i - lenF wd sp (app ln m c) (m + 1) → ∀ F' A', frF [6, 7, 8, 9] F' F → frA [19, 20, 21, 22, 23] A' A → F' 9 = LC wd wt sp (A 1 i) (A 2 i) (app ln m c) (m + 1) → Q 1 F' A') : w_Fi_layWith mo F A c i Q := by
  refine c_gather hC hl hn (by omega) i0 i1 hH (fun F1 A1 ff1 fr1 L1 => ?_)
  refine c_add (CD_fr hC (frA_s fr1 (by decide))) hl hn hm L1 c0 c1 (fun F2 A2 ff2 fr2 L2 => ?_)
  have fr := frA_t fr2 fr1
  have ff := frF_t ff2 ff1
  refine ⟨i0, i1, ?_⟩
  rw [fr 1 (by decide), fr 2 (by decide)]
  refine c_layIn hB (app_in hl c0 c1) hn (by omega) (fun c a b => by rw [fr 6 (by decide)]; exact (hC c a b).2.1) L2 f0 ft t1 (fun h => ⟨Or.inl rfl, h0 h _ _ (frF_s ff (by decide)) (frA_s fr (by decide))⟩) (fun h F3 A3 B ff3 fr3 _ e9 _ => ⟨Or.inr rfl, h1 h _ _ (frF_t (frF_s ff3 (by decide)) (frF_s ff (by decide))) (frA_t (frA_s fr3 (by decide)) (frA_s fr (by decide))) e9⟩)
end RUN2
