/-! OVERLAP -/
/-- parts in order, pairwise -/
def iv_sp (p : Int) (pr pf pt : Int → Int) : Prop := ∀ i j, 0 ≤ i → i < j → j < p → pr i < pr j ∨ (pr i = pr j ∧ pt i < pf j)
theorem iv_sp_of {p : Int} {pr pf pt : Int → Int} (h1 : ∀ i, 0 ≤ i → i < p → pf i < pt i) (h2 : ∀ i, 0 ≤ i → i + 1 < p → pr i < pr (i + 1) ∨ (pr i = pr (i + 1) ∧ pt i < pf (i + 1))) : iv_sp p pr pf pt := by
  have key : ∀ (d : Nat) (i : Int), 0 ≤ i → i + 1 + d < p → pr i < pr (i + 1 + d) ∨ (pr i = pr (i + 1 + d) ∧ pt i < pf (i + 1 + d)) := by
    intro d
    induction d with
    | zero =>
      intro i a b
      have := h2 i a (by omega)
      simpa using this
    | succ d ih =>
      intro i a b
      have q := ih i a (by omega)
      have s := h2 (i + 1 + d) (by omega) (by omega)
      have t := h1 (i + 1 + d) (by omega) (by omega)
      rw [show i + 1 + ((d + 1 : Nat) : Int) = i + 1 + d + 1 by omega]
      omega
  intro i j a b c
  have := key (j - i - 1).toNat i a (by omega)
  rwa [show i + 1 + (((j - i - 1).toNat : Nat) : Int) = j by omega] at this
theorem free_iff {mb : Nat} {r st p : Int} {pr pf pt ba : Int → Int} (h : iv_pt mb r st p pr pf pt ba) {a f t : Int} (a0 : 0 ≤ a) (a1 : a < r) (f0 : 0 ≤ f) (ft : f < t) (ts : t ≤ st) :
    (∃ i, 0 ≤ i ∧ i < p ∧ pr i = a ∧ pf i ≤ f ∧ t ≤ pt i) ↔ ∀ y, f ≤ y → y < t → ba (1000 * a + y) = 0 := by
  obtain ⟨h1, h2, h3, h4, h5⟩ := h
  have sp := iv_sp_of (fun i a b => (h3 i a b).2.2.2.1) h4
  constructor
  · rintro ⟨i, i0, i1, i2, i3, i4⟩ y y0 y1
    exact ((h5 a y a0 a1 (by omega) (by omega)).2).2 ⟨i, i0, i1, i2, by omega, by omega⟩
  · intro g
    obtain ⟨i, i0, i1, i2, i3, i4⟩ := ((h5 a f a0 a1 f0 (by omega)).2).1 (g f (by omega) ft)
    have key : ∀ k : Nat, f + k < t → f + k < pt i := by
      intro k
      induction k with
      | zero => intro _; simpa using i4
      | succ k ih =>
        intro hk
        have q := ih (by omega)
        obtain ⟨j, j0, j1, j2, j3, j4⟩ := ((h5 a (f + ((k + 1 : Nat) : Int)) a0 a1 (by omega) (by omega)).2).1 (g (f + ((k + 1 : Nat) : Int)) (by omega) (by omega))
        by_cases e : j = i
        · rw [e] at j4; exact j4
        · by_cases e2 : i < j
          · have := sp i j i0 e2 j1
            omega
          · have := sp j i j0 (by omega) i1
            omega
    have := key (t - f - 1).toNat (by omega)
    exact ⟨i, i0, i1, i2, i3, by omega⟩
section OP4
variable {mo mb : Nat} {r st : Int} {F : Nat → Int} {A : Nat → Int → Int} {P : Int → Int → (Nat → Int) → (Nat → Int → Int) → Prop}
theorem c_isFree {Q : Int → Prop} {row f t : Int} (hmo : (mo : Int) ≤ 8000) (p0 : 0 ≤ F 3) (p1 : F 3 ≤ mo) (hr : rg row) (hf : rg f) (ht : rg t) (hp : ∀ i, 0 ≤ i → i < F 3 → rg (A 0 i) ∧ rg (A 1 i) ∧ rg (A 2 i)) (h1 : (∃ i, 0 ≤ i ∧ i < F 3 ∧ A 0 i = row ∧ A 1 i ≤ f ∧ t ≤ A 2 i) → Q 1) (h0 : ¬ (∃ i, 0 ≤ i ∧ i < F 3 ∧ A 0 i = row ∧ A 1 i ≤ f ∧ t ≤ A 2 i) → Q 0) : w_Gr_isFree mo F A row f t Q := by
  refine Lp1_by (fun x4 => 0 ≤ x4 ∧ x4 ≤ F 3 ∧ ∀ i, 0 ≤ i → i < x4 → ¬ (A 0 i = row ∧ A 1 i ≤ f ∧ t ≤ A 2 i)) (fun x4 => (F 3 - x4).toNat) ?_ 0 ⟨by omega, by omega, fun i a b => by omega⟩
  rintro x4 ⟨g0, g1, g2⟩ P hP
  have nx : ¬ F 3 ≤ x4 → ¬ (A 0 x4 = row ∧ A 1 x4 ≤ f ∧ t ≤ A 2 x4) → P (x4 + 1) := fun hh hn => hP _ ⟨by omega, by omega, fun i a b => by
    by_cases e : i = x4
    · rw [e]; exact hn
    · exact g2 i a (by omega)⟩ (by omega)
  refine ⟨⟨by omega, by omega⟩, ⟨by omega, by omega⟩, fun h => h0 ?_, fun h => ?_⟩
  · rintro ⟨i, a, b, c, d, e⟩
    exact g2 i a (by omega) ⟨c, d, e⟩
  · obtain ⟨q1, q2, q3⟩ := hp x4 g0 (by omega)
    exact ⟨g0, by omega, q1, hr, fun c => nx h (fun q => c q.1), fun c => ⟨q2, hf, fun d => nx h (fun q => by omega), fun d => ⟨ht, q3, fun e => nx h (fun q => by omega), fun e => h1 ⟨x4, g0, by omega, c, by omega, by omega⟩⟩⟩⟩
def shr (w x ro : Int → Int) (a b : Int) : Prop := ro a = ro b ∧ x a < x b + w b ∧ x b < x a + w a
theorem c_share {Q : Int → Prop} {a b : Int} (ha : 0 ≤ a ∧ a < 60) (hb : 0 ≤ b ∧ b < 60) (hx : ∀ c, c = a ∨ c = b → 0 ≤ A 8 c ∧ A 8 c ≤ 1000 ∧ 0 ≤ A 9 c ∧ A 9 c ≤ 16 ∧ 0 ≤ A 3 c ∧ A 3 c ≤ 40) (h1 : shr (A 3) (A 8) (A 9) a b → Q 1) (h0 : ¬ shr (A 3) (A 8) (A 9) a b → Q 0) : w_Ce_shareSite mo F A a b Q := by
  obtain ⟨q1, q2, q3, q4, q5, q6⟩ := hx a (Or.inl rfl)
  obtain ⟨p1, p2, p3, p4, p5, p6⟩ := hx b (Or.inr rfl)
  unfold shr at h1 h0
  exact ⟨ha.1, ha.2, hb.1, hb.2, ⟨by omega, by omega⟩, ⟨by omega, by omega⟩, fun h => h0 (fun q => h q.1), fun h => ⟨hb.1, hb.2, ⟨by omega, by omega⟩, ⟨by omega, by omega⟩, fun g => h0 (by omega), fun g => ⟨ha.1, ha.2, ⟨by omega, by omega⟩, ⟨by omega, by omega⟩, fun k => h0 (by omega), fun k => h1 (by omega)⟩⟩⟩
theorem c_overlap {Q : Int → Prop} {QX : String → Prop} {Fr : Int → Prop} (hmo : (mo : Int) ≤ 8000) (p0 : 0 ≤ F 3) (p1 : F 3 ≤ mo) (n0 : 0 ≤ F 4) (n1 : F 4 ≤ 60) (hp : ∀ i, 0 ≤ i → i < F 3 → rg (A 0 i) ∧ rg (A 1 i) ∧ rg (A 2 i)) (hx : ∀ c, 0 ≤ c → c < F 4 → 0 ≤ A 8 c ∧ A 8 c ≤ 1000 ∧ 0 ≤ A 9 c ∧ A 9 c ≤ 16 ∧ 0 ≤ A 3 c ∧ A 3 c ≤ 40)
    (hFr : ∀ c, 0 ≤ c → c < F 4 → ((∃ i, 0 ≤ i ∧ i < F 3 ∧ A 0 i = A 9 c ∧ A 1 i ≤ A 8 c ∧ A 8 c + A 3 c ≤ A 2 i) ↔ Fr c))
    (h1 : (∃ a, 0 ≤ a ∧ a < F 4 ∧ (¬ Fr a ∨ ∃ b, a < b ∧ b < F 4 ∧ shr (A 3) (A 8) (A 9) a b)) → Q 1) (h0 : ¬ (∃ a, 0 ≤ a ∧ a < F 4 ∧ (¬ Fr a ∨ ∃ b, a < b ∧ b < F 4 ∧ shr (A 3) (A 8) (A 9) a b)) → Q 0) : w_Lr_overlap_b6 mo F A Q QX 0 := by
  refine Lp1_by (fun x1 => 0 ≤ x1 ∧ x1 ≤ F 4 ∧ ∀ a, 0 ≤ a → a < x1 → ¬ (¬ Fr a ∨ ∃ b, a < b ∧ b < F 4 ∧ shr (A 3) (A 8) (A 9) a b)) (fun x1 => (F 4 - x1).toNat) ?_ 0 ⟨by omega, by omega, fun i a b => by omega⟩
  rintro x1 ⟨g0, g1, g2⟩ P hP
  refine ⟨⟨by omega, by omega⟩, ⟨by omega, by omega⟩, fun h => h0 ?_, fun h => ?_⟩
  · rintro ⟨a, a0, a1, a2⟩
    exact g2 a a0 (by omega) a2
  · have q := hx x1 g0 (by omega)
    refine ⟨g0, by omega, g0, by omega, ?_⟩
    refine c_isFree hmo p0 p1 ⟨by omega, by omega⟩ ⟨by omega, by omega⟩ ⟨by omega, by omega⟩ hp (fun e => ?_) (fun e => ?_)
    · have fr := (hFr x1 g0 (by omega)).1 e
      refine ⟨⟨by omega, by omega⟩, fun _ => ?_, fun e => absurd e (by omega)⟩
      refine Lp1_by (fun x2 => x1 < x2 ∧ x2 ≤ F 4 ∧ ∀ b, x1 < b → b < x2 → ¬ shr (A 3) (A 8) (A 9) x1 b) (fun x2 => (F 4 - x2).toNat) ?_ (x1 + 1) ⟨by omega, by omega, fun i a b => by omega⟩
      rintro x2 ⟨k0, k1, k2⟩ P2 hP2
      refine ⟨⟨by omega, by omega⟩, ⟨by omega, by omega⟩, fun h => ?_, fun h => ?_⟩
      · refine hP _ ⟨by omega, by omega, fun a a0 a1 => ?_⟩ (by omega)
        by_cases e : a = x1
        · rw [e]
          rintro (n | ⟨b, b0, b1, b2⟩)
          · exact n fr
          · exact k2 b b0 (by omega) b2
        · exact g2 a a0 (by omega)
      · have q2 := hx x2 (by omega) (by omega)
        refine c_share ⟨g0, by omega⟩ ⟨by omega, by omega⟩ (fun c hc => by rcases hc with rfl | rfl <;> assumption) (fun s => ?_) (fun s => ?_)
        · exact ⟨⟨by omega, by omega⟩, fun e => absurd e (by omega), fun _ => h1 ⟨x1, g0, by omega, Or.inr ⟨x2, k0, by omega, s⟩⟩⟩
        · refine ⟨⟨by omega, by omega⟩, fun _ => hP2 _ ⟨by omega, by omega, fun b b0 b1 => ?_⟩ (by omega), fun e => absurd rfl e⟩
          by_cases e : b = x2
          · rw [e]; exact s
          · exact k2 b b0 (by omega)
    · exact ⟨⟨by omega, by omega⟩, fun e => absurd rfl e, fun _ => h1 ⟨x1, g0, by omega, Or.inl (fun f => e ((hFr x1 g0 (by omega)).2 f))⟩⟩
theorem m_ov97 {Q : Int → (Nat → Int) → (Nat → Int → Int) → Prop} {I20 : Int → Int → Prop} {x1 x2 : Int} {G : Prop} (h2 : 0 ≤ x2 ∧ x2 < 60) (hx : ∀ c, 0 ≤ c → c ≤ x2 → 0 ≤ A 33 c ∧ A 33 c ≤ 1000 ∧ 0 ≤ A 34 c ∧ A 34 c ≤ 16 ∧ 0 ≤ A 25 c ∧ A 25 c ≤ 40) (h01 : x1 = 0 ∨ x1 = 1) (hG : x1 = 1 ↔ G)
    (hI : ∀ y, (y = 0 ∨ y = 1) → (y = 1 ↔ (G ∨ ∃ b, 0 ≤ b ∧ b < x2 ∧ shr (A 25) (A 33) (A 34) x2 b)) → I20 y (x2 + 1)) : w_Mo_overlap_b97 mo Q I20 x2 F A x1 0 := by
  refine Lp2_by (fun y x3 => 0 ≤ x3 ∧ x3 ≤ x2 ∧ (y = 0 ∨ y = 1) ∧ (y = 1 ↔ (G ∨ ∃ b, 0 ≤ b ∧ b < x3 ∧ shr (A 25) (A 33) (A 34) x2 b))) (fun _ x3 => (x2 - x3).toNat) ?_ x1 0 ⟨by omega, by omega, h01, hG.trans ⟨Or.inl, fun e => e.elim id (fun ⟨b, b0, b1, _⟩ => by omega)⟩⟩
  rintro y x3 ⟨g0, g1, g2, g3⟩ P hP
  have yes : ¬ x2 ≤ x3 → (G ∨ ∃ b, 0 ≤ b ∧ b < x3 + 1 ∧ shr (A 25) (A 33) (A 34) x2 b) → P 1 (x3 + 1) := fun h e => hP _ _ ⟨by omega, by omega, Or.inr rfl, ⟨fun _ => e, fun _ => rfl⟩⟩ (by omega)
  have no : ¬ x2 ≤ x3 → y = 0 → ¬ shr (A 25) (A 33) (A 34) x2 x3 → P 0 (x3 + 1) := fun h e e2 => hP _ _ ⟨by omega, by omega, Or.inl rfl, ⟨fun q => by omega, fun q => by
    rcases q with q | ⟨b, b0, b1, b2⟩
    · have := g3.2 (Or.inl q); omega
    · by_cases eb : b = x3
      · rw [eb] at b2; exact absurd b2 e2
      · have := g3.2 (Or.inr ⟨b, b0, by omega, b2⟩); omega⟩⟩ (by omega)
  refine ⟨⟨by omega, by omega⟩, ⟨by omega, by omega⟩, fun h => ?_, fun h => ?_⟩
  · have e : x3 = x2 := by omega
    subst e
    exact hI y g2 g3
  · have q := hx x3 g0 (by omega)
    have q2 := hx x2 h2.1 (by omega)
    unfold shr at yes no
    exact ⟨⟨by omega, by omega⟩, fun e => yes h (by
      rcases g3.1 (by omega) with q | ⟨b, b0, b1, b2⟩
      · exact Or.inl q
      · exact Or.inr ⟨b, b0, by omega, b2⟩), fun e => ⟨h2.1, h2.2, g0, by omega, ⟨by omega, by omega⟩, ⟨by omega, by omega⟩, fun k => no h e (by omega), fun k => ⟨⟨by omega, by omega⟩, ⟨by omega, by omega⟩, fun l => no h e (by omega), fun l => ⟨⟨by omega, by omega⟩, ⟨by omega, by omega⟩, fun m => no h e (by omega), fun m => yes h (Or.inr ⟨x3, g0, by omega, by omega⟩)⟩⟩⟩⟩
theorem m_ov42 {Q : Int → (Nat → Int) → (Nat → Int → Int) → Prop} {I20 : Int → Int → Prop} {x1 x2 : Int} {G : Prop} (h2 : 0 ≤ x2 ∧ x2 < 60) (hx : ∀ c, 0 ≤ c → c ≤ x2 → 0 ≤ A 33 c ∧ A 33 c + A 25 c ≤ 1000 ∧ 0 ≤ A 34 c ∧ A 34 c < 16 ∧ 0 ≤ A 25 c ∧ A 25 c ≤ 40) (hba : ∀ y, A 33 x2 ≤ y → y < A 33 x2 + A 25 x2 → rg (A 24 (1000 * A 34 x2 + y))) (h01 : x1 = 0 ∨ x1 = 1) (hG : x1 = 1 ↔ G)
    (hI : ∀ y, (y = 0 ∨ y = 1) → (y = 1 ↔ ((G ∨ ∃ u, A 33 x2 ≤ u ∧ u < A 33 x2 + A 25 x2 ∧ ¬ A 24 (1000 * A 34 x2 + u) = 0) ∨ ∃ b, 0 ≤ b ∧ b < x2 ∧ shr (A 25) (A 33) (A 34) x2 b)) → I20 y (x2 + 1)) : w_Mo_overlap_b42 mo Q I20 x2 F A x1 (A 33 x2) := by
  have q := hx x2 h2.1 (by omega)
  refine Lp2_by (fun y x3 => A 33 x2 ≤ x3 ∧ x3 ≤ A 33 x2 + A 25 x2 ∧ (y = 0 ∨ y = 1) ∧ (y = 1 ↔ (G ∨ ∃ u, A 33 x2 ≤ u ∧ u < x3 ∧ ¬ A 24 (1000 * A 34 x2 + u) = 0))) (fun _ x3 => (A 33 x2 + A 25 x2 - x3).toNat) ?_ x1 _ ⟨by omega, by omega, h01, hG.trans ⟨Or.inl, fun e => e.elim id (fun ⟨b, b0, b1, _⟩ => by omega)⟩⟩
  rintro y x3 ⟨g0, g1, g2, g3⟩ P hP
  have yes : ¬ A 33 x2 + A 25 x2 ≤ x3 → (G ∨ ∃ u, A 33 x2 ≤ u ∧ u < x3 + 1 ∧ ¬ A 24 (1000 * A 34 x2 + u) = 0) → P 1 (x3 + 1) := fun h e => hP _ _ ⟨by omega, by omega, Or.inr rfl, ⟨fun _ => e, fun _ => rfl⟩⟩ (by omega)
  have no : ¬ A 33 x2 + A 25 x2 ≤ x3 → y = 0 → A 24 (1000 * A 34 x2 + x3) = 0 → P 0 (x3 + 1) := fun h e e2 => hP _ _ ⟨by omega, by omega, Or.inl rfl, ⟨fun q => by omega, fun q => by
    rcases q with q | ⟨b, b0, b1, b2⟩
    · have := g3.2 (Or.inl q); omega
    · by_cases eb : b = x3
      · rw [eb] at b2; exact absurd e2 b2
      · have := g3.2 (Or.inr ⟨b, b0, by omega, b2⟩); omega⟩⟩ (by omega)
  refine ⟨h2.1, h2.2, ⟨by omega, by omega⟩, ⟨by omega, by omega⟩, fun h => ?_, fun h => ?_⟩
  · have e : x3 = A 33 x2 + A 25 x2 := by omega
    rw [e] at g3
    exact m_ov97 h2 (fun c a b => by have := hx c a b; omega) g2 g3 hI
  · exact ⟨⟨by omega, by omega⟩, fun e => yes h (by
      rcases g3.1 (by omega) with q | ⟨b, b0, b1, b2⟩
      · exact Or.inl q
      · exact Or.inr ⟨b, b0, by omega, b2⟩), fun e => ⟨by omega, by omega, hba x3 g0 (by omega), fun k => no h e k, fun k => yes h (Or.inr ⟨x3, g0, by omega, k⟩)⟩⟩
theorem m_overlap {Q : Int → (Nat → Int) → (Nat → Int → Int) → Prop} (f0 : F 10 = 0) (n0 : 0 ≤ F 13) (n1 : F 13 ≤ 60) (hx : ∀ c, 0 ≤ c → c < F 13 → 0 ≤ A 33 c ∧ A 33 c + A 25 c ≤ 1000 ∧ 0 ≤ A 34 c ∧ A 34 c < 16 ∧ 0 ≤ A 25 c ∧ A 25 c ≤ 40) (hba : ∀ c, 0 ≤ c → c < F 13 → ∀ y, A 33 c ≤ y → y < A 33 c + A 25 c → rg (A 24 (1000 * A 34 c + y)))
    (hQ : ∀ y, (y = 0 ∨ y = 1) → (y = 1 ↔ ∃ a, 0 ≤ a ∧ a < F 13 ∧ ((∃ u, A 33 a ≤ u ∧ u < A 33 a + A 25 a ∧ ¬ A 24 (1000 * A 34 a + u) = 0) ∨ ∃ b, 0 ≤ b ∧ b < a ∧ shr (A 25) (A 33) (A 34) a b)) → Q y F A) : w_Mo_overlap_b20 mo Q F A 0 0 := by
  refine Lp2_by (fun y x2 => 0 ≤ x2 ∧ x2 ≤ F 13 ∧ (y = 0 ∨ y = 1) ∧ (y = 1 ↔ ∃ a, 0 ≤ a ∧ a < x2 ∧ ((∃ u, A 33 a ≤ u ∧ u < A 33 a + A 25 a ∧ ¬ A 24 (1000 * A 34 a + u) = 0) ∨ ∃ b, 0 ≤ b ∧ b < a ∧ shr (A 25) (A 33) (A 34) a b))) (fun _ x2 => (F 13 - x2).toNat) ?_ 0 0 ⟨by omega, by omega, Or.inl rfl, ⟨fun e => by omega, fun ⟨a, a0, a1, _⟩ => by omega⟩⟩
  rintro y x2 ⟨g0, g1, g2, g3⟩ P hP
  refine ⟨⟨by omega, by omega⟩, ⟨by omega, by omega⟩, fun h => ?_, fun h => ?_⟩
  · have e : x2 = F 13 := by omega
    rw [e] at g3
    exact ⟨g2, hQ y g2 g3⟩
  · refine ⟨⟨by omega, by omega⟩, fun e => absurd f0 e, fun _ => ⟨g0, by omega, ?_⟩⟩
    refine m_ov42 ⟨g0, by omega⟩ (fun c a b => hx c a (by omega)) (hba x2 g0 (by omega)) g2 g3 (fun z z0 z1 => ?_)
    refine hP _ _ ⟨by omega, by omega, z0, z1.trans ⟨?_, ?_⟩⟩ (by omega)
    · rintro ((⟨a, a0, a1, a2⟩ | u) | v)
      · exact ⟨a, a0, by omega, a2⟩
      · exact ⟨x2, g0, by omega, Or.inl u⟩
      · exact ⟨x2, g0, by omega, Or.inr v⟩
    · rintro ⟨a, a0, a1, a2⟩
      by_cases e : a = x2
      · subst e
        rcases a2 with u | v
        · exact Or.inl (Or.inr u)
        · exact Or.inr v
      · exact Or.inl (Or.inl ⟨a, a0, by omega, a2⟩)
theorem op_overlap (hI : Inv mb r st F A) (hmb : mb ≤ mo) (hmo : (mo : Int) ≤ 8000) (hP : ∀ z z2 F2 A2, Ok mb r st z z2 F2 A2 → (z2 = 0 ∨ z2 = 1) → P z z2 F2 A2) :
    w_La_overlap mo F A (fun z F1 A1 => w_Mo_overlap mo F1 A1 (fun z2 F2 A2 => P z z2 F2 A2)) := by
  obtain ⟨i1, i2, i3, i4, i5, i6, i7, i8, i9, i10, i11⟩ := id hI
  obtain ⟨n1, n2, n3, n4, n5, n6, n7, n8⟩ := id i2
  obtain ⟨p1, p2, p3, p4, p5⟩ := id i10
  obtain ⟨r1, r2, r3, r4, r5, r6, r7, r8⟩ := id i1
  have e13 : F 13 = F 4 := n1.symm
  refine ⟨⟨by omega, by omega⟩, fun h => ?_, fun h => ?_⟩
  · have pl := Inv_pl hI (by omega)
    have pq := i11 (by omega)
    have m (z zz : Int) (hz : z = 0 ∨ z = 1) (hv : z = 1 ↔ ∃ a, 0 ≤ a ∧ a < F 4 ∧ (¬ (∀ y, A 8 a ≤ y → y < A 8 a + A 3 a → A 24 (1000 * A 9 a + y) = 0) ∨ ∃ b, a < b ∧ b < F 4 ∧ shr (A 3) (A 8) (A 9) a b)) : w_Mo_overlap mo F (ua A 42 0 z) (fun z2 F2 A2 => P 0 z2 F2 A2) := by
      refine ⟨⟨by omega, by omega⟩, fun g => absurd g (by omega), fun g => ?_⟩
      refine m_overlap rfl (by show 0 ≤ F 13; omega) (by show F 13 ≤ 60; omega) (fun c c0 c1 => ?_) (fun c c0 c1 y y0 y1 => ?_) (fun y y01 hy => ?_)
      · have := pl c c0 (by have : c < F 13 := c1; omega)
        show 0 ≤ A 33 c ∧ A 33 c + A 25 c ≤ 1000 ∧ 0 ≤ A 34 c ∧ A 34 c < 16 ∧ 0 ≤ A 25 c ∧ A 25 c ≤ 40
        omega
      · have c1' : c < F 13 := c1
        have y0' : A 33 c ≤ y := y0
        have y1' : y < A 33 c + A 25 c := y1
        have a := pl c c0 (by omega)
        have b := pq c c0 (by omega)
        have d := (p5 (A 34 c) y (by omega) (by omega) (by omega) (by omega)).1
        show rg (A 24 (1000 * A 34 c + y))
        unfold rg
        omega
      · have hy' : y = 1 ↔ ∃ a, 0 ≤ a ∧ a < F 13 ∧ ((∃ u, A 33 a ≤ u ∧ u < A 33 a + A 25 a ∧ ¬ A 24 (1000 * A 34 a + u) = 0) ∨ ∃ b, 0 ≤ b ∧ b < a ∧ shr (A 25) (A 33) (A 34) a b) := hy
        have e : z = y := by
          have iff : z = 1 ↔ y = 1 := by
            rw [hv, hy']
            constructor
            · rintro ⟨a, a0, a1, a2⟩
              have qa := pl a a0 a1
              rcases a2 with u | ⟨b, b0, b1, b2⟩
              · refine ⟨a, a0, by omega, Or.inl ?_⟩
                refine Classical.byContradiction (fun k => u (fun y y0 y1 => Classical.byContradiction (fun e => k ⟨y, by omega, by omega, ?_⟩)))
                rw [← qa.2.1]
                exact e
              · have qb := pl b (by omega) b1
                refine ⟨b, by omega, by omega, Or.inr ⟨a, a0, b0, ?_⟩⟩
                unfold shr at b2 ⊢
                omega
            · rintro ⟨a, a0, a1, a2⟩
              have qa := pl a a0 (by omega)
              rcases a2 with ⟨u, u0, u1, u2⟩ | ⟨b, b0, b1, b2⟩
              · refine ⟨a, a0, by omega, Or.inl (fun k => u2 ?_)⟩
                have := k u (by omega) (by omega)
                rw [← qa.2.1]
                exact this
              · have qb := pl b b0 (by omega)
                refine ⟨b, b0, by omega, Or.inr ⟨a, by omega, by omega, ?_⟩⟩
                unfold shr at b2 ⊢
                omega
          omega
        exact hP _ _ _ _ ⟨⟨i1, i2, i3, i4, i5, i6, i7, i8, i9, i10, i11⟩, rfl, by omega, by omega, fun _ => e⟩ y01
    refine c_overlap (Fr := fun c => ∀ y, A 8 c ≤ y → y < A 8 c + A 3 c → A 24 (1000 * A 9 c + y) = 0) hmo p1 (by omega) n2 n3 (fun i a b => by have := p3 i a b; unfold rg; omega) (fun c c0 c1 => by have := pl c c0 c1; omega) (fun c c0 c1 => ?_) (fun e => ?_) (fun e => ?_)
    · have a := pl c c0 c1
      have b := pq c c0 c1
      exact free_iff i10 (by omega) (by omega) (by omega) (by omega) (by omega)
    · exact ⟨⟨by omega, by omega⟩, fun k => absurd k (by omega), fun _ => ⟨by omega, by omega, m 1 0 (Or.inr rfl) ⟨fun _ => e, fun _ => rfl⟩⟩⟩
    · exact ⟨⟨by omega, by omega⟩, fun k => ⟨by omega, by omega, m 0 0 (Or.inl rfl) ⟨fun k => by omega, fun k => absurd k e⟩⟩, fun k => absurd rfl k⟩
  · refine ⟨rfl, ⟨by omega, by omega⟩, fun g => ?_, fun g => absurd (by omega) g⟩
    refine Lp2_by (fun x1 x3 => x1 = 0 ∧ x3 = 0) (fun x1 x3 => 0) ?_ 0 0 ⟨rfl, rfl⟩
    rintro x1 x3 ⟨rfl, rfl⟩ P' hP'
    have fin : P 1 0 (uf F 10 1) A := hP _ _ _ _ ⟨⟨i1, i2, i3, i4, i5, i6, i7, i8, i9, i10, i11⟩, rfl, by omega, by omega, fun h => by omega⟩ (Or.inl rfl)
    exact ⟨⟨by omega, by omega⟩, ⟨by show _ ≤ F 13; omega, by show F 13 ≤ _; omega⟩, fun _ => ⟨Or.inl rfl, fin⟩, fun _ => ⟨⟨by show _ ≤ (1 : Int); omega, by show (1 : Int) ≤ _; omega⟩, fun _ => ⟨Or.inl rfl, fin⟩, fun g => absurd g (by show ¬ (1 : Int) = 0; omega)⟩⟩
end OP4
