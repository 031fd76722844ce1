/-! THE CLASS: the cheapest part; append; settle -/
/-- the first of the cheapest among 0 .. q - 1, or -1 -/
def bst (q : Int) (fe : Int → Prop) (co : Int → Int) (i v : Int) : Prop :=
  (i = -1 ∧ ∀ j, 0 ≤ j → j < q → ¬ fe j) ∨ (0 ≤ i ∧ i < q ∧ fe i ∧ v = co i ∧ ∀ j, 0 ≤ j → j < q → fe j → co i ≤ co j ∧ (j < i → co i < co j))
theorem bst_0 {fe : Int → Prop} {co : Int → Int} {v : Int} : bst 0 fe co (-1) v := Or.inl ⟨rfl, fun j a b => by omega⟩
theorem bst_skip {q i v : Int} {fe : Int → Prop} {co : Int → Int} (h : bst q fe co i v) (h2 : fe q → ¬ i = -1 ∧ v ≤ co q) : bst (q + 1) fe co i v := by
  rcases h with ⟨a, b⟩ | ⟨a, b, c, d, e⟩
  · refine Or.inl ⟨a, fun j j0 j1 => ?_⟩
    by_cases x : j = q
    · rw [x]
      intro g
      exact (h2 g).1 a
    · exact b j j0 (by omega)
  · refine Or.inr ⟨a, by omega, c, d, fun j j0 j1 g => ?_⟩
    by_cases x : j = q
    · rw [x] at g ⊢
      have := (h2 g).2
      exact ⟨by omega, fun k => by omega⟩
    · exact e j j0 (by omega) g
theorem bst_take {q i v : Int} {fe : Int → Prop} {co : Int → Int} (h : bst q fe co i v) (q0 : 0 ≤ q) (g : fe q) (h2 : i = -1 ∨ co q < v) : bst (q + 1) fe co q (co q) := by
  refine Or.inr ⟨q0, by omega, g, rfl, fun j j0 j1 k => ?_⟩
  by_cases x : j = q
  · rw [x]
    exact ⟨Int.le_refl _, fun y => by omega⟩
  · rcases h with ⟨a, b⟩ | ⟨a, b, c, d, e⟩
    · exact absurd k (b j j0 (by omega))
    · have := (e j j0 (by omega) k).1
      exact ⟨by omega, fun _ => by omega⟩
theorem bst_one {q i v i' v' : Int} {fe fe' : Int → Prop} {co co' : Int → Int} (h : bst q fe co i v) (h' : bst q fe' co' i' v') (hf : ∀ j, 0 ≤ j → j < q → (fe j ↔ fe' j) ∧ co j = co' j) : i = i' := by
  rcases h with ⟨a, b⟩ | ⟨a, b, c, d, e⟩
  · rcases h' with ⟨a', b'⟩ | ⟨a', b', c', d', e'⟩
    · rw [a, a']
    · exact absurd ((hf i' a' b').1.2 c') (b i' a' b')
  · rcases h' with ⟨a', b'⟩ | ⟨a', b', c', d', e'⟩
    · exact absurd ((hf i a b).1.1 c) (b' i a b)
    · have x := e i' a' b' ((hf i' a' b').1.2 c')
      have y := e' i a b ((hf i a b).1.1 c)
      have := (hf i a b).2
      have := (hf i' a' b').2
      by_cases k : i < i'
      · have := y.2 k
        omega
      · by_cases k : i' < i
        · have := x.2 k
          omega
        · omega
def fe (wd : Int → Int) (sp : Int → Int → Int) (pf pt : Int → Int) (lns : Int → Nat → Int) (ms : Int → Nat) (c j : Int) : Prop := 0 ≤ pt j - pf j - lenF wd sp (app (lns j) (ms j) c) (ms j + 1)
def co (wd wt wr : Int → Int) (sp : Int → Int → Int) (pr pf pt : Int → Int) (lns : Int → Nat → Int) (ms : Int → Nat) (c j : Int) : Int := LC wd wt sp (pf j) (pt j) (app (lns j) (ms j) c) (ms j + 1) - LC wd wt sp (pf j) (pt j) (lns j) (ms j) + 20 * (((wr c - pr j).natAbs : Nat) : Int)
def PB (p : Int) (pr pf pt : Int → Int) : Prop := ∀ i, 0 ≤ i → i < p → 0 ≤ pr i ∧ pr i ≤ 15 ∧ 0 ≤ pf i ∧ pf i < pt i ∧ pt i ≤ 1000
/-- the lines of the parts: within bounds, each has room -/
def LI (n : Int) (wd : Int → Int) (sp : Int → Int → Int) (p : Int) (pf pt : Int → Int) (lns : Int → Nat → Int) (ms : Int → Nat) (k : Nat) : Prop := ∀ i, 0 ≤ i → i < p → lnIn n (lns i) (ms i) ∧ ms i ≤ k ∧ 0 ≤ pt i - pf i - lenF wd sp (lns i) (ms i)
def lst (ln : Nat → Int) : Nat → Int
  | 0 => -1
  | k + 1 => ln k
section RUN3
variable {mo : Nat} {F : Nat → Int} {A : Nat → Int → Int} {n p : Int} {wd wt wr : Int → Int} {sp : Int → Int → Int} {pr pf pt : Int → Int} {lns : Int → Nat → Int} {ms : Int → Nat} {k : Nat} {ln : Nat → Int} {m : Nat}
theorem co_in {c j : Int} (hB : BD n wd wt wr sp) (hP : PB p pr pf pt) (hI : LI n wd sp p pf pt lns ms k) (hk : k ≤ 60) (c0 : 0 ≤ c) (c1 : c < n) (j0 : 0 ≤ j) (j1 : j < p) (h : fe wd sp pf pt lns ms c j) :
    max 0 (max (pf j - wt c) (wt c + wd c - pt j)) + 20 * (((wr c - pr j).natAbs : Nat) : Int) ≤ co wd wt wr sp pr pf pt lns ms c j ∧ co wd wt wr sp pr pf pt lns ms c j ≤ 62000 := by
  obtain ⟨a, b, d⟩ := hI j j0 j1
  obtain ⟨q1, q2, q3, q4, q5⟩ := hP j j0 j1
  have w := hB c c0 c1
  have x := LC_ge (wt := wt) hB a c0 c1 h
  have y := LC_in (wt := wt) hB (app_in a c0 c1) q3 q5 (by omega) h
  have z := LC_in (wt := wt) hB a q3 q5 (by omega) d
  unfold co
  omega
theorem c_cheapest {Q : Int → (Nat → Int) → (Nat → Int → Int) → Prop} {c : Int} (hmo : (mo : Int) ≤ 8000) (hB : BD n wd wt wr sp) (hC : CD n wd wt wr sp A) (hn : n ≤ 60) (hP : PB p pr pf pt) (hI : LI n wd sp p pf pt lns ms k) (hk : k < 60) (c0 : 0 ≤ c) (c1 : c < n) (p0 : 0 ≤ p) (p1 : p ≤ mo) (e3 : F 3 = p) (e0 : A 0 = pr) (e1 : A 1 = pf) (e2 : A 2 = pt)
    (hH : ∀ i, 0 ≤ i → i < p → CH (lns i) (ms i) i A ∧ A 18 i = LC wd wt sp (pf i) (pt i) (lns i) (ms i))
    (hQ : ∀ z v F' A', bst p (fe wd sp pf pt lns ms c) (co wd wt wr sp pr pf pt lns ms c) z v → frF [6, 7, 8, 9] F' F → frA [19, 20, 21, 22, 23] A' A → Q z F' A') : w_Fi_cheapestPart mo F A c Q := by
  refine Lp5_by (fun (x2 x3 x4 : Int) F' A' => 0 ≤ x4 ∧ x4 ≤ p ∧ frF [6, 7, 8, 9] F' F ∧ frA [19, 20, 21, 22, 23] A' A ∧ bst x4 (fe wd sp pf pt lns ms c) (co wd wt wr sp pr pf pt lns ms c) x2 x3) (fun (x2 x3 x4 : Int) _ _ => (p - x4).toNat) ?_ (-1) 0 0 F A ⟨by omega, p0, frF_r, frA_r, bst_0⟩
  rintro x2 x3 x4 F1 A1 ⟨g0, g1, ff, fr, gb⟩ P hP'
  have f3 : F1 3 = p := by rw [ff 3 (by decide)]; exact e3
  rw [f3]
  refine ⟨⟨by omega, by omega⟩, ⟨by omega, by omega⟩, fun h => hQ x2 x3 F1 A1 (by rw [show p = x4 by omega]; exact gb) ff fr, fun h => ?_⟩
  have h4 : x4 < p := by omega
  obtain ⟨a, b, d⟩ := hI x4 g0 h4
  obtain ⟨q1, q2, q3, q4, q5⟩ := hP x4 g0 h4
  have w := hB c c0 c1
  have hC1 := CD_fr hC (frA_s fr (by decide))
  have a0 : A1 0 = pr := (fr 0 (by decide)).trans e0
  have a1 : A1 1 = pf := (fr 1 (by decide)).trans e1
  have a2 : A1 2 = pt := (fr 2 (by decide)).trans e2
  have hb2 : rg x2 ∧ (¬ x2 = -1 → rg x3 ∧ 0 ≤ x2 ∧ x2 < x4) := by
    rcases gb with ⟨x, _⟩ | ⟨x, y, z, v, _⟩
    · rw [x]
      exact ⟨⟨by omega, by omega⟩, fun h => absurd rfl h⟩
    · have := co_in hB hP hI (by omega) c0 c1 x (by omega) z
      exact ⟨⟨by omega, by omega⟩, fun _ => ⟨⟨by omega, by omega⟩, x, y⟩⟩
  have L : (x2 = -1 ∨ rg x3) → w_Fi_cheapestPart_b38 mo Q P c x2 x3 x4 F1 A1 := fun hx => by
    refine c_layWith (ln := lns x4) (m := ms x4) hB hC1 a hn (by omega) g0 (by omega) ?_ c0 c1 (by rw [a1]; exact q3) (by rw [a1, a2]; omega) (by rw [a2]; exact q5) (fun hr F2 A2 ff2 fr2 => ?_) (fun hr F2 A2 ff2 fr2 e9 => ?_)
    · have := (hH x4 g0 h4).1
      unfold CH at this ⊢
      rw [fr 15 (by decide), fr 16 (by decide)]
      exact this
    · refine ⟨⟨by omega, by omega⟩, fun _ => hP' _ _ _ _ _ ⟨by omega, by omega, frF_t ff2 ff, frA_t fr2 fr, bst_skip gb (fun g => ?_)⟩ (by omega), fun h => absurd rfl h⟩
      unfold fe at g
      rw [a1, a2] at hr
      omega
    · rw [a1, a2] at hr e9
      have hf : fe wd sp pf pt lns ms c x4 := hr
      have ci := co_in hB hP hI (by omega) c0 c1 g0 h4 hf
      have eco : F2 9 - A2 18 x4 + 20 * (((wr c - pr x4).natAbs : Nat) : Int) = co wd wt wr sp pr pf pt lns ms c x4 := by
        rw [e9, fr2 18 (by decide), fr 18 (by decide), (hH x4 g0 h4).2]
        rfl
      have e7 : A2 7 c = wr c := by rw [fr2 7 (by decide)]; exact (hC1 c c0 c1).2.2.1
      have e00 : A2 0 x4 = pr x4 := by rw [fr2 0 (by decide), a0]
      have take : (x2 = -1 ∨ co wd wt wr sp pr pf pt lns ms c x4 < x3) → P x4 (co wd wt wr sp pr pf pt lns ms c x4) (x4 + 1) F2 A2 := fun h => hP' _ _ _ _ _ ⟨by omega, by omega, frF_t ff2 ff, frA_t fr2 fr, bst_take gb g0 hf h⟩ (by omega)
      refine ⟨⟨by omega, by omega⟩, fun h => absurd h (by omega), fun _ => ⟨g0, by omega, c0, by omega, ?_, ?_⟩⟩
      · rw [e7, e00]
        exact ⟨by omega, by omega⟩
      · rw [e7, e00]
        dsimp only
        rw [eco]
        refine ⟨hb2.1, fun h => take (Or.inl h), fun h => ⟨⟨by omega, by omega⟩, (hb2.2 h).1, fun g => hP' _ _ _ _ _ ⟨by omega, by omega, frF_t ff2 ff, frA_t fr2 fr, bst_skip gb (fun _ => ⟨h, g⟩)⟩ (by omega), fun g => take (Or.inr (by omega))⟩⟩
  refine ⟨hb2.1, fun h => L (Or.inl h), fun h => ?_⟩
  obtain ⟨r3, z0, z1⟩ := hb2.2 h
  have c3 := hC1 c c0 c1
  unfold w_Fi_costAtLeast
  rw [a0, a1, a2, c3.1, c3.2.1]
  refine ⟨c0, by omega, g0, by omega, ⟨by omega, by omega⟩, ⟨by omega, by omega⟩, ⟨by omega, by omega⟩, c0, by omega, ?_, ?_⟩
  · rw [c3.2.2.1]
    exact ⟨by omega, by omega⟩
  · rw [c3.2.2.1]
    refine ⟨⟨by omega, by omega⟩, r3, fun _ => L (Or.inr r3), fun g => hP' _ _ _ _ _ ⟨by omega, by omega, ff, fr, bst_skip gb (fun hf => ⟨h, ?_⟩)⟩ (by omega)⟩
    have ci := co_in hB hP hI (by omega) c0 c1 g0 h4 hf
    omega
theorem c_append {Q : (Nat → Int) → (Nat → Int → Int) → Prop} {i c : Int} (i0 : 0 ≤ i) (i1 : i < mo) (hn : n ≤ 60) (c0 : 0 ≤ c) (c1 : c < n) (hl : lnIn n ln m) (hH : CH ln m i A) (hL : A 17 i = lst ln m) (hd : ∀ a b, a < b → b < m → ln a ≠ ln b) (hc : ∀ a, a < m → ln a ≠ c)
    (hQ : ∀ A', frA [15, 16, 17] A' A → A' 17 i = c → (∀ j, j ≠ i → A' 17 j = A 17 j ∧ A' 16 j = A 16 j) → CH (app ln m c) (m + 1) i A' → (∀ x, x ≠ c → (∀ a, a < m → ln a ≠ x) → A' 15 x = A 15 x) → Q F A') : w_Fi_append mo F A c i Q := by
  have key : ∀ A', CH (app ln m c) (m + 1) i (ua (ua A' 17 i c) 15 c (-1)) → frA [15, 16, 17] A' A → (∀ j, j ≠ i → A' 17 j = A 17 j ∧ A' 16 j = A 16 j) → (∀ x, x ≠ c → (∀ a, a < m → ln a ≠ x) → A' 15 x = A 15 x) → w_Fi_append_b32 mo Q c i F A' := by
    intro A' h1 h2 h3 h4
    refine ⟨i0, i1, c0, by omega, hQ _ (frA_u (frA_u h2 (by decide)) (by decide)) ?_ (fun j hj => ?_) h1 (fun x hx hx2 => ?_)⟩
    · rw [ua_n (by decide), ua_at, if_pos rfl]
    · rw [ua_n (a := 17) (by decide), ua_at, if_neg hj, ua_n (a := 16) (by decide), ua_n (a := 16) (by decide)]
      exact h3 j hj
    · rw [ua_at, if_neg hx, ua_n (by decide)]
      exact h4 x hx hx2
  unfold w_Fi_append
  rw [hL]
  by_cases e : m = 0
  · subst e
    show 0 ≤ i ∧ i < (mo : Int) ∧ rg (-1) ∧ ((¬ (-1 : Int) = -1 → _) ∧ ((-1 : Int) = -1 → _))
    refine ⟨i0, i1, ⟨by omega, by omega⟩, fun h => absurd rfl h, fun _ => key _ ⟨?_, fun j hj => ?_⟩ (frA_u frA_r (by decide)) (fun j hj => ⟨by rw [ua_n (by decide)], by rw [ua_at, if_neg hj]⟩) (fun x _ _ => by rw [ua_n (by decide)])⟩
    · rw [ua_n (a := 16) (by decide), ua_n (a := 16) (by decide), ua_at, if_pos rfl]
      unfold nxt
      rw [if_pos (by omega), app_eq]
    · have ej : j = 0 := by omega
      subst ej
      rw [app_eq, ua_at, if_pos rfl]
      unfold nxt
      rw [if_neg (by omega)]
  · obtain ⟨q, rfl⟩ : ∃ q, m = q + 1 := ⟨m - 1, by omega⟩
    rw [show lst ln (q + 1) = ln q from rfl]
    obtain ⟨l1, l2⟩ := hl q (by omega)
    refine ⟨i0, i1, ⟨by omega, by omega⟩, fun _ => ⟨l1, by omega, key _ ⟨?_, fun j hj => ?_⟩ (frA_u frA_r (by decide)) (fun j hj => ⟨by rw [ua_n (by decide)], by rw [ua_n (by decide)]⟩) (fun x _ hx => by rw [ua_at, if_neg (fun e => hx q (by omega) e.symm)])⟩, fun h => absurd h (by omega)⟩
    · rw [ua_n (a := 16) (by decide), ua_n (a := 16) (by decide), ua_n (a := 16) (by decide), hH.1]
      unfold nxt
      rw [if_pos (by omega), if_pos (by omega), app_lt (by omega)]
    · by_cases ej : j = q + 1
      · rw [ej, app_eq, ua_at, if_pos rfl]
        unfold nxt
        rw [if_neg (by omega)]
      · rw [app_lt (by omega), ua_at, if_neg (hc j (by omega)), ua_n (by decide), ua_at]
        unfold nxt
        by_cases e2 : j = q
        · rw [e2, if_pos rfl, if_pos (by omega), app_eq]
        · rw [if_neg (hd j q (by omega) (by omega)), if_pos (by omega), app_lt (by omega)]
          have := hH.2 j (by omega)
          unfold nxt at this
          rw [if_pos (by omega)] at this
          exact this
theorem c_put {Q : (Nat → Int) → (Nat → Int → Int) → Prop} {row : Int} (hn : n ≤ 60) (hm : m ≤ 60) (hl : lnIn n ln m) (h7 : F 7 = m) (h19 : ∀ j : Nat, j < m → A 19 j = ln j) (hd : ∀ a b, a < b → b < m → ln a ≠ ln b)
    (hQ : ∀ A', frA [8, 9] A' A → (∀ j : Nat, j < m → A' 8 (ln j) = A 22 j ∧ A' 9 (ln j) = row) → (∀ c, (∀ j, j < m → ln j ≠ c) → A' 8 c = A 8 c ∧ A' 9 c = A 9 c) → Q F A') : w_Li_putCells mo F A row Q := by
  refine Lp3_by (fun (x2 : Int) F' A' => ∃ i : Nat, x2 = i ∧ i ≤ m ∧ F' = F ∧ frA [8, 9] A' A ∧ (∀ j : Nat, j < i → A' 8 (ln j) = A 22 j ∧ A' 9 (ln j) = row) ∧ (∀ c, (∀ j, j < i → ln j ≠ c) → A' 8 c = A 8 c ∧ A' 9 c = A 9 c)) (fun (x2 : Int) _ _ => (m - x2).toNat) ?_ 0 F A ⟨0, rfl, by omega, rfl, frA_r, fun j h => by omega, fun _ _ => ⟨rfl, rfl⟩⟩
  rintro x2 F1 A1 ⟨i, rfl, i1, rfl, fr, i2, i3⟩ P hP
  rw [h7]
  refine ⟨⟨by omega, by omega⟩, ⟨by omega, by omega⟩, fun h => ?_, fun h => ?_⟩
  · have e : i = m := by omega
    subst e
    exact hQ A1 fr i2 i3
  · obtain ⟨l1, l2⟩ := hl i (by omega)
    rw [fr 19 (by decide), fr 22 (by decide), h19 i (by omega)]
    refine ⟨by omega, by omega, l1, by omega, hP _ _ _ ⟨i + 1, by omega, by omega, rfl, frA_u (frA_u fr (by decide)) (by decide), fun j hj => ?_, fun c hc => ?_⟩ (by omega)⟩
    · rw [ua_n (a := 8) (by decide), ua_at, ua_at]
      by_cases e : j = i
      · rw [e, if_pos rfl, if_pos rfl]
        exact ⟨rfl, rfl⟩
      · rw [if_neg (hd j i (by omega) (by omega)), if_neg (hd j i (by omega) (by omega)), ua_n (a := 9) (by decide)]
        exact i2 j (by omega)
    · have e := hc i (by omega)
      rw [ua_n (a := 8) (by decide), ua_at, ua_at, if_neg (fun x => e x.symm), if_neg (fun x => e x.symm), ua_n (a := 9) (by decide)]
      exact i3 c (fun j hj => hc j (by omega))
theorem c_settle {Q : (Nat → Int) → (Nat → Int → Int) → Prop} {i : Int} (hB : BD n wd wt wr sp) (hC : CD n wd wt wr sp A) (hl : lnIn n ln m) (hn : n ≤ 60) (hm : m ≤ 60) (i0 : 0 ≤ i) (i1 : i < mo) (hH : CH ln m i A) (hd : ∀ a b, a < b → b < m → ln a ≠ ln b) (f0 : 0 ≤ A 1 i) (ft : A 1 i ≤ A 2 i) (t1 : A 2 i ≤ 1000) (hr : 0 ≤ A 2 i - A 1 i - lenF wd sp ln m)
    (hQ : ∀ F' A' B, frF [6, 7, 8, 9] F' F → frA [8, 9, 18, 19, 20, 21, 22, 23] A' A → A' 18 i = LC wd wt sp (A 1 i) (A 2 i) ln m → (∀ j, j ≠ i → A' 18 j = A 18 j) → bleast (dF wd wt sp (A 1 i) ln) B (A 2 i - A 1 i - lenF wd sp ln m) m → (∀ j : Nat, j < m → A' 8 (ln j) = A 1 i + offF wd sp ln j + wback B m (A 2 i - A 1 i - lenF wd sp ln m) j ∧ A' 9 (ln j) = A 0 i) → (∀ c, (∀ j, j < m → ln j ≠ c) → A' 8 c = A 8 c ∧ A' 9 c = A 9 c) → Q F' A') : w_Fi_settle mo F A i Q := by
  refine c_gather hC hl hn hm i0 i1 hH (fun F1 A1 ff1 fr1 L1 => ?_)
  refine ⟨i0, i1, ?_⟩
  rw [fr1 1 (by decide), fr1 2 (by decide)]
  refine c_layIn hB hl hn hm (fun c a b => by rw [fr1 6 (by decide)]; exact (hC c a b).2.1) L1 f0 ft t1 (fun h => absurd h (by omega)) (fun _ F3 A3 B ff3 fr3 hb e9 e22 => ?_)
  refine ⟨⟨by omega, by omega⟩, fun h => absurd h (by omega), fun _ => ?_⟩
  have fr := frA_t (frA_s fr3 (T := [8, 9, 18, 19, 20, 21, 22, 23]) (by decide)) (frA_s fr1 (by decide))
  rw [fr 0 (by decide)]
  refine c_put hn hm hl (by rw [ff3 7 (by decide)]; exact L1.1) (fun j hj => by rw [ua_n (by decide), fr3 19 (by decide)]; exact (L1.2.2 j hj).1) hd (fun A4 fr4 p1 p2 => ?_)
  refine hQ _ _ B (frF_t (frF_s ff3 (by decide)) (frF_s ff1 (by decide))) (frA_t (frA_s fr4 (by decide)) (frA_u fr (by decide))) ?_ (fun j hj => ?_) hb (fun j hj => ?_) (fun c hc => ?_)
  · rw [fr4 18 (by decide), ua_at, if_pos rfl]
    exact e9
  · rw [fr4 18 (by decide), ua_at, if_neg hj, fr3 18 (by decide), fr1 18 (by decide)]
  · refine ⟨?_, (p1 j hj).2⟩
    rw [(p1 j hj).1, ua_n (by decide)]
    exact e22 j hj
  · obtain ⟨x, y⟩ := p2 c hc
    rw [x, y, ua_n (a := 8) (by decide), ua_n (a := 9) (by decide), fr3 8 (by decide), fr3 9 (by decide), fr1 8 (by decide), fr1 9 (by decide)]
    exact ⟨rfl, rfl⟩
end RUN3
