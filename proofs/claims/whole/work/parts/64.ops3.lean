/-! NET, MOVED, WIRE: sums and chains -/
theorem lastE_congr {co co' : Int → Int} {c : Int} (t : Nat) (h : ∀ j : Nat, j < t → co' j = co j) : lastE co' c t = lastE co c t := by
  induction t with
  | zero => rfl
  | succ t ih =>
    show (if co' t = c then (t : Int) else lastE co' c t) = (if co t = c then (t : Int) else lastE co c t)
    rw [h t (by omega), ih (fun j hj => h j (by omega))]
theorem iv_net_add {n m a b : Int} {co ne fe na nb co' ne' fe' na' nb' : Int → Int} (h : iv_net n m co ne fe na nb) (hn : n ≤ 60) (hm : 0 ≤ m) (ha0 : 0 ≤ a) (ha1 : a < n) (hb0 : 0 ≤ b) (hb1 : b < n) (hab : ¬ a = b)
    (hco : ∀ j, co' j = if j = 2 * m + 1 then b else if j = 2 * m then a else co j)
    (hne : ∀ j, ne' j = if j = 2 * m + 1 then (if b = a then 2 * m else fe b) else if j = 2 * m then fe a else ne j)
    (hfe : ∀ j, fe' j = if j = b then 2 * m + 1 else if j = a then 2 * m else fe j)
    (hna : ∀ j, na' j = if j = m then a else na j) (hnb : ∀ j, nb' j = if j = m then b else nb j) : iv_net n (m + 1) co' ne' fe' na' nb' := by
  obtain ⟨h1, h2, h3⟩ := h
  have hT : (2 * (m + 1)).toNat = (2 * m).toNat + 1 + 1 := by omega
  have hTi : (((2 * m).toNat : Nat) : Int) = 2 * m := by omega
  have lt : ∀ j : Nat, j < (2 * m).toNat → co' j = co j := fun j hj => by
    rw [hco, if_neg (by omega), if_neg (by omega)]
  have c0 : co' (((2 * m).toNat : Nat) : Int) = a := by rw [hTi, hco, if_neg (by omega), if_pos rfl]
  have c1 : co' ((((2 * m).toNat + 1 : Nat)) : Int) = b := by rw [show ((((2 * m).toNat + 1 : Nat)) : Int) = 2 * m + 1 by omega, hco, if_pos rfl]
  refine ⟨fun k k0 k1 => ?_, fun c k0 k1 => ?_, fun e he => ?_⟩
  · by_cases e : k = m
    · subst e
      rw [hco, hco, hna, hnb, if_neg (by omega), if_pos rfl, if_pos rfl, if_pos rfl, if_pos rfl]
      exact ⟨rfl, rfl, ha0, ha1, hb0, hb1, hab⟩
    · have u1 : co' (2 * k) = co (2 * k) := by rw [hco, if_neg (by omega), if_neg (by omega)]
      have u2 : co' (2 * k + 1) = co (2 * k + 1) := by rw [hco, if_neg (by omega), if_neg (by omega)]
      have u3 : na' k = na k := by rw [hna, if_neg e]
      have u4 : nb' k = nb k := by rw [hnb, if_neg e]
      rw [u1, u2, u3, u4]
      exact h1 k k0 (by omega)
  · rw [hT]
    show _ = (if co' (((2 * m).toNat + 1 : Nat) : Int) = c then ((((2 * m).toNat + 1 : Nat)) : Int) else (if co' (((2 * m).toNat : Nat) : Int) = c then (((2 * m).toNat : Nat) : Int) else lastE co' c (2 * m).toNat))
    rw [c0, c1, lastE_congr _ lt, hfe, ← h2 c k0 k1]
    by_cases e1 : c = b
    · rw [if_pos e1, if_pos e1.symm]; omega
    · have e1' : ¬ b = c := fun e => e1 e.symm
      rw [if_neg e1, if_neg e1']
      by_cases e2 : c = a
      · rw [if_pos e2, if_pos e2.symm]; omega
      · have e2' : ¬ a = c := fun e => e2 e.symm
        rw [if_neg e2, if_neg e2']
  · rw [hT] at he
    by_cases e1 : e < (2 * m).toNat
    · rw [lt e e1, hne, if_neg (by omega), if_neg (by omega), h3 e e1, lastE_congr _ (fun j hj => lt j (by omega))]
    · by_cases e2 : e = (2 * m).toNat
      · subst e2
        rw [c0, hne, hTi, if_neg (by omega), if_pos rfl, lastE_congr _ lt]
        exact h2 a ha0 (by omega)
      · have e3 : e = (2 * m).toNat + 1 := by omega
        subst e3
        rw [c1, hne, if_pos (by omega), if_neg (fun e => hab e.symm)]
        show _ = (if co' (((2 * m).toNat : Nat) : Int) = b then (((2 * m).toNat : Nat) : Int) else lastE co' b (2 * m).toNat)
        rw [c0, if_neg hab, lastE_congr _ lt]
        exact h2 b hb0 (by omega)
def sumN (f : Int → Int) : Nat → Int
  | 0 => 0
  | k + 1 => sumN f k + f k
theorem sumN_S (f : Int → Int) {x : Int} (h : 0 ≤ x) : sumN f (x + 1).toNat = sumN f x.toNat + f x := by
  rw [show (x + 1).toNat = x.toNat + 1 by omega]
  show sumN f x.toNat + f ((x.toNat : Nat) : Int) = _
  rw [Int.toNat_of_nonneg h]
theorem sumN_congr {f g : Int → Int} {n : Nat} (h : ∀ k : Int, 0 ≤ k → k < n → f k = g k) : sumN f n = sumN g n := by
  induction n with
  | zero => rfl
  | succ n ih =>
    show sumN f n + f n = sumN g n + g n
    rw [ih (fun k a b => h k a (by omega)), h n (by omega) (by omega)]
theorem sumN_in {f : Int → Int} {n : Nat} {B : Int} (h : ∀ k : Int, 0 ≤ k → k < n → 0 ≤ f k ∧ f k ≤ B) : 0 ≤ sumN f n ∧ sumN f n ≤ n * B := by
  induction n with
  | zero => exact ⟨Int.le_refl _, by show (0 : Int) ≤ ((0 : Nat) : Int) * B; omega⟩
  | succ n ih =>
    obtain ⟨a, b⟩ := ih (fun k a b => h k a (by omega))
    have c := h n (by omega) (by omega)
    show 0 ≤ sumN f n + f n ∧ sumN f n + f n ≤ ((n + 1 : Nat) : Int) * B
    rw [show ((n + 1 : Nat) : Int) = (n : Int) + 1 by omega, Int.add_mul]
    omega
def wayf (x wx ro wr : Int → Int) (c : Int) : Int := (((x c - wx c).natAbs : Nat) : Int) + 20 * (((wr c - ro c).natAbs : Nat) : Int)
def dst (w x ro : Int → Int) (a b : Int) : Int := (((2 * x a + w a - (2 * x b + w b)).natAbs : Nat) : Int) + 40 * (((ro a - ro b).natAbs : Nat) : Int)
section OP3
variable {mo mb : Nat} {r st : Int} {F : Nat → Int} {A : Nat → Int → Int} {P : Int → Int → (Nat → Int) → (Nat → Int → Int) → Prop} {Q : Int → Prop}
theorem c_way (n0 : 0 ≤ F 4) (n1 : F 4 ≤ 60) (hx : ∀ c, 0 ≤ c → c < F 4 → 0 ≤ A 8 c ∧ A 8 c ≤ 1000 ∧ 0 ≤ A 9 c ∧ A 9 c ≤ 16 ∧ 0 ≤ A 6 c ∧ A 6 c ≤ 1000 ∧ 0 ≤ A 7 c ∧ A 7 c ≤ 16) (hQ : Q (sumN (wayf (A 8) (A 6) (A 9) (A 7)) (F 4).toNat)) : w_Ce_wayFromWanted mo F A Q := by
  refine Lp2_by (fun x1 x3 => 0 ≤ x3 ∧ x3 ≤ F 4 ∧ x1 = sumN (wayf (A 8) (A 6) (A 9) (A 7)) x3.toNat) (fun x1 x3 => (F 4 - x3).toNat) ?_ 0 0 ⟨by omega, by omega, rfl⟩
  rintro x1 x3 ⟨h0, h1, h2⟩ P hP
  refine ⟨⟨by omega, by omega⟩, ⟨by omega, by omega⟩, fun h => ?_, fun h => ?_⟩
  · rw [h2, show x3 = F 4 by omega]; exact hQ
  · obtain ⟨q1, q2, q3, q4, q5, q6, q7, q8⟩ := hx x3 h0 (by omega)
    refine ⟨h0, by omega, ⟨by omega, by omega⟩, ⟨h0, by omega, ⟨by omega, by omega⟩, ⟨by omega, by omega⟩, ?_⟩⟩
    refine hP _ _ ⟨by omega, by omega, ?_⟩ (by omega)
    rw [sumN_S _ h0, h2]
    rfl
theorem m_way {Q : Int → (Nat → Int) → (Nat → Int → Int) → Prop} (f0 : F 10 = 0) (n0 : 0 ≤ F 13) (n1 : F 13 ≤ 60) (hx : ∀ c, 0 ≤ c → c < F 13 → 0 ≤ A 33 c ∧ A 33 c ≤ 1000 ∧ 0 ≤ A 34 c ∧ A 34 c ≤ 16 ∧ 0 ≤ A 28 c ∧ A 28 c ≤ 1000 ∧ 0 ≤ A 29 c ∧ A 29 c ≤ 16) (hQ : Q (sumN (wayf (A 33) (A 28) (A 34) (A 29)) (F 13).toNat) F A) : w_Mo_moved_b20 mo Q F A 0 0 := by
  refine Lp2_by (fun x1 x3 => 0 ≤ x3 ∧ x3 ≤ F 13 ∧ x1 = sumN (wayf (A 33) (A 28) (A 34) (A 29)) x3.toNat) (fun x1 x3 => (F 13 - x3).toNat) ?_ 0 0 ⟨by omega, by omega, rfl⟩
  rintro x1 x3 ⟨h0, h1, h2⟩ P hP
  refine ⟨⟨by omega, by omega⟩, ⟨by omega, by omega⟩, fun h => ?_, fun h => ?_⟩
  · rw [h2, show x3 = F 13 by omega]; exact hQ
  · obtain ⟨q1, q2, q3, q4, q5, q6, q7, q8⟩ := hx x3 h0 (by omega)
    have nx : P (x1 + wayf (A 33) (A 28) (A 34) (A 29) x3) (x3 + 1) := hP _ _ ⟨by omega, by omega, by rw [sumN_S _ h0, h2]⟩ (by omega)
    unfold wayf at nx
    refine ⟨⟨by omega, by omega⟩, fun h => absurd f0 h, fun _ => ⟨h0, by omega, ⟨by omega, by omega⟩, ⟨by omega, by omega⟩, fun g => ?_, fun g => ?_⟩⟩
    all_goals refine ⟨⟨by omega, by omega⟩, ⟨by omega, by omega⟩, ⟨by omega, by omega⟩, fun g2 => ⟨⟨by omega, by omega⟩, ?_⟩, fun g2 => ⟨⟨by omega, by omega⟩, ?_⟩⟩
    · rw [show (((A 33 x3 - A 28 x3).natAbs : Nat) : Int) = A 28 x3 - A 33 x3 by omega, show (((A 29 x3 - A 34 x3).natAbs : Nat) : Int) = A 29 x3 - A 34 x3 by omega] at nx; exact nx
    · rw [show (((A 33 x3 - A 28 x3).natAbs : Nat) : Int) = A 28 x3 - A 33 x3 by omega, show (((A 29 x3 - A 34 x3).natAbs : Nat) : Int) = A 34 x3 - A 29 x3 by omega] at nx; exact nx
    · rw [show (((A 33 x3 - A 28 x3).natAbs : Nat) : Int) = A 33 x3 - A 28 x3 by omega, show (((A 29 x3 - A 34 x3).natAbs : Nat) : Int) = A 29 x3 - A 34 x3 by omega] at nx; exact nx
    · rw [show (((A 33 x3 - A 28 x3).natAbs : Nat) : Int) = A 33 x3 - A 28 x3 by omega, show (((A 29 x3 - A 34 x3).natAbs : Nat) : Int) = A 34 x3 - A 29 x3 by omega] at nx; exact nx
theorem c_dst {a b : Int} (ha : 0 ≤ a ∧ a < 60) (hb : 0 ≤ b ∧ b < 60) (hx : ∀ c, c = a ∨ c = b → -2000 ≤ A 8 c ∧ A 8 c ≤ 2000 ∧ 0 ≤ A 9 c ∧ A 9 c ≤ 16 ∧ 0 ≤ A 3 c ∧ A 3 c ≤ 40) (hQ : Q (dst (A 3) (A 8) (A 9) a b)) : w_Ce_distance mo F A a b Q := by
  obtain ⟨q1, q2, q3, q4, q5, q6⟩ := hx a (Or.inl rfl)
  obtain ⟨p1, p2, p3, p4, p5, p6⟩ := hx b (Or.inr rfl)
  refine ⟨ha.1, ha.2, ⟨ha.1, ha.2, hb.1, hb.2, ⟨hb.1, hb.2, ⟨by omega, by omega⟩, ⟨by omega, by omega⟩, ?_⟩⟩⟩
  unfold dst at hQ
  rw [show A 8 a + (A 8 a + A 3 a) - A 8 b - (A 8 b + A 3 b) = 2 * A 8 a + A 3 a - (2 * A 8 b + A 3 b) by omega]
  exact hQ
def netf (w x ro na nb : Int → Int) (k : Int) : Int := dst w x ro (na k) (nb k)
theorem c_wire (n1 : F 4 ≤ 60) (m0 : 0 ≤ F 5) (m1 : F 5 ≤ 80) {na nb : Int → Int} (hn : ∀ k, 0 ≤ k → k < F 5 → A 11 (2 * k) = na k ∧ A 11 (2 * k + 1) = nb k ∧ 0 ≤ na k ∧ na k < F 4 ∧ 0 ≤ nb k ∧ nb k < F 4 ∧ na k ≠ nb k) (hx : ∀ c, 0 ≤ c → c < F 4 → 0 ≤ A 8 c ∧ A 8 c ≤ 1000 ∧ 0 ≤ A 9 c ∧ A 9 c ≤ 16 ∧ 0 ≤ A 3 c ∧ A 3 c ≤ 40) (hQ : Q (sumN (netf (A 3) (A 8) (A 9) na nb) (F 5).toNat)) : w_Ne_length mo F A Q := by
  refine Lp2_by (fun x1 x3 => 0 ≤ x3 ∧ x3 ≤ F 5 ∧ x1 = sumN (netf (A 3) (A 8) (A 9) na nb) x3.toNat) (fun x1 x3 => (F 5 - x3).toNat) ?_ 0 0 ⟨by omega, by omega, rfl⟩
  rintro x1 x3 ⟨h0, h1, h2⟩ P hP
  refine ⟨⟨by omega, by omega⟩, ⟨by omega, by omega⟩, fun h => ?_, fun h => ?_⟩
  · rw [h2, show x3 = F 5 by omega]; exact hQ
  · obtain ⟨q1, q2, q3, q4, q5, q6, q7⟩ := hn x3 h0 (by omega)
    refine ⟨by omega, by omega, by omega, by omega, ?_⟩
    rw [q1, q2]
    obtain ⟨a1, a2, a3, a4, a5, a6⟩ := hx _ q3 q4
    obtain ⟨b1, b2, b3, b4, b5, b6⟩ := hx _ q5 q6
    refine c_dst ⟨q3, by omega⟩ ⟨q5, by omega⟩ (fun c hc => by rcases hc with rfl | rfl <;> omega) ?_
    refine ⟨?_, hP _ _ ⟨by omega, by omega, ?_⟩ (by omega)⟩
    · unfold dst rg; omega
    · rw [sumN_S _ h0, h2]
      rfl
theorem m_far {a b : Int} (ha : -1000000 ≤ a ∧ a ≤ 1000000) (hb : -1000000 ≤ b ∧ b ≤ 1000000) (hQ : Q (((a - b).natAbs : Nat) : Int)) : w_Mo_far mo F A a b Q := by
  refine ⟨⟨by omega, by omega⟩, ⟨by omega, by omega⟩, fun g => ?_, fun g => ?_⟩
  · rw [show b - a = (((a - b).natAbs : Nat) : Int) by omega]; exact hQ
  · rw [show a - b = (((a - b).natAbs : Nat) : Int) by omega]; exact hQ
theorem m_wire (n1 : F 13 ≤ 60) (m0 : 0 ≤ F 14) (m1 : F 14 ≤ 80) (hn : ∀ k, 0 ≤ k → k < F 14 → 0 ≤ A 31 k ∧ A 31 k < F 13 ∧ 0 ≤ A 32 k ∧ A 32 k < F 13) (hx : ∀ c, 0 ≤ c → c < F 13 → 0 ≤ A 33 c ∧ A 33 c ≤ 1000 ∧ 0 ≤ A 34 c ∧ A 34 c ≤ 16 ∧ 0 ≤ A 25 c ∧ A 25 c ≤ 40) (hQ : Q (sumN (netf (A 25) (A 33) (A 34) (A 31) (A 32)) (F 14).toNat)) : w_Mo_wireOf mo F A Q := by
  refine Lp2_by (fun x1 x3 => 0 ≤ x3 ∧ x3 ≤ F 14 ∧ x1 = sumN (netf (A 25) (A 33) (A 34) (A 31) (A 32)) x3.toNat) (fun x1 x3 => (F 14 - x3).toNat) ?_ 0 0 ⟨by omega, by omega, rfl⟩
  rintro x1 x3 ⟨h0, h1, h2⟩ P hP
  refine ⟨⟨by omega, by omega⟩, ⟨by omega, by omega⟩, fun h => ?_, fun h => ?_⟩
  · rw [h2, show x3 = F 14 by omega]; exact hQ
  · obtain ⟨q3, q4, q5, q6⟩ := hn x3 h0 (by omega)
    obtain ⟨a1, a2, a3, a4, a5, a6⟩ := hx _ q3 q4
    obtain ⟨b1, b2, b3, b4, b5, b6⟩ := hx _ q5 q6
    refine ⟨by omega, by omega, by omega, by omega, by omega, by omega, m_far ⟨by omega, by omega⟩ ⟨by omega, by omega⟩ ⟨⟨by omega, by omega⟩, m_far ⟨by omega, by omega⟩ ⟨by omega, by omega⟩ ⟨⟨by omega, by omega⟩, hP _ _ ⟨by omega, by omega, ?_⟩ (by omega)⟩⟩⟩
    rw [sumN_S _ h0, h2]
    rfl
/-- what the invariant says of places -/
theorem Inv_pl (hI : Inv mb r st F A) (hp : F 0 = 1) : ∀ c, 0 ≤ c → c < F 4 → A 8 c = A 33 c ∧ A 9 c = A 34 c ∧ A 3 c = A 25 c ∧ A 6 c = A 28 c ∧ A 7 c = A 29 c ∧ 0 ≤ A 8 c ∧ A 8 c + A 3 c ≤ 1000 ∧ 0 ≤ A 9 c ∧ A 9 c < 16 ∧ 1 ≤ A 3 c ∧ A 3 c ≤ 40 ∧ 0 ≤ A 6 c ∧ A 6 c ≤ 1000 ∧ 0 ≤ A 7 c ∧ A 7 c < 16 := by
  obtain ⟨i1, i2, i3, i4, i5, i6, i7, i8, i9, i10, i11⟩ := id hI
  obtain ⟨r1, r2, r3, r4, r5, r6, r7, r8⟩ := id i1
  intro c h0 h1
  have n3 : F 4 ≤ 60 := i2.2.2.1
  have a := i3 c h0 h1
  have b := i6 c h0 (by omega)
  have d := i7 c h0 (by omega)
  have e := i11 hp c h0 h1
  omega
theorem op_net (hI : Inv mb r st F A) (a b : Int) (ha : rg a) (hb : rg b) (hP : ∀ z z2 F2 A2, Ok mb r st z z2 F2 A2 → (0 ≤ z2 ∧ z2 ≤ 1000) → P z z2 F2 A2) :
    w_La_net mo F A a b (fun z F1 A1 => w_Mo_net mo F1 A1 a b (fun z2 F2 A2 => P z z2 F2 A2)) := by
  obtain ⟨i1, i2, i3, i4, i5, i6, i7, i8, i9, i10, i11⟩ := id hI
  obtain ⟨n1, n2, n3, n4, n5, n6, n7, n8⟩ := id i2
  have z0 : (0 : Int) ≤ 0 ∧ (0 : Int) ≤ 1000 := by omega
  refine c_net n2 n3 n5 n6 ha.1 ha.2 hb.1 hb.2 (fun h => ?_) (fun h1 h2 => ?_) (fun h1 h2 h3 => ?_) (fun h1 h2 h3 => ?_)
  · refine m_net (by omega) (by omega) (by omega) (by omega) ha.1 ha.2 hb.1 hb.2 (fun g => ?_) (fun g1 g2 => absurd g1 (by omega)) (fun g1 g2 g3 => absurd g1 (by omega)) (fun g1 g2 g3 => absurd g1 (by omega))
    exact hP _ _ _ _ ⟨⟨i1, i2, i3, i4, i5, i6, i7, i8, i9, i10, i11⟩, rfl, by omega, by omega, fun h => by omega⟩ z0
  · refine m_net (by omega) (by omega) (by omega) (by omega) ha.1 ha.2 hb.1 hb.2 (fun g => absurd g (by omega)) (fun g1 g2 => ?_) (fun g1 g2 g3 => absurd g2 (by omega)) (fun g1 g2 g3 => absurd g2 (by omega))
    exact hP _ _ _ _ ⟨⟨i1, i2, i3, i4, i5, i6, i7, i8, i9, i10, i11⟩, rfl, by omega, by omega, fun h => by omega⟩ z0
  · refine m_net (by omega) (by omega) (by omega) (by omega) ha.1 ha.2 hb.1 hb.2 (fun g => absurd g (by omega)) (fun g1 g2 => absurd g2 (by omega)) (fun g1 g2 g3 => ?_) (fun g1 g2 g3 => absurd h3 g3)
    exact hP _ _ _ _ ⟨⟨i1, i2, i3, i4, i5, i6, i7, i8, i9, i10, i11⟩, rfl, by omega, by omega, fun h => by omega⟩ z0
  · have e14 : F 14 = F 5 := n4.symm
    refine m_net (by show 0 ≤ F 13; omega) (by show F 13 ≤ 60; omega) (by show 0 ≤ F 14; omega) (by show F 14 ≤ 80; omega) ha.1 ha.2 hb.1 hb.2 (fun g => absurd g (by show ¬ ¬ (0 ≤ a ∧ a < F 13 ∧ 0 ≤ b ∧ b < F 13); omega)) (fun g1 g2 => absurd g2 (by show ¬ F 14 = 80; omega)) (fun g1 g2 g3 => absurd g3 h3) (fun g1 g2 g3 => ?_)
    refine hP _ _ _ _ ⟨⟨i1, ⟨n1, n2, n3, by show F 5 + 1 = F 14 + 1; omega, by show 0 ≤ F 5 + 1; omega, by show F 5 + 1 ≤ 80; omega, n7, n8⟩, i3, i4, i5, i6, i7, i8, ?_, i10, i11⟩, rfl, by omega, by omega, fun h => by show F 5 + 1 - 1 = F 14 + 1 - 1; omega⟩ (by show 0 ≤ F 14 + 1 - 1 ∧ F 14 + 1 - 1 ≤ 1000; omega)
    refine iv_net_add (n := F 4) (m := F 5) (a := a) (b := b) i9 n3 n5 h1.1 h1.2.1 h1.2.2.1 h1.2.2.2 h3 (fun j => ?_) (fun j => ?_) (fun j => ?_) (fun j => ?_) (fun j => ?_)
    · simp (disch := decide) only [ua_n, ua_at]
    · simp (disch := decide) only [ua_n, ua_at]
    · simp (disch := decide) only [ua_n, ua_at]
    · simp (disch := decide) only [ua_n, ua_at, uf_n, e14]
    · simp (disch := decide) only [ua_n, ua_at, uf_n, e14]
theorem op_moved (hI : Inv mb r st F A) (hP : ∀ z z2 F2 A2, Ok mb r st z z2 F2 A2 → (0 ≤ z2 ∧ z2 ≤ 1000000) → P z z2 F2 A2) :
    w_La_moved mo F A (fun z F1 A1 => w_Mo_moved mo F1 A1 (fun z2 F2 A2 => P z z2 F2 A2)) := by
  obtain ⟨i1, i2, i3, i4, i5, i6, i7, i8, i9, i10, i11⟩ := id hI
  obtain ⟨n1, n2, n3, n4, n5, n6, n7, n8⟩ := id i2
  refine ⟨⟨by omega, by omega⟩, fun h => ?_, fun h => ?_⟩
  · have pl := Inv_pl hI (by omega)
    refine c_way n2 n3 (fun c c0 c1 => by have := pl c c0 c1; omega) ⟨by omega, by omega, ?_⟩
    have e13 : F 13 = F 4 := n1.symm
    refine ⟨⟨by show _ ≤ F 15; omega, by show F 15 ≤ _; omega⟩, fun g => absurd g (by show ¬ F 15 = 0; omega), fun g => ?_⟩
    refine m_way rfl (by show 0 ≤ F 13; omega) (by show F 13 ≤ 60; omega) (fun c c0 c1 => ?_) ?_
    · have := pl c c0 (by have : c < F 13 := c1; omega)
      show 0 ≤ A 33 c ∧ A 33 c ≤ 1000 ∧ 0 ≤ A 34 c ∧ A 34 c ≤ 16 ∧ 0 ≤ A 28 c ∧ A 28 c ≤ 1000 ∧ 0 ≤ A 29 c ∧ A 29 c ≤ 16
      omega
    · have e : sumN (wayf (A 33) (A 28) (A 34) (A 29)) (F 13).toNat = sumN (wayf (A 8) (A 6) (A 9) (A 7)) (F 4).toNat := by
        rw [e13]
        refine sumN_congr (fun k k0 k1 => ?_)
        have := pl k k0 (by omega)
        unfold wayf
        rw [this.1, this.2.1, this.2.2.2.1, this.2.2.2.2.1]
      have bd := sumN_in (f := wayf (A 8) (A 6) (A 9) (A 7)) (n := (F 4).toNat) (B := 2000) (fun k k0 k1 => by
        have := pl k k0 (by omega)
        unfold wayf
        omega)
      refine hP _ _ _ _ ⟨⟨i1, i2, i3, i4, i5, i6, i7, i8, i9, i10, i11⟩, rfl, by omega, by omega, fun h => ?_⟩ ?_
      · show sumN (wayf (A 8) (A 6) (A 9) (A 7)) (F 4).toNat = sumN (wayf (A 33) (A 28) (A 34) (A 29)) (F 13).toNat
        exact e.symm
      · show 0 ≤ sumN (wayf (A 33) (A 28) (A 34) (A 29)) (F 13).toNat ∧ sumN (wayf (A 33) (A 28) (A 34) (A 29)) (F 13).toNat ≤ 1000000
        rw [e]
        omega
  · refine ⟨rfl, ⟨by omega, by omega⟩, fun g => ?_, fun g => absurd (by omega) g⟩
    refine Lp2_by (fun x1 x3 => x1 = 0 ∧ x3 = 0) (fun x1 x3 => 0) ?_ 0 0 ⟨rfl, rfl⟩
    rintro x1 x3 ⟨rfl, rfl⟩ P' hP'
    have fin : P 1 0 (uf F 10 1) A := hP _ _ _ _ ⟨⟨i1, i2, i3, i4, i5, i6, i7, i8, i9, i10, i11⟩, rfl, by omega, by omega, fun h => by omega⟩ ⟨by omega, by omega⟩
    exact ⟨⟨by omega, by omega⟩, ⟨by show _ ≤ F 13; omega, by show F 13 ≤ _; omega⟩, fun _ => fin, fun _ => ⟨⟨by show _ ≤ (1 : Int); omega, by show (1 : Int) ≤ _; omega⟩, fun _ => fin, fun g => absurd g (by show ¬ (1 : Int) = 0; omega)⟩⟩
theorem op_wire (hI : Inv mb r st F A) (hP : ∀ z z2 F2 A2, Ok mb r st z z2 F2 A2 → (0 ≤ z2 ∧ z2 ≤ 1000000) → P z z2 F2 A2) :
    w_La_wire mo F A (fun z F1 A1 => w_Mo_wire mo F1 A1 (fun z2 F2 A2 => P z z2 F2 A2)) := by
  obtain ⟨i1, i2, i3, i4, i5, i6, i7, i8, i9, i10, i11⟩ := id hI
  obtain ⟨n1, n2, n3, n4, n5, n6, n7, n8⟩ := id i2
  refine ⟨⟨by omega, by omega⟩, fun h => ?_, fun h => ?_⟩
  · have pl := Inv_pl hI (by omega)
    refine c_wire n3 n5 n6 i9.1 (fun c c0 c1 => by have := pl c c0 c1; omega) ⟨by omega, by omega, ?_⟩
    have e13 : F 13 = F 4 := n1.symm
    have e14 : F 14 = F 5 := n4.symm
    refine ⟨⟨by show _ ≤ F 15; omega, by show F 15 ≤ _; omega⟩, fun g => absurd g (by show ¬ F 15 = 0; omega), fun g => ?_⟩
    refine ⟨⟨by omega, by omega⟩, fun _ => ?_, fun g => absurd (Int.le_refl 0) g⟩
    refine m_wire (by show F 13 ≤ 60; omega) (by show 0 ≤ F 14; omega) (by show F 14 ≤ 80; omega) (fun k k0 k1 => ?_) (fun c c0 c1 => ?_) ?_
    · have := i9.1 k k0 (by have : k < F 14 := k1; omega)
      show 0 ≤ A 31 k ∧ A 31 k < F 13 ∧ 0 ≤ A 32 k ∧ A 32 k < F 13
      omega
    · have := pl c c0 (by have : c < F 13 := c1; omega)
      show 0 ≤ A 33 c ∧ A 33 c ≤ 1000 ∧ 0 ≤ A 34 c ∧ A 34 c ≤ 16 ∧ 0 ≤ A 25 c ∧ A 25 c ≤ 40
      omega
    · have e : sumN (netf (A 25) (A 33) (A 34) (A 31) (A 32)) (F 14).toNat = sumN (netf (A 3) (A 8) (A 9) (A 31) (A 32)) (F 5).toNat := by
        rw [e14]
        refine sumN_congr (fun k k0 k1 => ?_)
        have q := i9.1 k k0 (by omega)
        have a := pl (A 31 k) (by omega) (by omega)
        have b := pl (A 32 k) (by omega) (by omega)
        unfold netf dst
        rw [a.1, a.2.1, a.2.2.1, b.1, b.2.1, b.2.2.1]
      have bd := sumN_in (f := netf (A 3) (A 8) (A 9) (A 31) (A 32)) (n := (F 5).toNat) (B := 5000) (fun k k0 k1 => by
        have q := i9.1 k k0 (by omega)
        have a := pl (A 31 k) (by omega) (by omega)
        have b := pl (A 32 k) (by omega) (by omega)
        unfold netf dst
        omega)
      refine hP _ _ _ _ ⟨⟨i1, i2, i3, i4, i5, i6, i7, i8, i9, i10, i11⟩, rfl, by omega, by omega, fun h => ?_⟩ ?_
      · show sumN (netf (A 3) (A 8) (A 9) (A 31) (A 32)) (F 5).toNat = sumN (netf (A 25) (A 33) (A 34) (A 31) (A 32)) (F 14).toNat
        exact e.symm
      · show 0 ≤ sumN (netf (A 25) (A 33) (A 34) (A 31) (A 32)) (F 14).toNat ∧ sumN (netf (A 25) (A 33) (A 34) (A 31) (A 32)) (F 14).toNat ≤ 1000000
        rw [e]
        omega
  · refine ⟨rfl, ⟨by omega, by omega⟩, fun g => ?_, fun g => absurd (by omega) g⟩
    exact ⟨⟨by omega, by omega⟩, fun g => absurd g (by omega), fun _ => hP _ _ _ _ ⟨⟨i1, i2, i3, i4, i5, i6, i7, i8, i9, i10, i11⟩, rfl, by omega, by omega, fun h => by omega⟩ ⟨by omega, by omega⟩⟩
end OP3
