/-! IMPROVE, both loops -/
theorem WS_congr {w w2 na nb x x2 ro ro2 : Int → Int} {m n : Int} (hn : ∀ k, 0 ≤ k → k < m → 0 ≤ na k ∧ na k < n ∧ 0 ≤ nb k ∧ nb k < n) (h : ∀ c, 0 ≤ c → c < n → w c = w2 c ∧ x c = x2 c ∧ ro c = ro2 c) : WS w na nb m x ro = WS w2 na nb m x2 ro2 := by
  unfold WS
  refine sumN_congr (fun k k0 k1 => ?_)
  obtain ⟨q1, q2, q3, q4⟩ := hn k k0 (by omega)
  obtain ⟨a1, a2, a3⟩ := h _ q1 q2
  obtain ⟨b1, b2, b3⟩ := h _ q3 q4
  unfold netf dst
  rw [a1, a2, a3, b1, b2, b3]
theorem gd_congr {w w2 l l2 rr rr2 na nb x x2 ro ro2 : Int → Int} {m n a b : Int} (hn : ∀ k, 0 ≤ k → k < m → 0 ≤ na k ∧ na k < n ∧ 0 ≤ nb k ∧ nb k < n) (h : ∀ c, 0 ≤ c → c < n → w c = w2 c ∧ l c = l2 c ∧ rr c = rr2 c ∧ x c = x2 c ∧ ro c = ro2 c) (ha : 0 ≤ a ∧ a < n) (hb : 0 ≤ b ∧ b < n) :
    gd w l rr na nb m x ro a b ↔ gd w2 l2 rr2 na nb m x2 ro2 a b := by
  have e1 : WS w na nb m x ro = WS w2 na nb m x2 ro2 := WS_congr hn (fun c c0 c1 => by obtain ⟨q1, q2, q3, q4, q5⟩ := h c c0 c1; exact ⟨q1, q4, q5⟩)
  obtain ⟨a1, a2, a3, a4, a5⟩ := h a ha.1 ha.2
  obtain ⟨b1, b2, b3, b4, b5⟩ := h b hb.1 hb.2
  have e2 : WS w na nb m (swp x a b) (swp ro a b) = WS w2 na nb m (swp x2 a b) (swp ro2 a b) := WS_congr hn (fun c c0 c1 => by
    obtain ⟨q1, q2, q3, q4, q5⟩ := h c c0 c1
    unfold swp
    rw [a4, a5, b4, b5, q4, q5]
    exact ⟨q1, rfl, rfl⟩)
  unfold gd
  rw [e1, e2, a1, a2, a3, b1, b2, b3]
theorem fst2_congr {n : Int} {G G' : Int → Int → Prop} (h : ∀ a b, 0 ≤ a → a < b → b < n → (G a b ↔ G' a b)) {a b : Int} (f : fst2 n G a b) : fst2 n G' a b := by
  obtain ⟨f1, f2, f3, f4, f5⟩ := f
  exact ⟨f1, f2, f3, (h a b f1 f2 f3).1 f4, fun a' b' q1 q2 q3 q4 q5 => f5 a' b' q1 q2 q3 q4 ((h a' b' q1 q2 q3).2 q5)⟩
theorem fst2_one {n : Int} {G : Int → Int → Prop} {a b a' b' : Int} (f : fst2 n G a b) (g : fst2 n G a' b') : a = a' ∧ b = b' := by
  obtain ⟨f1, f2, f3, f4, f5⟩ := f
  obtain ⟨g1, g2, g3, g4, g5⟩ := g
  have u : ¬ (a' < a ∨ (a' = a ∧ b' < b)) := fun k => f5 a' b' g1 g2 g3 k g4
  have v : ¬ (a < a' ∨ (a = a' ∧ b < b')) := fun k => g5 a b f1 f2 f3 k f4
  omega
section OP6
variable {mo mb : Nat} {r st : Int} {F : Nat → Int} {A : Nat → Int → Int} {P : Int → Int → (Nat → Int) → (Nat → Int → Int) → Prop}
theorem c_imp {Q : Int → (Nat → Int) → (Nat → Int → Int) → Prop} {QX : String → Prop} {na nb : Int → Int} {steps : Int} (s0 : 0 ≤ steps) (s1 : steps ≤ 2147483647) (r1 : r ≤ 16) (st1 : st ≤ 1000) (n0 : 0 ≤ F 4) (n1 : F 4 ≤ 60) (m0 : 0 ≤ F 5) (m1 : F 5 ≤ 80) (hN : iv_net (F 4) (F 5) (A 11) (A 12) (A 13) na nb) (hk : ∀ c, 0 ≤ c → c < F 4 → 1 ≤ A 3 c ∧ A 3 c ≤ 40 ∧ 0 ≤ A 4 c ∧ A 4 c ≤ 3 ∧ 0 ≤ A 5 c ∧ A 5 c ≤ 3)
    (hpl : ∀ c, 0 ≤ c → c < F 4 → 0 ≤ A 8 c ∧ A 8 c + A 3 c ≤ st ∧ 0 ≤ A 9 c ∧ A 9 c < r)
    (hQ : ∀ z A', 0 ≤ z → z ≤ steps → (∀ k, k ≠ 8 → k ≠ 9 → A' k = A k) → (∀ c, 0 ≤ c → c < F 4 → 0 ≤ A' 8 c ∧ A' 8 c + A 3 c ≤ st ∧ 0 ≤ A' 9 c ∧ A' 9 c < r) → XRun (F 4) (gd (A 3) (A 4) (A 5) na nb (F 5)) steps.toNat (A 8) (A 9) z.toNat (A' 8) (A' 9) → Q z F A') : w_Lr_improve_b20 mo Q QX steps 0 F A := by
  refine Lp3_by (fun x2 F' A' => F' = F ∧ 0 ≤ x2 ∧ x2 ≤ steps ∧ (∀ k, k ≠ 8 → k ≠ 9 → A' k = A k) ∧ (∀ c, 0 ≤ c → c < F 4 → 0 ≤ A' 8 c ∧ A' 8 c + A 3 c ≤ st ∧ 0 ≤ A' 9 c ∧ A' 9 c < r) ∧ ∀ z x' ro', XRun (F 4) (gd (A 3) (A 4) (A 5) na nb (F 5)) (steps - x2).toNat (A' 8) (A' 9) z x' ro' → XRun (F 4) (gd (A 3) (A 4) (A 5) na nb (F 5)) steps.toNat (A 8) (A 9) (x2.toNat + z) x' ro') (fun x2 _ _ => (steps - x2).toNat) ?_ 0 F A ⟨rfl, by omega, by omega, fun _ _ _ => rfl, hpl, fun z x' ro' h => by
    rw [show (0 : Int).toNat + z = z by omega]
    rw [show (steps - 0).toNat = steps.toNat by omega] at h
    exact h⟩
  rintro x2 F' A' ⟨rfl, g0, g1, fr, pl, xr⟩ P hP
  refine ⟨⟨by omega, by omega⟩, ⟨by omega, by omega⟩, fun h => ?_, fun h => ?_⟩
  · refine hQ x2 A' g0 g1 fr pl ?_
    have := xr 0 (A' 8) (A' 9) (by rw [show (steps - x2).toNat = 0 by omega]; exact ⟨rfl, rfl, rfl⟩)
    exact this
  · obtain ⟨k, hk1⟩ : ∃ k : Nat, (steps - x2).toNat = k + 1 := ⟨(steps - x2 - 1).toNat, by omega⟩
    have e3 := fr 3 (by decide) (by decide)
    have e4 := fr 4 (by decide) (by decide)
    have e5 := fr 5 (by decide) (by decide)
    refine c_exch (na := na) (nb := nb) n0 n1 m0 m1 (by rw [fr 11 (by decide) (by decide), fr 12 (by decide) (by decide), fr 13 (by decide) (by decide)]; exact hN) (fun c c0 c1 => ?_) (fun a b f => ?_) (fun nn => ?_)
    · have q1 := pl c c0 c1
      have q2 := hk c c0 c1
      rw [e3, e4, e5]
      omega
    · rw [e3, e4, e5] at f
      have fw := f.2.2.2.1.1
      have ha := f.1
      have hab := f.2.1
      have hb := f.2.2.1
      refine ⟨⟨by omega, by omega⟩, fun e => absurd e (by omega), fun _ => hP _ _ _ ⟨rfl, by omega, by omega, fun k k1 k2 => by rw [xc_n k1 k2]; exact fr k k1 k2, ?_, ?_⟩ (by omega)⟩
      · rw [xc_1 (by decide), xc_2 (by decide)]
        intro c c0 c1
        have qa := pl a ha (by omega)
        have qb := pl b (by omega) hb
        have qc := pl c c0 c1
        unfold swp
        by_cases ec : c = b
        · subst ec; rw [if_pos rfl, if_pos rfl]; omega
        · rw [if_neg ec, if_neg ec]
          by_cases ed : c = a
          · subst ed; rw [if_pos rfl, if_pos rfl]; omega
          · rw [if_neg ed, if_neg ed]; omega
      · rw [xc_1 (by decide), xc_2 (by decide)]
        intro z x' ro' hx
        rw [show (x2 + 1).toNat + z = x2.toNat + (z + 1) by omega]
        refine xr (z + 1) x' ro' ?_
        rw [hk1]
        rw [show (steps - (x2 + 1)).toNat = k by omega] at hx
        exact Or.inr ⟨a, b, z, f, rfl, hx⟩
    · rw [e3, e4, e5] at nn
      refine ⟨rg_0, fun _ => ?_, fun e => absurd rfl e⟩
      refine hQ x2 A' g0 g1 fr pl ?_
      refine xr 0 (A' 8) (A' 9) ?_
      rw [hk1]
      exact Or.inl ⟨nn, rfl, rfl, rfl⟩
theorem m_imp {Q : Int → (Nat → Int) → (Nat → Int → Int) → Prop} {w l rr x' ro' : Int → Int} {steps T : Int} (f10 : F 10 = 0) (s1 : steps ≤ 2147483647) (n0 : 0 ≤ F 13) (n1 : F 13 ≤ 60) (m0 : 0 ≤ F 14) (m1 : F 14 ≤ 80) (hn : ∀ k, 0 ≤ k → k < F 14 → 0 ≤ A 31 k ∧ A 31 k < F 13 ∧ 0 ≤ A 32 k ∧ A 32 k < F 13)
    (hk : ∀ c, 0 ≤ c → c < F 13 → w c = A 25 c ∧ l c = A 26 c ∧ rr c = A 27 c ∧ 1 ≤ A 25 c ∧ A 25 c ≤ 40 ∧ 0 ≤ A 26 c ∧ A 26 c ≤ 3 ∧ 0 ≤ A 27 c ∧ A 27 c ≤ 3)
    (I : Int → (Nat → Int) → (Nat → Int → Int) → Prop) (hI : ∀ x2 F A, (rg (F 10) ∧ ((¬ (F 10) = 0 → Q x2 F A) ∧ ((F 10) = 0 → rg x2 ∧ rg steps ∧ ((steps ≤ x2 → Q x2 F A) ∧ (¬ steps ≤ x2 → w_Mo_isExchanged mo F A (fun z4 F4 A4 => rg z4 ∧ ((z4 = 0 → Q x2 F4 A4) ∧ (¬ z4 = 0 → I (x2 + 1) F4 A4)))))))) → I x2 F A)
    (hQ : ∀ A', (∀ k, k ≠ 33 → k ≠ 34 → A' k = A k) → (∀ c, 0 ≤ c → c < F 13 → A' 33 c = x' c ∧ A' 34 c = ro' c) → Q T F A') (k : Nat) :
    ∀ (x2 : Int) (x ro : Int → Int) (z : Nat) (A1 : Nat → Int → Int), XRun (F 13) (gd w l rr (A 31) (A 32) (F 14)) k x ro z x' ro' → 0 ≤ x2 → x2 + k = steps → x2 + z = T → (∀ k, k ≠ 33 → k ≠ 34 → A1 k = A k) → (∀ c, 0 ≤ c → c < F 13 → A1 33 c = x c ∧ A1 34 c = ro c ∧ 0 ≤ x c ∧ x c ≤ 1000 ∧ 0 ≤ ro c ∧ ro c ≤ 16) → I x2 F A1 := by
  induction k with
  | zero =>
    intro x2 x ro z A1 hx h0 h1 h2 fr pl
    obtain ⟨hz, hx1, hx2⟩ := hx
    subst hz hx1 hx2
    have hq : Q x2 F A1 := by
      rw [show x2 = T by omega]
      exact hQ A1 fr (fun c c0 c1 => ⟨(pl c c0 c1).1, (pl c c0 c1).2.1⟩)
    exact hI _ _ _ ⟨⟨by omega, by omega⟩, fun _ => hq, fun _ => ⟨⟨by omega, by omega⟩, ⟨by omega, by omega⟩, fun _ => hq, fun e => absurd (by omega) e⟩⟩
  | succ k ih =>
    intro x2 x ro z A1 hx h0 h1 h2 fr pl
    refine hI _ _ _ ⟨⟨by omega, by omega⟩, fun e => absurd f10 e, fun _ => ⟨⟨by omega, by omega⟩, ⟨by omega, by omega⟩, fun e => absurd e (by omega), fun e => ?_⟩⟩
    have e25 := fr 25 (by decide) (by decide)
    have e26 := fr 26 (by decide) (by decide)
    have e27 := fr 27 (by decide) (by decide)
    have e31 := fr 31 (by decide) (by decide)
    have e32 := fr 32 (by decide) (by decide)
    have gc : ∀ a b, 0 ≤ a → a < b → b < F 13 → (gd w l rr (A 31) (A 32) (F 14) x ro a b ↔ gd (A 25) (A 26) (A 27) (A 31) (A 32) (F 14) (A1 33) (A1 34) a b) := fun a b a0 a1 a2 => gd_congr (n := F 13) hn (fun c c0 c1 => by
      obtain ⟨q1, q2, q3, _⟩ := hk c c0 c1
      obtain ⟨p1, p2, _⟩ := pl c c0 c1
      exact ⟨q1, q2, q3, p1.symm, p2.symm⟩) ⟨a0, by omega⟩ ⟨by omega, a2⟩
    refine m_exch n0 n1 m0 m1 (by rw [e31, e32]; exact hn) (fun c c0 c1 => ?_) (fun a b f => ?_) (fun nn => ?_)
    · have q := hk c c0 c1
      have p := pl c c0 c1
      rw [e25, e26, e27]
      omega
    · rw [e25, e26, e27, e31, e32] at f
      have f' : fst2 (F 13) (gd w l rr (A 31) (A 32) (F 14) x ro) a b := fst2_congr (fun a b a0 a1 a2 => (gc a b a0 a1 a2).symm) f
      rcases hx with ⟨nn, _⟩ | ⟨a', b', z1, ff, hz, hr⟩
      · exact absurd f'.2.2.2.1 (nn a b f'.1 f'.2.1 f'.2.2.1)
      · obtain ⟨ea, eb⟩ := fst2_one f' ff
        subst ea eb
        refine ⟨⟨by omega, by omega⟩, fun e => absurd e (by omega), fun _ => ?_⟩
        refine ih (x2 + 1) _ _ z1 _ hr (by omega) (by omega) (by omega) (fun k k1 k2 => by rw [xc_n k1 k2]; exact fr k k1 k2) ?_
        rw [xc_1 (by decide), xc_2 (by decide)]
        intro c c0 c1
        have ha := f.1
        have hab := f.2.1
        have hb := f.2.2.1
        have qa := pl a ha (by omega)
        have qb := pl b (by omega) hb
        have qc := pl c c0 c1
        unfold swp
        by_cases ec : c = b
        · rw [if_pos ec, if_pos ec, if_pos ec, if_pos ec]; omega
        · rw [if_neg ec, if_neg ec, if_neg ec, if_neg ec]
          by_cases ed : c = a
          · rw [if_pos ed, if_pos ed, if_pos ed, if_pos ed]; omega
          · rw [if_neg ed, if_neg ed, if_neg ed, if_neg ed]; omega
    · rw [e25, e26, e27, e31, e32] at nn
      refine ⟨rg_0, fun _ => ?_, fun e => absurd rfl e⟩
      rcases hx with ⟨_, hz, hx1, hx2⟩ | ⟨a', b', z1, ff, hz, hr⟩
      · subst hz hx1 hx2
        rw [show x2 = T by omega]
        exact hQ A1 fr (fun c c0 c1 => ⟨(pl c c0 c1).1, (pl c c0 c1).2.1⟩)
      · exact absurd ((gc a' b' ff.1 ff.2.1 ff.2.2.1).1 ff.2.2.2.1) (nn a' b' ff.1 ff.2.1 ff.2.2.1)
theorem op_improve (hI : Inv mb r st F A) (steps : Int) (hs : rg steps) (hP : ∀ z z2 F2 A2, Ok mb r st z z2 F2 A2 → rg z2 → P z z2 F2 A2) :
    w_La_improve mo F A steps (fun z F1 A1 => w_Mo_improve mo F1 A1 steps (fun z2 F2 A2 => P z z2 F2 A2)) := by
  obtain ⟨i1, i2, i3, i4, i5, i6, i7, i8, i9, i10, i11⟩ := id hI
  obtain ⟨n1, n2, n3, n4, n5, n6, n7, n8⟩ := id i2
  obtain ⟨r1, r2, r3, r4, r5, r6, r7, r8⟩ := id i1
  obtain ⟨hs0, hs1⟩ := hs
  have e13 : F 13 = F 4 := n1.symm
  have e14 : F 14 = F 5 := n4.symm
  have bad : ∀ e : Int, ¬ e = 0 → 0 ≤ e → e ≤ 3 → w_Mo_improve_b21 mo (fun z2 F2 A2 => P e z2 F2 A2) steps e F A := fun e e0 e1 e2 => by
    refine Lp3_by (fun x2 F' A' => x2 = 0 ∧ F' = uf F 10 e ∧ A' = A) (fun _ _ _ => 0) ?_ 0 _ _ ⟨rfl, rfl, rfl⟩
    rintro x2 F' A' ⟨rfl, rfl, rfl⟩ P' hP'
    refine ⟨⟨by show _ ≤ e; omega, by show e ≤ _; omega⟩, fun _ => ?_, fun k => absurd k e0⟩
    exact hP _ _ _ _ ⟨⟨i1, i2, i3, i4, i5, i6, i7, i8, i9, i10, i11⟩, rfl, e1, e2, fun h => absurd h e0⟩ rg_0
  refine ⟨⟨by omega, by omega⟩, fun h => ⟨⟨hs0, hs1⟩, fun g => ?_, fun g => Or.inr ⟨rfl, ⟨by omega, by omega⟩, fun _ => ⟨⟨hs0, hs1⟩, fun k => absurd k g, fun _ => bad 2 (by omega) (by omega) (by omega)⟩, fun k => absurd k (by omega)⟩⟩, fun h => Or.inl ⟨rfl, ⟨by omega, by omega⟩, fun k => absurd (by omega) k, fun _ => bad 1 (by omega) (by omega) (by omega)⟩⟩
  have pl := Inv_pl hI (by omega)
  have pq := i11 (by omega)
  refine c_imp (r := r) (st := st) (na := A 31) (nb := A 32) g (by omega) r6 r8 n2 n3 n5 n6 i9 (fun c c0 c1 => ?_) (fun c c0 c1 => ?_) (fun z A' z0 z1 fr pl' xr => ?_)
  · have a := i3 c c0 c1
    have b := i4 c c0 (by omega)
    have d := i5 c c0 (by omega)
    omega
  · have a := pq c c0 c1
    omega
  · refine ⟨⟨by omega, by omega⟩, by omega, by omega, ?_⟩
    refine ⟨⟨by omega, by omega⟩, fun _ => ⟨⟨hs0, hs1⟩, fun _ => ?_, fun k => absurd g k⟩, fun k => absurd k (by omega)⟩
    intro I hIc
    have fA : ∀ k, k ≠ 8 → k ≠ 9 → k ≠ 42 → ua A' 42 0 z k = A k := fun k k1 k2 k3 => by rw [ua_n k3]; exact fr k k1 k2
    have f4 : uf F 10 0 13 = F 13 := uf_n (by decide)
    have f5 : uf F 10 0 14 = F 14 := uf_n (by decide)
    refine m_imp (mo := mo) (F := uf F 10 0) (A := ua A' 42 0 z) (w := A 3) (l := A 4) (rr := A 5) (x' := A' 8) (ro' := A' 9) (steps := steps) (T := z) uf_s hs1 (by rw [f4]; omega) (by rw [f4]; omega) (by rw [f5]; omega) (by rw [f5]; omega) ?_ ?_ I hIc ?_ steps.toNat 0 (A 8) (A 9) z.toNat _ ?_ (by omega) (by omega) (by omega) (fun _ _ _ => rfl) ?_
    · rw [f4, f5, fA 31 (by decide) (by decide) (by decide), fA 32 (by decide) (by decide) (by decide)]
      intro k k0 k1
      have := i9.1 k k0 (by omega)
      omega
    · rw [f4, fA 25 (by decide) (by decide) (by decide), fA 26 (by decide) (by decide) (by decide), fA 27 (by decide) (by decide) (by decide)]
      intro c c0 c1
      have a := i3 c c0 (by omega)
      have b := i4 c c0 (by omega)
      have d := i5 c c0 (by omega)
      omega
    · rw [f4]
      intro A2 fr2 ag
      have g2 : ∀ k, k ≠ 8 → k ≠ 9 → k ≠ 42 → k ≠ 33 → k ≠ 34 → A2 k = A k := fun k k1 k2 k3 k4 k5 => by rw [fr2 k k4 k5]; exact fA k k1 k2 k3
      have g3 := g2 3 (by decide) (by decide) (by decide) (by decide) (by decide)
      have g8 : A2 8 = A' 8 := by rw [fr2 8 (by decide) (by decide), ua_n (by decide)]
      have g9 : A2 9 = A' 9 := by rw [fr2 9 (by decide) (by decide), ua_n (by decide)]
      refine hP _ _ _ _ ⟨⟨i1, i2, ?_, ?_, ?_, ?_, ?_, ?_, ?_, ?_, ?_⟩, rfl, by omega, by omega, fun _ => ?_⟩ ⟨by omega, by omega⟩
      · rw [g3, g2 25 (by decide) (by decide) (by decide) (by decide) (by decide)]; exact i3
      · rw [g2 4 (by decide) (by decide) (by decide) (by decide) (by decide), g2 26 (by decide) (by decide) (by decide) (by decide) (by decide)]; exact i4
      · rw [g2 5 (by decide) (by decide) (by decide) (by decide) (by decide), g2 27 (by decide) (by decide) (by decide) (by decide) (by decide)]; exact i5
      · rw [g2 6 (by decide) (by decide) (by decide) (by decide) (by decide), g2 28 (by decide) (by decide) (by decide) (by decide) (by decide)]; exact i6
      · rw [g2 7 (by decide) (by decide) (by decide) (by decide) (by decide), g2 29 (by decide) (by decide) (by decide) (by decide) (by decide)]; exact i7
      · rw [g2 10 (by decide) (by decide) (by decide) (by decide) (by decide), g2 30 (by decide) (by decide) (by decide) (by decide) (by decide)]; exact i8
      · rw [g2 11 (by decide) (by decide) (by decide) (by decide) (by decide), g2 12 (by decide) (by decide) (by decide) (by decide) (by decide), g2 13 (by decide) (by decide) (by decide) (by decide) (by decide), g2 31 (by decide) (by decide) (by decide) (by decide) (by decide), g2 32 (by decide) (by decide) (by decide) (by decide) (by decide)]; exact i9
      · rw [g2 0 (by decide) (by decide) (by decide) (by decide) (by decide), g2 1 (by decide) (by decide) (by decide) (by decide) (by decide), g2 2 (by decide) (by decide) (by decide) (by decide) (by decide), g2 24 (by decide) (by decide) (by decide) (by decide) (by decide)]; exact i10
      · rw [g3, g8, g9]
        intro _ c c0 c1
        have c1' : c < F 4 := c1
        have a := ag c c0 (by omega)
        have b := pl' c c0 c1'
        omega
      · rw [fr2 42 (by decide) (by decide), ua_at, if_pos rfl]
    · rw [f4, f5, fA 31 (by decide) (by decide) (by decide), fA 32 (by decide) (by decide) (by decide), e13, e14]
      exact xr
    · rw [f4, fA 33 (by decide) (by decide) (by decide), fA 34 (by decide) (by decide) (by decide)]
      intro c c0 c1
      have a := pl c c0 (by omega)
      omega
end OP6
