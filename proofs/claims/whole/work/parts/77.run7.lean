/-! THE REFERENCE: the part taken -/
def key (pr pf : Int → Int) (i : Int) : Int := 1000 * pr i + pf i
section RUN7
variable {mo mb : Nat} {F : Nat → Int} {A : Nat → Int → Int} {n p r st : Int} {wd wt wr : Int → Int} {sp : Int → Int → Int} {pr pf pt : Int → Int} {lns : Int → Nat → Int} {ms : Int → Nat} {k : Nat}
theorem pt_PB {ba : Int → Int} (h : iv_pt mb r st p pr pf pt ba) (hr : r ≤ 16) (hst : st ≤ 1000) : PB p pr pf pt := fun i i0 i1 => by
  have := h.2.2.1 i i0 i1
  omega
theorem key_lt {ba : Int → Int} (h : iv_pt mb r st p pr pf pt ba) (hst : st ≤ 1000) {i j : Int} (i0 : 0 ≤ i) (ij : i < j) (j1 : j < p) : key pr pf i < key pr pf j := by
  have a := pt_sp h i j i0 ij j1
  have b := h.2.2.1 i i0 (by omega)
  have c := h.2.2.1 j (by omega) j1
  unfold key
  omega
theorem key_one {ba : Int → Int} (h : iv_pt mb r st p pr pf pt ba) (hst : st ≤ 1000) {i j : Int} (i0 : 0 ≤ i) (i1 : i < p) (j0 : 0 ≤ j) (j1 : j < p) (e : key pr pf i = key pr pf j) : i = j := by
  by_cases a : i < j
  · have := key_lt h hst i0 a j1
    omega
  · by_cases b : j < i
    · have := key_lt h hst j0 b i1
      omega
    · omega
/-- the parts below q are those before the place g -/
def QG (p : Int) (pr pf : Int → Int) (q g : Int) : Prop := 0 ≤ q ∧ q ≤ p ∧ ∀ j, 0 ≤ j → j < p → (j < q ↔ key pr pf j < g)
theorem QG_0 {ba : Int → Int} (h : iv_pt mb r st p pr pf pt ba) : QG p pr pf 0 0 := ⟨by omega, h.1, fun j a b => by have := h.2.2.1 j a b; unfold key; omega⟩
theorem QG_row {ba : Int → Int} (h : iv_pt mb r st p pr pf pt ba) (hst : st ≤ 1000) {q a x : Int} (hx : x = st) (hq : QG p pr pf q (1000 * a + x)) : QG p pr pf q (1000 * (a + 1) + 0) := by
  refine ⟨hq.1, hq.2.1, fun j j0 j1 => ?_⟩
  rw [hq.2.2 j j0 j1]
  have := h.2.2.1 j j0 j1
  unfold key
  omega
theorem QG_no {ba : Int → Int} (h : iv_pt mb r st p pr pf pt ba) (hst : st ≤ 1000) {q a x : Int} (x0 : 0 ≤ x) (x1 : x < st) (hq : QG p pr pf q (1000 * a + x)) (hn : ∀ i, 0 ≤ i → i < p → pr i = a → ¬ pf i = x) : QG p pr pf q (1000 * a + (x + 1)) := by
  refine ⟨hq.1, hq.2.1, fun j j0 j1 => ?_⟩
  rw [hq.2.2 j j0 j1]
  have b := h.2.2.1 j j0 j1
  have c := hn j j0 j1
  unfold key
  by_cases e : pr j = a
  · have := c e
    omega
  · omega
theorem QG_yes {ba : Int → Int} (h : iv_pt mb r st p pr pf pt ba) (hst : st ≤ 1000) {q a x i : Int} (hq : QG p pr pf q (1000 * a + x)) (i0 : 0 ≤ i) (i1 : i < p) (e1 : pr i = a) (e2 : pf i = x) : q = i ∧ QG p pr pf (q + 1) (1000 * a + (x + 1)) := by
  have ek : key pr pf i = 1000 * a + x := by unfold key; rw [e1, e2]
  obtain ⟨q0, q1, q2⟩ := hq
  have e : q = i := by
    by_cases c : i < q
    · have := (q2 i i0 i1).1 c
      omega
    · by_cases d : q < i
      · have := key_lt h hst q0 d i1
        have := (q2 q q0 (by omega)).2 (by omega)
        omega
      · omega
  refine ⟨e, by omega, by omega, fun j j0 j1 => ?_⟩
  constructor
  · intro hj
    by_cases c : j = q
    · rw [c, e, ek]
      omega
    · have := (q2 j j0 j1).1 (by omega)
      omega
  · intro hj
    by_cases c : j < q
    · omega
    · by_cases d : q < j
      · have := key_lt h hst q0 d j1
        rw [e, ek] at this
        omega
      · omega
theorem QG_end {ba : Int → Int} (h : iv_pt mb r st p pr pf pt ba) (hst : st ≤ 1000) {q : Int} (hq : QG p pr pf q (1000 * r + 0)) : q = p := by
  obtain ⟨q0, q1, q2⟩ := hq
  by_cases c : q < p
  · have b := h.2.2.1 q q0 c
    have := (q2 q q0 c).2 (by unfold key; omega)
    omega
  · omega
theorem RP_fr {A A' : Nat → Int → Int} {a f t : Int} {ln : Nat → Int} {m : Nat} (h : RP wd wt sp a f t ln m A) (e39 : A' 39 = A 39) (e40 : A' 40 = A 40) : RP wd wt sp a f t ln m A' := by
  unfold RP at h ⊢
  rw [e39, e40]
  exact h
set_option maxHeartbeats 1000000 in
theorem r_taken {Q : Int → (Nat → Int) → (Nat → Int → Int) → Prop} {c : Int} (h : iv_pt mb r st p pr pf pt (A 24)) (r0 : 0 ≤ r) (hr : r ≤ 16) (s0 : 0 ≤ st) (hst : st ≤ 1000) (e11 : F 11 = r) (e12 : F 12 = st) (hB : BD n wd wt wr sp) (hD : RD n wd wt wr sp A) (hn : n ≤ 60) (hI : LI n wd sp p pf pt lns ms k) (hk : k < 60) (c0 : 0 ≤ c) (c1 : c < n)
    (hR : ∀ i, 0 ≤ i → i < p → RP wd wt sp (pr i) (pf i) (pt i) (lns i) (ms i) A)
    (hQ0 : (∀ j, 0 ≤ j → j < p → ¬ fe wd sp pf pt lns ms c j) → ∀ F' A', frF [17, 18] F' F → frA [35, 39, 40, 41] A' A → Q 0 F' A')
    (hQ1 : ∀ z v F' A', 0 ≤ z → z < p → bst p (fe wd sp pf pt lns ms c) (co wd wt wr sp pr pf pt lns ms c) z v → frF [17, 18] F' F → frA [35, 39, 40, 41] A' A → A' 35 c = key pr pf z → (∀ x, x ≠ c → A' 35 x = A 35 x) → RP wd wt sp (pr z) (pf z) (pt z) (app (lns z) (ms z) c) (ms z + 1) A' → (∀ i, 0 ≤ i → i < p → i ≠ z → RP wd wt sp (pr i) (pf i) (pt i) (lns i) (ms i) A') → Q 1 F' A') : w_Mo_isTaken mo F A c Q := by
  have hP := pt_PB h hr hst
  refine Lp5_by (fun (x2 x4 x5 : Int) F' A' => 0 ≤ x5 ∧ x5 ≤ r ∧ frF [17, 18] F' F ∧ frA [41] A' A ∧ ∃ q z, QG p pr pf q (1000 * x5 + 0) ∧ bst q (fe wd sp pf pt lns ms c) (co wd wt wr sp pr pf pt lns ms c) z x2 ∧ ((z = -1 ∧ x4 = -1 ∧ x2 = 1000000000) ∨ (0 ≤ z ∧ x4 = key pr pf z))) (fun (x2 x4 x5 : Int) _ _ => (r - x5).toNat) ?_ 1000000000 (-1) 0 F A ⟨by omega, r0, frF_r, frA_r, 0, -1, QG_0 h, bst_0, Or.inl ⟨rfl, rfl, rfl⟩⟩
  rintro x2 x4 x5 F1 A1 ⟨g0, g1, ff, fr, q, z, hq, hb, hz⟩ P hP'
  have f11 : F1 11 = r := (ff 11 (by decide)).trans e11
  have f12 : F1 12 = st := (ff 12 (by decide)).trans e12
  rw [f11]
  refine ⟨⟨by omega, by omega⟩, ⟨by omega, by omega⟩, fun hx => ?_, fun hx => ?_⟩
  · have e5 : x5 = r := by omega
    subst e5
    have eq := QG_end h hst hq
    subst eq
    rcases hz with ⟨z1, z2, z3⟩ | ⟨z1, z2⟩
    · subst z2
      refine ⟨c0, by omega, ⟨by omega, by omega⟩, fun e => absurd rfl e, fun _ => hQ0 ?_ _ _ ff (frA_u (frA_s fr (by decide)) (by decide))⟩
      rcases hb with ⟨_, y⟩ | ⟨y, _⟩
      · exact y
      · omega
    · have zp : z < q := by
        rcases hb with ⟨y, _⟩ | ⟨_, y, _⟩
        · omega
        · exact y
      obtain ⟨q1, q2, q3, q4, q5⟩ := hP z z1 zp
      obtain ⟨l1, l2, l3⟩ := hI z z1 zp
      have ek : key pr pf z = 1000 * pr z + pf z := rfl
      have d1 : x4 / 1000 = pr z := by omega
      have d2 : x4 % 1000 = pf z := by omega
      rw [d1, d2]
      have e24 : (ua A1 35 c x4) 24 = A 24 := by rw [ua_n (by decide)]; exact fr 24 (by decide)
      refine ⟨c0, by omega, ⟨by omega, by omega⟩, fun _ => ⟨by omega, by omega, r_end (i := z) (mo := mo) (mb := mb) (r := x5) (st := st) (p := q) (pr := pr) (pf := pf) (pt := pt) (by rw [e24]; exact h) hr hst (by rw [uf_n (by decide)]; exact f12) z1 zp rfl rfl ?_⟩, fun e => absurd e (by omega)⟩
      refine r_with (ln := lns z) (m := ms z) (f := pf z) (t := pt z) hB (RD_fr hD (frA_u (frA_s fr (by decide)) (by decide))) hn l1 (by omega) c0 c1 q1 q2 q3 q4 q5 (by rw [uf_n (by decide), uf_s]) uf_s (RP_fr (hR z z1 zp) (by rw [ua_n (by decide)]; exact fr 39 (by decide)) (by rw [ua_n (by decide)]; exact fr 40 (by decide))) l3 (fun A3 fr3 h41 => ?_)
      have e17 : uf (uf F1 17 (pf z)) 18 (pt z) 17 = pf z := by rw [uf_n (by decide), uf_s]
      have e18 : uf (uf F1 17 (pf z)) 18 (pt z) 18 = pt z := uf_s
      have ffN : frF [17, 18] (uf (uf F1 17 (pf z)) 18 (pt z)) F := frF_u (frF_u ff (by decide)) (by decide)
      rw [e17]
      generalize uf (uf F1 17 (pf z)) 18 (pt z) = F3 at e17 e18 ffN
      refine Lp3_by (fun (y : Int) F' A' => pf z ≤ y ∧ y ≤ pt z ∧ F' = F3 ∧ frA [39] A' A3 ∧ (∀ x, pf z ≤ x → x < y → A' 39 (1000 * pr z + x) = A3 41 (x - pf z)) ∧ ∀ w, (w < 1000 * pr z + pf z ∨ 1000 * pr z + pt z ≤ w) → A' 39 w = A3 39 w) (fun (y : Int) _ _ => (pt z - y).toNat) ?_ (pf z) F3 A3 ⟨by omega, by omega, rfl, frA_r, fun x a b => by omega, fun w _ => rfl⟩
      rintro y F4 A4 ⟨y0, y1, rfl, fr4, y2, y3⟩ P4 hP4
      rw [e17, e18, d1]
      refine ⟨⟨by omega, by omega⟩, ⟨by omega, by omega⟩, fun hy => ?_, fun hy => ?_⟩
      · have n40 : A4 40 = A 40 := by rw [fr4 40 (by decide), fr3 40 (by decide), ua_n (by decide)]; exact fr 40 (by decide)
        have n39 : A3 39 = A 39 := by rw [fr3 39 (by decide), ua_n (by decide)]; exact fr 39 (by decide)
        refine ⟨by omega, by omega, hQ1 z x2 _ _ z1 zp hb ffN ?_ ?_ (fun x hx => ?_) ⟨?_, fun _ x b0 b1 => ?_⟩ (fun i i0 i1 hi => ⟨?_, fun hm x b0 b1 => ?_⟩)⟩
        · exact frA_u (frA_t (frA_s fr4 (by decide)) (frA_t (frA_s fr3 (by decide)) (frA_u (frA_s fr (by decide)) (by decide)))) (by decide)
        · rw [ua_n (by decide), fr4 35 (by decide), fr3 35 (by decide), ua_at, if_pos rfl]
          exact z2
        · rw [ua_n (by decide), fr4 35 (by decide), fr3 35 (by decide), ua_at, if_neg hx, fr 35 (by decide)]
        · rw [ua_at, if_pos (by omega)]
          show c = app (lns z) (ms z) c (ms z)
          rw [app_eq]
        · rw [ua_n (by decide), y2 x b0 (by omega)]
          exact h41 x b0 b1
        · have := key_one h hst i0 i1 z1 zp
          rw [ua_at, if_neg (fun e => hi (this (by unfold key at *; omega))), n40]
          exact (hR i i0 i1).1
        · have hs := pt_sp h
          have pi := hP i i0 i1
          rw [ua_n (by decide), y3 _ ?_, n39]
          · exact (hR i i0 i1).2 hm x b0 b1
          · by_cases c1 : i < z
            · have := hs i z i0 c1 zp
              omega
            · have := hs z i z1 (by omega) i1
              omega
      · refine ⟨by omega, by omega, by omega, by omega, by omega, by omega, hP4 _ _ _ ⟨by omega, by omega, rfl, frA_u fr4 (by decide), fun x b0 b1 => ?_, fun w hw => ?_⟩ (by omega)⟩
        · rw [ua_at]
          by_cases e : x = y
          · rw [if_pos (by omega), e, fr4 41 (by decide)]
          · rw [if_neg (by omega)]
            exact y2 x b0 (by omega)
        · rw [ua_at, if_neg (by omega)]
          exact y3 w hw
  · refine Lp5_by (fun (y2 y4 y6 : Int) F' A' => 0 ≤ y6 ∧ y6 ≤ st ∧ frF [17, 18] F' F ∧ frA [41] A' A ∧ ∃ q z, QG p pr pf q (1000 * x5 + y6) ∧ bst q (fe wd sp pf pt lns ms c) (co wd wt wr sp pr pf pt lns ms c) z y2 ∧ ((z = -1 ∧ y4 = -1 ∧ y2 = 1000000000) ∨ (0 ≤ z ∧ y4 = key pr pf z))) (fun (y2 y4 y6 : Int) _ _ => (st - y6).toNat) ?_ x2 x4 0 F1 A1 ⟨by omega, s0, ff, fr, q, z, hq, hb, hz⟩
    clear hz hb hq z q fr ff f12 f11
    clear F1 A1 x2 x4
    rintro x2 x4 x6 F2 A2 ⟨k0, k1, ff, fr, q, z, hq, hb, hz⟩ P2 hP2
    have f12 : F2 12 = st := (ff 12 (by decide)).trans e12
    rw [f12]
    refine ⟨⟨by omega, by omega⟩, ⟨by omega, by omega⟩, fun hy => ?_, fun hy => ?_⟩
    · exact hP' _ _ _ _ _ ⟨by omega, by omega, ff, fr, q, z, QG_row h hst (by omega) hq, hb, hz⟩ (by omega)
    have h2 : iv_pt mb r st p pr pf pt (A2 24) := by rw [fr 24 (by decide)]; exact h
    refine r_begin h2 hr hst g0 (by omega) k0 (by omega) (fun i i0 i1 i2 i3 => ?_) (fun hno => ?_)
    · refine ⟨⟨by omega, by omega⟩, fun _ => ?_, fun e => absurd e (by omega)⟩
      obtain ⟨eqi, hq'⟩ := QG_yes h hst hq i0 i1 i2 i3
      subst eqi
      obtain ⟨q1, q2, q3, q4, q5⟩ := hP q i0 i1
      obtain ⟨l1, l2, l3⟩ := hI q i0 i1
      refine r_end (i := q) h2 hr hst (by rw [uf_n (by decide)]; exact f12) i0 i1 i2.symm i3.symm ?_
      have hRq : RP wd wt sp x5 x6 (pt q) (lns q) (ms q) A2 := by
        have := hR q i0 i1
        rw [i2, i3] at this
        exact RP_fr this (fr 39 (by decide)) (fr 40 (by decide))
      rw [i3] at q3 q4 l3
      refine r_with (ln := lns q) (m := ms q) (f := x6) (t := pt q) hB (RD_fr hD (frA_s fr (by decide))) hn l1 (by omega) c0 c1 g0 (by omega) q3 q4 q5 (by rw [uf_n (by decide), uf_s]) uf_s hRq l3 (fun A3 fr3 h41 => ?_)
      have ffN : frF [17, 18] (uf (uf F2 17 x6) 18 (pt q)) F := frF_u (frF_u ff (by decide)) (by decide)
      have frN : frA [41] A3 A := frA_t fr3 fr
      refine r_without (ln := lns q) (m := ms q) (f := x6) (t := pt q) hB hn l1 g0 (by omega) q3 q4 q5 (by rw [uf_n (by decide), uf_s]) uf_s (RP_fr hRq (fr3 39 (by decide)) (fr3 40 (by decide))) l3 ?_
      have w := hB c c0 c1
      have e29 : A3 29 c = wr c := by rw [frN 29 (by decide)]; exact (hD c c0 c1).2.2.1
      rw [frv_last hB (app_in l1 c0 c1), e29]
      have efe : fe wd sp pf pt lns ms c q ↔ 0 ≤ pt q - x6 - lenF wd sp (app (lns q) (ms q) c) (ms q + 1) := by unfold fe; rw [i3]
      refine ⟨c0, by omega, m_far ⟨by omega, by omega⟩ ⟨by omega, by omega⟩ ⟨⟨by omega, by omega⟩, ?_⟩⟩
      by_cases hf : pt q - x6 - lenF wd sp (app (lns q) (ms q) c) (ms q + 1) < 0
      · rw [if_pos hf]
        refine ⟨⟨by omega, by omega⟩, fun _ => hP2 _ _ _ _ _ ⟨by omega, by omega, ffN, frN, q + 1, z, hq', bst_skip hb (fun g => ?_), hz⟩ (by omega), fun e => absurd e (by omega)⟩
        have := efe.1 g
        omega
      · rw [if_neg hf]
        have hfe : fe wd sp pf pt lns ms c q := efe.2 (by omega)
        have ci := co_in hB hP hI (by omega) c0 c1 i0 i1 hfe
        have y1 := LC_in (wt := wt) hB (app_in l1 c0 c1) q3 q5 (by omega) (show 0 ≤ pt q - x6 - lenF wd sp (app (lns q) (ms q) c) (ms q + 1) by omega)
        have eco : LC wd wt sp x6 (pt q) (app (lns q) (ms q) c) (ms q + 1) - LC wd wt sp x6 (pt q) (lns q) (ms q) + 20 * (((x5 - wr c).natAbs : Nat) : Int) = co wd wt wr sp pr pf pt lns ms c q := by
          unfold co
          rw [i2, i3]
          omega
        rw [eco]
        have x2b : 0 ≤ x2 ∧ x2 ≤ 1000000000 := by
          rcases hb with ⟨u1, u2⟩ | ⟨u1, u2, u3, u4, u5⟩
          · rcases hz with ⟨_, _, v⟩ | ⟨v, _⟩
            · omega
            · omega
          · have := co_in hB hP hI (by omega) c0 c1 u1 (by omega) u3
            omega
        refine ⟨⟨by omega, by omega⟩, fun e => absurd e (by omega), fun _ => ⟨⟨by omega, by omega⟩, ⟨by omega, by omega⟩, fun e => hP2 _ _ _ _ _ ⟨by omega, by omega, ffN, frN, q + 1, z, hq', bst_skip hb (fun _ => ⟨?_, e⟩), hz⟩ (by omega), fun e => hP2 _ _ _ _ _ ⟨by omega, by omega, ffN, frN, q + 1, q, hq', bst_take hb i0 hfe ?_, Or.inr ⟨i0, ?_⟩⟩ (by omega)⟩⟩
        · intro ez
          rcases hz with ⟨_, _, v⟩ | ⟨v, _⟩
          · omega
          · omega
        · exact Or.inr (by omega)
        · unfold key
          rw [i2, i3]
    · exact ⟨⟨by omega, by omega⟩, fun e => absurd rfl e, fun _ => hP2 _ _ _ _ _ ⟨by omega, by omega, ff, fr, q, z, QG_no h hst k0 (by omega) hq hno, hb, hz⟩ (by omega)⟩
end RUN7
