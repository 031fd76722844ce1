/-! WHICH PART EACH CELL COMES TO, and the class's run -/
def cn (asg : Nat → Int) (i : Int) : Nat → Nat
  | 0 => 0
  | t + 1 => if asg t = i then cn asg i t + 1 else cn asg i t
def lnf (σ asg : Nat → Int) (i : Int) : Nat → Nat → Int
  | 0 => fun _ => 0
  | t + 1 => if asg t = i then app (lnf σ asg i t) (cn asg i t) (σ t) else lnf σ asg i t
theorem cn_1 {asg : Nat → Int} {i : Int} {t : Nat} (h : asg t = i) : cn asg i (t + 1) = cn asg i t + 1 := by show (if asg t = i then _ else _) = _; rw [if_pos h]
theorem cn_0 {asg : Nat → Int} {i : Int} {t : Nat} (h : ¬ asg t = i) : cn asg i (t + 1) = cn asg i t := by show (if asg t = i then _ else _) = _; rw [if_neg h]
theorem lnf_1 {σ asg : Nat → Int} {i : Int} {t : Nat} (h : asg t = i) : lnf σ asg i (t + 1) = app (lnf σ asg i t) (cn asg i t) (σ t) := by show (if asg t = i then _ else _) = _; rw [if_pos h]
theorem lnf_0 {σ asg : Nat → Int} {i : Int} {t : Nat} (h : ¬ asg t = i) : lnf σ asg i (t + 1) = lnf σ asg i t := by show (if asg t = i then _ else _) = _; rw [if_neg h]
theorem cn_congr {σ asg asg' : Nat → Int} {i : Int} : ∀ {k : Nat}, (∀ t, t < k → asg t = asg' t) → cn asg i k = cn asg' i k ∧ lnf σ asg i k = lnf σ asg' i k := by
  intro k
  induction k with
  | zero => intro _; exact ⟨rfl, rfl⟩
  | succ k ih =>
    intro h
    obtain ⟨a, b⟩ := ih (fun t ht => h t (by omega))
    have e := h k (by omega)
    by_cases g : asg k = i
    · rw [cn_1 g, lnf_1 g, cn_1 (e ▸ g), lnf_1 (e ▸ g), a, b]
      exact ⟨rfl, rfl⟩
    · rw [cn_0 g, lnf_0 g, cn_0 (e ▸ g), lnf_0 (e ▸ g), a, b]
      exact ⟨rfl, rfl⟩
theorem lnf_ps (σ asg : Nat → Int) (i : Int) : ∀ k : Nat, ∃ q : Nat → Nat, (∀ j, j < cn asg i k → q j < k ∧ asg (q j) = i ∧ lnf σ asg i k j = σ (q j)) ∧ (∀ a b, a < b → b < cn asg i k → q a < q b) ∧ (∀ t, t < k → asg t = i → ∃ j, j < cn asg i k ∧ q j = t) := by
  intro k
  induction k with
  | zero => exact ⟨fun _ => 0, fun j h => absurd h (Nat.not_lt_zero _), fun a b _ h => absurd h (Nat.not_lt_zero _), fun t h => absurd h (Nat.not_lt_zero _)⟩
  | succ k ih =>
    obtain ⟨q, q1, q2, q3⟩ := ih
    by_cases g : asg k = i
    · rw [cn_1 g, lnf_1 g]
      refine ⟨fun j => if j = cn asg i k then k else q j, fun j hj => ?_, fun a b h1 h2 => ?_, fun t ht h => ?_⟩
      · dsimp only
        by_cases e : j = cn asg i k
        · rw [if_pos e, e, app_eq]
          exact ⟨by omega, g, rfl⟩
        · rw [if_neg e, app_lt (by omega)]
          obtain ⟨a, b, c⟩ := q1 j (by omega)
          exact ⟨by omega, b, c⟩
      · dsimp only
        rw [if_neg (show ¬ a = cn asg i k by omega)]
        by_cases e : b = cn asg i k
        · rw [if_pos e]
          exact (q1 a (by omega)).1
        · rw [if_neg e]
          exact q2 a b h1 (by omega)
      · by_cases e : t = k
        · exact ⟨cn asg i k, by omega, by dsimp only; rw [if_pos rfl, e]⟩
        · obtain ⟨j, j1, j2⟩ := q3 t (by omega) h
          exact ⟨j, by omega, by dsimp only; rw [if_neg (by omega)]; exact j2⟩
    · rw [cn_0 g, lnf_0 g]
      refine ⟨q, fun j hj => ?_, q2, fun t ht h => ?_⟩
      · obtain ⟨a, b, c⟩ := q1 j hj
        exact ⟨by omega, b, c⟩
      · by_cases e : t = k
        · rw [e] at h
          exact absurd h g
        · exact q3 t (by omega) h
def sInj (σ : Nat → Int) (K : Nat) : Prop := ∀ i j, i < j → j < K → σ i ≠ σ j
theorem sInj_e {σ : Nat → Int} {K : Nat} (h : sInj σ K) {i j : Nat} (i1 : i < K) (j1 : j < K) (e : σ i = σ j) : i = j := by
  by_cases a : i < j
  · exact absurd e (h i j a j1)
  · by_cases b : j < i
    · exact absurd e.symm (h j i b i1)
    · omega
theorem lnf_dist {σ asg : Nat → Int} {i : Int} {k K : Nat} (h : sInj σ K) (hk : k ≤ K) : ∀ a b, a < b → b < cn asg i k → lnf σ asg i k a ≠ lnf σ asg i k b := by
  obtain ⟨q, q1, q2, q3⟩ := lnf_ps σ asg i k
  intro a b h1 h2 e
  obtain ⟨a1, a2, a3⟩ := q1 a (by omega)
  obtain ⟨b1, b2, b3⟩ := q1 b h2
  rw [a3, b3] at e
  exact h (q a) (q b) (q2 a b h1 h2) (by omega) e
theorem lnf_dis {σ asg : Nat → Int} {i i' : Int} {k K : Nat} (h : sInj σ K) (hk : k ≤ K) (hi : ¬ i = i') : ∀ a b, a < cn asg i k → b < cn asg i' k → lnf σ asg i k a ≠ lnf σ asg i' k b := by
  obtain ⟨q, q1, _, _⟩ := lnf_ps σ asg i k
  obtain ⟨q', q1', _, _⟩ := lnf_ps σ asg i' k
  intro a b h1 h2 e
  obtain ⟨a1, a2, a3⟩ := q1 a h1
  obtain ⟨b1, b2, b3⟩ := q1' b h2
  rw [a3, b3] at e
  have := sInj_e h (by omega) (by omega) e
  rw [this] at a2
  exact hi (a2.symm.trans b2)
theorem lnf_new {σ asg : Nat → Int} {i : Int} {k K : Nat} (h : sInj σ K) (hk : k < K) : ∀ a, a < cn asg i k → lnf σ asg i k a ≠ σ k := by
  obtain ⟨q, q1, _, _⟩ := lnf_ps σ asg i k
  intro a h1 e
  obtain ⟨a1, a2, a3⟩ := q1 a h1
  rw [a3] at e
  exact h (q a) k a1 hk e
/-- the greedy run of the first k cells -/
def Gr (wd wt wr : Int → Int) (sp : Int → Int → Int) (p : Int) (pr pf pt : Int → Int) (σ asg : Nat → Int) (k : Nat) : Prop :=
  ∀ t, t < k → 0 ≤ asg t ∧ ∃ v, bst p (fe wd sp pf pt (fun i => lnf σ asg i t) (fun i => cn asg i t) (σ t)) (co wd wt wr sp pr pf pt (fun i => lnf σ asg i t) (fun i => cn asg i t) (σ t)) (asg t) v
section RUN4
variable {mo : Nat} {F : Nat → Int} {A : Nat → Int → Int} {n p : Int} {wd wt wr : Int → Int} {sp : Int → Int → Int} {pr pf pt : Int → Int} {σ asg asg' : Nat → Int} {k K : Nat}
theorem fe_asg (h : ∀ t, t < k → asg t = asg' t) (c : Int) : (fe wd sp pf pt (fun i => lnf σ asg i k) (fun i => cn asg i k) c = fe wd sp pf pt (fun i => lnf σ asg' i k) (fun i => cn asg' i k) c) ∧ co wd wt wr sp pr pf pt (fun i => lnf σ asg i k) (fun i => cn asg i k) c = co wd wt wr sp pr pf pt (fun i => lnf σ asg' i k) (fun i => cn asg' i k) c := by
  have e1 : (fun i => lnf σ asg i k) = (fun i => lnf σ asg' i k) := by funext i; exact (cn_congr h).2
  have e2 : (fun i => cn asg i k) = (fun i => cn asg' i k) := by funext i; exact (cn_congr (σ := σ) h).1
  rw [e1, e2]
  exact ⟨rfl, rfl⟩
theorem Gr_lt {j : Nat} (h : Gr wd wt wr sp p pr pf pt σ asg k) (hj : j ≤ k) : Gr wd wt wr sp p pr pf pt σ asg j := fun t ht => h t (by omega)
theorem Gr_one (h : Gr wd wt wr sp p pr pf pt σ asg k) (h' : Gr wd wt wr sp p pr pf pt σ asg' k) : ∀ t, t < k → asg t = asg' t := by
  intro t
  induction t using Nat.strongRecOn with
  | ind t ih =>
    intro ht
    obtain ⟨a, v, b⟩ := h t ht
    obtain ⟨a', v', b'⟩ := h' t ht
    have e := fe_asg (wd := wd) (wt := wt) (wr := wr) (sp := sp) (pr := pr) (pf := pf) (pt := pt) (σ := σ) (fun u hu => ih u hu (by omega)) (σ t)
    rw [e.1, e.2] at b
    exact bst_one b b' (fun j _ _ => ⟨Iff.rfl, rfl⟩)
theorem Gr_in (h : Gr wd wt wr sp p pr pf pt σ asg k) {t : Nat} (ht : t < k) : 0 ≤ asg t ∧ asg t < p ∧ fe wd sp pf pt (fun i => lnf σ asg i t) (fun i => cn asg i t) (σ t) (asg t) := by
  obtain ⟨a, v, b⟩ := h t ht
  rcases b with ⟨x, _⟩ | ⟨x, y, z, _, _⟩
  · omega
  · exact ⟨a, y, z⟩
theorem Gr_LI (hP : PB p pr pf pt) (hσ : ∀ t, t < k → 0 ≤ σ t ∧ σ t < n) (h : Gr wd wt wr sp p pr pf pt σ asg k) : LI n wd sp p pf pt (fun i => lnf σ asg i k) (fun i => cn asg i k) k := by
  induction k with
  | zero =>
    intro i i0 i1
    have := hP i i0 i1
    refine ⟨fun j hj => absurd hj (Nat.not_lt_zero _), Nat.le_refl _, ?_⟩
    show 0 ≤ pt i - pf i - 0
    omega
  | succ k ih =>
    intro i i0 i1
    obtain ⟨a, b, c⟩ := ih (fun t ht => hσ t (by omega)) (Gr_lt h (by omega)) i i0 i1
    have q := Gr_in h (show k < k + 1 by omega)
    dsimp only at a b c ⊢
    by_cases g : asg k = i
    · rw [cn_1 g, lnf_1 g]
      have s := hσ k (by omega)
      refine ⟨app_in a s.1 s.2, by omega, ?_⟩
      have := q.2.2
      rw [g] at this
      exact this
    · rw [cn_0 g, lnf_0 g]
      exact ⟨a, by omega, c⟩
theorem Gr_step {z v : Int} (h : Gr wd wt wr sp p pr pf pt σ asg k) (z0 : 0 ≤ z) (hb : bst p (fe wd sp pf pt (fun i => lnf σ asg i k) (fun i => cn asg i k) (σ k)) (co wd wt wr sp pr pf pt (fun i => lnf σ asg i k) (fun i => cn asg i k) (σ k)) z v) : Gr wd wt wr sp p pr pf pt σ (app asg k z) (k + 1) := by
  intro t ht
  by_cases e : t = k
  · subst e
    have e := fe_asg (wd := wd) (wt := wt) (wr := wr) (sp := sp) (pr := pr) (pf := pf) (pt := pt) (σ := σ) (asg := app asg t z) (asg' := asg) (fun u hu => app_lt hu) (σ t)
    rw [e.1, e.2, app_eq]
    exact ⟨z0, v, hb⟩
  · have e := fe_asg (wd := wd) (wt := wt) (wr := wr) (sp := sp) (pr := pr) (pf := pf) (pt := pt) (σ := σ) (asg := app asg k z) (asg' := asg) (k := t) (fun u hu => app_lt (by omega)) (σ t)
    rw [e.1, e.2, app_lt (by omega)]
    exact h t (by omega)
/-- where the class put the cells of the parts -/
def PL (wd wt : Int → Int) (sp : Int → Int → Int) (p : Int) (pr pf pt : Int → Int) (lns : Int → Nat → Int) (ms : Int → Nat) (A : Nat → Int → Int) : Prop :=
  ∀ i, 0 ≤ i → i < p → ∃ B, bleast (dF wd wt sp (pf i) (lns i)) B (pt i - pf i - lenF wd sp (lns i) (ms i)) (ms i) ∧ ∀ j : Nat, j < ms i → A 8 (lns i j) = pf i + offF wd sp (lns i) j + wback B (ms i) (pt i - pf i - lenF wd sp (lns i) (ms i)) j ∧ A 9 (lns i j) = pr i
def CS (wd wt : Int → Int) (sp : Int → Int → Int) (p : Int) (pf pt : Int → Int) (lns : Int → Nat → Int) (ms : Int → Nat) (A : Nat → Int → Int) : Prop :=
  ∀ i, 0 ≤ i → i < p → (CH (lns i) (ms i) i A ∧ A 18 i = LC wd wt sp (pf i) (pt i) (lns i) (ms i)) ∧ A 17 i = lst (lns i) (ms i)
set_option maxHeartbeats 1000000 in
theorem c_placeAll {Q : Int → (Nat → Int) → (Nat → Int → Int) → Prop} (hmo : (mo : Int) ≤ 8000) (hB : BD n wd wt wr sp) (hC : CD n wd wt wr sp A) (n0 : 0 ≤ n) (hn : n ≤ 60) (hP : PB p pr pf pt) (p0 : 0 ≤ p) (p1 : p ≤ mo) (e3 : F 3 = p) (e4 : F 4 = n) (e0 : A 0 = pr) (e1 : A 1 = pf) (e2 : A 2 = pt)
    (hQ1 : ∀ F' A' asg, Gr wd wt wr sp p pr pf pt (isrt wt n.toNat) asg n.toNat → frF [6, 7, 8, 9] F' F → frA [8, 9, 14, 15, 16, 17, 18, 19, 20, 21, 22, 23] A' A → PL wd wt sp p pr pf pt (fun i => lnf (isrt wt n.toNat) asg i n.toNat) (fun i => cn asg i n.toNat) A' → Q (-1) F' A')
    (hQ2 : ∀ F' A' asg k, k < n.toNat → Gr wd wt wr sp p pr pf pt (isrt wt n.toNat) asg k → (∀ j, 0 ≤ j → j < p → ¬ fe wd sp pf pt (fun i => lnf (isrt wt n.toNat) asg i k) (fun i => cn asg i k) (isrt wt n.toNat k) j) → frF [6, 7, 8, 9] F' F → frA [8, 9, 14, 15, 16, 17, 18, 19, 20, 21, 22, 23] A' A → Q (isrt wt n.toNat k) F' A') : w_Fi_placeAll mo F A Q := by
  refine c_empty hmo (by omega) (by omega) (fun A1 fr1 em => ?_)
  refine c_sort (wt := wt) e4 n0 hn (fun c a b => ?_) (fun A2 fr2 so => ?_)
  · have := hB c a b
    rw [fr1 6 (by decide)]
    exact ⟨(hC c a b).2.1, ⟨by omega, by omega⟩⟩
  have hσ : ∀ t, t < n.toNat → 0 ≤ isrt wt n.toNat t ∧ isrt wt n.toNat t < n := fun t ht => by have := isrt_in wt n.toNat t ht; omega
  have hinj : sInj (isrt wt n.toNat) n.toNat := fun i j a b => isrt_inj wt n.toNat i j a b
  generalize isrt wt n.toNat = σ at hQ1 hQ2 so hσ hinj
  refine Lp3_by (fun (x1 : Int) F' A' => ∃ k asg, x1 = ((k : Nat) : Int) ∧ k ≤ n.toNat ∧ Gr wd wt wr sp p pr pf pt σ asg k ∧ frF [6, 7, 8, 9] F' F ∧ frA [8, 9, 14, 15, 16, 17, 18, 19, 20, 21, 22, 23] A' A ∧ (∀ j : Nat, j < n.toNat → A' 14 j = σ j) ∧ CS wd wt sp p pf pt (fun i => lnf σ asg i k) (fun i => cn asg i k) A' ∧ PL wd wt sp p pr pf pt (fun i => lnf σ asg i k) (fun i => cn asg i k) A') (fun (x1 : Int) _ _ => (n - x1).toNat) ?_ 0 F A2 ⟨0, fun _ => 0, rfl, by omega, fun t h => absurd h (Nat.not_lt_zero _), frF_r, frA_t (frA_s fr2 (by decide)) (frA_s fr1 (by decide)), so, fun i i0 i1 => ?_, fun i i0 i1 => ⟨fun _ => 0, fun j h => absurd h (Nat.not_lt_zero _), fun j h => absurd h (Nat.not_lt_zero _)⟩⟩
  · rintro x1 F3 A3 ⟨k, asg, rfl, k1, hG, ff, fr, s14, hS, hL⟩ P hP'
    have f4 : F3 4 = n := (ff 4 (by decide)).trans e4
    rw [f4]
    refine ⟨⟨by omega, by omega⟩, ⟨by omega, by omega⟩, fun h => ?_, fun h => ?_⟩
    · have e : k = n.toNat := by omega
      subst e
      exact hQ1 F3 A3 asg hG ff fr hL
    have hk : k < n.toNat := by omega
    obtain ⟨c0, c1⟩ := hσ k hk
    have hI := Gr_LI hP (fun t ht => hσ t (by omega)) hG
    rw [s14 k hk]
    refine ⟨by omega, by omega, c_cheapest hmo hB (CD_fr hC fr) hn hP hI (by omega) c0 c1 p0 p1 ((ff 3 (by decide)).trans e3) ((fr 0 (by decide)).trans e0) ((fr 1 (by decide)).trans e1) ((fr 2 (by decide)).trans e2) (fun i i0 i1 => (hS i i0 i1).1) (fun z v F5 A5 hb ff5 fr5 => ?_)⟩
    have e14 : A5 14 k = σ k := by rw [fr5 14 (by decide)]; exact s14 k hk
    have fr5' : frA [8, 9, 14, 15, 16, 17, 18, 19, 20, 21, 22, 23] A5 A := frA_t (frA_s fr5 (by decide)) fr
    have ff5' : frF [6, 7, 8, 9] F5 F := frF_t ff5 ff
    rw [e14]
    have hz : z = -1 ∨ (0 ≤ z ∧ z < p ∧ fe wd sp pf pt (fun i => lnf σ asg i k) (fun i => cn asg i k) (σ k) z) := by
      rcases hb with ⟨x, _⟩ | ⟨x, y, w, _⟩
      · exact Or.inl x
      · exact Or.inr ⟨x, y, w⟩
    refine ⟨by rcases hz with h | h <;> exact ⟨by omega, by omega⟩, fun hz1 => ?_, fun hz1 => ?_⟩
    · obtain ⟨z0, z1, hfe⟩ : 0 ≤ z ∧ z < p ∧ fe wd sp pf pt (fun i => lnf σ asg i k) (fun i => cn asg i k) (σ k) z := by
        rcases hz with h | h
        · exact absurd h hz1
        · exact h
      obtain ⟨l1, l2, l3⟩ := hI z z0 z1
      obtain ⟨⟨hH, h18⟩, h17⟩ := hS z z0 z1
      dsimp only at l1 l2 l3 hH h18 h17
      have hfe2 : 0 ≤ pt z - pf z - lenF wd sp (app (lnf σ asg z k) (cn asg z k) (σ k)) (cn asg z k + 1) := hfe
      have hGs := Gr_step hG z0 hb
      have cg := fun i => cn_congr (σ := σ) (asg := app asg k z) (asg' := asg) (i := i) (k := k) (fun t ht => app_lt ht)
      have E1 : lnf σ (app asg k z) z (k + 1) = app (lnf σ asg z k) (cn asg z k) (σ k) ∧ cn (app asg k z) z (k + 1) = cn asg z k + 1 := by
        rw [lnf_1 app_eq, cn_1 app_eq, (cg z).1, (cg z).2]
        exact ⟨rfl, rfl⟩
      have E2 : ∀ i, i ≠ z → lnf σ (app asg k z) i (k + 1) = lnf σ asg i k ∧ cn (app asg k z) i (k + 1) = cn asg i k := fun i hi => by
        have hx : ¬ app asg k z k = i := by rw [app_eq]; exact fun e => hi e.symm
        rw [lnf_0 hx, cn_0 hx, (cg i).1, (cg i).2]
        exact ⟨rfl, rfl⟩
      have hd2 : ∀ a b, a < b → b < cn asg z k + 1 → app (lnf σ asg z k) (cn asg z k) (σ k) a ≠ app (lnf σ asg z k) (cn asg z k) (σ k) b := by
        have q := lnf_dist (asg := app asg k z) (i := z) (k := k + 1) hinj (by omega)
        rw [E1.1, E1.2] at q
        exact q
      have ndis : ∀ i, i ≠ z → ∀ j, j < cn asg i k → ∀ a, a < cn asg z k + 1 → app (lnf σ asg z k) (cn asg z k) (σ k) a ≠ lnf σ asg i k j := fun i hi j hj a ha => by
        by_cases e : a = cn asg z k
        · rw [e, app_eq]
          exact fun e => lnf_new hinj hk j hj e.symm
        · rw [app_lt (by omega)]
          exact lnf_dis hinj (by omega) (fun e => hi e.symm) a j (by omega) hj
      refine c_append (n := n) (ln := lnf σ asg z k) (m := cn asg z k) z0 (by omega) hn c0 c1 l1 ?_ (by rw [fr5 17 (by decide)]; exact h17) (lnf_dist hinj (by omega)) (lnf_new hinj hk) (fun A7 fr7 a17 ao hH7 a15 => ?_)
      · unfold CH at hH ⊢
        rw [fr5 15 (by decide), fr5 16 (by decide)]
        exact hH
      have fr7' : frA [8, 9, 14, 15, 16, 17, 18, 19, 20, 21, 22, 23] A7 A := frA_t (frA_s fr7 (by decide)) fr5'
      have b0 : A7 0 = pr := (fr7' 0 (by decide)).trans e0
      have b1 : A7 1 = pf := (fr7' 1 (by decide)).trans e1
      have b2 : A7 2 = pt := (fr7' 2 (by decide)).trans e2
      have pb := hP z z0 z1
      refine c_settle (ln := app (lnf σ asg z k) (cn asg z k) (σ k)) (m := cn asg z k + 1) hB (CD_fr hC fr7') (app_in l1 c0 c1) hn (by omega) z0 (by omega) hH7 hd2 (by rw [b1]; omega) (by rw [b1, b2]; omega) (by rw [b2]; omega) (by rw [b1, b2]; exact hfe2) (fun F8 A8 B ff8 fr8 a18 a18o hbl hpl hpo => ?_)
      rw [b1, b2] at a18 hbl hpl
      rw [b0] at hpl
      refine hP' _ _ _ ⟨k + 1, app asg k z, by omega, by omega, hGs, frF_t ff8 ff5', frA_t (frA_s fr8 (by decide)) fr7', fun j hj => ?_, fun i i0 i1 => ?_, fun i i0 i1 => ?_⟩ (by omega)
      · rw [fr8 14 (by decide), fr7 14 (by decide), fr5 14 (by decide)]
        exact s14 j hj
      · dsimp only
        by_cases e : i = z
        · rw [e, E1.1, E1.2]
          refine ⟨⟨?_, a18⟩, ?_⟩
          · unfold CH at hH7 ⊢
            rw [fr8 15 (by decide), fr8 16 (by decide)]
            exact hH7
          · show _ = app (lnf σ asg z k) (cn asg z k) (σ k) (cn asg z k)
            rw [app_eq, fr8 17 (by decide)]
            exact a17
        · rw [(E2 i e).1, (E2 i e).2]
          obtain ⟨⟨iH, i18⟩, i17⟩ := hS i i0 i1
          dsimp only at iH i18 i17
          refine ⟨⟨⟨?_, fun j hj => ?_⟩, ?_⟩, ?_⟩
          · rw [fr8 16 (by decide), (ao i e).2, fr5 16 (by decide)]
            exact iH.1
          · rw [fr8 15 (by decide), a15 _ (lnf_new hinj hk j hj) (fun a ha => lnf_dis hinj (by omega) (fun x => e x.symm) a j ha hj), fr5 15 (by decide)]
            exact iH.2 j hj
          · rw [a18o i e, fr7 18 (by decide), fr5 18 (by decide)]
            exact i18
          · rw [fr8 17 (by decide), (ao i e).1, fr5 17 (by decide)]
            exact i17
      · dsimp only
        by_cases e : i = z
        · rw [e, E1.1, E1.2]
          exact ⟨B, hbl, hpl⟩
        · rw [(E2 i e).1, (E2 i e).2]
          obtain ⟨B', x, y⟩ := hL i i0 i1
          refine ⟨B', x, fun j hj => ?_⟩
          obtain ⟨u, w⟩ := hpo (lnf σ asg i k j) (ndis i e j hj)
          rw [u, w, fr7 8 (by decide), fr7 9 (by decide), fr5 8 (by decide), fr5 9 (by decide)]
          exact y j hj
    · refine hQ2 F5 A5 asg k hk hG (fun j j0 j1 => ?_) ff5' fr5'
      rcases hb with ⟨_, x⟩ | ⟨x, _⟩
      · exact x j j0 j1
      · omega
  · have := em i i0 (by omega)
    have x16 : A2 16 i = -1 := by rw [fr2 16 (by decide)]; exact this.1
    have x17 : A2 17 i = -1 := by rw [fr2 17 (by decide)]; exact this.2.1
    have x18 : A2 18 i = 0 := by rw [fr2 18 (by decide)]; exact this.2.2
    exact ⟨⟨⟨x16, fun j h => absurd h (Nat.not_lt_zero _)⟩, x18⟩, x17⟩
end RUN4
