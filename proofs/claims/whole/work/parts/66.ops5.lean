/-! IMPROVE -/
def chS (co : Int → Int) (c : Int) (g : Int → Int) : Nat → Int
  | 0 => 0
  | t + 1 => chS co c g t + (if co t = c then g t else 0)
theorem lastE_in (co : Int → Int) (c : Int) (t : Nat) : lastE co c t = -1 ∨ (0 ≤ lastE co c t ∧ lastE co c t < t ∧ co (lastE co c t) = c) := by
  induction t with
  | zero => exact Or.inl rfl
  | succ t ih =>
    show (if co t = c then (t : Int) else lastE co c t) = -1 ∨ (0 ≤ (if co t = c then (t : Int) else lastE co c t) ∧ (if co t = c then (t : Int) else lastE co c t) < ((t + 1 : Nat) : Int) ∧ co (if co t = c then (t : Int) else lastE co c t) = c)
    by_cases e : co t = c
    · rw [if_pos e]; exact Or.inr ⟨by omega, by omega, e⟩
    · rw [if_neg e]
      rcases ih with h | ⟨h1, h2, h3⟩
      · exact Or.inl h
      · exact Or.inr ⟨h1, by omega, h3⟩
theorem chS_none {co : Int → Int} {c : Int} {g : Int → Int} {t : Nat} (h : lastE co c t = -1) : chS co c g t = 0 := by
  induction t with
  | zero => rfl
  | succ t ih =>
    have h' : (if co t = c then (t : Int) else lastE co c t) = -1 := h
    show chS co c g t + (if co t = c then g t else 0) = 0
    by_cases e : co t = c
    · rw [if_pos e] at h'; omega
    · rw [if_neg e] at h'
      rw [if_neg e, ih h']
      rfl
theorem chS_last {co : Int → Int} {c : Int} {g : Int → Int} {t : Nat} (h : ¬ lastE co c t = -1) : chS co c g t = chS co c g (lastE co c t).toNat + g (lastE co c t) := by
  induction t with
  | zero => exact absurd rfl h
  | succ t ih =>
    have h' : ¬ (if co t = c then (t : Int) else lastE co c t) = -1 := h
    show chS co c g t + (if co t = c then g t else 0) = chS co c g (if co t = c then (t : Int) else lastE co c t).toNat + g (if co t = c then (t : Int) else lastE co c t)
    by_cases e : co t = c
    · rw [if_pos e, if_pos e, Int.toNat_natCast]
    · rw [if_neg e] at h'
      rw [if_neg e, if_neg e, ih h']
      omega
theorem chS_nn {co : Int → Int} {c : Int} (t : Nat) : 0 ≤ chS co c (fun _ => 1) t := by
  induction t with
  | zero => exact Int.le_refl _
  | succ t ih =>
    show 0 ≤ chS co c (fun _ => 1) t + (if co t = c then 1 else 0)
    split <;> omega
theorem cnt_le {co na nb : Int → Int} {m : Int} (h : ∀ k, 0 ≤ k → k < m → co (2 * k) = na k ∧ co (2 * k + 1) = nb k ∧ na k ≠ nb k) (c : Int) (k : Nat) (hk : (k : Int) ≤ m) : chS co c (fun _ => 1) (2 * k) ≤ k := by
  induction k with
  | zero => exact Int.le_refl _
  | succ k ih =>
    have q := ih (by omega)
    obtain ⟨a, b, d⟩ := h k (by omega) (by omega)
    show chS co c (fun _ => 1) (2 * k) + (if co ((2 * k : Nat) : Int) = c then 1 else 0) + (if co ((2 * k + 1 : Nat) : Int) = c then 1 else 0) ≤ ((k + 1 : Nat) : Int)
    rw [show ((2 * k : Nat) : Int) = 2 * (k : Int) by omega, show ((2 * k + 1 : Nat) : Int) = 2 * (k : Int) + 1 by omega, a, b]
    split <;> split <;> omega
def gf (w x ro co : Int → Int) (c pl e : Int) : Int := if co (xo e) = pl then 0 else dst w x ro c (co (xo e)) - dst w x ro pl (co (xo e))
def swp (f : Int → Int) (a b : Int) : Int → Int := fun j => if j = b then f a else if j = a then f b else f j
theorem xo_e (k : Int) : xo (2 * k) = 2 * k + 1 := by unfold xo; rw [if_pos (by omega)]
theorem xo_o (k : Int) : xo (2 * k + 1) = 2 * k := by unfold xo; rw [if_neg (by omega)]; omega
theorem swp_a {f : Int → Int} {a b : Int} (h : ¬ a = b) : swp f a b a = f b := by unfold swp; rw [if_neg h, if_pos rfl]
theorem swp_b {f : Int → Int} {a b : Int} : swp f a b b = f a := by unfold swp; rw [if_pos rfl]
theorem swp_o {f : Int → Int} {a b j : Int} (h1 : ¬ j = a) (h2 : ¬ j = b) : swp f a b j = f j := by unfold swp; rw [if_neg h2, if_neg h1]
theorem dst_sym (w x ro : Int → Int) (a b : Int) : dst w x ro a b = dst w x ro b a := by unfold dst; omega
theorem gain_wire {co na nb w x ro : Int → Int} {m a b : Int} (h : ∀ k, 0 ≤ k → k < m → co (2 * k) = na k ∧ co (2 * k + 1) = nb k ∧ na k ≠ nb k) (hab : ¬ a = b) (hw : w a = w b) (k : Nat) (hk : (k : Int) ≤ m) :
    chS co a (gf w x ro co a b) (2 * k) + chS co b (gf w x ro co b a) (2 * k) = sumN (netf w x ro na nb) k - sumN (netf w (swp x a b) (swp ro a b) na nb) k := by
  induction k with
  | zero => rfl
  | succ k ih =>
    have q := ih (by omega)
    obtain ⟨p1, p2, p3⟩ := h k (by omega) (by omega)
    show chS co a (gf w x ro co a b) (2 * k) + (if co ((2 * k : Nat) : Int) = a then gf w x ro co a b ((2 * k : Nat) : Int) else 0) + (if co ((2 * k + 1 : Nat) : Int) = a then gf w x ro co a b ((2 * k + 1 : Nat) : Int) else 0) + (chS co b (gf w x ro co b a) (2 * k) + (if co ((2 * k : Nat) : Int) = b then gf w x ro co b a ((2 * k : Nat) : Int) else 0) + (if co ((2 * k + 1 : Nat) : Int) = b then gf w x ro co b a ((2 * k + 1 : Nat) : Int) else 0)) = sumN (netf w x ro na nb) k + netf w x ro na nb k - (sumN (netf w (swp x a b) (swp ro a b) na nb) k + netf w (swp x a b) (swp ro a b) na nb k)
    rw [show ((2 * k : Nat) : Int) = 2 * (k : Int) by omega, show ((2 * k + 1 : Nat) : Int) = 2 * (k : Int) + 1 by omega, p1, p2]
    have u1 : ∀ c d : Int, gf w x ro co c d (2 * (k : Int)) = if nb k = d then 0 else dst w x ro c (nb k) - dst w x ro d (nb k) := fun c d => by unfold gf; rw [xo_e, p2]
    have u2 : ∀ c d : Int, gf w x ro co c d (2 * (k : Int) + 1) = if na k = d then 0 else dst w x ro c (na k) - dst w x ro d (na k) := fun c d => by unfold gf; rw [xo_o, p1]
    rw [u1, u2, u1, u2]
    have key : (if na k = a then (if nb k = b then 0 else dst w x ro a (nb k) - dst w x ro b (nb k)) else 0) + (if nb k = a then (if na k = b then 0 else dst w x ro a (na k) - dst w x ro b (na k)) else 0) + (if na k = b then (if nb k = a then 0 else dst w x ro b (nb k) - dst w x ro a (nb k)) else 0) + (if nb k = b then (if na k = a then 0 else dst w x ro b (na k) - dst w x ro a (na k)) else 0) = netf w x ro na nb k - netf w (swp x a b) (swp ro a b) na nb k := by
      unfold netf
      generalize na k = s at *
      generalize nb k = t at *
      have ds := dst_sym w x ro
      by_cases e1 : s = a
      · by_cases e2 : t = b
        · have h1 : dst w (swp x a b) (swp ro a b) s t = dst w x ro b a := by
            unfold dst
            rw [e1, e2, swp_a hab, swp_b, swp_a hab, swp_b, hw]
          rw [h1, if_pos e1, if_pos e2, if_neg (by omega), if_neg (by omega), if_pos e2, if_pos e1, e1, e2, ds a b]
          omega
        · have h1 : dst w (swp x a b) (swp ro a b) s t = dst w x ro b t := by
            unfold dst
            rw [e1, swp_a hab, swp_a hab, swp_o (by omega) e2, swp_o (by omega) e2, hw]
          rw [h1, if_pos e1, if_neg e2, if_neg (by omega), if_neg (by omega), if_neg e2, e1]
          omega
      · by_cases e2 : s = b
        · by_cases e3 : t = a
          · have h1 : dst w (swp x a b) (swp ro a b) s t = dst w x ro a b := by
              unfold dst
              rw [e2, e3, swp_a hab, swp_b, swp_a hab, swp_b, hw]
            rw [h1, if_neg e1, if_pos e3, if_pos e2, if_pos e2, if_pos e3, if_neg (by omega), e2, e3, ds a b]
            omega
          · have h1 : dst w (swp x a b) (swp ro a b) s t = dst w x ro a t := by
              unfold dst
              rw [e2, swp_b, swp_b, swp_o e3 (by omega), swp_o e3 (by omega), hw]
            rw [h1, if_neg e1, if_neg e3, if_pos e2, if_neg e3, if_neg (by omega), e2]
            omega
        · by_cases e3 : t = a
          · have h1 : dst w (swp x a b) (swp ro a b) s t = dst w x ro s b := by
              unfold dst
              rw [e3, swp_a hab, swp_a hab, swp_o e1 e2, swp_o e1 e2, hw]
            rw [h1, if_neg e1, if_pos e3, if_neg e2, if_neg e2, if_neg (by omega), e3, ds s a, ds s b]
            omega
          · by_cases e4 : t = b
            · have h1 : dst w (swp x a b) (swp ro a b) s t = dst w x ro s a := by
                unfold dst
                rw [e4, swp_b, swp_b, swp_o e1 e2, swp_o e1 e2, hw]
              rw [h1, if_neg e1, if_neg e3, if_neg e2, if_pos e4, if_neg e1, e4, ds s a, ds s b]
              omega
            · have h1 : dst w (swp x a b) (swp ro a b) s t = dst w x ro s t := by
                unfold dst
                rw [swp_o e1 e2, swp_o e1 e2, swp_o e3 e4, swp_o e3 e4]
              rw [h1, if_neg e1, if_neg e3, if_neg e2, if_neg e4]
              omega
    omega
def WS (w na nb : Int → Int) (m : Int) (x ro : Int → Int) : Int := sumN (netf w x ro na nb) m.toNat
def gd (w l rr na nb : Int → Int) (m : Int) (x ro : Int → Int) (a b : Int) : Prop := w a = w b ∧ l a = l b ∧ rr a = rr b ∧ WS w na nb m (swp x a b) (swp ro a b) < WS w na nb m x ro
def fst2 (n : Int) (G : Int → Int → Prop) (a b : Int) : Prop := 0 ≤ a ∧ a < b ∧ b < n ∧ G a b ∧ ∀ a' b', 0 ≤ a' → a' < b' → b' < n → (a' < a ∨ (a' = a ∧ b' < b)) → ¬ G a' b'
/-- at most k exchanges: z of them -/
def XRun (n : Int) (G : (Int → Int) → (Int → Int) → Int → Int → Prop) : Nat → (Int → Int) → (Int → Int) → Nat → (Int → Int) → (Int → Int) → Prop
  | 0, x, ro, z, x', ro' => z = 0 ∧ x' = x ∧ ro' = ro
  | k + 1, x, ro, z, x', ro' => ((∀ a b, 0 ≤ a → a < b → b < n → ¬ G x ro a b) ∧ z = 0 ∧ x' = x ∧ ro' = ro) ∨ ∃ a b z1, fst2 n (G x ro) a b ∧ z = z1 + 1 ∧ XRun n G k (swp x a b) (swp ro a b) z1 x' ro'
def xc (A : Nat → Int → Int) (k1 k2 : Nat) (a b : Int) : Nat → Int → Int := ua (ua (ua (ua A k1 a (A k1 b)) k2 a (A k2 b)) k1 b (A k1 a)) k2 b (A k2 a)
theorem xc_n {A : Nat → Int → Int} {k1 k2 k : Nat} {a b : Int} (h1 : k ≠ k1) (h2 : k ≠ k2) : xc A k1 k2 a b k = A k := by
  unfold xc
  rw [ua_n h2, ua_n h1, ua_n h2, ua_n h1]
theorem xc_1 {A : Nat → Int → Int} {k1 k2 : Nat} {a b : Int} (h : k1 ≠ k2) : xc A k1 k2 a b k1 = swp (A k1) a b := by
  unfold xc
  rw [ua_n h]
  funext j
  rw [ua_at, ua_n h, ua_at]
  rfl
theorem xc_2 {A : Nat → Int → Int} {k1 k2 : Nat} {a b : Int} (h : k1 ≠ k2) : xc A k1 k2 a b k2 = swp (A k2) a b := by
  unfold xc
  funext j
  rw [ua_at, ua_n (Ne.symm h), ua_at, ua_n (Ne.symm h)]
  rfl
theorem swp_swp (f : Int → Int) (a b : Int) : swp (swp f a b) a b = f := by
  funext j
  unfold swp
  by_cases e1 : j = b
  · subst e1
    rw [if_pos rfl]
    by_cases e2 : a = j
    · subst e2; rw [if_pos rfl]
    · rw [if_neg e2, if_pos rfl]
  · rw [if_neg e1]
    by_cases e2 : j = a
    · subst e2
      rw [if_pos rfl, if_pos rfl]
    · rw [if_neg e2, if_neg e1, if_neg e2]
theorem xc_xc {A : Nat → Int → Int} {k1 k2 : Nat} {a b : Int} (h : k1 ≠ k2) : xc (xc A k1 k2 a b) k1 k2 a b = A := by
  funext k
  by_cases e1 : k = k1
  · rw [e1, xc_1 h, xc_1 h, swp_swp]
  · by_cases e2 : k = k2
    · rw [e2, xc_2 h, xc_2 h, swp_swp]
    · rw [xc_n e1 e2, xc_n e1 e2]
section OP5
variable {mo : Nat} {r st : Int} {F : Nat → Int} {A : Nat → Int → Int} {P : Int → Int → (Nat → Int) → (Nat → Int → Int) → Prop}
theorem c_gain {Q : Int → Prop} {na nb : Int → Int} {c pl : Int} (n1 : F 4 ≤ 60) (m0 : 0 ≤ F 5) (m1 : F 5 ≤ 80) (hc : 0 ≤ c ∧ c < F 4) (hpl : 0 ≤ pl ∧ pl < F 4) (hN : iv_net (F 4) (F 5) (A 11) (A 12) (A 13) na nb) (hx : ∀ c, 0 ≤ c → c < F 4 → 0 ≤ A 8 c ∧ A 8 c ≤ 1000 ∧ 0 ≤ A 9 c ∧ A 9 c ≤ 16 ∧ 0 ≤ A 3 c ∧ A 3 c ≤ 40)
    (hQ : Q (chS (A 11) c (gf (A 3) (A 8) (A 9) (A 11) c pl) (2 * (F 5).toNat))) : w_Ne_gainOfCellAt mo F A c pl Q := by
  obtain ⟨N1, N2, N3⟩ := hN
  have eT : (2 * F 5).toNat = 2 * (F 5).toNat := by omega
  have cn : ∀ t : Nat, 0 ≤ chS (A 11) c (fun _ => 1) t := fun t => chS_nn t
  have c0 := cnt_le (co := A 11) (na := na) (nb := nb) (m := F 5) (fun k a b => by obtain ⟨q1, q2, q3, q4, q5, q6, q7⟩ := N1 k a b; exact ⟨q1, q2, q7⟩) c (F 5).toNat (by omega)
  refine ⟨hc.1, by omega, ?_⟩
  refine Lp3_by (fun x3 x4 x5 => 0 ≤ x5 ∧ x5 ≤ 80 ∧ ∃ t : Nat, t ≤ 2 * (F 5).toNat ∧ x4 = lastE (A 11) c t ∧ x3 + chS (A 11) c (gf (A 3) (A 8) (A 9) (A 11) c pl) t = chS (A 11) c (gf (A 3) (A 8) (A 9) (A 11) c pl) (2 * (F 5).toNat) ∧ x5 + chS (A 11) c (fun _ => 1) t ≤ F 5) (fun x3 x4 x5 => (80 - x5).toNat) ?_ 0 _ 0 ⟨by omega, by omega, 2 * (F 5).toNat, Nat.le_refl _, by rw [N2 c hc.1 (by omega), eT], by omega, by omega⟩
  rintro x3 x4 x5 ⟨g0, g1, t, t0, t1, t2, t3⟩ P hP
  have done : x4 = -1 → Q x3 := fun e => by
    rw [chS_none (by rw [← t1]; exact e)] at t2
    rw [(Int.add_zero x3).symm.trans t2]
    exact hQ
  refine ⟨⟨by omega, by omega⟩, fun h => done ?_, fun h => ?_⟩
  · refine Classical.byContradiction (fun k => ?_)
    have := chS_last (g := fun _ => 1) (by rw [← t1]; exact k : ¬ lastE (A 11) c t = -1)
    have := cn (lastE (A 11) c t).toNat
    omega
  · rcases lastE_in (A 11) c t with e | ⟨e1, e2, e3⟩
    · rw [← t1] at e
      exact ⟨⟨by omega, by omega⟩, fun _ => done e, fun k => absurd e k⟩
    · have nl := chS_last (g := fun _ => 1) (co := A 11) (c := c) (t := t) (by omega)
      have gl := chS_last (g := gf (A 3) (A 8) (A 9) (A 11) c pl) (co := A 11) (c := c) (t := t) (by omega)
      rw [← t1] at e1 e2 e3 nl gl
      have xin : 0 ≤ xo x4 ∧ xo x4 < 160 ∧ 0 ≤ A 11 (xo x4) ∧ A 11 (xo x4) < F 4 := by
        obtain ⟨q1, q2, q3, q4, q5, q6, q7⟩ := N1 (x4 / 2) (by omega) (by omega)
        by_cases ev : x4 % 2 = 0
        · have e : xo x4 = 2 * (x4 / 2) + 1 := by unfold xo; rw [if_pos ev]; omega
          rw [e, q2]
          omega
        · have e : xo x4 = 2 * (x4 / 2) := by unfold xo; rw [if_neg ev]; omega
          rw [e, q1]
          omega
      have nx : P (x3 + gf (A 3) (A 8) (A 9) (A 11) c pl x4) (A 12 x4) (x5 + 1) := by
        refine hP _ _ _ ⟨by omega, by omega, x4.toNat, by omega, ?_, by omega, by omega⟩ (by omega)
        have := N3 x4.toNat (by omega)
        rw [Int.toNat_of_nonneg e1, e3] at this
        exact this
      refine ⟨⟨by omega, by omega⟩, fun k => absurd k (by omega), fun _ => ⟨e1, by omega, xin.1, xin.2.1, ⟨by omega, by omega⟩, ⟨by omega, by omega⟩, fun k => ⟨e1, by omega, ?_⟩, fun k => ?_⟩⟩
      · unfold gf at nx
        rw [if_pos k, Int.add_zero] at nx
        exact nx
      · unfold gf at nx
        rw [if_neg k] at nx
        have qa := hx _ hc.1 hc.2
        have qb := hx _ hpl.1 hpl.2
        have qo := hx _ xin.2.2.1 xin.2.2.2
        refine c_dst ⟨by omega, by omega⟩ ⟨by omega, by omega⟩ (fun i hi => by rcases hi with rfl | rfl <;> omega) ?_
        refine c_dst ⟨by omega, by omega⟩ ⟨by omega, by omega⟩ (fun i hi => by rcases hi with rfl | rfl <;> omega) ?_
        exact ⟨e1, by omega, nx⟩
/-- one step of the class -/
theorem c_exch {Q : Int → (Nat → Int) → (Nat → Int → Int) → Prop} {na nb : Int → Int} (n0 : 0 ≤ F 4) (n1 : F 4 ≤ 60) (m0 : 0 ≤ F 5) (m1 : F 5 ≤ 80) (hN : iv_net (F 4) (F 5) (A 11) (A 12) (A 13) na nb) (hx : ∀ c, 0 ≤ c → c < F 4 → 0 ≤ A 8 c ∧ A 8 c ≤ 1000 ∧ 0 ≤ A 9 c ∧ A 9 c ≤ 16 ∧ 0 ≤ A 3 c ∧ A 3 c ≤ 40 ∧ 0 ≤ A 4 c ∧ A 4 c ≤ 3 ∧ 0 ≤ A 5 c ∧ A 5 c ≤ 3)
    (h1 : ∀ a b, fst2 (F 4) (gd (A 3) (A 4) (A 5) na nb (F 5) (A 8) (A 9)) a b → Q 1 F (xc A 8 9 a b)) (h0 : (∀ a b, 0 ≤ a → a < b → b < F 4 → ¬ gd (A 3) (A 4) (A 5) na nb (F 5) (A 8) (A 9) a b) → Q 0 F A) : w_Ne_exchangeFirstPair mo F A Q := by
  have hx' : ∀ c, 0 ≤ c → c < F 4 → 0 ≤ A 8 c ∧ A 8 c ≤ 1000 ∧ 0 ≤ A 9 c ∧ A 9 c ≤ 16 ∧ 0 ≤ A 3 c ∧ A 3 c ≤ 40 := fun c a b => by have := hx c a b; omega
  have N1' : ∀ k, 0 ≤ k → k < F 5 → A 11 (2 * k) = na k ∧ A 11 (2 * k + 1) = nb k ∧ na k ≠ nb k := fun k a b => by obtain ⟨q1, q2, q3, q4, q5, q6, q7⟩ := hN.1 k a b; exact ⟨q1, q2, q7⟩
  refine Lp3_by (fun x1 F' A' => F' = F ∧ A' = A ∧ 0 ≤ x1 ∧ x1 ≤ F 4 ∧ ∀ a b, 0 ≤ a → a < b → b < F 4 → a < x1 → ¬ gd (A 3) (A 4) (A 5) na nb (F 5) (A 8) (A 9) a b) (fun x1 _ _ => (F 4 - x1).toNat) ?_ 0 F A ⟨rfl, rfl, by omega, by omega, fun a b _ _ _ _ => by omega⟩
  rintro x1 F' A' ⟨rfl, rfl, g0, g1, g2⟩ P hP
  refine ⟨⟨by omega, by omega⟩, ⟨by omega, by omega⟩, fun h => h0 (fun a b a0 a1 a2 => g2 a b a0 a1 a2 (by omega)), fun h => ?_⟩
  refine Lp3_by (fun x2 F1 A1 => F1 = F' ∧ A1 = A' ∧ x1 < x2 ∧ x2 ≤ F' 4 ∧ ∀ b, x1 < b → b < x2 → ¬ gd (A' 3) (A' 4) (A' 5) na nb (F' 5) (A' 8) (A' 9) x1 b) (fun x2 _ _ => (F' 4 - x2).toNat) ?_ (x1 + 1) F' A' ⟨rfl, rfl, by omega, by omega, fun b _ _ => by omega⟩
  rintro x2 F1 A1 ⟨rfl, rfl, k0, k1, k2⟩ P2 hP2
  refine ⟨⟨by omega, by omega⟩, ⟨by omega, by omega⟩, fun e => ?_, fun e => ?_⟩
  · refine hP _ _ _ ⟨rfl, rfl, by omega, by omega, fun a b a0 a1 a2 a3 => ?_⟩ (by omega)
    by_cases ea : a = x1
    · subst ea; exact k2 b a1 (by omega)
    · exact g2 a b a0 a1 a2 (by omega)
  · have q1 := hx x1 g0 (by omega)
    have q2 := hx x2 (by omega) (by omega)
    have nx : ¬ gd (A1 3) (A1 4) (A1 5) na nb (F1 5) (A1 8) (A1 9) x1 x2 → P2 (x2 + 1) F1 A1 := fun ng => hP2 _ _ _ ⟨rfl, rfl, by omega, by omega, fun b b0 b1 => by
      by_cases eb : b = x2
      · subst eb; exact ng
      · exact k2 b b0 (by omega)⟩ (by omega)
    have z0 : ¬ gd (A1 3) (A1 4) (A1 5) na nb (F1 5) (A1 8) (A1 9) x1 x2 → rg 0 ∧ (((0 : Int) = 0 → w_Ne_exchangeFirstPair_b67 mo Q P P2 x1 x2 F1 A1) ∧ (¬ (0 : Int) = 0 → w_Ne_gainOfCellAt mo F1 A1 x1 x2 (fun z5 => w_Ne_gainOfCellAt mo F1 A1 x2 x1 (fun z6 => rg (z5 + z6) ∧ (((z5 + z6) ≤ 0 → w_Ne_exchangeFirstPair_b67 mo Q P P2 x1 x2 F1 A1) ∧ (¬ (z5 + z6) ≤ 0 → w_Ce_exchange mo F1 A1 x1 x2 (fun F8 A8 => Q 1 F8 A8))))))) := fun ng => ⟨rg_0, fun _ => nx ng, fun k => absurd rfl k⟩
    refine ⟨g0, by omega, by omega, by omega, ⟨by omega, by omega⟩, ⟨by omega, by omega⟩, fun e => z0 (fun g => e g.1), fun e1 => ⟨⟨by omega, by omega⟩, ⟨by omega, by omega⟩, fun e => z0 (fun g => e g.2.1), fun e2 => ⟨⟨by omega, by omega⟩, ⟨by omega, by omega⟩, fun e => z0 (fun g => e g.2.2.1), fun e3 => ⟨⟨by omega, by omega⟩, fun k => absurd k (by omega), fun _ => ?_⟩⟩⟩⟩
    refine c_gain n1 m0 m1 ⟨g0, by omega⟩ ⟨by omega, by omega⟩ hN hx' ?_
    refine c_gain n1 m0 m1 ⟨by omega, by omega⟩ ⟨g0, by omega⟩ hN hx' ?_
    rw [gain_wire (m := F1 5) N1' (by omega) e1 (F1 5).toNat (by omega)]
    have b1 := sumN_in (f := netf (A1 3) (A1 8) (A1 9) na nb) (n := (F1 5).toNat) (B := 5000) (fun k k0 k1 => by
      obtain ⟨q1, q2, q3, q4, q5, q6, q7⟩ := hN.1 k k0 (by omega)
      have a := hx _ q3 q4
      have b := hx _ q5 q6
      unfold netf dst
      omega)
    have b2 := sumN_in (f := netf (A1 3) (swp (A1 8) x1 x2) (swp (A1 9) x1 x2) na nb) (n := (F1 5).toNat) (B := 5000) (fun k k0 k1 => by
      obtain ⟨q1, q2, q3, q4, q5, q6, q7⟩ := hN.1 k k0 (by omega)
      have a := hx _ q3 q4
      have b := hx _ q5 q6
      unfold netf dst swp
      split <;> split <;> (try split) <;> (try split) <;> omega)
    refine ⟨⟨by omega, by omega⟩, fun k => nx (fun g => ?_), fun k => ⟨g0, by omega, by omega, by omega, ⟨g0, by omega, ⟨by omega, by omega, h1 x1 x2 ⟨g0, k0, by omega, ⟨e1, e2, e3, ?_⟩, fun a b a0 a1 a2 a3 => ?_⟩⟩⟩⟩⟩
    · have : sumN (netf (A1 3) (swp (A1 8) x1 x2) (swp (A1 9) x1 x2) na nb) (F1 5).toNat < sumN (netf (A1 3) (A1 8) (A1 9) na nb) (F1 5).toNat := g.2.2.2
      omega
    · show sumN (netf (A1 3) (swp (A1 8) x1 x2) (swp (A1 9) x1 x2) na nb) (F1 5).toNat < sumN (netf (A1 3) (A1 8) (A1 9) na nb) (F1 5).toNat
      omega
    · rcases a3 with h | ⟨h, h'⟩
      · exact g2 a b a0 a1 a2 h
      · subst h; exact k2 b a1 h'
/-- one step of the reference -/
theorem m_exch {Q : Int → (Nat → Int) → (Nat → Int → Int) → Prop} (n0 : 0 ≤ F 13) (n1 : F 13 ≤ 60) (m0 : 0 ≤ F 14) (m1 : F 14 ≤ 80) (hn : ∀ k, 0 ≤ k → k < F 14 → 0 ≤ A 31 k ∧ A 31 k < F 13 ∧ 0 ≤ A 32 k ∧ A 32 k < F 13) (hx : ∀ c, 0 ≤ c → c < F 13 → 0 ≤ A 33 c ∧ A 33 c ≤ 1000 ∧ 0 ≤ A 34 c ∧ A 34 c ≤ 16 ∧ 0 ≤ A 25 c ∧ A 25 c ≤ 40 ∧ 0 ≤ A 26 c ∧ A 26 c ≤ 3 ∧ 0 ≤ A 27 c ∧ A 27 c ≤ 3)
    (h1 : ∀ a b, fst2 (F 13) (gd (A 25) (A 26) (A 27) (A 31) (A 32) (F 14) (A 33) (A 34)) a b → Q 1 F (xc A 33 34 a b)) (h0 : (∀ a b, 0 ≤ a → a < b → b < F 13 → ¬ gd (A 25) (A 26) (A 27) (A 31) (A 32) (F 14) (A 33) (A 34) a b) → Q 0 F A) : w_Mo_isExchanged mo F A Q := by
  have hx' : ∀ c, 0 ≤ c → c < F 13 → 0 ≤ A 33 c ∧ A 33 c ≤ 1000 ∧ 0 ≤ A 34 c ∧ A 34 c ≤ 16 ∧ 0 ≤ A 25 c ∧ A 25 c ≤ 40 := fun c a b => by have := hx c a b; omega
  have b1 := sumN_in (f := netf (A 25) (A 33) (A 34) (A 31) (A 32)) (n := (F 14).toNat) (B := 5000) (fun k k0 k1 => by
      obtain ⟨q3, q4, q5, q6⟩ := hn k k0 (by omega)
      have a := hx _ q3 q4
      have b := hx _ q5 q6
      unfold netf dst
      omega)
  refine m_wire n1 m0 m1 hn hx' ?_
  refine Lp3_by (fun x1 F' A' => F' = F ∧ A' = A ∧ 0 ≤ x1 ∧ x1 ≤ F 13 ∧ ∀ a b, 0 ≤ a → a < b → b < F 13 → a < x1 → ¬ gd (A 25) (A 26) (A 27) (A 31) (A 32) (F 14) (A 33) (A 34) a b) (fun x1 _ _ => (F 13 - x1).toNat) ?_ 0 F A ⟨rfl, rfl, by omega, by omega, fun a b _ _ _ _ => by omega⟩
  rintro x1 F' A' ⟨rfl, rfl, g0, g1, g2⟩ P hP
  refine ⟨⟨by omega, by omega⟩, ⟨by omega, by omega⟩, fun h => h0 (fun a b a0 a1 a2 => g2 a b a0 a1 a2 (by omega)), fun h => ?_⟩
  refine Lp3_by (fun x2 F1 A1 => F1 = F' ∧ A1 = A' ∧ x1 < x2 ∧ x2 ≤ F' 13 ∧ ∀ b, x1 < b → b < x2 → ¬ gd (A' 25) (A' 26) (A' 27) (A' 31) (A' 32) (F' 14) (A' 33) (A' 34) x1 b) (fun x2 _ _ => (F' 13 - x2).toNat) ?_ (x1 + 1) F' A' ⟨rfl, rfl, by omega, by omega, fun b _ _ => by omega⟩
  rintro x2 F1 A1 ⟨rfl, rfl, k0, k1, k2⟩ P2 hP2
  refine ⟨⟨by omega, by omega⟩, ⟨by omega, by omega⟩, fun e => ?_, fun e => ?_⟩
  · refine hP _ _ _ ⟨rfl, rfl, by omega, by omega, fun a b a0 a1 a2 a3 => ?_⟩ (by omega)
    by_cases ea : a = x1
    · subst ea; exact k2 b a1 (by omega)
    · exact g2 a b a0 a1 a2 (by omega)
  · have q1 := hx x1 g0 (by omega)
    have q2 := hx x2 (by omega) (by omega)
    have nx : ¬ gd (A1 25) (A1 26) (A1 27) (A1 31) (A1 32) (F1 14) (A1 33) (A1 34) x1 x2 → P2 (x2 + 1) F1 A1 := fun ng => hP2 _ _ _ ⟨rfl, rfl, by omega, by omega, fun b b0 b1 => by
      by_cases eb : b = x2
      · subst eb; exact ng
      · exact k2 b b0 (by omega)⟩ (by omega)
    refine ⟨g0, by omega, by omega, by omega, ⟨by omega, by omega⟩, ⟨by omega, by omega⟩, fun e => nx (fun g => e g.1), fun e1 => ⟨⟨by omega, by omega⟩, ⟨by omega, by omega⟩, fun e => nx (fun g => e g.2.1), fun e2 => ⟨⟨by omega, by omega⟩, ⟨by omega, by omega⟩, fun e3 => ⟨g0, by omega, by omega, by omega, ?_⟩, fun e => nx (fun g => e g.2.2.1)⟩⟩⟩
    have d33 : (33 : Nat) ≠ 34 := by decide
    refine m_wire (A := xc A1 33 34 x1 x2) n1 m0 m1 ?_ ?_ ?_
    · rw [xc_n (k := 31) (by decide) (by decide), xc_n (k := 32) (by decide) (by decide)]
      exact hn
    · rw [xc_n (k := 25) (by decide) (by decide), xc_1 d33, xc_2 d33]
      intro c c0 c1
      have q := hx c c0 c1
      unfold swp
      split
      · omega
      · split <;> omega
    · rw [xc_n (k := 25) (by decide) (by decide), xc_n (k := 31) (by decide) (by decide), xc_n (k := 32) (by decide) (by decide), xc_1 d33, xc_2 d33]
      have b2 := sumN_in (f := netf (A1 25) (swp (A1 33) x1 x2) (swp (A1 34) x1 x2) (A1 31) (A1 32)) (n := (F1 14).toNat) (B := 5000) (fun k k0 k1 => by
        obtain ⟨q3, q4, q5, q6⟩ := hn k k0 (by omega)
        have a := hx _ q3 q4
        have b := hx _ q5 q6
        unfold netf dst swp
        split <;> split <;> (try split) <;> (try split) <;> omega)
      refine ⟨⟨by omega, by omega⟩, ⟨by omega, by omega⟩, fun k => ⟨g0, by omega, by omega, by omega, ?_⟩, fun k => ?_⟩
      · show P2 (x2 + 1) F1 (xc (xc A1 33 34 x1 x2) 33 34 x1 x2)
        rw [xc_xc d33]
        refine nx (fun g => ?_)
        have : sumN (netf (A1 25) (swp (A1 33) x1 x2) (swp (A1 34) x1 x2) (A1 31) (A1 32)) (F1 14).toNat < sumN (netf (A1 25) (A1 33) (A1 34) (A1 31) (A1 32)) (F1 14).toNat := g.2.2.2
        omega
      · refine h1 x1 x2 ⟨g0, k0, by omega, ⟨e1, e2, e3, ?_⟩, fun a b a0 a1 a2 a3 => ?_⟩
        · show sumN (netf (A1 25) (swp (A1 33) x1 x2) (swp (A1 34) x1 x2) (A1 31) (A1 32)) (F1 14).toNat < sumN (netf (A1 25) (A1 33) (A1 34) (A1 31) (A1 32)) (F1 14).toNat
          omega
        · rcases a3 with h | ⟨h, h'⟩
          · exact g2 a b a0 a1 a2 h
          · subst h; exact k2 b a1 h'
end OP5
