/-! THE INVARIANT between the class and the reference, over whole numbers -/
def iv_e (lo hi m : Int) (f g : Int → Int) : Prop := ∀ c, 0 ≤ c → c < m → f c = g c ∧ lo ≤ f c ∧ f c ≤ hi
def iv_r (r st a b c d : Int) : Prop := a = r ∧ b = st ∧ c = r ∧ d = st ∧ 1 ≤ r ∧ r ≤ 16 ∧ 1 ≤ st ∧ st ≤ 1000
def iv_n (n n2 m m2 p p2 : Int) : Prop := n = n2 ∧ 0 ≤ n ∧ n ≤ 60 ∧ m = m2 ∧ 0 ≤ m ∧ m ≤ 80 ∧ p = p2 ∧ (p = 0 ∨ p = 1)
/-- the greatest end below t that is of cell c, or -1 -/
def lastE (co : Int → Int) (c : Int) : Nat → Int
  | 0 => -1
  | t + 1 => if co t = c then (t : Int) else lastE co c t
def iv_net (n m : Int) (co ne fe na nb : Int → Int) : Prop :=
  (∀ k, 0 ≤ k → k < m → co (2 * k) = na k ∧ co (2 * k + 1) = nb k ∧ 0 ≤ na k ∧ na k < n ∧ 0 ≤ nb k ∧ nb k < n ∧ na k ≠ nb k) ∧
  (∀ c, 0 ≤ c → c < 60 → fe c = lastE co c (2 * m).toNat) ∧ (∀ e : Nat, e < (2 * m).toNat → ne e = lastE co (co e) e)
def iv_pl (p n r st : Int) (w x x2 ro ro2 : Int → Int) : Prop := p = 1 → ∀ c, 0 ≤ c → c < n → x c = x2 c ∧ ro c = ro2 c ∧ 0 ≤ ro c ∧ ro c < r ∧ 0 ≤ x c ∧ x c + w c ≤ st
/-- the class's parts are the reference's runs of sites that are not barred, in order -/
def iv_pt (mo : Nat) (r st p : Int) (pr pf pt ba : Int → Int) : Prop :=
  0 ≤ p ∧ p ≤ mo ∧ (∀ i, 0 ≤ i → i < p → 0 ≤ pr i ∧ pr i < r ∧ 0 ≤ pf i ∧ pf i < pt i ∧ pt i ≤ st) ∧
  (∀ i, 0 ≤ i → i + 1 < p → pr i < pr (i + 1) ∨ (pr i = pr (i + 1) ∧ pt i < pf (i + 1))) ∧
  (∀ a x, 0 ≤ a → a < r → 0 ≤ x → x < st → (ba (1000 * a + x) = 0 ∨ ba (1000 * a + x) = 1) ∧ (ba (1000 * a + x) = 0 ↔ ∃ i, 0 ≤ i ∧ i < p ∧ pr i = a ∧ pf i ≤ x ∧ x < pt i))
def Inv (mo : Nat) (r st : Int) (F : Nat → Int) (A : Nat → Int → Int) : Prop :=
  iv_r r st (F 1) (F 2) (F 11) (F 12) ∧ iv_n (F 4) (F 13) (F 5) (F 14) (F 0) (F 15) ∧
  iv_e 1 40 (F 4) (A 3) (A 25) ∧ iv_e 0 3 60 (A 4) (A 26) ∧ iv_e 0 3 60 (A 5) (A 27) ∧ iv_e 0 (st - 1) 60 (A 6) (A 28) ∧ iv_e 0 (r - 1) 60 (A 7) (A 29) ∧ iv_e 0 20 16 (A 10) (A 30) ∧
  iv_net (F 4) (F 5) (A 11) (A 12) (A 13) (A 31) (A 32) ∧ iv_pt mo r st (F 3) (A 0) (A 1) (A 2) (A 24) ∧ iv_pl (F 0) (F 4) r st (A 3) (A 8) (A 33) (A 9) (A 34)
/-- behind one call: both answers, the invariant -/
def Ok (mo : Nat) (r st : Int) (z z2 : Int) (F : Nat → Int) (A : Nat → Int → Int) : Prop := Inv mo r st F A ∧ F 10 = z ∧ 0 ≤ z ∧ z ≤ 3 ∧ (z = 0 → A 42 0 = z2)
theorem iv_e_up {lo hi m i v : Int} {f g : Int → Int} (h : iv_e lo hi m f g) (h1 : lo ≤ v) (h2 : v ≤ hi) {f' g' : Int → Int} (hf : ∀ j, f' j = if j = i then v else f j) (hg : ∀ j, g' j = if j = i then v else g j) : iv_e lo hi m f' g' := by
  intro c a b
  have := h c a b
  rw [hf, hg]
  split
  · exact ⟨rfl, h1, h2⟩
  · exact this
theorem iv_pl0 {n r st : Int} {w x x2 ro ro2 : Int → Int} : iv_pl 0 n r st w x x2 ro ro2 := fun h => by omega
