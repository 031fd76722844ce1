/-! NUMBERS: the machine's ints and longs by whole numbers. Sums, differences and products need no bound; comparisons, places and i2l do. -/
def iI (z : Int) : Int32 := Int32.ofInt z
def lI (z : Int) : Int64 := Int64.ofInt z
def rg (z : Int) : Prop := -2147483648 ≤ z ∧ z ≤ 2147483647
def rL (z : Int) : Prop := -9223372036854775808 ≤ z ∧ z ≤ 9223372036854775807
theorem iI_t {z : Int} (h : rg z) : (iI z).toInt = z := Int32.toInt_ofInt_of_le (by have := h.1; omega) (by have := h.2; omega)
theorem lI_t {z : Int} (h : rL z) : (lI z).toInt = z := Int64.toInt_ofInt_of_le (by have := h.1; omega) (by have := h.2; omega)
theorem iI_lt {a b : Int} (ha : rg a) (hb : rg b) : iI a < iI b ↔ a < b := by rw [Int32.lt_iff_toInt_lt, iI_t ha, iI_t hb]
theorem iI_le {a b : Int} (ha : rg a) (hb : rg b) : iI a ≤ iI b ↔ a ≤ b := by rw [Int32.le_iff_toInt_le, iI_t ha, iI_t hb]
theorem iI_eq {a b : Int} (ha : rg a) (hb : rg b) : iI a = iI b ↔ a = b := ⟨fun h => by rw [← iI_t ha, ← iI_t hb, h], fun h => by rw [h]⟩
theorem lI_lt {a b : Int} (ha : rL a) (hb : rL b) : lI a < lI b ↔ a < b := by rw [Int64.lt_iff_toInt_lt, lI_t ha, lI_t hb]
theorem lI_le {a b : Int} (ha : rL a) (hb : rL b) : lI a ≤ lI b ↔ a ≤ b := by rw [Int64.le_iff_toInt_le, lI_t ha, lI_t hb]
theorem lI_eq {a b : Int} (ha : rL a) (hb : rL b) : lI a = lI b ↔ a = b := ⟨fun h => by rw [← lI_t ha, ← lI_t hb, h], fun h => by rw [h]⟩
theorem iI_add (a b : Int) : iI a + iI b = iI (a + b) := (Int32.ofInt_add a b).symm
theorem iI_sub (a b : Int) : iI a - iI b = iI (a - b) := (Int32.ofInt_sub a b).symm
theorem iI_mul (a b : Int) : iI a * iI b = iI (a * b) := (Int32.ofInt_mul a b).symm
theorem lI_add (a b : Int) : lI a + lI b = lI (a + b) := (Int64.ofInt_add a b).symm
theorem lI_sub (a b : Int) : lI a - lI b = lI (a - b) := (Int64.ofInt_sub a b).symm
theorem lI_mul (a b : Int) : lI a * lI b = lI (a * b) := (Int64.ofInt_mul a b).symm
theorem iI_0 : iI 0 = 0 := rfl
theorem lI_0 : lI 0 = 0 := rfl
theorem rg_0 : rg 0 := ⟨by omega, by omega⟩
theorem iI_self (x : Int32) : iI x.toInt = x := Int32.ofInt_toInt x
theorem lI_self (x : Int64) : lI x.toInt = x := Int64.ofInt_toInt x
theorem rg_toInt (x : Int32) : rg x.toInt := ⟨by have := x.le_toInt; omega, by have := x.toInt_lt; omega⟩
theorem rL_toInt (x : Int64) : rL x.toInt := ⟨by have := x.le_toInt; omega, by have := x.toInt_lt; omega⟩
theorem iI_c {z : Int} (h0 : 0 ≤ z) (h1 : z < 2147483648) : (iI z).toNatClampNeg = z.toNat := by
  show (iI z).toInt.toNat = z.toNat
  rw [iI_t ⟨by omega, by omega⟩]
theorem iI_in {z : Int} {n : Nat} (h0 : 0 ≤ z) (h1 : z < n) (hn : n < 2147483648) : vp_in (iI z) n := vp_in_iff.mpr (by
  rw [iI_t ⟨by omega, by omega⟩]; exact ⟨h0, h1⟩)
theorem iI_l {z : Int} (h : rg z) : (iI z).toInt64 = lI z := by
  apply Int64.toInt.inj
  rw [Int32.toInt_toInt64, iI_t h, lI_t ⟨by have := h.1; omega, by have := h.2; omega⟩]
theorem lI_i (z : Int) : (lI z).toInt32 = iI z := Int64.toInt32_ofInt
theorem nI_iI (n : Nat) : nI n = iI n := Int32.ofInt_eq_ofNat.symm
theorem iI_ofNat (n : Nat) : Int32.ofNat n = iI n := Int32.ofInt_eq_ofNat.symm
theorem iI_div {a : Int} (d : Nat) (h0 : 0 ≤ a) (h1 : a < 2147483648) (hd : 0 < d) (hd2 : d < 2147483648) : iI a / iI d = iI (a / d) := by
  obtain ⟨n, rfl⟩ := Int.eq_ofNat_of_zero_le h0
  rw [← nI_iI, ← nI_iI, pk_div (by omega) hd (by omega), nI_iI]
  rfl
theorem iI_rem {a : Int} (d : Nat) (h0 : 0 ≤ a) (h1 : a < 2147483648) (hd : 0 < d) (hd2 : d < 2147483648) : iI a - iI a / iI d * iI d = iI (a % d) := by
  obtain ⟨n, rfl⟩ := Int.eq_ofNat_of_zero_le h0
  rw [← nI_iI, ← nI_iI, pk_rem (by omega) hd (by omega), nI_iI]
  rfl
/-! THE WORLD: a shape (which cells, which fields), addresses, and two functions: the number fields F and the arrays A. -/
abbrev x_F : Type := Nat ⊕ Nat
abbrev x_D : Type := Nat × ((Nat × List x_F) ⊕ (Nat × Nat))
abbrev x_St : Type := (Nat → Int) × (Nat → Int → Int)
def x_fv (ad : Nat → Nat) (F : Nat → Int) (f : x_F) : Value := match f with
  | .inl k => .ref (ad k)
  | .inr j => .int (iI (F j))
def x_ar (kd : Nat) (f : Int → Int) : (Nat → Int32) ⊕ (Nat → Int64) ⊕ (Nat → UInt32) ⊕ (Nat → UInt64) ⊕ (Nat → Option Nat) := match kd with
  | 2 => .inr (.inl (fun j => lI (f j)))
  | _ => .inl (fun j => iI (f j))
def x_e (ad : Nat → Nat) (cA : Nat → ClassId) (N : Nat → Nat) (F : Nat → Int) (A : Nat → Int → Int) (d : x_D) : Nat × va_E := (ad d.1, match d.2 with
  | .inl q => .inr (q.1, q.2.map (x_fv ad F))
  | .inr q => .inl (cA q.2, N q.2, x_ar q.1 (A q.2)))
def x_w (sh : List x_D) (ad : Nat → Nat) (cA : Nat → ClassId) (N : Nat → Nat) (F : Nat → Int) (A : Nat → Int → Int) : va_W := sh.map (x_e ad cA N F A)
def x_ty (kd : Nat) : FieldType := match kd with
  | 2 => .long
  | 1 => .boolean
  | _ => .int
def x_tys (sh : List x_D) (cA : Nat → ClassId) : List (ClassId × FieldType) := sh.filterMap (fun d => match d.2 with
  | .inl _ => none
  | .inr q => some (cA q.2, x_ty q.1))
def x_S (D : va_G) (cl : List vw_C) (sh : List x_D) (ad : Nat → Nat) (cA : Nat → ClassId) (N : Nat → Nat) (A0 : Nat → Prop) (s : State) (F : Nat → Int) (A : Nat → Int → Int) (H : Heap) (locs : List Loc) : Prop :=
  va_K D cl (x_tys sh cA) s ∧ va_P D cl (x_w sh ad cA N F A) H ∧ va_D A0 (x_w sh ad cA N F A) ∧ va_S A0 s.heap H locs ∧ ∀ k, N k < 2147483648
def ua (A : Nat → Int → Int) (k : Nat) (i v : Int) : Nat → Int → Int := fun a j => if a = k then (if j = i then v else A k j) else A a j
def uf (F : Nat → Int) (k : Nat) (v : Int) : Nat → Int := fun j => if j = k then v else F j
theorem x_wq {sh : List x_D} {ad : Nat → Nat} {cA : Nat → ClassId} {N : Nat → Nat} {F : Nat → Int} {A : Nat → Int → Int} {q : Nat} {d : x_D} (h : sh[q]? = some d) : (x_w sh ad cA N F A)[q]? = some (x_e ad cA N F A d) := by
  unfold x_w
  rw [List.getElem?_map, h]
  rfl
theorem x_tq {sh : List x_D} {cA : Nat → ClassId} {q t kd id : Nat} (h : sh[q]? = some (t, .inr (kd, id))) : ∃ t0 : Nat, (x_tys sh cA)[t0]? = some (cA id, x_ty kd) := by
  have hm : (cA id, x_ty kd) ∈ x_tys sh cA := List.mem_filterMap.mpr ⟨_, List.mem_of_getElem? h, rfl⟩
  obtain ⟨t0, h0, h1⟩ := List.getElem_of_mem hm
  exact ⟨t0, by rw [List.getElem?_eq_getElem h0, h1]⟩
theorem x_wl {sh : List x_D} {ad : Nat → Nat} {cA : Nat → ClassId} {N : Nat → Nat} {F F' : Nat → Int} {A A' : Nat → Int → Int} {k : Nat} {q : Nat × va_E} (h : (x_w sh ad cA N F' A')[k]? = some q) : ∃ e, (x_w sh ad cA N F A)[k]? = some (q.1, e) := by
  unfold x_w at h ⊢
  rw [List.getElem?_map] at h ⊢
  cases hd : sh[k]? with
  | none => rw [hd] at h; cases h
  | some d => rw [hd] at h; cases h; exact ⟨_, rfl⟩
theorem x_Dm {sh : List x_D} {ad : Nat → Nat} {cA : Nat → ClassId} {N : Nat → Nat} {F F' : Nat → Int} {A A' : Nat → Int → Int} {A0 : Nat → Prop} (h : va_D A0 (x_w sh ad cA N F A)) : va_D A0 (x_w sh ad cA N F' A') := by
  refine ⟨fun i j p q hp hq e => ?_, fun k q hq => ?_⟩
  · obtain ⟨e1, h1⟩ := x_wl (F := F) (A := A) hp
    obtain ⟨e2, h2⟩ := x_wl (F := F) (A := A) hq
    exact h.1 i j _ _ h1 h2 e
  · obtain ⟨e1, h1⟩ := x_wl (F := F) (A := A) hq
    exact h.2 k (q.1, e1) h1
theorem x_Am {sh : List x_D} {ad : Nat → Nat} {cA : Nat → ClassId} {N : Nat → Nat} {F F' : Nat → Int} {A A' : Nat → Int → Int} {sz : Nat} : va_A (x_w sh ad cA N F A) sz = va_A (x_w sh ad cA N F' A') sz := by
  funext q
  apply propext
  constructor
  · rintro (⟨k, e, h⟩ | h)
    · obtain ⟨e1, h1⟩ := x_wl (F := F') (A := A') h
      exact Or.inl ⟨k, e1, h1⟩
    · exact Or.inr h
  · rintro (⟨k, e, h⟩ | h)
    · obtain ⟨e1, h1⟩ := x_wl (F := F) (A := A) h
      exact Or.inl ⟨k, e1, h1⟩
    · exact Or.inr h
/-! LOOPS: the least predicate that a body closes; no fuel. -/
def Lp1 {A1 : Type} (B : (A1 → Prop) → A1 → Prop) (a1 : A1) : Prop := ∀ I : A1 → Prop, (∀ (a1 : A1), B I a1 → I a1) → I a1
theorem Lp1_by {A1 : Type} {B : (A1 → Prop) → A1 → Prop} (Inv : A1 → Prop) (μ : A1 → Nat) (hs : ∀ (a1 : A1), Inv a1 → ∀ P : A1 → Prop, (∀ (b1 : A1), Inv b1 → μ b1 < μ a1 → P b1) → B P a1) (a1 : A1) (h : Inv a1) : Lp1 B a1 := by
  intro I hI
  have key : ∀ (n : Nat) (a1 : A1), Inv a1 → μ a1 < n → I a1 := by
    intro n
    induction n with
    | zero => intro a1 _ h2; exact absurd h2 (Nat.not_lt_zero _)
    | succ n ih => intro a1 h1 h2; exact hI a1 (hs a1 h1 I (fun b1 h3 h4 => ih b1 h3 (by omega)))
  exact key (μ a1 + 1) a1 h (Nat.lt_succ_self _)
def Lp2 {A1 A2 : Type} (B : (A1 → A2 → Prop) → A1 → A2 → Prop) (a1 : A1) (a2 : A2) : Prop := ∀ I : A1 → A2 → Prop, (∀ (a1 : A1) (a2 : A2), B I a1 a2 → I a1 a2) → I a1 a2
theorem Lp2_by {A1 A2 : Type} {B : (A1 → A2 → Prop) → A1 → A2 → Prop} (Inv : A1 → A2 → Prop) (μ : A1 → A2 → Nat) (hs : ∀ (a1 : A1) (a2 : A2), Inv a1 a2 → ∀ P : A1 → A2 → Prop, (∀ (b1 : A1) (b2 : A2), Inv b1 b2 → μ b1 b2 < μ a1 a2 → P b1 b2) → B P a1 a2) (a1 : A1) (a2 : A2) (h : Inv a1 a2) : Lp2 B a1 a2 := by
  intro I hI
  have key : ∀ (n : Nat) (a1 : A1) (a2 : A2), Inv a1 a2 → μ a1 a2 < n → I a1 a2 := by
    intro n
    induction n with
    | zero => intro a1 a2 _ h2; exact absurd h2 (Nat.not_lt_zero _)
    | succ n ih => intro a1 a2 h1 h2; exact hI a1 a2 (hs a1 a2 h1 I (fun b1 b2 h3 h4 => ih b1 b2 h3 (by omega)))
  exact key (μ a1 a2 + 1) a1 a2 h (Nat.lt_succ_self _)
def Lp3 {A1 A2 A3 : Type} (B : (A1 → A2 → A3 → Prop) → A1 → A2 → A3 → Prop) (a1 : A1) (a2 : A2) (a3 : A3) : Prop := ∀ I : A1 → A2 → A3 → Prop, (∀ (a1 : A1) (a2 : A2) (a3 : A3), B I a1 a2 a3 → I a1 a2 a3) → I a1 a2 a3
theorem Lp3_by {A1 A2 A3 : Type} {B : (A1 → A2 → A3 → Prop) → A1 → A2 → A3 → Prop} (Inv : A1 → A2 → A3 → Prop) (μ : A1 → A2 → A3 → Nat) (hs : ∀ (a1 : A1) (a2 : A2) (a3 : A3), Inv a1 a2 a3 → ∀ P : A1 → A2 → A3 → Prop, (∀ (b1 : A1) (b2 : A2) (b3 : A3), Inv b1 b2 b3 → μ b1 b2 b3 < μ a1 a2 a3 → P b1 b2 b3) → B P a1 a2 a3) (a1 : A1) (a2 : A2) (a3 : A3) (h : Inv a1 a2 a3) : Lp3 B a1 a2 a3 := by
  intro I hI
  have key : ∀ (n : Nat) (a1 : A1) (a2 : A2) (a3 : A3), Inv a1 a2 a3 → μ a1 a2 a3 < n → I a1 a2 a3 := by
    intro n
    induction n with
    | zero => intro a1 a2 a3 _ h2; exact absurd h2 (Nat.not_lt_zero _)
    | succ n ih => intro a1 a2 a3 h1 h2; exact hI a1 a2 a3 (hs a1 a2 a3 h1 I (fun b1 b2 b3 h3 h4 => ih b1 b2 b3 h3 (by omega)))
  exact key (μ a1 a2 a3 + 1) a1 a2 a3 h (Nat.lt_succ_self _)
def Lp4 {A1 A2 A3 A4 : Type} (B : (A1 → A2 → A3 → A4 → Prop) → A1 → A2 → A3 → A4 → Prop) (a1 : A1) (a2 : A2) (a3 : A3) (a4 : A4) : Prop := ∀ I : A1 → A2 → A3 → A4 → Prop, (∀ (a1 : A1) (a2 : A2) (a3 : A3) (a4 : A4), B I a1 a2 a3 a4 → I a1 a2 a3 a4) → I a1 a2 a3 a4
theorem Lp4_by {A1 A2 A3 A4 : Type} {B : (A1 → A2 → A3 → A4 → Prop) → A1 → A2 → A3 → A4 → Prop} (Inv : A1 → A2 → A3 → A4 → Prop) (μ : A1 → A2 → A3 → A4 → Nat) (hs : ∀ (a1 : A1) (a2 : A2) (a3 : A3) (a4 : A4), Inv a1 a2 a3 a4 → ∀ P : A1 → A2 → A3 → A4 → Prop, (∀ (b1 : A1) (b2 : A2) (b3 : A3) (b4 : A4), Inv b1 b2 b3 b4 → μ b1 b2 b3 b4 < μ a1 a2 a3 a4 → P b1 b2 b3 b4) → B P a1 a2 a3 a4) (a1 : A1) (a2 : A2) (a3 : A3) (a4 : A4) (h : Inv a1 a2 a3 a4) : Lp4 B a1 a2 a3 a4 := by
  intro I hI
  have key : ∀ (n : Nat) (a1 : A1) (a2 : A2) (a3 : A3) (a4 : A4), Inv a1 a2 a3 a4 → μ a1 a2 a3 a4 < n → I a1 a2 a3 a4 := by
    intro n
    induction n with
    | zero => intro a1 a2 a3 a4 _ h2; exact absurd h2 (Nat.not_lt_zero _)
    | succ n ih => intro a1 a2 a3 a4 h1 h2; exact hI a1 a2 a3 a4 (hs a1 a2 a3 a4 h1 I (fun b1 b2 b3 b4 h3 h4 => ih b1 b2 b3 b4 h3 (by omega)))
  exact key (μ a1 a2 a3 a4 + 1) a1 a2 a3 a4 h (Nat.lt_succ_self _)
def Lp5 {A1 A2 A3 A4 A5 : Type} (B : (A1 → A2 → A3 → A4 → A5 → Prop) → A1 → A2 → A3 → A4 → A5 → Prop) (a1 : A1) (a2 : A2) (a3 : A3) (a4 : A4) (a5 : A5) : Prop := ∀ I : A1 → A2 → A3 → A4 → A5 → Prop, (∀ (a1 : A1) (a2 : A2) (a3 : A3) (a4 : A4) (a5 : A5), B I a1 a2 a3 a4 a5 → I a1 a2 a3 a4 a5) → I a1 a2 a3 a4 a5
theorem Lp5_by {A1 A2 A3 A4 A5 : Type} {B : (A1 → A2 → A3 → A4 → A5 → Prop) → A1 → A2 → A3 → A4 → A5 → Prop} (Inv : A1 → A2 → A3 → A4 → A5 → Prop) (μ : A1 → A2 → A3 → A4 → A5 → Nat) (hs : ∀ (a1 : A1) (a2 : A2) (a3 : A3) (a4 : A4) (a5 : A5), Inv a1 a2 a3 a4 a5 → ∀ P : A1 → A2 → A3 → A4 → A5 → Prop, (∀ (b1 : A1) (b2 : A2) (b3 : A3) (b4 : A4) (b5 : A5), Inv b1 b2 b3 b4 b5 → μ b1 b2 b3 b4 b5 < μ a1 a2 a3 a4 a5 → P b1 b2 b3 b4 b5) → B P a1 a2 a3 a4 a5) (a1 : A1) (a2 : A2) (a3 : A3) (a4 : A4) (a5 : A5) (h : Inv a1 a2 a3 a4 a5) : Lp5 B a1 a2 a3 a4 a5 := by
  intro I hI
  have key : ∀ (n : Nat) (a1 : A1) (a2 : A2) (a3 : A3) (a4 : A4) (a5 : A5), Inv a1 a2 a3 a4 a5 → μ a1 a2 a3 a4 a5 < n → I a1 a2 a3 a4 a5 := by
    intro n
    induction n with
    | zero => intro a1 a2 a3 a4 a5 _ h2; exact absurd h2 (Nat.not_lt_zero _)
    | succ n ih => intro a1 a2 a3 a4 a5 h1 h2; exact hI a1 a2 a3 a4 a5 (hs a1 a2 a3 a4 a5 h1 I (fun b1 b2 b3 b4 b5 h3 h4 => ih b1 b2 b3 b4 b5 h3 (by omega)))
  exact key (μ a1 a2 a3 a4 a5 + 1) a1 a2 a3 a4 a5 h (Nat.lt_succ_self _)
def Lp6 {A1 A2 A3 A4 A5 A6 : Type} (B : (A1 → A2 → A3 → A4 → A5 → A6 → Prop) → A1 → A2 → A3 → A4 → A5 → A6 → Prop) (a1 : A1) (a2 : A2) (a3 : A3) (a4 : A4) (a5 : A5) (a6 : A6) : Prop := ∀ I : A1 → A2 → A3 → A4 → A5 → A6 → Prop, (∀ (a1 : A1) (a2 : A2) (a3 : A3) (a4 : A4) (a5 : A5) (a6 : A6), B I a1 a2 a3 a4 a5 a6 → I a1 a2 a3 a4 a5 a6) → I a1 a2 a3 a4 a5 a6
theorem Lp6_by {A1 A2 A3 A4 A5 A6 : Type} {B : (A1 → A2 → A3 → A4 → A5 → A6 → Prop) → A1 → A2 → A3 → A4 → A5 → A6 → Prop} (Inv : A1 → A2 → A3 → A4 → A5 → A6 → Prop) (μ : A1 → A2 → A3 → A4 → A5 → A6 → Nat) (hs : ∀ (a1 : A1) (a2 : A2) (a3 : A3) (a4 : A4) (a5 : A5) (a6 : A6), Inv a1 a2 a3 a4 a5 a6 → ∀ P : A1 → A2 → A3 → A4 → A5 → A6 → Prop, (∀ (b1 : A1) (b2 : A2) (b3 : A3) (b4 : A4) (b5 : A5) (b6 : A6), Inv b1 b2 b3 b4 b5 b6 → μ b1 b2 b3 b4 b5 b6 < μ a1 a2 a3 a4 a5 a6 → P b1 b2 b3 b4 b5 b6) → B P a1 a2 a3 a4 a5 a6) (a1 : A1) (a2 : A2) (a3 : A3) (a4 : A4) (a5 : A5) (a6 : A6) (h : Inv a1 a2 a3 a4 a5 a6) : Lp6 B a1 a2 a3 a4 a5 a6 := by
  intro I hI
  have key : ∀ (n : Nat) (a1 : A1) (a2 : A2) (a3 : A3) (a4 : A4) (a5 : A5) (a6 : A6), Inv a1 a2 a3 a4 a5 a6 → μ a1 a2 a3 a4 a5 a6 < n → I a1 a2 a3 a4 a5 a6 := by
    intro n
    induction n with
    | zero => intro a1 a2 a3 a4 a5 a6 _ h2; exact absurd h2 (Nat.not_lt_zero _)
    | succ n ih => intro a1 a2 a3 a4 a5 a6 h1 h2; exact hI a1 a2 a3 a4 a5 a6 (hs a1 a2 a3 a4 a5 a6 h1 I (fun b1 b2 b3 b4 b5 b6 h3 h4 => ih b1 b2 b3 b4 b5 b6 h3 (by omega)))
  exact key (μ a1 a2 a3 a4 a5 a6 + 1) a1 a2 a3 a4 a5 a6 h (Nat.lt_succ_self _)
def Lp7 {A1 A2 A3 A4 A5 A6 A7 : Type} (B : (A1 → A2 → A3 → A4 → A5 → A6 → A7 → Prop) → A1 → A2 → A3 → A4 → A5 → A6 → A7 → Prop) (a1 : A1) (a2 : A2) (a3 : A3) (a4 : A4) (a5 : A5) (a6 : A6) (a7 : A7) : Prop := ∀ I : A1 → A2 → A3 → A4 → A5 → A6 → A7 → Prop, (∀ (a1 : A1) (a2 : A2) (a3 : A3) (a4 : A4) (a5 : A5) (a6 : A6) (a7 : A7), B I a1 a2 a3 a4 a5 a6 a7 → I a1 a2 a3 a4 a5 a6 a7) → I a1 a2 a3 a4 a5 a6 a7
theorem Lp7_by {A1 A2 A3 A4 A5 A6 A7 : Type} {B : (A1 → A2 → A3 → A4 → A5 → A6 → A7 → Prop) → A1 → A2 → A3 → A4 → A5 → A6 → A7 → Prop} (Inv : A1 → A2 → A3 → A4 → A5 → A6 → A7 → Prop) (μ : A1 → A2 → A3 → A4 → A5 → A6 → A7 → Nat) (hs : ∀ (a1 : A1) (a2 : A2) (a3 : A3) (a4 : A4) (a5 : A5) (a6 : A6) (a7 : A7), Inv a1 a2 a3 a4 a5 a6 a7 → ∀ P : A1 → A2 → A3 → A4 → A5 → A6 → A7 → Prop, (∀ (b1 : A1) (b2 : A2) (b3 : A3) (b4 : A4) (b5 : A5) (b6 : A6) (b7 : A7), Inv b1 b2 b3 b4 b5 b6 b7 → μ b1 b2 b3 b4 b5 b6 b7 < μ a1 a2 a3 a4 a5 a6 a7 → P b1 b2 b3 b4 b5 b6 b7) → B P a1 a2 a3 a4 a5 a6 a7) (a1 : A1) (a2 : A2) (a3 : A3) (a4 : A4) (a5 : A5) (a6 : A6) (a7 : A7) (h : Inv a1 a2 a3 a4 a5 a6 a7) : Lp7 B a1 a2 a3 a4 a5 a6 a7 := by
  intro I hI
  have key : ∀ (n : Nat) (a1 : A1) (a2 : A2) (a3 : A3) (a4 : A4) (a5 : A5) (a6 : A6) (a7 : A7), Inv a1 a2 a3 a4 a5 a6 a7 → μ a1 a2 a3 a4 a5 a6 a7 < n → I a1 a2 a3 a4 a5 a6 a7 := by
    intro n
    induction n with
    | zero => intro a1 a2 a3 a4 a5 a6 a7 _ h2; exact absurd h2 (Nat.not_lt_zero _)
    | succ n ih => intro a1 a2 a3 a4 a5 a6 a7 h1 h2; exact hI a1 a2 a3 a4 a5 a6 a7 (hs a1 a2 a3 a4 a5 a6 a7 h1 I (fun b1 b2 b3 b4 b5 b6 b7 h3 h4 => ih b1 b2 b3 b4 b5 b6 b7 h3 (by omega)))
  exact key (μ a1 a2 a3 a4 a5 a6 a7 + 1) a1 a2 a3 a4 a5 a6 a7 h (Nat.lt_succ_self _)
def Lp8 {A1 A2 A3 A4 A5 A6 A7 A8 : Type} (B : (A1 → A2 → A3 → A4 → A5 → A6 → A7 → A8 → Prop) → A1 → A2 → A3 → A4 → A5 → A6 → A7 → A8 → Prop) (a1 : A1) (a2 : A2) (a3 : A3) (a4 : A4) (a5 : A5) (a6 : A6) (a7 : A7) (a8 : A8) : Prop := ∀ I : A1 → A2 → A3 → A4 → A5 → A6 → A7 → A8 → Prop, (∀ (a1 : A1) (a2 : A2) (a3 : A3) (a4 : A4) (a5 : A5) (a6 : A6) (a7 : A7) (a8 : A8), B I a1 a2 a3 a4 a5 a6 a7 a8 → I a1 a2 a3 a4 a5 a6 a7 a8) → I a1 a2 a3 a4 a5 a6 a7 a8
theorem Lp8_by {A1 A2 A3 A4 A5 A6 A7 A8 : Type} {B : (A1 → A2 → A3 → A4 → A5 → A6 → A7 → A8 → Prop) → A1 → A2 → A3 → A4 → A5 → A6 → A7 → A8 → Prop} (Inv : A1 → A2 → A3 → A4 → A5 → A6 → A7 → A8 → Prop) (μ : A1 → A2 → A3 → A4 → A5 → A6 → A7 → A8 → Nat) (hs : ∀ (a1 : A1) (a2 : A2) (a3 : A3) (a4 : A4) (a5 : A5) (a6 : A6) (a7 : A7) (a8 : A8), Inv a1 a2 a3 a4 a5 a6 a7 a8 → ∀ P : A1 → A2 → A3 → A4 → A5 → A6 → A7 → A8 → Prop, (∀ (b1 : A1) (b2 : A2) (b3 : A3) (b4 : A4) (b5 : A5) (b6 : A6) (b7 : A7) (b8 : A8), Inv b1 b2 b3 b4 b5 b6 b7 b8 → μ b1 b2 b3 b4 b5 b6 b7 b8 < μ a1 a2 a3 a4 a5 a6 a7 a8 → P b1 b2 b3 b4 b5 b6 b7 b8) → B P a1 a2 a3 a4 a5 a6 a7 a8) (a1 : A1) (a2 : A2) (a3 : A3) (a4 : A4) (a5 : A5) (a6 : A6) (a7 : A7) (a8 : A8) (h : Inv a1 a2 a3 a4 a5 a6 a7 a8) : Lp8 B a1 a2 a3 a4 a5 a6 a7 a8 := by
  intro I hI
  have key : ∀ (n : Nat) (a1 : A1) (a2 : A2) (a3 : A3) (a4 : A4) (a5 : A5) (a6 : A6) (a7 : A7) (a8 : A8), Inv a1 a2 a3 a4 a5 a6 a7 a8 → μ a1 a2 a3 a4 a5 a6 a7 a8 < n → I a1 a2 a3 a4 a5 a6 a7 a8 := by
    intro n
    induction n with
    | zero => intro a1 a2 a3 a4 a5 a6 a7 a8 _ h2; exact absurd h2 (Nat.not_lt_zero _)
    | succ n ih => intro a1 a2 a3 a4 a5 a6 a7 a8 h1 h2; exact hI a1 a2 a3 a4 a5 a6 a7 a8 (hs a1 a2 a3 a4 a5 a6 a7 a8 h1 I (fun b1 b2 b3 b4 b5 b6 b7 b8 h3 h4 => ih b1 b2 b3 b4 b5 b6 b7 b8 h3 (by omega)))
  exact key (μ a1 a2 a3 a4 a5 a6 a7 a8 + 1) a1 a2 a3 a4 a5 a6 a7 a8 h (Nat.lt_succ_self _)
def Lp9 {A1 A2 A3 A4 A5 A6 A7 A8 A9 : Type} (B : (A1 → A2 → A3 → A4 → A5 → A6 → A7 → A8 → A9 → Prop) → A1 → A2 → A3 → A4 → A5 → A6 → A7 → A8 → A9 → Prop) (a1 : A1) (a2 : A2) (a3 : A3) (a4 : A4) (a5 : A5) (a6 : A6) (a7 : A7) (a8 : A8) (a9 : A9) : Prop := ∀ I : A1 → A2 → A3 → A4 → A5 → A6 → A7 → A8 → A9 → Prop, (∀ (a1 : A1) (a2 : A2) (a3 : A3) (a4 : A4) (a5 : A5) (a6 : A6) (a7 : A7) (a8 : A8) (a9 : A9), B I a1 a2 a3 a4 a5 a6 a7 a8 a9 → I a1 a2 a3 a4 a5 a6 a7 a8 a9) → I a1 a2 a3 a4 a5 a6 a7 a8 a9
theorem Lp9_by {A1 A2 A3 A4 A5 A6 A7 A8 A9 : Type} {B : (A1 → A2 → A3 → A4 → A5 → A6 → A7 → A8 → A9 → Prop) → A1 → A2 → A3 → A4 → A5 → A6 → A7 → A8 → A9 → Prop} (Inv : A1 → A2 → A3 → A4 → A5 → A6 → A7 → A8 → A9 → Prop) (μ : A1 → A2 → A3 → A4 → A5 → A6 → A7 → A8 → A9 → Nat) (hs : ∀ (a1 : A1) (a2 : A2) (a3 : A3) (a4 : A4) (a5 : A5) (a6 : A6) (a7 : A7) (a8 : A8) (a9 : A9), Inv a1 a2 a3 a4 a5 a6 a7 a8 a9 → ∀ P : A1 → A2 → A3 → A4 → A5 → A6 → A7 → A8 → A9 → Prop, (∀ (b1 : A1) (b2 : A2) (b3 : A3) (b4 : A4) (b5 : A5) (b6 : A6) (b7 : A7) (b8 : A8) (b9 : A9), Inv b1 b2 b3 b4 b5 b6 b7 b8 b9 → μ b1 b2 b3 b4 b5 b6 b7 b8 b9 < μ a1 a2 a3 a4 a5 a6 a7 a8 a9 → P b1 b2 b3 b4 b5 b6 b7 b8 b9) → B P a1 a2 a3 a4 a5 a6 a7 a8 a9) (a1 : A1) (a2 : A2) (a3 : A3) (a4 : A4) (a5 : A5) (a6 : A6) (a7 : A7) (a8 : A8) (a9 : A9) (h : Inv a1 a2 a3 a4 a5 a6 a7 a8 a9) : Lp9 B a1 a2 a3 a4 a5 a6 a7 a8 a9 := by
  intro I hI
  have key : ∀ (n : Nat) (a1 : A1) (a2 : A2) (a3 : A3) (a4 : A4) (a5 : A5) (a6 : A6) (a7 : A7) (a8 : A8) (a9 : A9), Inv a1 a2 a3 a4 a5 a6 a7 a8 a9 → μ a1 a2 a3 a4 a5 a6 a7 a8 a9 < n → I a1 a2 a3 a4 a5 a6 a7 a8 a9 := by
    intro n
    induction n with
    | zero => intro a1 a2 a3 a4 a5 a6 a7 a8 a9 _ h2; exact absurd h2 (Nat.not_lt_zero _)
    | succ n ih => intro a1 a2 a3 a4 a5 a6 a7 a8 a9 h1 h2; exact hI a1 a2 a3 a4 a5 a6 a7 a8 a9 (hs a1 a2 a3 a4 a5 a6 a7 a8 a9 h1 I (fun b1 b2 b3 b4 b5 b6 b7 b8 b9 h3 h4 => ih b1 b2 b3 b4 b5 b6 b7 b8 b9 h3 (by omega)))
  exact key (μ a1 a2 a3 a4 a5 a6 a7 a8 a9 + 1) a1 a2 a3 a4 a5 a6 a7 a8 a9 h (Nat.lt_succ_self _)
def Lp10 {A1 A2 A3 A4 A5 A6 A7 A8 A9 A10 : Type} (B : (A1 → A2 → A3 → A4 → A5 → A6 → A7 → A8 → A9 → A10 → Prop) → A1 → A2 → A3 → A4 → A5 → A6 → A7 → A8 → A9 → A10 → Prop) (a1 : A1) (a2 : A2) (a3 : A3) (a4 : A4) (a5 : A5) (a6 : A6) (a7 : A7) (a8 : A8) (a9 : A9) (a10 : A10) : Prop := ∀ I : A1 → A2 → A3 → A4 → A5 → A6 → A7 → A8 → A9 → A10 → Prop, (∀ (a1 : A1) (a2 : A2) (a3 : A3) (a4 : A4) (a5 : A5) (a6 : A6) (a7 : A7) (a8 : A8) (a9 : A9) (a10 : A10), B I a1 a2 a3 a4 a5 a6 a7 a8 a9 a10 → I a1 a2 a3 a4 a5 a6 a7 a8 a9 a10) → I a1 a2 a3 a4 a5 a6 a7 a8 a9 a10
theorem Lp10_by {A1 A2 A3 A4 A5 A6 A7 A8 A9 A10 : Type} {B : (A1 → A2 → A3 → A4 → A5 → A6 → A7 → A8 → A9 → A10 → Prop) → A1 → A2 → A3 → A4 → A5 → A6 → A7 → A8 → A9 → A10 → Prop} (Inv : A1 → A2 → A3 → A4 → A5 → A6 → A7 → A8 → A9 → A10 → Prop) (μ : A1 → A2 → A3 → A4 → A5 → A6 → A7 → A8 → A9 → A10 → Nat) (hs : ∀ (a1 : A1) (a2 : A2) (a3 : A3) (a4 : A4) (a5 : A5) (a6 : A6) (a7 : A7) (a8 : A8) (a9 : A9) (a10 : A10), Inv a1 a2 a3 a4 a5 a6 a7 a8 a9 a10 → ∀ P : A1 → A2 → A3 → A4 → A5 → A6 → A7 → A8 → A9 → A10 → Prop, (∀ (b1 : A1) (b2 : A2) (b3 : A3) (b4 : A4) (b5 : A5) (b6 : A6) (b7 : A7) (b8 : A8) (b9 : A9) (b10 : A10), Inv b1 b2 b3 b4 b5 b6 b7 b8 b9 b10 → μ b1 b2 b3 b4 b5 b6 b7 b8 b9 b10 < μ a1 a2 a3 a4 a5 a6 a7 a8 a9 a10 → P b1 b2 b3 b4 b5 b6 b7 b8 b9 b10) → B P a1 a2 a3 a4 a5 a6 a7 a8 a9 a10) (a1 : A1) (a2 : A2) (a3 : A3) (a4 : A4) (a5 : A5) (a6 : A6) (a7 : A7) (a8 : A8) (a9 : A9) (a10 : A10) (h : Inv a1 a2 a3 a4 a5 a6 a7 a8 a9 a10) : Lp10 B a1 a2 a3 a4 a5 a6 a7 a8 a9 a10 := by
  intro I hI
  have key : ∀ (n : Nat) (a1 : A1) (a2 : A2) (a3 : A3) (a4 : A4) (a5 : A5) (a6 : A6) (a7 : A7) (a8 : A8) (a9 : A9) (a10 : A10), Inv a1 a2 a3 a4 a5 a6 a7 a8 a9 a10 → μ a1 a2 a3 a4 a5 a6 a7 a8 a9 a10 < n → I a1 a2 a3 a4 a5 a6 a7 a8 a9 a10 := by
    intro n
    induction n with
    | zero => intro a1 a2 a3 a4 a5 a6 a7 a8 a9 a10 _ h2; exact absurd h2 (Nat.not_lt_zero _)
    | succ n ih => intro a1 a2 a3 a4 a5 a6 a7 a8 a9 a10 h1 h2; exact hI a1 a2 a3 a4 a5 a6 a7 a8 a9 a10 (hs a1 a2 a3 a4 a5 a6 a7 a8 a9 a10 h1 I (fun b1 b2 b3 b4 b5 b6 b7 b8 b9 b10 h3 h4 => ih b1 b2 b3 b4 b5 b6 b7 b8 b9 b10 h3 (by omega)))
  exact key (μ a1 a2 a3 a4 a5 a6 a7 a8 a9 a10 + 1) a1 a2 a3 a4 a5 a6 a7 a8 a9 a10 h (Nat.lt_succ_self _)
