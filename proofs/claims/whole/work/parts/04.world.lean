/-! ROWS over the shaped world (printed by mkworld.py) -/
theorem x_upd {f : Int → Int} {g : Int → Int} {i v : Int} (h0 : 0 ≤ i) (hg : ∀ j : Int, g j = if j = i then v else f j) : upd (fun j : Nat => iI (f j)) i.toNat (iI v) = fun j : Nat => iI (g j) := by
  funext j
  unfold upd
  dsimp only
  rw [hg]
  by_cases h : j = i.toNat
  · rw [if_pos h, if_pos (by omega)]
  · rw [if_neg h, if_neg (by omega)]
theorem x_updL {f : Int → Int} {g : Int → Int} {i v : Int} (h0 : 0 ≤ i) (hg : ∀ j : Int, g j = if j = i then v else f j) : vp_updL (fun j : Nat => lI (f j)) i.toNat (lI v) = fun j : Nat => lI (g j) := by
  funext j
  unfold vp_updL
  dsimp only
  rw [hg]
  by_cases h : j = i.toNat
  · rw [if_pos h, if_pos (by omega)]
  · rw [if_neg h, if_neg (by omega)]
theorem ua_self (A : Nat → Int → Int) (k : Nat) (i v j : Int) : ua A k i v k j = if j = i then v else A k j := by unfold ua; rw [if_pos rfl]
theorem iI_max {a b : Int} (ha : rg a) (hb : rg b) : (if iI a < iI b then iI b else iI a) = iI (max a b) := by
  by_cases h : a < b
  · rw [if_pos ((iI_lt ha hb).mpr h)]; congr 1; omega
  · rw [if_neg (fun g => h ((iI_lt ha hb).mp g))]; congr 1; omega
theorem iI_min {a b : Int} (ha : rg a) (hb : rg b) : (if iI b < iI a then iI b else iI a) = iI (min a b) := by
  by_cases h : b < a
  · rw [if_pos ((iI_lt hb ha).mpr h)]; congr 1; omega
  · rw [if_neg (fun g => h ((iI_lt hb ha).mp g))]; congr 1; omega
theorem iI_abs {a : Int} (ha : rg a) : (if 0 ≤ iI a then iI a else 0 - iI a) = iI (a.natAbs : Int) := by
  have e : (0 ≤ iI a) ↔ 0 ≤ a := iI_le rg_0 ha
  by_cases h : 0 ≤ a
  · rw [if_pos (e.mpr h)]; congr 1; omega
  · rw [if_neg (fun g => h (e.mp g)), show (0 : Int32) - iI a = iI (0 - a) from iI_sub 0 a]; congr 1; omega
theorem x_bool {v : Int} (h : v = 0 ∨ v = 1) : narrow .boolean (.int (iI v)) = .int (iI v) ∧ fits .boolean (.int (iI v)) = true ∧ vp_nar .boolean (iI v) = iI v := by
  rcases h with rfl | rfl <;> decide +kernel
def uc (A : Nat → Int → Int) (k : Nat) (sp dp n : Int) : Nat → Int → Int := fun a j => if a = k then (if dp ≤ j ∧ j < dp + n then A k (sp + (j - dp)) else A k j) else A a j
def x_P (D : va_G) (cl : List vw_C) (sh : List x_D) (ad : Nat → Nat) (cA : Nat → ClassId) (N : Nat → Nat) (sz : Nat) (F : Nat → Int) (A : Nat → Int → Int) (U : State) : Prop :=
  U.heap.size = sz ∧ va_P D cl (x_w sh ad cA N F A) U.heap ∧ va_K D cl (x_tys sh cA) U ∧ va_D (fun _ => True) (x_w sh ad cA N F A) ∧ ∀ k, N k < 2147483648
def x_B (D : va_G) (cl : List vw_C) (sh : List x_D) (ad : Nat → Nat) (cA : Nat → ClassId) (N : Nat → Nat) (A0 : Nat → Prop) (u : x_St) (t : State) : Prop :=
  va_P D cl (x_w sh ad cA N u.1 u.2) t.heap ∧ va_K D cl (x_tys sh cA) t ∧ va_D A0 (x_w sh ad cA N u.1 u.2)
abbrev x_QI (D : va_G) (cl : List vw_C) (sh : List x_D) (ad : Nat → Nat) (cA : Nat → ClassId) (N : Nat → Nat) (A0 : Nat → Prop) (K : Int → (Nat → Int) → (Nat → Int → Int) → Prop) : Array Value → State → Outcome → State → Prop :=
  va_Qi (fun r (u : x_St) => ∃ z, r = iI z ∧ K z u.1 u.2) (x_B D cl sh ad cA N A0) A0
abbrev x_QL (D : va_G) (cl : List vw_C) (sh : List x_D) (ad : Nat → Nat) (cA : Nat → ClassId) (N : Nat → Nat) (A0 : Nat → Prop) (K : Int → (Nat → Int) → (Nat → Int → Int) → Prop) : Array Value → State → Outcome → State → Prop :=
  va_Ql (fun r (u : x_St) => ∃ z, r = lI z ∧ K z u.1 u.2) (x_B D cl sh ad cA N A0) A0
abbrev x_QV (D : va_G) (cl : List vw_C) (sh : List x_D) (ad : Nat → Nat) (cA : Nat → ClassId) (N : Nat → Nat) (A0 : Nat → Prop) (K : (Nat → Int) → (Nat → Int → Int) → Prop) : Array Value → State → Outcome → State → Prop :=
  va_Qv (fun (u : x_St) => K u.1 u.2) (x_B D cl sh ad cA N A0) A0
/-- what a walk of a method's body knows of its place -/
def x_C (p : Program) (s : State) (m : MethodId) (args : Array Value) (meth : Method) (c : Code) (cc : ByteArray) (nL : Nat) (ret : Option FieldType) (Ts : List Cond) (own : String) : Prop :=
  p.tables.exec = Jvm.exec ∧ c.code = cc ∧ meth.sig.returnType = ret ∧ c.maxLocals = nL ∧ s.vm.findClass own = some m.cls ∧ (∀ w ∈ Ts, w.before args s = true) ∧ meth.locks = false
section XW
variable {p : Program} {l : Launch} {e : Env} {R : Room} {s : State} {m : MethodId} {args : Array Value} {below : List Frame} {meth : Method} {c : Code} {H : Heap} {locs : List Loc} {cells slots : Nat} {Q : State → Prop}
variable {cc : ByteArray} {pc : Nat} {ls : Array Slot} {rest : List Value}
variable {D : va_G} {cl : List vw_C} {sh : List x_D} {ad : Nat → Nat} {cA : Nat → ClassId} {N : Nat → Nat} {A0 : Nat → Prop} {F : Nat → Int} {A : Nat → Int → Int}
theorem r_getr (hx : p.tables.exec = Jvm.exec) (hb : c.code = cc) {own C : String} {T : u_T} {n ci index : Nat} {Ts : List Cond} (hts : ∀ w ∈ Ts, w.before args s = true) (hin : ∀ w ∈ u_ws C T n, w ∈ Ts) (hown : s.vm.findClass own = some m.cls) (hS : x_S D cl sh ad cA N A0 s F A H locs) (q : Nat) {t : Nat} {fs : List x_F} (hq : sh[q]? = some (t, .inl (ci, fs))) (hc : cl[ci]? = some (C, T, n)) (k : Nat) (hk : k < n) {t2 : Nat} (hf : fs[k]? = some (.inl t2)) (hlink : (Cond.fieldLink own index (T k).1 (T k).2.1 (T k).2.2.1).before args s = true) (hdg : decode cc pc = .ok (.getfield index, 3)) 
    (kk : W p l e R s m args below meth c H locs cells slots Q (F0 m (pc + 3) ls (.ref (ad t2) :: rest))) : W p l e R s m args below meth c H locs cells slots Q (F0 m pc ls (.ref (ad t) :: rest)) :=
  va_get hx hb hts hin hown hS.1 hS.2.1 q (x_wq hq) hc k hk hlink (fun _ h => h) (by rw [List.getElem?_map, hf]; rfl) hdg kk
theorem r_geti (hx : p.tables.exec = Jvm.exec) (hb : c.code = cc) {own C : String} {T : u_T} {n ci index : Nat} {Ts : List Cond} (hts : ∀ w ∈ Ts, w.before args s = true) (hin : ∀ w ∈ u_ws C T n, w ∈ Ts) (hown : s.vm.findClass own = some m.cls) (hS : x_S D cl sh ad cA N A0 s F A H locs) (q : Nat) {t : Nat} {fs : List x_F} (hq : sh[q]? = some (t, .inl (ci, fs))) (hc : cl[ci]? = some (C, T, n)) (k : Nat) (hk : k < n) {j : Nat} {z : Int} (hf : fs[k]? = some (.inr j)) (hlink : (Cond.fieldLink own index (T k).1 (T k).2.1 (T k).2.2.1).before args s = true) (hdg : decode cc pc = .ok (.getfield index, 3)) (hz : F j = z)
    (kk : W p l e R s m args below meth c H locs cells slots Q (F0 m (pc + 3) ls (.int (iI z) :: rest))) : W p l e R s m args below meth c H locs cells slots Q (F0 m pc ls (.ref (ad t) :: rest)) :=
  va_get hx hb hts hin hown hS.1 hS.2.1 q (x_wq hq) hc k hk hlink (fun _ h => h) (by subst hz; rw [List.getElem?_map, hf]; rfl) hdg kk
theorem r_puti (hx : p.tables.exec = Jvm.exec) (hb : c.code = cc) {own C : String} {T : u_T} {n ci index : Nat} {Ts : List Cond} (hts : ∀ w ∈ Ts, w.before args s = true) (hin : ∀ w ∈ u_ws C T n, w ∈ Ts) (ty0 : Nat → FieldType) (hty : ∀ k, k < n → parseFieldDescriptor (T k).2.2.1 = some (ty0 k)) (hnm : ∀ a, a < n → ∀ b, b < n → a ≠ b → (T a).2.1 ≠ (T b).2.1) (hown : s.vm.findClass own = some m.cls) (hS : x_S D cl sh ad cA N A0 s F A H locs) (q : Nat) {t : Nat} {fs : List x_F} (hq : sh[q]? = some (t, .inl (ci, fs))) (hc : cl[ci]? = some (C, T, n)) (k : Nat) (hk : k < n) {j : Nat} (hlink : (Cond.fieldLink own index (T k).1 (T k).2.1 (T k).2.2.1).before args s = true) (hfin : (T k).2.2.2 = false) (hd : parseFieldDescriptor (T k).2.2.1 = some .int) {v : Int}  (hset : (x_w sh ad cA N F A).set q (ad t, .inr (ci, (fs.map (x_fv ad F)).set k (.int (iI v)))) = x_w sh ad cA N (uf F j v) A) (hl : k < fs.length) (hdg : decode cc pc = .ok (.putfield index, 3))
    (kk : ∀ (H1 : Heap) (locs1 : List Loc), x_S D cl sh ad cA N A0 s (uf F j v) A H1 locs1 → W p l e R s m args below meth c H1 locs1 cells slots Q (F0 m (pc + 3) ls rest)) : W p l e R s m args below meth c H locs cells slots Q (F0 m pc ls (.int (iI v) :: .ref (ad t) :: rest)) :=
  va_put hx hb hts hin ty0 hty hnm hown hS.1 hS.2.1 hS.2.2.1 hS.2.2.2.1 q (x_wq hq) hc k hk hlink (fun _ h => h) hfin (ty := .int) hd rfl rfl (by rw [List.length_map]; exact hl) hdg
    (fun H1 locs1 hP hD hS1 => kk H1 locs1 ⟨hS.1, by rw [← hset]; exact hP, by rw [← hset]; exact hD, hS1, hS.2.2.2.2⟩)
theorem r_putz (hx : p.tables.exec = Jvm.exec) (hb : c.code = cc) {own C : String} {T : u_T} {n ci index : Nat} {Ts : List Cond} (hts : ∀ w ∈ Ts, w.before args s = true) (hin : ∀ w ∈ u_ws C T n, w ∈ Ts) (ty0 : Nat → FieldType) (hty : ∀ k, k < n → parseFieldDescriptor (T k).2.2.1 = some (ty0 k)) (hnm : ∀ a, a < n → ∀ b, b < n → a ≠ b → (T a).2.1 ≠ (T b).2.1) (hown : s.vm.findClass own = some m.cls) (hS : x_S D cl sh ad cA N A0 s F A H locs) (q : Nat) {t : Nat} {fs : List x_F} (hq : sh[q]? = some (t, .inl (ci, fs))) (hc : cl[ci]? = some (C, T, n)) (k : Nat) (hk : k < n) {j : Nat} (hlink : (Cond.fieldLink own index (T k).1 (T k).2.1 (T k).2.2.1).before args s = true) (hfin : (T k).2.2.2 = false) (hd : parseFieldDescriptor (T k).2.2.1 = some .boolean) {v : Int} (hz : v = 0 ∨ v = 1) (hset : (x_w sh ad cA N F A).set q (ad t, .inr (ci, (fs.map (x_fv ad F)).set k (.int (iI v)))) = x_w sh ad cA N (uf F j v) A) (hl : k < fs.length) (hdg : decode cc pc = .ok (.putfield index, 3))
    (kk : ∀ (H1 : Heap) (locs1 : List Loc), x_S D cl sh ad cA N A0 s (uf F j v) A H1 locs1 → W p l e R s m args below meth c H1 locs1 cells slots Q (F0 m (pc + 3) ls rest)) : W p l e R s m args below meth c H locs cells slots Q (F0 m pc ls (.int (iI v) :: .ref (ad t) :: rest)) :=
  va_put hx hb hts hin ty0 hty hnm hown hS.1 hS.2.1 hS.2.2.1 hS.2.2.2.1 q (x_wq hq) hc k hk hlink (fun _ h => h) hfin (ty := .boolean) hd (x_bool hz).1 (x_bool hz).2.1 (by rw [List.length_map]; exact hl) hdg
    (fun H1 locs1 hP hD hS1 => kk H1 locs1 ⟨hS.1, by rw [← hset]; exact hP, by rw [← hset]; exact hD, hS1, hS.2.2.2.2⟩)
theorem r_iald (hx : p.tables.exec = Jvm.exec) (hb : c.code = cc) (hS : x_S D cl sh ad cA N A0 s F A H locs) (q : Nat) {t id : Nat} (hq : sh[q]? = some (t, .inr (0, id))) {i z : Int} (h0 : 0 ≤ i) (h1 : i < N id) (hdg : decode cc pc = .ok (.iaload, 1)) (hz : A id i = z)
    (kk : W p l e R s m args below meth c H locs cells slots Q (F0 m (pc + 1) ls (.int (iI z) :: rest))) : W p l e R s m args below meth c H locs cells slots Q (F0 m pc ls (.int (iI i) :: .ref (ad t) :: rest)) := by
  obtain ⟨t0, ht⟩ := x_tq (cA := cA) hq
  have hn := hS.2.2.2.2 id
  have e2 : (((iI i).toNatClampNeg : Nat) : Int) = i := by rw [iI_c h0 (by omega)]; exact Int.toNat_of_nonneg h0
  have kk2 : W p l e R s m args below meth c H locs cells slots Q (F0 m (pc + 1) ls (.int (iI (A id (((iI i).toNatClampNeg : Nat) : Int))) :: rest)) := by rw [e2, hz]; exact kk
  exact va_iald hx hb hS.1 hS.2.1 q t0 (x_wq hq) ht (iI_in h0 h1 hn) hdg kk2
theorem r_zald (hx : p.tables.exec = Jvm.exec) (hb : c.code = cc) (hS : x_S D cl sh ad cA N A0 s F A H locs) (q : Nat) {t id : Nat} (hq : sh[q]? = some (t, .inr (1, id))) {i z : Int} (h0 : 0 ≤ i) (h1 : i < N id) (hdg : decode cc pc = .ok (.baload, 1)) (hz : A id i = z)
    (kk : W p l e R s m args below meth c H locs cells slots Q (F0 m (pc + 1) ls (.int (iI z) :: rest))) : W p l e R s m args below meth c H locs cells slots Q (F0 m pc ls (.int (iI i) :: .ref (ad t) :: rest)) := by
  obtain ⟨t0, ht⟩ := x_tq (cA := cA) hq
  have hn := hS.2.2.2.2 id
  have e2 : (((iI i).toNatClampNeg : Nat) : Int) = i := by rw [iI_c h0 (by omega)]; exact Int.toNat_of_nonneg h0
  have kk2 : W p l e R s m args below meth c H locs cells slots Q (F0 m (pc + 1) ls (.int (iI (A id (((iI i).toNatClampNeg : Nat) : Int))) :: rest)) := by rw [e2, hz]; exact kk
  exact va_zald hx hb hS.1 hS.2.1 q t0 (x_wq hq) ht (iI_in h0 h1 hn) hdg kk2
theorem r_lald (hx : p.tables.exec = Jvm.exec) (hb : c.code = cc) (hS : x_S D cl sh ad cA N A0 s F A H locs) (q : Nat) {t id : Nat} (hq : sh[q]? = some (t, .inr (2, id))) {i z : Int} (h0 : 0 ≤ i) (h1 : i < N id) (hdg : decode cc pc = .ok (.laload, 1)) (hz : A id i = z)
    (kk : W p l e R s m args below meth c H locs cells slots Q (F0 m (pc + 1) ls (.long (lI z) :: rest))) : W p l e R s m args below meth c H locs cells slots Q (F0 m pc ls (.int (iI i) :: .ref (ad t) :: rest)) := by
  obtain ⟨t0, ht⟩ := x_tq (cA := cA) hq
  have hn := hS.2.2.2.2 id
  have e2 : (((iI i).toNatClampNeg : Nat) : Int) = i := by rw [iI_c h0 (by omega)]; exact Int.toNat_of_nonneg h0
  have kk2 : W p l e R s m args below meth c H locs cells slots Q (F0 m (pc + 1) ls (.long (lI (A id (((iI i).toNatClampNeg : Nat) : Int))) :: rest)) := by rw [e2, hz]; exact kk
  exact va_lald hx hb hS.1 hS.2.1 q t0 (x_wq hq) ht (iI_in h0 h1 hn) hdg kk2
theorem r_iast (hx : p.tables.exec = Jvm.exec) (hb : c.code = cc) (hS : x_S D cl sh ad cA N A0 s F A H locs) (q : Nat) {t id : Nat} (hq : sh[q]? = some (t, .inr (0, id))) {i v : Int} (h0 : 0 ≤ i) (h1 : i < N id)  (hset : (x_w sh ad cA N F A).set q (ad t, .inl (cA id, N id, x_ar 0 (ua A id i v id))) = x_w sh ad cA N F (ua A id i v)) (hdg : decode cc pc = .ok (.iastore, 1))
    (kk : ∀ (H1 : Heap) (locs1 : List Loc), x_S D cl sh ad cA N A0 s F (ua A id i v) H1 locs1 → W p l e R s m args below meth c H1 locs1 cells slots Q (F0 m (pc + 1) ls rest)) : W p l e R s m args below meth c H locs cells slots Q (F0 m pc ls (.int (iI v) :: .int (iI i) :: .ref (ad t) :: rest)) := by
  obtain ⟨t0, ht⟩ := x_tq (cA := cA) hq
  have hn := hS.2.2.2.2 id
  refine va_iast hx hb hS.1 hS.2.1 hS.2.2.1 hS.2.2.2.1 q t0 (x_wq hq) ht (iI_in h0 h1 hn) hdg (fun H1 locs1 hP hD hS1 => kk H1 locs1 ?_)
  rw [iI_c h0 (by omega), x_upd (g := ua A id i v id) h0 (fun j => ua_self A id i v j)] at hP hD
  exact ⟨hS.1, by rw [← hset]; exact hP, by rw [← hset]; exact hD, hS1, hS.2.2.2.2⟩
theorem r_zast (hx : p.tables.exec = Jvm.exec) (hb : c.code = cc) (hS : x_S D cl sh ad cA N A0 s F A H locs) (q : Nat) {t id : Nat} (hq : sh[q]? = some (t, .inr (1, id))) {i v : Int} (h0 : 0 ≤ i) (h1 : i < N id) (hz : v = 0 ∨ v = 1) (hset : (x_w sh ad cA N F A).set q (ad t, .inl (cA id, N id, x_ar 1 (ua A id i v id))) = x_w sh ad cA N F (ua A id i v)) (hdg : decode cc pc = .ok (.bastore, 1))
    (kk : ∀ (H1 : Heap) (locs1 : List Loc), x_S D cl sh ad cA N A0 s F (ua A id i v) H1 locs1 → W p l e R s m args below meth c H1 locs1 cells slots Q (F0 m (pc + 1) ls rest)) : W p l e R s m args below meth c H locs cells slots Q (F0 m pc ls (.int (iI v) :: .int (iI i) :: .ref (ad t) :: rest)) := by
  obtain ⟨t0, ht⟩ := x_tq (cA := cA) hq
  have hn := hS.2.2.2.2 id
  refine va_zast hx hb hS.1 hS.2.1 hS.2.2.1 hS.2.2.2.1 q t0 (x_wq hq) ht (iI_in h0 h1 hn) hdg (fun H1 locs1 hP hD hS1 => kk H1 locs1 ?_)
  rw [(x_bool hz).2.2] at hP hD
  rw [iI_c h0 (by omega), x_upd (g := ua A id i v id) h0 (fun j => ua_self A id i v j)] at hP hD
  exact ⟨hS.1, by rw [← hset]; exact hP, by rw [← hset]; exact hD, hS1, hS.2.2.2.2⟩
theorem r_last (hx : p.tables.exec = Jvm.exec) (hb : c.code = cc) (hS : x_S D cl sh ad cA N A0 s F A H locs) (q : Nat) {t id : Nat} (hq : sh[q]? = some (t, .inr (2, id))) {i v : Int} (h0 : 0 ≤ i) (h1 : i < N id)  (hset : (x_w sh ad cA N F A).set q (ad t, .inl (cA id, N id, x_ar 2 (ua A id i v id))) = x_w sh ad cA N F (ua A id i v)) (hdg : decode cc pc = .ok (.lastore, 1))
    (kk : ∀ (H1 : Heap) (locs1 : List Loc), x_S D cl sh ad cA N A0 s F (ua A id i v) H1 locs1 → W p l e R s m args below meth c H1 locs1 cells slots Q (F0 m (pc + 1) ls rest)) : W p l e R s m args below meth c H locs cells slots Q (F0 m pc ls (.long (lI v) :: .int (iI i) :: .ref (ad t) :: rest)) := by
  obtain ⟨t0, ht⟩ := x_tq (cA := cA) hq
  have hn := hS.2.2.2.2 id
  refine va_last hx hb hS.1 hS.2.1 hS.2.2.1 hS.2.2.2.1 q t0 (x_wq hq) ht (iI_in h0 h1 hn) hdg (fun H1 locs1 hP hD hS1 => kk H1 locs1 ?_)
  rw [iI_c h0 (by omega), x_updL (g := ua A id i v id) h0 (fun j => ua_self A id i v j)] at hP hD
  exact ⟨hS.1, by rw [← hset]; exact hP, by rw [← hset]; exact hD, hS1, hS.2.2.2.2⟩
theorem r_alen (hx : p.tables.exec = Jvm.exec) (hb : c.code = cc) (hS : x_S D cl sh ad cA N A0 s F A H locs) (q : Nat) {t kd id : Nat} (hq : sh[q]? = some (t, .inr (kd, id))) {z : Int} (hdg : decode cc pc = .ok (.arraylength, 1)) (hz : ((N id : Nat) : Int) = z)
    (kk : W p l e R s m args below meth c H locs cells slots Q (F0 m (pc + 1) ls (.int (iI z) :: rest))) : W p l e R s m args below meth c H locs cells slots Q (F0 m pc ls (.ref (ad t) :: rest)) := by
  obtain ⟨t0, ht⟩ := x_tq (cA := cA) hq
  exact va_alen hx hb hS.1 hS.2.1 q t0 (x_wq hq) ht (by rw [← hz]; exact iI_ofNat _) hdg kk
theorem r_ci {st0 : List Value} {vs : Array Value} {K : Int → (Nat → Int) → (Nat → Int → Int) → Prop} (hr : va_Run p l e R s m args below meth c H locs cells slots 0 0 (F0 m pc ls st0) rest (x_QI D cl sh ad cA N (va_A (x_w sh ad cA N F A) H.size) K vs) (va_A (x_w sh ad cA N F A) H.size)) (hS : x_S D cl sh ad cA N A0 s F A H locs) (hA : ∀ q : Nat, s.heap.size ≤ q → A0 q)
    (kk : ∀ (z : Int) (F1 : Nat → Int) (A1 : Nat → Int → Int) (H1 : Heap) (locs1 : List Loc), x_S D cl sh ad cA N A0 s F1 A1 H1 locs1 → K z F1 A1 → W p l e R s m args below meth c H1 locs1 cells slots Q (F0 m (pc + 3) ls (.int (iI z) :: rest))) : W p l e R s m args below meth c H locs cells slots Q (F0 m pc ls st0) := by
  have hF : ∀ q, va_A (x_w sh ad cA N F A) H.size q → A0 q := by
    rintro q (⟨k, e, h⟩ | h)
    · exact hS.2.2.1.2 k _ h
    · exact hA q (Nat.le_trans hS.2.2.2.1.1 h)
  refine va_calli hr hS.2.2.2.1 (fun q _ h => hF q h) hF (fun r u t H1 locs1 ht hvm hw hB hz1 hk1 hS1 => ?_)
  obtain ⟨z, rfl, hw⟩ := hw
  obtain ⟨hP1, hK1, hD1⟩ := hB
  rw [ht] at hP1
  exact kk z u.1 u.2 H1 locs1 ⟨hS.1, hP1, x_Dm hS.2.2.1, hS1, hS.2.2.2.2⟩ hw
theorem r_cl {st0 : List Value} {vs : Array Value} {K : Int → (Nat → Int) → (Nat → Int → Int) → Prop} (hr : va_Run p l e R s m args below meth c H locs cells slots 0 0 (F0 m pc ls st0) rest (x_QL D cl sh ad cA N (va_A (x_w sh ad cA N F A) H.size) K vs) (va_A (x_w sh ad cA N F A) H.size)) (hS : x_S D cl sh ad cA N A0 s F A H locs) (hA : ∀ q : Nat, s.heap.size ≤ q → A0 q)
    (kk : ∀ (z : Int) (F1 : Nat → Int) (A1 : Nat → Int → Int) (H1 : Heap) (locs1 : List Loc), x_S D cl sh ad cA N A0 s F1 A1 H1 locs1 → K z F1 A1 → W p l e R s m args below meth c H1 locs1 cells slots Q (F0 m (pc + 3) ls (.long (lI z) :: rest))) : W p l e R s m args below meth c H locs cells slots Q (F0 m pc ls st0) := by
  have hF : ∀ q, va_A (x_w sh ad cA N F A) H.size q → A0 q := by
    rintro q (⟨k, e, h⟩ | h)
    · exact hS.2.2.1.2 k _ h
    · exact hA q (Nat.le_trans hS.2.2.2.1.1 h)
  refine va_calll hr hS.2.2.2.1 (fun q _ h => hF q h) hF (fun r u t H1 locs1 ht hvm hw hB hz1 hk1 hS1 => ?_)
  obtain ⟨z, rfl, hw⟩ := hw
  obtain ⟨hP1, hK1, hD1⟩ := hB
  rw [ht] at hP1
  exact kk z u.1 u.2 H1 locs1 ⟨hS.1, hP1, x_Dm hS.2.2.1, hS1, hS.2.2.2.2⟩ hw
theorem r_cv {st0 : List Value} {vs : Array Value} {K : (Nat → Int) → (Nat → Int → Int) → Prop} (hr : va_Run p l e R s m args below meth c H locs cells slots 0 0 (F0 m pc ls st0) rest (x_QV D cl sh ad cA N (va_A (x_w sh ad cA N F A) H.size) K vs) (va_A (x_w sh ad cA N F A) H.size)) (hS : x_S D cl sh ad cA N A0 s F A H locs) (hA : ∀ q : Nat, s.heap.size ≤ q → A0 q)
    (kk : ∀ (F1 : Nat → Int) (A1 : Nat → Int → Int) (H1 : Heap) (locs1 : List Loc), x_S D cl sh ad cA N A0 s F1 A1 H1 locs1 → K F1 A1 → W p l e R s m args below meth c H1 locs1 cells slots Q (F0 m (pc + 3) ls (rest))) : W p l e R s m args below meth c H locs cells slots Q (F0 m pc ls st0) := by
  have hF : ∀ q, va_A (x_w sh ad cA N F A) H.size q → A0 q := by
    rintro q (⟨k, e, h⟩ | h)
    · exact hS.2.2.1.2 k _ h
    · exact hA q (Nat.le_trans hS.2.2.2.1.1 h)
  refine va_callv hr hS.2.2.2.1 (fun q _ h => hF q h) hF (fun u t H1 locs1 ht hvm hw hB hz1 hk1 hS1 => ?_)
  obtain ⟨hP1, hK1, hD1⟩ := hB
  rw [ht] at hP1
  exact kk u.1 u.2 H1 locs1 ⟨hS.1, hP1, x_Dm hS.2.2.1, hS1, hS.2.2.2.2⟩ hw
theorem x_blind {vs : List Value} {sz : Nat} : FrameBlind (va_Pc vs (x_P D cl sh ad cA N sz F A)) := fun a U g mk q => by
  obtain ⟨q0, q1, qP, qK, qD⟩ := q
  exact ⟨q0, q1, qP, va_K.moved (u := U) (U := U.calling g mk a) (Vm.Alike.refl U.vm) qK, qD⟩
theorem x_preS (hS : x_S D cl sh ad cA N A0 s F A H locs) (As : List Value) : PreS s H (va_Pc As (x_P D cl sh ad cA N H.size F A)) As :=
  ⟨x_blind, fun U hU hW => ⟨rfl, by rw [hU], by rw [hU]; exact hS.2.1, va_K.moved hW.alike hS.1, hS.2.2.1.weaken (fun _ _ _ _ => trivial), hS.2.2.2.2⟩⟩
theorem x_preV (hS : x_S D cl sh ad cA N A0 s F A H locs) (q : Nat) {C : String} {T : u_T} {t ci n : Nat} {fs : List x_F} (hq : sh[q]? = some (t, .inl (ci, fs))) (hc : cl[ci]? = some (C, T, n)) (As : List Value) : PreV s H C (ad t) (va_Pc (.ref (ad t) :: As) (x_P D cl sh ad cA N H.size F A)) As :=
  ⟨x_blind, va_recv hS.1 hS.2.1 hc (x_wq hq), fun U hU hW => ⟨rfl, by rw [hU], by rw [hU]; exact hS.2.1, va_K.moved hW.alike hS.1, hS.2.2.1.weaken (fun _ _ _ _ => trivial), hS.2.2.2.2⟩⟩
theorem r_iret (hx : p.tables.exec = Jvm.exec) (hb : c.code = cc) (hr : meth.sig.returnType = some .int) (hlocks : meth.locks = false) {K : Int → (Nat → Int) → (Nat → Int → Int) → Prop} {z : Int} (hS : x_S D cl sh ad cA N A0 s F A H locs) (hK : K z F A) (hdg : decode cc pc = .ok (.ireturn, 1)) : W p l e R s m args below meth c H locs cells slots (MQ below (x_QI D cl sh ad cA N A0 K) args s cells slots A0) (F0 m pc ls [.int (iI z)]) :=
  W.iret hx hb hr (fun t ht hW => ⟨⟨_, (F, A), rfl, ⟨z, rfl, hK⟩, by rw [ht]; exact hS.2.1, va_K.moved hW.alike hS.1, hS.2.2.1⟩, hS.2.2.2.1.F ht⟩) hS.2.2.2.1.2.2 hdg hlocks
theorem r_lret (hx : p.tables.exec = Jvm.exec) (hb : c.code = cc) (hr : meth.sig.returnType = some .long) (hlocks : meth.locks = false) {K : Int → (Nat → Int) → (Nat → Int → Int) → Prop} {z : Int} (hS : x_S D cl sh ad cA N A0 s F A H locs) (hK : K z F A) (hdg : decode cc pc = .ok (.lreturn, 1)) : W p l e R s m args below meth c H locs cells slots (MQ below (x_QL D cl sh ad cA N A0 K) args s cells slots A0) (F0 m pc ls [.long (lI z)]) :=
  W.lret hx hb hr (fun t ht hW => ⟨⟨_, (F, A), rfl, ⟨z, rfl, hK⟩, by rw [ht]; exact hS.2.1, va_K.moved hW.alike hS.1, hS.2.2.1⟩, hS.2.2.2.1.F ht⟩) hS.2.2.2.1.2.2 hdg hlocks
theorem r_vret (hx : p.tables.exec = Jvm.exec) (hb : c.code = cc) (hr : meth.sig.returnType = none) (hlocks : meth.locks = false) {K : (Nat → Int) → (Nat → Int → Int) → Prop} (hS : x_S D cl sh ad cA N A0 s F A H locs) (hK : K F A) (hdg : decode cc pc = .ok (.return_, 1)) : W p l e R s m args below meth c H locs cells slots (MQ below (x_QV D cl sh ad cA N A0 K) args s cells slots A0) (F0 m pc ls []) :=
  W.vret hx hb hr (fun t ht hW => ⟨⟨(F, A), rfl, hK, by rw [ht]; exact hS.2.1, va_K.moved hW.alike hS.1, hS.2.2.1⟩, hS.2.2.2.1.F ht⟩) hS.2.2.2.1.2.2 hdg hlocks
theorem r_zret (hx : p.tables.exec = Jvm.exec) (hb : c.code = cc) (hr : meth.sig.returnType = some .boolean) (hlocks : meth.locks = false) {K : Int → (Nat → Int) → (Nat → Int → Int) → Prop} {z : Int} (hz : z = 0 ∨ z = 1) (hS : x_S D cl sh ad cA N A0 s F A H locs) (hK : K z F A) (hdg : decode cc pc = .ok (.ireturn, 1)) : W p l e R s m args below meth c H locs cells slots (MQ below (x_QI D cl sh ad cA N A0 K) args s cells slots A0) (F0 m pc ls [.int (iI z)]) :=
  W.zret hx hb hr (x_bool hz).1 (fun t ht hW => ⟨⟨_, (F, A), rfl, ⟨z, rfl, hK⟩, by rw [ht]; exact hS.2.1, va_K.moved hW.alike hS.1, hS.2.2.1⟩, hS.2.2.2.1.F ht⟩) hS.2.2.2.1.2.2 hdg hlocks
theorem r_mmax (hx : p.tables.exec = Jvm.exec) (hb : c.code = cc) (hml : c.maxLocals = ls.size) {own : String} {index : Nat} (hown : s.vm.findClass own = some m.cls) (hlink : (Cond.methodLink own index Lib.Math.max.name).before args s = true) (hstat : (Cond.static Lib.Math.max.name).before args s = true) (hini : (Cond.initialized "java/lang/Math").before args s = true) (hcode : (Cond.code Lib.Math.max.name Lib.Math.max.code 2 (some .int)).before args s = true)
    (hframes : 1 ≤ R.frames) (hlocals : (rest.map fun v => v.category).sum + 13 ≤ R.locals) (hc : cells ≤ R.cells) (hs : slots ≤ R.slots) {a b : Int} (ha : rg a) (hb2 : rg b) (hdg : decode cc pc = .ok (.invokestatic index, 3))
    (kk : W p l e R s m args below meth c H locs cells slots Q (F0 m (pc + 3) ls (.int (iI (max a b)) :: rest))) : W p l e R s m args below meth c H locs cells slots Q (F0 m pc ls (.int (iI b) :: .int (iI a) :: rest)) :=
  va_mmax hx hb hml hown hlink hstat hini hcode hframes hlocals hc hs hdg (by rw [iI_max ha hb2]; exact kk)
theorem r_mmin (hx : p.tables.exec = Jvm.exec) (hb : c.code = cc) (hml : c.maxLocals = ls.size) {own : String} {index : Nat} (hown : s.vm.findClass own = some m.cls) (hlink : (Cond.methodLink own index Lib.Math.min.name).before args s = true) (hstat : (Cond.static Lib.Math.min.name).before args s = true) (hini : (Cond.initialized "java/lang/Math").before args s = true) (hcode : (Cond.code Lib.Math.min.name Lib.Math.min.code 2 (some .int)).before args s = true)
    (hframes : 1 ≤ R.frames) (hlocals : (rest.map fun v => v.category).sum + 13 ≤ R.locals) (hc : cells ≤ R.cells) (hs : slots ≤ R.slots) {a b : Int} (ha : rg a) (hb2 : rg b) (hdg : decode cc pc = .ok (.invokestatic index, 3))
    (kk : W p l e R s m args below meth c H locs cells slots Q (F0 m (pc + 3) ls (.int (iI (min a b)) :: rest))) : W p l e R s m args below meth c H locs cells slots Q (F0 m pc ls (.int (iI b) :: .int (iI a) :: rest)) :=
  va_mmin hx hb hml hown hlink hstat hini hcode hframes hlocals hc hs hdg (by rw [iI_min ha hb2]; exact kk)
theorem r_mabs (hx : p.tables.exec = Jvm.exec) (hb : c.code = cc) (hml : c.maxLocals = ls.size) {own : String} {index : Nat} (hown : s.vm.findClass own = some m.cls) (hlink : (Cond.methodLink own index Lib.Math.abs.name).before args s = true) (hstat : (Cond.static Lib.Math.abs.name).before args s = true) (hini : (Cond.initialized "java/lang/Math").before args s = true) (hcode : (Cond.code Lib.Math.abs.name Lib.Math.abs.code 1 (some .int)).before args s = true)
    (hframes : 1 ≤ R.frames) (hlocals : (rest.map fun v => v.category).sum + 13 ≤ R.locals) (hc : cells ≤ R.cells) (hs : slots ≤ R.slots) {a : Int} (ha : rg a) (hdg : decode cc pc = .ok (.invokestatic index, 3))
    (kk : W p l e R s m args below meth c H locs cells slots Q (F0 m (pc + 3) ls (.int (iI (a.natAbs : Int)) :: rest))) : W p l e R s m args below meth c H locs cells slots Q (F0 m pc ls (.int (iI a) :: rest)) :=
  va_mabs hx hb hml hown hlink hstat hini hcode hframes hlocals hc hs hdg (by rw [iI_abs ha]; exact kk)
theorem r_copy (hx : p.tables.exec = Jvm.exec) (hb : c.code = cc) (hml : c.maxLocals = ls.size) {own : String} {index : Nat} (hown : s.vm.findClass own = some m.cls) (hlink : (Cond.methodLink own index arraycopyName).before args s = true) (hnat : (Cond.native arraycopyName).before args s = true) (hstat : (Cond.static arraycopyName).before args s = true) (hini : (Cond.initialized "java/lang/System").before args s = true)
    (hS : x_S D cl sh ad cA N A0 s F A H locs) (q : Nat) {t id : Nat} (hq : sh[q]? = some (t, .inr (0, id))) {sp dp n : Int} (h1 : 0 ≤ sp) (h2 : 0 ≤ dp) (h3 : 0 ≤ n) (h4 : sp + n ≤ N id) (h5 : dp + n ≤ N id) (hset : (x_w sh ad cA N F A).set q (ad t, .inl (cA id, N id, x_ar 0 (uc A id sp dp n id))) = x_w sh ad cA N F (uc A id sp dp n))
    (hframes : 1 ≤ R.frames) (hlocals : (rest.map fun v => v.category).sum + (nativeFrameWords "java/lang/System" "arraycopy" 5 + 11) ≤ R.locals) (hdg : decode cc pc = .ok (.invokestatic index, 3))
    (kk : ∀ (H1 : Heap) (locs1 : List Loc), x_S D cl sh ad cA N A0 s F (uc A id sp dp n) H1 locs1 → W p l e R s m args below meth c H1 locs1 cells slots Q (F0 m (pc + 3) ls rest)) : W p l e R s m args below meth c H locs cells slots Q (F0 m pc ls (.int (iI n) :: .int (iI dp) :: .ref (ad t) :: .int (iI sp) :: .ref (ad t) :: rest)) := by
  obtain ⟨t0, ht⟩ := x_tq (cA := cA) hq
  have hn := hS.2.2.2.2 id
  have c1 : (iI sp).toNatClampNeg = sp.toNat := iI_c h1 (by omega)
  have c2 : (iI dp).toNatClampNeg = dp.toNat := iI_c h2 (by omega)
  have c3 : (iI n).toNatClampNeg = n.toNat := iI_c h3 (by omega)
  have ng : ∀ z : Int, 0 ≤ z → z < 2147483648 → ¬ iI z < 0 := fun z g1 g2 h => by
    have := (iI_lt ⟨by omega, by omega⟩ rg_0).mp h
    omega
  refine va_copyi hx hb hml hown hlink hnat hstat hini hS.1 hS.2.1 hS.2.2.1 hS.2.2.2.1 q q t0 t0 (x_wq hq) (x_wq hq) ht ht rfl (ng sp h1 (by omega)) (ng dp h2 (by omega)) (ng n h3 (by omega)) (by rw [c1, c3]; show _ ≤ N id; omega) (by rw [c2, c3]; show _ ≤ N id; omega) (fun _ _ => rfl) hframes hlocals hdg (fun H1 locs1 hP hD hS1 => kk H1 locs1 ?_)
  have e : va_cpy (fun j : Nat => iI (A id j)) (fun j : Nat => iI (A id j)) (iI sp).toNatClampNeg (iI dp).toNatClampNeg (iI n).toNatClampNeg = fun j : Nat => iI (uc A id sp dp n id j) := by
    rw [c1, c2, c3]
    funext j
    unfold va_cpy uc
    rw [if_pos rfl]
    by_cases h : dp.toNat ≤ j ∧ j < dp.toNat + n.toNat
    · rw [if_pos h, if_pos (by omega)]
      show iI (A id ((sp.toNat + (j - dp.toNat) : Nat) : Int)) = _
      rw [show ((sp.toNat + (j - dp.toNat) : Nat) : Int) = sp + ((j : Int) - dp) by omega]
    · rw [if_neg h, if_neg (by omega)]
  rw [e] at hP hD
  exact ⟨hS.1, by rw [← hset]; exact hP, by rw [← hset]; exact hD, hS1, hS.2.2.2.2⟩
end XW
