/-! ROWS of the law: the script, the switch, calls of wrappers -/
def scf (xs : Nat → Int32) (i : Int) : Int := (xs i.toNat).toInt
def lgh (a : Int) : Int64 := lI a <<< ((iI 32).toInt64 &&& 63)
def lgl (b : Int) : Int64 := lI b &&& lI 4294967295
def lgv (a b : Int) : Int := (lgh a ||| lgl b).toInt
def swv (a : Int) : Int := (iI a &&& iI 15).toInt
theorem rL_lgv (a b : Int) : rL (lgv a b) := rL_toInt _
theorem rg_scf (xs : Nat → Int32) (i : Int) : rg (scf xs i) := rg_toInt _
section LR
variable {p : Program} {l : Launch} {e : Env} {R : Room} {s : State} {m : MethodId} {args : Array Value} {below : List Frame} {meth : Method} {c : Code} {H : Heap} {locs : List Loc} {cells slots : Nat} {Q : State → Prop}
variable {cc : ByteArray} {pc : Nat} {ls : Array Slot} {rest : List Value}
variable {A0 : Nat → Prop} {b L : Nat} {xs : Nat → Int32}
theorem r_sld (hx : p.tables.exec = Jvm.exec) (hb : c.code = cc) (hX : va_X b L xs s s.heap) (hbl : b < s.heap.size) (hbA : ¬ A0 b) (hS : va_S A0 s.heap H locs) {i : Int} (h0 : 0 ≤ i) (h1 : i < L) (hL : L < 2147483648) (hdg : decode cc pc = .ok (.iaload, 1))
    (k : W p l e R s m args below meth c H locs cells slots Q (F0 m (pc + 1) ls (.int (iI (scf xs i)) :: rest))) : W p l e R s m args below meth c H locs cells slots Q (F0 m pc ls (.int (iI i) :: .ref b :: rest)) := by
  refine va_sld hx hb hX hbl hbA hS (iI_in h0 h1 hL) hdg ?_
  have e : xs (iI i).toNatClampNeg = iI (scf xs i) := by
    rw [iI_c h0 (by omega)]
    exact (iI_self _).symm
  rw [e]
  exact k
theorem r_slen (hx : p.tables.exec = Jvm.exec) (hb : c.code = cc) (hX : va_X b L xs s s.heap) (hbl : b < s.heap.size) (hbA : ¬ A0 b) (hS : va_S A0 s.heap H locs) (hdg : decode cc pc = .ok (.arraylength, 1))
    (k : W p l e R s m args below meth c H locs cells slots Q (F0 m (pc + 1) ls (.int (iI (L : Int)) :: rest))) : W p l e R s m args below meth c H locs cells slots Q (F0 m pc ls (.ref b :: rest)) := by
  refine va_slen hx hb hX hbl hbA hS hdg ?_
  rw [show (Int32.ofNat L : Int32) = iI (L : Int) from iI_ofNat L]
  exact k
theorem r_lshl (hx : p.tables.exec = Jvm.exec) (hb : c.code = cc) {a : Int} (hdg : decode cc pc = .ok (.lshl, 1))
    (k : W p l e R s m args below meth c H locs cells slots Q (F0 m (pc + 1) ls (.long (lgh a) :: rest))) : W p l e R s m args below meth c H locs cells slots Q (F0 m pc ls (.int (iI 32) :: .long (lI a) :: rest)) := lv_lshl hx hb hdg rfl k
theorem r_land (hx : p.tables.exec = Jvm.exec) (hb : c.code = cc) {a : Int} (hdg : decode cc pc = .ok (.land, 1))
    (k : W p l e R s m args below meth c H locs cells slots Q (F0 m (pc + 1) ls (.long (lgl a) :: rest))) : W p l e R s m args below meth c H locs cells slots Q (F0 m pc ls (.long (lI 4294967295) :: .long (lI a) :: rest)) := lv_land hx hb hdg k
theorem r_lor (hx : p.tables.exec = Jvm.exec) (hb : c.code = cc) {a b2 : Int} (hdg : decode cc pc = .ok (.lor, 1))
    (k : W p l e R s m args below meth c H locs cells slots Q (F0 m (pc + 1) ls (.long (lI (lgv a b2)) :: rest))) : W p l e R s m args below meth c H locs cells slots Q (F0 m pc ls (.long (lgl b2) :: .long (lgh a) :: rest)) := lv_lor hx hb hdg (by
  rw [show lgh a ||| lgl b2 = lI (lgv a b2) from (lI_self _).symm]
  exact k)
theorem r_iand (hx : p.tables.exec = Jvm.exec) (hb : c.code = cc) {a : Int} (hdg : decode cc pc = .ok (.iand, 1))
    (k : W p l e R s m args below meth c H locs cells slots Q (F0 m (pc + 1) ls (.int (iI (swv a)) :: rest))) : W p l e R s m args below meth c H locs cells slots Q (F0 m pc ls (.int (iI 15) :: .int (iI a) :: rest)) := lv_iand hx hb hdg (by
  rw [show iI a &&& iI 15 = iI (swv a) from (iI_self _).symm]
  exact k)
theorem r_runSW {y : MethodName} {bytes : ByteArray} {maxL nL mc ms n index : Nat} {ret : Option FieldType} {hh : List (Nat × Nat × Nat × Nat)} {ws ws' : List Cond} {rm : Room} {Pc : Array Value → State → Prop} {Qc : Array Value → State → Outcome → State → Prop} {free : Addr → Prop} {Ts : List Cond} {own : String} {As : List Value} {g : JFrame}
    (S : CallFix p m c cc nL s args Ts own) (hM : Met l y ws rm Pc Qc mc ms free) (hw : ws = Cond.codeWith y bytes maxL ret hh :: ws') (hG : GoodIn Ts ws) (hrc : rm.cells = mc) (hrs : rm.slots = ms) (hlk : (Cond.methodLink own index y).before args s = true) (hstat : (Cond.static y).before args s = true) (hini : (Cond.initialized y.cls).before args s = true)
    (hd : y.cls ≠ "java/lang/invoke/MethodHandle" ∧ y.cls ≠ "java/lang/invoke/VarHandle" ∧ (parseMethodDescriptor y.desc).map (fun d => d.parameters.length) = some n) (hR : rm.frames + 1 ≤ R.frames ∧ 8 + (maxL + 11) + rm.locals ≤ R.locals) (hp : PreS s H Pc As)
    (hg : g.method = m) (hn : As.length = n) (hsize : g.locals.size = nL) (hstack : g.stack = As.reverse ++ rest) (hW : 2 * g.monitorRoom + (rest.map fun v => v.category).sum ≤ 8) (hdg : decode cc g.pc = .ok (.invokestatic index, 3)) (hf : cells + mc ≤ R.cells ∧ slots + ms ≤ R.slots) :
    va_Run p l e R s m args below meth c H locs cells slots mc ms g rest (Qc As.toArray) (free) := by
  obtain ⟨hx, hb, hml, ho, ht⟩ := S
  have hcw : Cond.codeWith y bytes maxL ret hh ∈ ws := by rw [hw]; exact List.mem_cons_self
  have hcode : (Cond.codeWith y bytes maxL ret hh).before args s = true := ht _ (hG _ hcw).1
  have hK : Back l R p e below s args y 3 8 (PreOf R mc ms Pc) (PostOf Qc mc ms free) := va_backW (hh := hh) (bytes := bytes) (maxL := maxL) (ret := ret) hM hp.1 hrc hrs hR.1 hR.2 (pay_in ht hG) hcw (fun a' U hW => word_at hW (Or.inl (by first | rfl | simp [Cond.onTables, Cond.keeps, Cond.steady])) hini)
  intro T hT X
  obtain ⟨mk, methM, cM, hnamed, hmethM, -, -, -, -, -, -, hsigM⟩ := Cond.codeWith_spec hcode
  have hstatic : methM.isStatic = true := Cond.static_spec hnamed hmethM hstat
  obtain ⟨kP, hkP, -⟩ := className_of_methodNamed hnamed
  have hinitP : kP.init = .initialized := Cond.initialized_spec (findClass_of_methodNamed hnamed) hkP hini
  have hlen : As.length = methM.sig.parameters.length := by
    have h2 := hd.2.2
    rw [hsigM] at h2
    exact hn.trans (Option.some.inj h2).symm
  subst hb
  obtain ⟨vm₁, X₁, hstep₁⟩ := X.invokestatic hx ho hlk hnamed hmethM hstatic hkP hinitP ⟨hd.1, hd.2.1⟩ (g := g) hg (argsL := As) (rest := rest) hlen hstack hdg
  obtain ⟨v, ⟨U', l2, c2, s2⟩, X', ⟨g', mk', t, L, e1, e2, hq, h1, hL, h2, h3⟩, hsteps⟩ := hK m meth c ⟨T.setVm vm₁, locs, cells, slots⟩ { g with stack := rest } (.invokestatic index) mk As.toArray X₁ hg (hsize.trans hml.symm) hdg hW (X₁.named hnamed) ⟨hf.1, hf.2, hp.2 (T.setVm vm₁) hT X₁.warmed⟩
  dsimp only [Pt.U, Pt.locs, Pt.cells, Pt.slots] at X' e1 e2 h1 h2 h3 hsteps
  subst h1; subst h2; subst h3
  exact ⟨v, (T.setVm vm₁).calling g' mk' As.toArray, t, U', L, hT, X', hL, e1, e2, hq, fun tg h => hstep₁ _ fun acts => by rw [doInvoke_state]; exact hsteps.trans h⟩
variable {D : va_G} {cl : List vw_C} {sh : List x_D} {ad : Nat → Nat} {cA : Nat → ClassId} {N : Nat → Nat} {F : Nat → Int} {A : Nat → Int → Int}
theorem r_cw {st0 : List Value} {vs : Array Value} {mc ms : Nat} {K : Int → (Nat → Int) → (Nat → Int → Int) → Prop} (hr : va_Run p l e R s m args below meth c H locs cells slots mc ms (F0 m pc ls st0) rest (x_QI D cl sh ad cA N (va_A (x_w sh ad cA N F A) H.size) K vs) (va_A (x_w sh ad cA N F A) H.size)) (hS : x_S D cl sh ad cA N A0 s F A H locs) (hA : ∀ q : Nat, s.heap.size ≤ q → A0 q)
    (kk : ∀ (z : Int) (F1 : Nat → Int) (A1 : Nat → Int → Int) (H1 : Heap) (locs1 : List Loc), x_S D cl sh ad cA N A0 s F1 A1 H1 locs1 → K z F1 A1 → W p l e R s m args below meth c H1 locs1 (cells + mc) (slots + ms) Q (F0 m (pc + 3) ls (.int (iI z) :: rest))) : W p l e R s m args below meth c H locs cells slots Q (F0 m pc ls st0) := by
  have hF : ∀ q, va_A (x_w sh ad cA N F A) H.size q → A0 q := by
    rintro q (⟨k, e, h⟩ | h)
    · exact hS.2.2.1.2 k _ h
    · exact hA q (Nat.le_trans hS.2.2.2.1.1 h)
  refine va_calli hr hS.2.2.2.1 (fun q _ h => hF q h) hF (fun r u t H1 locs1 ht hvm hw hB hz1 hk1 hS1 => ?_)
  obtain ⟨z, rfl, hw⟩ := hw
  obtain ⟨hP1, hK1, hD1⟩ := hB
  rw [ht] at hP1
  exact kk z u.1 u.2 H1 locs1 ⟨hS.1, hP1, x_Dm hS.2.2.1, hS1, hS.2.2.2.2⟩ hw
end LR
