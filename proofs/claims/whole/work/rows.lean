section
-- ===== PART A: goes FIRST, ahead of the names: the tables' words, and 'selects' of the private methods out of them =====
/-- a private method of a class that the tables say can be made, by its rows of tables_1 -/
def lw_okq (q : MethodName × Nat) : Prop := (q.1.cls ≠ "java/lang/invoke/MethodHandle" ∧ q.1.cls ≠ "java/lang/invoke/VarHandle") ∧ Cond.instantiable q.1.cls q.2 ∈ tables_1 ∧ Cond.privateMethod q.1 ∈ tables_1 ∧ Cond.instanceMethod q.1 ∈ tables_1
theorem lw_p0 : lw_okq (⟨"LegalRows$Filling", "emptyParts", "()V"⟩, 8) := ⟨⟨by decide +kernel, by decide +kernel⟩, List.mem_of_getElem? (i := 136) (by decide +kernel), List.mem_of_getElem? (i := 229) (by decide +kernel), List.mem_of_getElem? (i := 230) (by decide +kernel)⟩
theorem lw_p1 : lw_okq (⟨"LegalRows$Filling", "orderCells", "()V"⟩, 8) := ⟨⟨by decide +kernel, by decide +kernel⟩, List.mem_of_getElem? (i := 136) (by decide +kernel), List.mem_of_getElem? (i := 233) (by decide +kernel), List.mem_of_getElem? (i := 234) (by decide +kernel)⟩
theorem lw_p2 : lw_okq (⟨"LegalRows$Filling", "cheapestPart", "(I)I"⟩, 8) := ⟨⟨by decide +kernel, by decide +kernel⟩, List.mem_of_getElem? (i := 136) (by decide +kernel), List.mem_of_getElem? (i := 237) (by decide +kernel), List.mem_of_getElem? (i := 238) (by decide +kernel)⟩
theorem lw_p3 : lw_okq (⟨"LegalRows$Filling", "costAtLeast", "(II)I"⟩, 8) := ⟨⟨by decide +kernel, by decide +kernel⟩, List.mem_of_getElem? (i := 136) (by decide +kernel), List.mem_of_getElem? (i := 241) (by decide +kernel), List.mem_of_getElem? (i := 242) (by decide +kernel)⟩
theorem lw_p4 : lw_okq (⟨"LegalRows$Filling", "layWith", "(II)Z"⟩, 8) := ⟨⟨by decide +kernel, by decide +kernel⟩, List.mem_of_getElem? (i := 136) (by decide +kernel), List.mem_of_getElem? (i := 253) (by decide +kernel), List.mem_of_getElem? (i := 254) (by decide +kernel)⟩
theorem lw_p5 : lw_okq (⟨"LegalRows$Filling", "gather", "(I)V"⟩, 8) := ⟨⟨by decide +kernel, by decide +kernel⟩, List.mem_of_getElem? (i := 136) (by decide +kernel), List.mem_of_getElem? (i := 257) (by decide +kernel), List.mem_of_getElem? (i := 258) (by decide +kernel)⟩
theorem lw_p6 : lw_okq (⟨"LegalRows$Line", "findBestShifts", "(II)V"⟩, 10) := ⟨⟨by decide +kernel, by decide +kernel⟩, List.mem_of_getElem? (i := 142) (by decide +kernel), List.mem_of_getElem? (i := 277) (by decide +kernel), List.mem_of_getElem? (i := 278) (by decide +kernel)⟩
theorem lw_p7 : lw_okq (⟨"LegalRows$Line", "insertBend", "(I)V"⟩, 10) := ⟨⟨by decide +kernel, by decide +kernel⟩, List.mem_of_getElem? (i := 142) (by decide +kernel), List.mem_of_getElem? (i := 283) (by decide +kernel), List.mem_of_getElem? (i := 284) (by decide +kernel)⟩
theorem lw_p8 : lw_okq (⟨"LegalRows$Line", "setSites", "(II)V"⟩, 10) := ⟨⟨by decide +kernel, by decide +kernel⟩, List.mem_of_getElem? (i := 142) (by decide +kernel), List.mem_of_getElem? (i := 287) (by decide +kernel), List.mem_of_getElem? (i := 288) (by decide +kernel)⟩
theorem lw_p9 : lw_okq (⟨"LegalRows$Filling", "append", "(II)V"⟩, 8) := ⟨⟨by decide +kernel, by decide +kernel⟩, List.mem_of_getElem? (i := 136) (by decide +kernel), List.mem_of_getElem? (i := 292) (by decide +kernel), List.mem_of_getElem? (i := 293) (by decide +kernel)⟩
theorem lw_p10 : lw_okq (⟨"LegalRows$Filling", "settle", "(I)V"⟩, 8) := ⟨⟨by decide +kernel, by decide +kernel⟩, List.mem_of_getElem? (i := 136) (by decide +kernel), List.mem_of_getElem? (i := 296) (by decide +kernel), List.mem_of_getElem? (i := 297) (by decide +kernel)⟩
theorem lw_p11 : lw_okq (⟨"java/lang/Throwable", "fillInStackTrace", "(I)Ljava/lang/Throwable;"⟩, 6) := ⟨⟨by decide +kernel, by decide +kernel⟩, List.mem_of_getElem? (i := 358) (by decide +kernel), List.mem_of_getElem? (i := 356) (by decide +kernel), List.mem_of_getElem? (i := 357) (by decide +kernel)⟩
theorem lw_p12 : lw_okq (⟨"LegalRows", "requireCell", "(I)V"⟩, 5) := ⟨⟨by decide +kernel, by decide +kernel⟩, List.mem_of_getElem? (i := 17) (by decide +kernel), List.mem_of_getElem? (i := 417) (by decide +kernel), List.mem_of_getElem? (i := 418) (by decide +kernel)⟩
theorem lw_p13 : lw_okq (⟨"LegalRows", "requireRow", "(I)V"⟩, 5) := ⟨⟨by decide +kernel, by decide +kernel⟩, List.mem_of_getElem? (i := 17) (by decide +kernel), List.mem_of_getElem? (i := 437) (by decide +kernel), List.mem_of_getElem? (i := 438) (by decide +kernel)⟩
theorem lw_p14 : lw_okq (⟨"LegalRows", "noteChange", "(Z)Z"⟩, 5) := ⟨⟨by decide +kernel, by decide +kernel⟩, List.mem_of_getElem? (i := 17) (by decide +kernel), List.mem_of_getElem? (i := 447) (by decide +kernel), List.mem_of_getElem? (i := 448) (by decide +kernel)⟩
theorem lw_p15 : lw_okq (⟨"LegalRows$Ground", "cutPart", "(III)V"⟩, 6) := ⟨⟨by decide +kernel, by decide +kernel⟩, List.mem_of_getElem? (i := 38) (by decide +kernel), List.mem_of_getElem? (i := 465) (by decide +kernel), List.mem_of_getElem? (i := 466) (by decide +kernel)⟩
def lw_privs_1 : List (MethodName × Nat) := [(⟨"LegalRows$Filling", "emptyParts", "()V"⟩, 8), (⟨"LegalRows$Filling", "orderCells", "()V"⟩, 8), (⟨"LegalRows$Filling", "cheapestPart", "(I)I"⟩, 8), (⟨"LegalRows$Filling", "costAtLeast", "(II)I"⟩, 8), (⟨"LegalRows$Filling", "layWith", "(II)Z"⟩, 8), (⟨"LegalRows$Filling", "gather", "(I)V"⟩, 8), (⟨"LegalRows$Line", "findBestShifts", "(II)V"⟩, 10), (⟨"LegalRows$Line", "insertBend", "(I)V"⟩, 10), (⟨"LegalRows$Line", "setSites", "(II)V"⟩, 10), (⟨"LegalRows$Filling", "append", "(II)V"⟩, 8), (⟨"LegalRows$Filling", "settle", "(I)V"⟩, 8), (⟨"java/lang/Throwable", "fillInStackTrace", "(I)Ljava/lang/Throwable;"⟩, 6), (⟨"LegalRows", "requireCell", "(I)V"⟩, 5), (⟨"LegalRows", "requireRow", "(I)V"⟩, 5), (⟨"LegalRows", "noteChange", "(Z)Z"⟩, 5), (⟨"LegalRows$Ground", "cutPart", "(III)V"⟩, 6)]
theorem lw_r1 : ∀ q ∈ lw_privs_1, lw_okq q := List.forall_mem_cons.mpr ⟨lw_p0, List.forall_mem_cons.mpr ⟨lw_p1, List.forall_mem_cons.mpr ⟨lw_p2, List.forall_mem_cons.mpr ⟨lw_p3, List.forall_mem_cons.mpr ⟨lw_p4, List.forall_mem_cons.mpr ⟨lw_p5, List.forall_mem_cons.mpr ⟨lw_p6, List.forall_mem_cons.mpr ⟨lw_p7, List.forall_mem_cons.mpr ⟨lw_p8, List.forall_mem_cons.mpr ⟨lw_p9, List.forall_mem_cons.mpr ⟨lw_p10, List.forall_mem_cons.mpr ⟨lw_p11, List.forall_mem_cons.mpr ⟨lw_p12, List.forall_mem_cons.mpr ⟨lw_p13, List.forall_mem_cons.mpr ⟨lw_p14, List.forall_mem_cons.mpr ⟨lw_p15, fun _ h => absurd h List.not_mem_nil⟩⟩⟩⟩⟩⟩⟩⟩⟩⟩⟩⟩⟩⟩⟩⟩
theorem lw_p16 : lw_okq (⟨"LegalRows$Ground", "insertBehind", "(III)V"⟩, 6) := ⟨⟨by decide +kernel, by decide +kernel⟩, List.mem_of_getElem? (i := 38) (by decide +kernel), List.mem_of_getElem? (i := 469) (by decide +kernel), List.mem_of_getElem? (i := 470) (by decide +kernel)⟩
theorem lw_p17 : lw_okq (⟨"LegalRows$Ground", "shiftParts", "(II)V"⟩, 6) := ⟨⟨by decide +kernel, by decide +kernel⟩, List.mem_of_getElem? (i := 38) (by decide +kernel), List.mem_of_getElem? (i := 473) (by decide +kernel), List.mem_of_getElem? (i := 474) (by decide +kernel)⟩
theorem lw_p18 : lw_okq (⟨"LegalRows$Ground", "remove", "(I)V"⟩, 6) := ⟨⟨by decide +kernel, by decide +kernel⟩, List.mem_of_getElem? (i := 38) (by decide +kernel), List.mem_of_getElem? (i := 480) (by decide +kernel), List.mem_of_getElem? (i := 481) (by decide +kernel)⟩
theorem lw_p19 : lw_okq (⟨"LegalRows", "requirePlaces", "()V"⟩, 5) := ⟨⟨by decide +kernel, by decide +kernel⟩, List.mem_of_getElem? (i := 17) (by decide +kernel), List.mem_of_getElem? (i := 519) (by decide +kernel), List.mem_of_getElem? (i := 520) (by decide +kernel)⟩
theorem lw_p20 : lw_okq (⟨"LegalRows$Nets", "gainOfCellAt", "(II)I"⟩, 5) := ⟨⟨by decide +kernel, by decide +kernel⟩, List.mem_of_getElem? (i := 113) (by decide +kernel), List.mem_of_getElem? (i := 566) (by decide +kernel), List.mem_of_getElem? (i := 567) (by decide +kernel)⟩
theorem lw_p21 : lw_okq (⟨"LegalRows$Nets", "chain", "(II)V"⟩, 5) := ⟨⟨by decide +kernel, by decide +kernel⟩, List.mem_of_getElem? (i := 113) (by decide +kernel), List.mem_of_getElem? (i := 596) (by decide +kernel), List.mem_of_getElem? (i := 597) (by decide +kernel)⟩
theorem lw_p22 : lw_okq (⟨"LegalRowsModel", "isCell", "(I)Z"⟩, 28) := ⟨⟨by decide +kernel, by decide +kernel⟩, List.mem_of_getElem? (i := 627) (by decide +kernel), List.mem_of_getElem? (i := 735) (by decide +kernel), List.mem_of_getElem? (i := 736) (by decide +kernel)⟩
theorem lw_p23 : lw_okq (⟨"LegalRowsModel", "isRow", "(I)Z"⟩, 28) := ⟨⟨by decide +kernel, by decide +kernel⟩, List.mem_of_getElem? (i := 627) (by decide +kernel), List.mem_of_getElem? (i := 739) (by decide +kernel), List.mem_of_getElem? (i := 740) (by decide +kernel)⟩
theorem lw_p24 : lw_okq (⟨"LegalRowsModel", "sort", "()V"⟩, 28) := ⟨⟨by decide +kernel, by decide +kernel⟩, List.mem_of_getElem? (i := 627) (by decide +kernel), List.mem_of_getElem? (i := 763) (by decide +kernel), List.mem_of_getElem? (i := 764) (by decide +kernel)⟩
theorem lw_p25 : lw_okq (⟨"LegalRowsModel", "isTaken", "(I)Z"⟩, 28) := ⟨⟨by decide +kernel, by decide +kernel⟩, List.mem_of_getElem? (i := 627) (by decide +kernel), List.mem_of_getElem? (i := 767) (by decide +kernel), List.mem_of_getElem? (i := 768) (by decide +kernel)⟩
theorem lw_p26 : lw_okq (⟨"LegalRowsModel", "isBegin", "(II)Z"⟩, 28) := ⟨⟨by decide +kernel, by decide +kernel⟩, List.mem_of_getElem? (i := 627) (by decide +kernel), List.mem_of_getElem? (i := 772) (by decide +kernel), List.mem_of_getElem? (i := 773) (by decide +kernel)⟩
theorem lw_p27 : lw_okq (⟨"LegalRowsModel", "endOf", "(II)I"⟩, 28) := ⟨⟨by decide +kernel, by decide +kernel⟩, List.mem_of_getElem? (i := 627) (by decide +kernel), List.mem_of_getElem? (i := 776) (by decide +kernel), List.mem_of_getElem? (i := 777) (by decide +kernel)⟩
theorem lw_p28 : lw_okq (⟨"LegalRowsModel", "with", "(II)J"⟩, 28) := ⟨⟨by decide +kernel, by decide +kernel⟩, List.mem_of_getElem? (i := 627) (by decide +kernel), List.mem_of_getElem? (i := 780) (by decide +kernel), List.mem_of_getElem? (i := 781) (by decide +kernel)⟩
theorem lw_p29 : lw_okq (⟨"LegalRowsModel", "without", "(I)J"⟩, 28) := ⟨⟨by decide +kernel, by decide +kernel⟩, List.mem_of_getElem? (i := 627) (by decide +kernel), List.mem_of_getElem? (i := 787) (by decide +kernel), List.mem_of_getElem? (i := 788) (by decide +kernel)⟩
theorem lw_p30 : lw_okq (⟨"LegalRowsModel", "gather", "(II)V"⟩, 28) := ⟨⟨by decide +kernel, by decide +kernel⟩, List.mem_of_getElem? (i := 627) (by decide +kernel), List.mem_of_getElem? (i := 791) (by decide +kernel), List.mem_of_getElem? (i := 792) (by decide +kernel)⟩
theorem lw_p31 : lw_okq (⟨"LegalRowsModel", "settle", "(I)V"⟩, 28) := ⟨⟨by decide +kernel, by decide +kernel⟩, List.mem_of_getElem? (i := 627) (by decide +kernel), List.mem_of_getElem? (i := 795) (by decide +kernel), List.mem_of_getElem? (i := 796) (by decide +kernel)⟩
def lw_privs_2 : List (MethodName × Nat) := [(⟨"LegalRows$Ground", "insertBehind", "(III)V"⟩, 6), (⟨"LegalRows$Ground", "shiftParts", "(II)V"⟩, 6), (⟨"LegalRows$Ground", "remove", "(I)V"⟩, 6), (⟨"LegalRows", "requirePlaces", "()V"⟩, 5), (⟨"LegalRows$Nets", "gainOfCellAt", "(II)I"⟩, 5), (⟨"LegalRows$Nets", "chain", "(II)V"⟩, 5), (⟨"LegalRowsModel", "isCell", "(I)Z"⟩, 28), (⟨"LegalRowsModel", "isRow", "(I)Z"⟩, 28), (⟨"LegalRowsModel", "sort", "()V"⟩, 28), (⟨"LegalRowsModel", "isTaken", "(I)Z"⟩, 28), (⟨"LegalRowsModel", "isBegin", "(II)Z"⟩, 28), (⟨"LegalRowsModel", "endOf", "(II)I"⟩, 28), (⟨"LegalRowsModel", "with", "(II)J"⟩, 28), (⟨"LegalRowsModel", "without", "(I)J"⟩, 28), (⟨"LegalRowsModel", "gather", "(II)V"⟩, 28), (⟨"LegalRowsModel", "settle", "(I)V"⟩, 28)]
theorem lw_r2 : ∀ q ∈ lw_privs_2, lw_okq q := List.forall_mem_cons.mpr ⟨lw_p16, List.forall_mem_cons.mpr ⟨lw_p17, List.forall_mem_cons.mpr ⟨lw_p18, List.forall_mem_cons.mpr ⟨lw_p19, List.forall_mem_cons.mpr ⟨lw_p20, List.forall_mem_cons.mpr ⟨lw_p21, List.forall_mem_cons.mpr ⟨lw_p22, List.forall_mem_cons.mpr ⟨lw_p23, List.forall_mem_cons.mpr ⟨lw_p24, List.forall_mem_cons.mpr ⟨lw_p25, List.forall_mem_cons.mpr ⟨lw_p26, List.forall_mem_cons.mpr ⟨lw_p27, List.forall_mem_cons.mpr ⟨lw_p28, List.forall_mem_cons.mpr ⟨lw_p29, List.forall_mem_cons.mpr ⟨lw_p30, List.forall_mem_cons.mpr ⟨lw_p31, fun _ h => absurd h List.not_mem_nil⟩⟩⟩⟩⟩⟩⟩⟩⟩⟩⟩⟩⟩⟩⟩⟩
theorem lw_p32 : lw_okq (⟨"LegalRowsModel", "lay", "()J"⟩, 28) := ⟨⟨by decide +kernel, by decide +kernel⟩, List.mem_of_getElem? (i := 627) (by decide +kernel), List.mem_of_getElem? (i := 799) (by decide +kernel), List.mem_of_getElem? (i := 800) (by decide +kernel)⟩
theorem lw_p33 : lw_okq (⟨"LegalRowsModel", "costAt", "(II)J"⟩, 28) := ⟨⟨by decide +kernel, by decide +kernel⟩, List.mem_of_getElem? (i := 627) (by decide +kernel), List.mem_of_getElem? (i := 803) (by decide +kernel), List.mem_of_getElem? (i := 804) (by decide +kernel)⟩
theorem lw_p34 : lw_okq (⟨"LegalRowsModel", "behind", "(II)I"⟩, 28) := ⟨⟨by decide +kernel, by decide +kernel⟩, List.mem_of_getElem? (i := 627) (by decide +kernel), List.mem_of_getElem? (i := 807) (by decide +kernel), List.mem_of_getElem? (i := 808) (by decide +kernel)⟩
theorem lw_p35 : lw_okq (⟨"LegalRowsModel", "faultOf", "(I)I"⟩, 28) := ⟨⟨by decide +kernel, by decide +kernel⟩, List.mem_of_getElem? (i := 627) (by decide +kernel), List.mem_of_getElem? (i := 815) (by decide +kernel), List.mem_of_getElem? (i := 816) (by decide +kernel)⟩
theorem lw_p36 : lw_okq (⟨"LegalRowsModel", "isExchanged", "()Z"⟩, 28) := ⟨⟨by decide +kernel, by decide +kernel⟩, List.mem_of_getElem? (i := 627) (by decide +kernel), List.mem_of_getElem? (i := 835) (by decide +kernel), List.mem_of_getElem? (i := 836) (by decide +kernel)⟩
theorem lw_p37 : lw_okq (⟨"LegalRowsModel", "wireOf", "()J"⟩, 28) := ⟨⟨by decide +kernel, by decide +kernel⟩, List.mem_of_getElem? (i := 627) (by decide +kernel), List.mem_of_getElem? (i := 839) (by decide +kernel), List.mem_of_getElem? (i := 840) (by decide +kernel)⟩
theorem lw_p38 : lw_okq (⟨"LegalRowsModel", "exchange", "(II)V"⟩, 28) := ⟨⟨by decide +kernel, by decide +kernel⟩, List.mem_of_getElem? (i := 627) (by decide +kernel), List.mem_of_getElem? (i := 843) (by decide +kernel), List.mem_of_getElem? (i := 844) (by decide +kernel)⟩
def lw_privs_3 : List (MethodName × Nat) := [(⟨"LegalRowsModel", "lay", "()J"⟩, 28), (⟨"LegalRowsModel", "costAt", "(II)J"⟩, 28), (⟨"LegalRowsModel", "behind", "(II)I"⟩, 28), (⟨"LegalRowsModel", "faultOf", "(I)I"⟩, 28), (⟨"LegalRowsModel", "isExchanged", "()Z"⟩, 28), (⟨"LegalRowsModel", "wireOf", "()J"⟩, 28), (⟨"LegalRowsModel", "exchange", "(II)V"⟩, 28)]
theorem lw_r3 : ∀ q ∈ lw_privs_3, lw_okq q := List.forall_mem_cons.mpr ⟨lw_p32, List.forall_mem_cons.mpr ⟨lw_p33, List.forall_mem_cons.mpr ⟨lw_p34, List.forall_mem_cons.mpr ⟨lw_p35, List.forall_mem_cons.mpr ⟨lw_p36, List.forall_mem_cons.mpr ⟨lw_p37, List.forall_mem_cons.mpr ⟨lw_p38, fun _ h => absurd h List.not_mem_nil⟩⟩⟩⟩⟩⟩⟩
def lw_privs : List (MethodName × Nat) := lw_privs_1 ++ (lw_privs_2 ++ (lw_privs_3))
def lw_tbl : List Cond := k2_sels lw_privs ++ tables_1
theorem lw_privs_ok : ∀ q ∈ lw_privs, lw_okq q := by
  show ∀ q ∈ lw_privs_1 ++ (lw_privs_2 ++ (lw_privs_3)), lw_okq q
  exact List.forall_mem_append.mpr ⟨lw_r1, List.forall_mem_append.mpr ⟨lw_r2, lw_r3⟩⟩
-- ===== end of PART A; then your names; then what follows =====
end
section
/-! NAMES (by names.py out of the program): classes, fields in the order of the slots, methods -/
def R_Lr : String := "LegalRows"
def T_Lr : u_T := fun k => match k with
  | 0 => ("LegalRows", "ground", "LLegalRows$Ground;", true)
  | 1 => ("LegalRows", "cells", "LLegalRows$Cells;", true)
  | 2 => ("LegalRows", "nets", "LLegalRows$Nets;", true)
  | 3 => ("LegalRows", "filling", "LLegalRows$Filling;", true)
  | _ => ("LegalRows", "placed", "Z", false)
def t_Lr : Nat → FieldType := fun k => match k with
  | 0 => .object "LegalRows$Ground"
  | 1 => .object "LegalRows$Cells"
  | 2 => .object "LegalRows$Nets"
  | 3 => .object "LegalRows$Filling"
  | _ => .boolean
theorem nm_Lr : ∀ a, a < 5 → ∀ b, b < 5 → a ≠ b → (T_Lr a).2.1 ≠ (T_Lr b).2.1 := by decide +kernel
theorem to_Lr : ∀ k, k < 5 → parseFieldDescriptor (T_Lr k).2.2.1 = some (t_Lr k) := by decide +kernel
def R_Gr : String := "LegalRows$Ground"
def T_Gr : u_T := fun k => match k with
  | 0 => ("LegalRows$Ground", "rows", "I", true)
  | 1 => ("LegalRows$Ground", "sites", "I", true)
  | 2 => ("LegalRows$Ground", "partRow", "[I", true)
  | 3 => ("LegalRows$Ground", "partFrom", "[I", true)
  | 4 => ("LegalRows$Ground", "partTo", "[I", true)
  | _ => ("LegalRows$Ground", "parts", "I", false)
def t_Gr : Nat → FieldType := fun k => match k with
  | 0 => .int
  | 1 => .int
  | 2 => .array .int
  | 3 => .array .int
  | 4 => .array .int
  | _ => .int
theorem nm_Gr : ∀ a, a < 6 → ∀ b, b < 6 → a ≠ b → (T_Gr a).2.1 ≠ (T_Gr b).2.1 := by decide +kernel
theorem to_Gr : ∀ k, k < 6 → parseFieldDescriptor (T_Gr k).2.2.1 = some (t_Gr k) := by decide +kernel
def R_Ce : String := "LegalRows$Cells"
def T_Ce : u_T := fun k => match k with
  | 0 => ("LegalRows$Cells", "width", "[I", true)
  | 1 => ("LegalRows$Cells", "left", "[I", true)
  | 2 => ("LegalRows$Cells", "right", "[I", true)
  | 3 => ("LegalRows$Cells", "wantedSite", "[I", true)
  | 4 => ("LegalRows$Cells", "wantedRow", "[I", true)
  | 5 => ("LegalRows$Cells", "site", "[I", true)
  | 6 => ("LegalRows$Cells", "row", "[I", true)
  | 7 => ("LegalRows$Cells", "spaces", "[I", true)
  | _ => ("LegalRows$Cells", "count", "I", false)
def t_Ce : Nat → FieldType := fun k => match k with
  | 0 => .array .int
  | 1 => .array .int
  | 2 => .array .int
  | 3 => .array .int
  | 4 => .array .int
  | 5 => .array .int
  | 6 => .array .int
  | 7 => .array .int
  | _ => .int
theorem nm_Ce : ∀ a, a < 9 → ∀ b, b < 9 → a ≠ b → (T_Ce a).2.1 ≠ (T_Ce b).2.1 := by decide +kernel
theorem to_Ce : ∀ k, k < 9 → parseFieldDescriptor (T_Ce k).2.2.1 = some (t_Ce k) := by decide +kernel
def R_Ne : String := "LegalRows$Nets"
def T_Ne : u_T := fun k => match k with
  | 0 => ("LegalRows$Nets", "cells", "LLegalRows$Cells;", true)
  | 1 => ("LegalRows$Nets", "cellOf", "[I", true)
  | 2 => ("LegalRows$Nets", "nextEnd", "[I", true)
  | 3 => ("LegalRows$Nets", "firstEnd", "[I", true)
  | _ => ("LegalRows$Nets", "count", "I", false)
def t_Ne : Nat → FieldType := fun k => match k with
  | 0 => .object "LegalRows$Cells"
  | 1 => .array .int
  | 2 => .array .int
  | 3 => .array .int
  | _ => .int
theorem nm_Ne : ∀ a, a < 5 → ∀ b, b < 5 → a ≠ b → (T_Ne a).2.1 ≠ (T_Ne b).2.1 := by decide +kernel
theorem to_Ne : ∀ k, k < 5 → parseFieldDescriptor (T_Ne k).2.2.1 = some (t_Ne k) := by decide +kernel
def R_Fi : String := "LegalRows$Filling"
def T_Fi : u_T := fun k => match k with
  | 0 => ("LegalRows$Filling", "ground", "LLegalRows$Ground;", true)
  | 1 => ("LegalRows$Filling", "cells", "LLegalRows$Cells;", true)
  | 2 => ("LegalRows$Filling", "line", "LLegalRows$Line;", true)
  | 3 => ("LegalRows$Filling", "order", "[I", true)
  | 4 => ("LegalRows$Filling", "nextCell", "[I", true)
  | 5 => ("LegalRows$Filling", "firstCell", "[I", true)
  | 6 => ("LegalRows$Filling", "lastCell", "[I", true)
  | _ => ("LegalRows$Filling", "sum", "[I", true)
def t_Fi : Nat → FieldType := fun k => match k with
  | 0 => .object "LegalRows$Ground"
  | 1 => .object "LegalRows$Cells"
  | 2 => .object "LegalRows$Line"
  | 3 => .array .int
  | 4 => .array .int
  | 5 => .array .int
  | 6 => .array .int
  | _ => .array .int
theorem nm_Fi : ∀ a, a < 8 → ∀ b, b < 8 → a ≠ b → (T_Fi a).2.1 ≠ (T_Fi b).2.1 := by decide +kernel
theorem to_Fi : ∀ k, k < 8 → parseFieldDescriptor (T_Fi k).2.2.1 = some (t_Fi k) := by decide +kernel
def R_Li : String := "LegalRows$Line"
def T_Li : u_T := fun k => match k with
  | 0 => ("LegalRows$Line", "cells", "LLegalRows$Cells;", true)
  | 1 => ("LegalRows$Line", "cell", "[I", true)
  | 2 => ("LegalRows$Line", "offset", "[I", true)
  | 3 => ("LegalRows$Line", "bestShift", "[I", true)
  | 4 => ("LegalRows$Line", "site", "[I", true)
  | 5 => ("LegalRows$Line", "bend", "[I", true)
  | 6 => ("LegalRows$Line", "bends", "I", false)
  | 7 => ("LegalRows$Line", "count", "I", false)
  | 8 => ("LegalRows$Line", "length", "I", false)
  | _ => ("LegalRows$Line", "sum", "I", false)
def t_Li : Nat → FieldType := fun k => match k with
  | 0 => .object "LegalRows$Cells"
  | 1 => .array .int
  | 2 => .array .int
  | 3 => .array .int
  | 4 => .array .int
  | 5 => .array .int
  | 6 => .int
  | 7 => .int
  | 8 => .int
  | _ => .int
theorem nm_Li : ∀ a, a < 10 → ∀ b, b < 10 → a ≠ b → (T_Li a).2.1 ≠ (T_Li b).2.1 := by decide +kernel
theorem to_Li : ∀ k, k < 10 → parseFieldDescriptor (T_Li k).2.2.1 = some (t_Li k) := by decide +kernel
def R_Mo : String := "LegalRowsModel"
def T_Mo : u_T := fun k => match k with
  | 0 => ("LegalRowsModel", "code", "I", false)
  | 1 => ("LegalRowsModel", "rows", "I", true)
  | 2 => ("LegalRowsModel", "sites", "I", true)
  | 3 => ("LegalRowsModel", "barred", "[Z", true)
  | 4 => ("LegalRowsModel", "cells", "I", false)
  | 5 => ("LegalRowsModel", "widths", "[I", true)
  | 6 => ("LegalRowsModel", "lefts", "[I", true)
  | 7 => ("LegalRowsModel", "rights", "[I", true)
  | 8 => ("LegalRowsModel", "wantedX", "[I", true)
  | 9 => ("LegalRowsModel", "wantedRow", "[I", true)
  | 10 => ("LegalRowsModel", "spaces", "[I", true)
  | 11 => ("LegalRowsModel", "netA", "[I", true)
  | 12 => ("LegalRowsModel", "netB", "[I", true)
  | 13 => ("LegalRowsModel", "nets", "I", false)
  | 14 => ("LegalRowsModel", "atX", "[I", true)
  | 15 => ("LegalRowsModel", "atRow", "[I", true)
  | 16 => ("LegalRowsModel", "partOf", "[I", true)
  | 17 => ("LegalRowsModel", "placed", "Z", false)
  | 18 => ("LegalRowsModel", "line", "[I", true)
  | 19 => ("LegalRowsModel", "many", "I", false)
  | 20 => ("LegalRowsModel", "first", "I", false)
  | 21 => ("LegalRowsModel", "end", "I", false)
  | 22 => ("LegalRowsModel", "table", "[J", true)
  | 23 => ("LegalRowsModel", "order", "[I", true)
  | 24 => ("LegalRowsModel", "turns", "I", false)
  | 25 => ("LegalRowsModel", "fronts", "[J", true)
  | 26 => ("LegalRowsModel", "lasts", "[I", true)
  | _ => ("LegalRowsModel", "trial", "[J", true)
def t_Mo : Nat → FieldType := fun k => match k with
  | 0 => .int
  | 1 => .int
  | 2 => .int
  | 3 => .array .boolean
  | 4 => .int
  | 5 => .array .int
  | 6 => .array .int
  | 7 => .array .int
  | 8 => .array .int
  | 9 => .array .int
  | 10 => .array .int
  | 11 => .array .int
  | 12 => .array .int
  | 13 => .int
  | 14 => .array .int
  | 15 => .array .int
  | 16 => .array .int
  | 17 => .boolean
  | 18 => .array .int
  | 19 => .int
  | 20 => .int
  | 21 => .int
  | 22 => .array .long
  | 23 => .array .int
  | 24 => .int
  | 25 => .array .long
  | 26 => .array .int
  | _ => .array .long
theorem nm_Mo : ∀ a, a < 28 → ∀ b, b < 28 → a ≠ b → (T_Mo a).2.1 ≠ (T_Mo b).2.1 := by decide +kernel
theorem to_Mo : ∀ k, k < 28 → parseFieldDescriptor (T_Mo k).2.2.1 = some (t_Mo k) := by decide +kernel
def R_La : String := "LegalRowsLaw"
abbrev vCl : List vw_C := [(R_Lr, T_Lr, 5), (R_Gr, T_Gr, 6), (R_Ce, T_Ce, 9), (R_Ne, T_Ne, 5), (R_Fi, T_Fi, 8), (R_Li, T_Li, 10), (R_Mo, T_Mo, 28)]
abbrev c_Lr_init : ByteArray := prog_1_method_1_code
def y_Lr_init : MethodName := ⟨R_Lr, "<init>", "(IJ)V"⟩
abbrev c_Lr_cell : ByteArray := prog_1_method_2_code
def y_Lr_cell : MethodName := ⟨R_Lr, "cell", "(JI)I"⟩
abbrev c_Lr_want : ByteArray := prog_1_method_3_code
def y_Lr_want : MethodName := ⟨R_Lr, "want", "(IJI)Z"⟩
abbrev c_Lr_bar : ByteArray := prog_1_method_4_code
def y_Lr_bar : MethodName := ⟨R_Lr, "bar", "(IJJ)Z"⟩
abbrev c_Lr_kind : ByteArray := prog_1_method_5_code
def y_Lr_kind : MethodName := ⟨R_Lr, "kind", "(III)Z"⟩
abbrev c_Lr_space : ByteArray := prog_1_method_6_code
def y_Lr_space : MethodName := ⟨R_Lr, "space", "(IIJ)Z"⟩
abbrev c_Lr_run : ByteArray := prog_1_method_7_code
def y_Lr_run : MethodName := ⟨R_Lr, "run", "()I"⟩
abbrev c_Lr_at : ByteArray := prog_1_method_8_code
def y_Lr_at : MethodName := ⟨R_Lr, "at", "(I)J"⟩
abbrev c_Lr_rowOf : ByteArray := prog_1_method_9_code
def y_Lr_rowOf : MethodName := ⟨R_Lr, "rowOf", "(I)I"⟩
abbrev c_Lr_moved : ByteArray := prog_1_method_10_code
def y_Lr_moved : MethodName := ⟨R_Lr, "moved", "()J"⟩
abbrev c_Lr_mirrored : ByteArray := prog_1_method_11_code
def y_Lr_mirrored : MethodName := ⟨R_Lr, "mirrored", "(I)Z"⟩
abbrev c_Lr_improve : ByteArray := prog_1_method_12_code
def y_Lr_improve : MethodName := ⟨R_Lr, "improve", "(I)I"⟩
abbrev c_Lr_net : ByteArray := prog_1_method_13_code
def y_Lr_net : MethodName := ⟨R_Lr, "net", "(II)I"⟩
abbrev c_Lr_wire : ByteArray := prog_1_method_14_code
def y_Lr_wire : MethodName := ⟨R_Lr, "wire", "()J"⟩
abbrev c_Lr_overlap : ByteArray := prog_1_method_15_code
def y_Lr_overlap : MethodName := ⟨R_Lr, "overlap", "()Z"⟩
abbrev c_Lr_noteChange : ByteArray := prog_1_method_16_code
def y_Lr_noteChange : MethodName := ⟨R_Lr, "noteChange", "(Z)Z"⟩
abbrev c_Lr_requireCell : ByteArray := prog_1_method_17_code
def y_Lr_requireCell : MethodName := ⟨R_Lr, "requireCell", "(I)V"⟩
abbrev c_Lr_requireRow : ByteArray := prog_1_method_18_code
def y_Lr_requireRow : MethodName := ⟨R_Lr, "requireRow", "(I)V"⟩
abbrev c_Lr_requirePlaces : ByteArray := prog_1_method_19_code
def y_Lr_requirePlaces : MethodName := ⟨R_Lr, "requirePlaces", "()V"⟩
abbrev c_Lr_requireKinds : ByteArray := prog_1_method_20_code
def y_Lr_requireKinds : MethodName := ⟨R_Lr, "requireKinds", "(II)V"⟩
abbrev c_Mo_init : ByteArray := prog_8_method_1_code
def y_Mo_init : MethodName := ⟨R_Mo, "<init>", "(IJ)V"⟩
abbrev c_Mo_thrown : ByteArray := prog_8_method_2_code
def y_Mo_thrown : MethodName := ⟨R_Mo, "thrown", "()I"⟩
abbrev c_Mo_isCell : ByteArray := prog_8_method_3_code
def y_Mo_isCell : MethodName := ⟨R_Mo, "isCell", "(I)Z"⟩
abbrev c_Mo_isRow : ByteArray := prog_8_method_4_code
def y_Mo_isRow : MethodName := ⟨R_Mo, "isRow", "(I)Z"⟩
abbrev c_Mo_isKind : ByteArray := prog_8_method_5_code
def y_Mo_isKind : MethodName := ⟨R_Mo, "isKind", "(I)Z"⟩
abbrev c_Mo_cell : ByteArray := prog_8_method_6_code
def y_Mo_cell : MethodName := ⟨R_Mo, "cell", "(JI)I"⟩
abbrev c_Mo_want : ByteArray := prog_8_method_7_code
def y_Mo_want : MethodName := ⟨R_Mo, "want", "(IJI)Z"⟩
abbrev c_Mo_bar : ByteArray := prog_8_method_8_code
def y_Mo_bar : MethodName := ⟨R_Mo, "bar", "(IJJ)Z"⟩
abbrev c_Mo_kind : ByteArray := prog_8_method_9_code
def y_Mo_kind : MethodName := ⟨R_Mo, "kind", "(III)Z"⟩
abbrev c_Mo_space : ByteArray := prog_8_method_10_code
def y_Mo_space : MethodName := ⟨R_Mo, "space", "(IIJ)Z"⟩
abbrev c_Mo_gather : ByteArray := prog_8_method_11_code
def y_Mo_gather : MethodName := ⟨R_Mo, "gather", "(II)V"⟩
abbrev c_Mo_far : ByteArray := prog_8_method_12_code
def y_Mo_far : MethodName := ⟨R_Mo, "far", "(II)I"⟩
abbrev c_Mo_behind : ByteArray := prog_8_method_13_code
def y_Mo_behind : MethodName := ⟨R_Mo, "behind", "(II)I"⟩
abbrev c_Mo_costAt : ByteArray := prog_8_method_14_code
def y_Mo_costAt : MethodName := ⟨R_Mo, "costAt", "(II)J"⟩
abbrev c_Mo_lay : ByteArray := prog_8_method_15_code
def y_Mo_lay : MethodName := ⟨R_Mo, "lay", "()J"⟩
abbrev c_Mo_settle : ByteArray := prog_8_method_16_code
def y_Mo_settle : MethodName := ⟨R_Mo, "settle", "(I)V"⟩
abbrev c_Mo_sort : ByteArray := prog_8_method_17_code
def y_Mo_sort : MethodName := ⟨R_Mo, "sort", "()V"⟩
abbrev c_Mo_endOf : ByteArray := prog_8_method_18_code
def y_Mo_endOf : MethodName := ⟨R_Mo, "endOf", "(II)I"⟩
abbrev c_Mo_isBegin : ByteArray := prog_8_method_19_code
def y_Mo_isBegin : MethodName := ⟨R_Mo, "isBegin", "(II)Z"⟩
abbrev c_Mo_with : ByteArray := prog_8_method_20_code
def y_Mo_with : MethodName := ⟨R_Mo, "with", "(II)J"⟩
abbrev c_Mo_without : ByteArray := prog_8_method_21_code
def y_Mo_without : MethodName := ⟨R_Mo, "without", "(I)J"⟩
abbrev c_Mo_isTaken : ByteArray := prog_8_method_22_code
def y_Mo_isTaken : MethodName := ⟨R_Mo, "isTaken", "(I)Z"⟩
abbrev c_Mo_run : ByteArray := prog_8_method_23_code
def y_Mo_run : MethodName := ⟨R_Mo, "run", "()I"⟩
abbrev c_Mo_faultOf : ByteArray := prog_8_method_24_code
def y_Mo_faultOf : MethodName := ⟨R_Mo, "faultOf", "(I)I"⟩
abbrev c_Mo_at : ByteArray := prog_8_method_25_code
def y_Mo_at : MethodName := ⟨R_Mo, "at", "(I)J"⟩
abbrev c_Mo_rowOf : ByteArray := prog_8_method_26_code
def y_Mo_rowOf : MethodName := ⟨R_Mo, "rowOf", "(I)I"⟩
abbrev c_Mo_mirrored : ByteArray := prog_8_method_27_code
def y_Mo_mirrored : MethodName := ⟨R_Mo, "mirrored", "(I)Z"⟩
abbrev c_Mo_moved : ByteArray := prog_8_method_28_code
def y_Mo_moved : MethodName := ⟨R_Mo, "moved", "()J"⟩
abbrev c_Mo_wireOf : ByteArray := prog_8_method_29_code
def y_Mo_wireOf : MethodName := ⟨R_Mo, "wireOf", "()J"⟩
abbrev c_Mo_exchange : ByteArray := prog_8_method_30_code
def y_Mo_exchange : MethodName := ⟨R_Mo, "exchange", "(II)V"⟩
abbrev c_Mo_isExchanged : ByteArray := prog_8_method_31_code
def y_Mo_isExchanged : MethodName := ⟨R_Mo, "isExchanged", "()Z"⟩
abbrev c_Mo_improve : ByteArray := prog_8_method_32_code
def y_Mo_improve : MethodName := ⟨R_Mo, "improve", "(I)I"⟩
abbrev c_Mo_net : ByteArray := prog_8_method_33_code
def y_Mo_net : MethodName := ⟨R_Mo, "net", "(II)I"⟩
abbrev c_Mo_wire : ByteArray := prog_8_method_34_code
def y_Mo_wire : MethodName := ⟨R_Mo, "wire", "()J"⟩
abbrev c_Mo_overlap : ByteArray := prog_8_method_35_code
def y_Mo_overlap : MethodName := ⟨R_Mo, "overlap", "()Z"⟩
abbrev c_Ce_init : ByteArray := prog_2_method_1_code
def y_Ce_init : MethodName := ⟨R_Ce, "<init>", "()V"⟩
abbrev c_Ce_add : ByteArray := prog_2_method_2_code
def y_Ce_add : MethodName := ⟨R_Ce, "add", "(I)I"⟩
abbrev c_Ce_setWanted : ByteArray := prog_2_method_3_code
def y_Ce_setWanted : MethodName := ⟨R_Ce, "setWanted", "(III)Z"⟩
abbrev c_Ce_setKinds : ByteArray := prog_2_method_4_code
def y_Ce_setKinds : MethodName := ⟨R_Ce, "setKinds", "(III)Z"⟩
abbrev c_Ce_setSpace : ByteArray := prog_2_method_5_code
def y_Ce_setSpace : MethodName := ⟨R_Ce, "setSpace", "(III)Z"⟩
abbrev c_Ce_spaceBetween : ByteArray := prog_2_method_6_code
def y_Ce_spaceBetween : MethodName := ⟨R_Ce, "spaceBetween", "(II)I"⟩
abbrev c_Ce_put : ByteArray := prog_2_method_7_code
def y_Ce_put : MethodName := ⟨R_Ce, "put", "(III)V"⟩
abbrev c_Ce_exchange : ByteArray := prog_2_method_8_code
def y_Ce_exchange : MethodName := ⟨R_Ce, "exchange", "(II)V"⟩
abbrev c_Ce_alike : ByteArray := prog_2_method_9_code
def y_Ce_alike : MethodName := ⟨R_Ce, "alike", "(II)Z"⟩
abbrev c_Ce_end : ByteArray := prog_2_method_10_code
def y_Ce_end : MethodName := ⟨R_Ce, "end", "(I)I"⟩
abbrev c_Ce_shareSite : ByteArray := prog_2_method_11_code
def y_Ce_shareSite : MethodName := ⟨R_Ce, "shareSite", "(II)Z"⟩
abbrev c_Ce_rowCost : ByteArray := prog_2_method_12_code
def y_Ce_rowCost : MethodName := ⟨R_Ce, "rowCost", "(II)I"⟩
abbrev c_Ce_wayFromWanted : ByteArray := prog_2_method_13_code
def y_Ce_wayFromWanted : MethodName := ⟨R_Ce, "wayFromWanted", "()J"⟩
abbrev c_Ce_distance : ByteArray := prog_2_method_14_code
def y_Ce_distance : MethodName := ⟨R_Ce, "distance", "(II)I"⟩
abbrev c_Fi_init : ByteArray := prog_3_method_1_code
def y_Fi_init : MethodName := ⟨R_Fi, "<init>", "(LLegalRows$Ground;LLegalRows$Cells;)V"⟩
abbrev c_Fi_placeAll : ByteArray := prog_3_method_2_code
def y_Fi_placeAll : MethodName := ⟨R_Fi, "placeAll", "()I"⟩
abbrev c_Fi_emptyParts : ByteArray := prog_3_method_3_code
def y_Fi_emptyParts : MethodName := ⟨R_Fi, "emptyParts", "()V"⟩
abbrev c_Fi_orderCells : ByteArray := prog_3_method_4_code
def y_Fi_orderCells : MethodName := ⟨R_Fi, "orderCells", "()V"⟩
abbrev c_Fi_cheapestPart : ByteArray := prog_3_method_5_code
def y_Fi_cheapestPart : MethodName := ⟨R_Fi, "cheapestPart", "(I)I"⟩
abbrev c_Fi_costAtLeast : ByteArray := prog_3_method_6_code
def y_Fi_costAtLeast : MethodName := ⟨R_Fi, "costAtLeast", "(II)I"⟩
abbrev c_Fi_append : ByteArray := prog_3_method_7_code
def y_Fi_append : MethodName := ⟨R_Fi, "append", "(II)V"⟩
abbrev c_Fi_layWith : ByteArray := prog_3_method_8_code
def y_Fi_layWith : MethodName := ⟨R_Fi, "layWith", "(II)Z"⟩
abbrev c_Fi_gather : ByteArray := prog_3_method_9_code
def y_Fi_gather : MethodName := ⟨R_Fi, "gather", "(I)V"⟩
abbrev c_Fi_settle : ByteArray := prog_3_method_10_code
def y_Fi_settle : MethodName := ⟨R_Fi, "settle", "(I)V"⟩
abbrev c_Gr_init : ByteArray := prog_4_method_1_code
def y_Gr_init : MethodName := ⟨R_Gr, "<init>", "(II)V"⟩
abbrev c_Gr_cut : ByteArray := prog_4_method_2_code
def y_Gr_cut : MethodName := ⟨R_Gr, "cut", "(III)Z"⟩
abbrev c_Gr_cutPart : ByteArray := prog_4_method_3_code
def y_Gr_cutPart : MethodName := ⟨R_Gr, "cutPart", "(III)V"⟩
abbrev c_Gr_insertBehind : ByteArray := prog_4_method_4_code
def y_Gr_insertBehind : MethodName := ⟨R_Gr, "insertBehind", "(III)V"⟩
abbrev c_Gr_remove : ByteArray := prog_4_method_5_code
def y_Gr_remove : MethodName := ⟨R_Gr, "remove", "(I)V"⟩
abbrev c_Gr_shiftParts : ByteArray := prog_4_method_6_code
def y_Gr_shiftParts : MethodName := ⟨R_Gr, "shiftParts", "(II)V"⟩
abbrev c_Gr_isFree : ByteArray := prog_4_method_7_code
def y_Gr_isFree : MethodName := ⟨R_Gr, "isFree", "(III)Z"⟩
abbrev c_Li_init : ByteArray := prog_5_method_1_code
def y_Li_init : MethodName := ⟨R_Li, "<init>", "(LLegalRows$Cells;)V"⟩
abbrev c_Li_clear : ByteArray := prog_5_method_2_code
def y_Li_clear : MethodName := ⟨R_Li, "clear", "()V"⟩
abbrev c_Li_add : ByteArray := prog_5_method_3_code
def y_Li_add : MethodName := ⟨R_Li, "add", "(I)V"⟩
abbrev c_Li_layIn : ByteArray := prog_5_method_4_code
def y_Li_layIn : MethodName := ⟨R_Li, "layIn", "(II)Z"⟩
abbrev c_Li_findBestShifts : ByteArray := prog_5_method_5_code
def y_Li_findBestShifts : MethodName := ⟨R_Li, "findBestShifts", "(II)V"⟩
abbrev c_Li_insertBend : ByteArray := prog_5_method_6_code
def y_Li_insertBend : MethodName := ⟨R_Li, "insertBend", "(I)V"⟩
abbrev c_Li_setSites : ByteArray := prog_5_method_7_code
def y_Li_setSites : MethodName := ⟨R_Li, "setSites", "(II)V"⟩
abbrev c_Li_putCells : ByteArray := prog_5_method_8_code
def y_Li_putCells : MethodName := ⟨R_Li, "putCells", "(I)V"⟩
abbrev c_Ne_init : ByteArray := prog_6_method_1_code
def y_Ne_init : MethodName := ⟨R_Ne, "<init>", "(LLegalRows$Cells;)V"⟩
abbrev c_Ne_add : ByteArray := prog_6_method_2_code
def y_Ne_add : MethodName := ⟨R_Ne, "add", "(II)I"⟩
abbrev c_Ne_chain : ByteArray := prog_6_method_3_code
def y_Ne_chain : MethodName := ⟨R_Ne, "chain", "(II)V"⟩
abbrev c_Ne_length : ByteArray := prog_6_method_4_code
def y_Ne_length : MethodName := ⟨R_Ne, "length", "()J"⟩
abbrev c_Ne_exchangeFirstPair : ByteArray := prog_6_method_5_code
def y_Ne_exchangeFirstPair : MethodName := ⟨R_Ne, "exchangeFirstPair", "()Z"⟩
abbrev c_Ne_gainOfCellAt : ByteArray := prog_6_method_6_code
def y_Ne_gainOfCellAt : MethodName := ⟨R_Ne, "gainOfCellAt", "(II)I"⟩
abbrev c_La_cell1 : ByteArray := method_2_code
def y_La_cell1 : MethodName := ⟨R_La, "cell", "([II)I"⟩
abbrev c_La_cell2 : ByteArray := method_3_code
def y_La_cell2 : MethodName := ⟨R_La, "cell", "(LLegalRows;JI[J)I"⟩
abbrev c_La_want : ByteArray := method_4_code
def y_La_want : MethodName := ⟨R_La, "want", "(LLegalRows;IJI[J)I"⟩
abbrev c_La_bar : ByteArray := method_5_code
def y_La_bar : MethodName := ⟨R_La, "bar", "(LLegalRows;IJJ[J)I"⟩
abbrev c_La_kind : ByteArray := method_6_code
def y_La_kind : MethodName := ⟨R_La, "kind", "(LLegalRows;III[J)I"⟩
abbrev c_La_space : ByteArray := method_7_code
def y_La_space : MethodName := ⟨R_La, "space", "(LLegalRows;IIJ[J)I"⟩
abbrev c_La_at : ByteArray := method_8_code
def y_La_at : MethodName := ⟨R_La, "at", "(LLegalRows;I[J)I"⟩
abbrev c_La_rowOf : ByteArray := method_9_code
def y_La_rowOf : MethodName := ⟨R_La, "rowOf", "(LLegalRows;I[J)I"⟩
abbrev c_La_moved : ByteArray := method_10_code
def y_La_moved : MethodName := ⟨R_La, "moved", "(LLegalRows;[J)I"⟩
abbrev c_La_mirrored : ByteArray := method_11_code
def y_La_mirrored : MethodName := ⟨R_La, "mirrored", "(LLegalRows;I[J)I"⟩
abbrev c_La_improve : ByteArray := method_12_code
def y_La_improve : MethodName := ⟨R_La, "improve", "(LLegalRows;I[J)I"⟩
abbrev c_La_net : ByteArray := method_13_code
def y_La_net : MethodName := ⟨R_La, "net", "(LLegalRows;II[J)I"⟩
abbrev c_La_wire : ByteArray := method_14_code
def y_La_wire : MethodName := ⟨R_La, "wire", "(LLegalRows;[J)I"⟩
abbrev c_La_overlap : ByteArray := method_15_code
def y_La_overlap : MethodName := ⟨R_La, "overlap", "(LLegalRows;[J)I"⟩
def y_La_law : MethodName := ⟨R_La, "law", "([I)Z"⟩
end
section
/-! NUMBERS: the machine's ints and longs by whole numbers. Sums, differences and products need no bound; comparisons, places and i2l do. -/
def iI (z : Int) : Int32 := Int32.ofInt z
def lI (z : Int) : Int64 := Int64.ofInt z
def rg (z : Int) : Prop := -2147483648 ≤ z ∧ z ≤ 2147483647
def rL (z : Int) : Prop := -9223372036854775808 ≤ z ∧ z ≤ 9223372036854775807
theorem iI_t {z : Int} (h : rg z) : (iI z).toInt = z := Int32.toInt_ofInt_of_le (by have := h.1; omega) (by have := h.2; omega)
theorem lI_t {z : Int} (h : rL z) : (lI z).toInt = z := Int64.toInt_ofInt_of_le (by have := h.1; omega) (by have := h.2; omega)
theorem iI_lt {a b : Int} (ha : rg a) (hb : rg b) : iI a < iI b ↔ a < b := by rw [Int32.lt_iff_toInt_lt, iI_t ha, iI_t hb]
theorem iI_le {a b : Int} (ha : rg a) (hb : rg b) : iI a ≤ iI b ↔ a ≤ b := by rw [Int32.le_iff_toInt_le, iI_t ha, iI_t hb]
theorem iI_eq {a b : Int} (ha : rg a) (hb : rg b) : iI a = iI b ↔ a = b := ⟨fun h => by rw [← iI_t ha, ← iI_t hb, h], fun h => by rw [h]⟩
theorem lI_lt {a b : Int} (ha : rL a) (hb : rL b) : lI a < lI b ↔ a < b := by rw [Int64.lt_iff_toInt_lt, lI_t ha, lI_t hb]
theorem lI_le {a b : Int} (ha : rL a) (hb : rL b) : lI a ≤ lI b ↔ a ≤ b := by rw [Int64.le_iff_toInt_le, lI_t ha, lI_t hb]
theorem lI_eq {a b : Int} (ha : rL a) (hb : rL b) : lI a = lI b ↔ a = b := ⟨fun h => by rw [← lI_t ha, ← lI_t hb, h], fun h => by rw [h]⟩
theorem iI_add (a b : Int) : iI a + iI b = iI (a + b) := (Int32.ofInt_add a b).symm
theorem iI_sub (a b : Int) : iI a - iI b = iI (a - b) := (Int32.ofInt_sub a b).symm
theorem iI_mul (a b : Int) : iI a * iI b = iI (a * b) := (Int32.ofInt_mul a b).symm
theorem lI_add (a b : Int) : lI a + lI b = lI (a + b) := (Int64.ofInt_add a b).symm
theorem lI_sub (a b : Int) : lI a - lI b = lI (a - b) := (Int64.ofInt_sub a b).symm
theorem lI_mul (a b : Int) : lI a * lI b = lI (a * b) := (Int64.ofInt_mul a b).symm
theorem iI_0 : iI 0 = 0 := rfl
theorem lI_0 : lI 0 = 0 := rfl
theorem rg_0 : rg 0 := ⟨by omega, by omega⟩
theorem iI_self (x : Int32) : iI x.toInt = x := Int32.ofInt_toInt x
theorem lI_self (x : Int64) : lI x.toInt = x := Int64.ofInt_toInt x
theorem rg_toInt (x : Int32) : rg x.toInt := ⟨by have := x.le_toInt; omega, by have := x.toInt_lt; omega⟩
theorem rL_toInt (x : Int64) : rL x.toInt := ⟨by have := x.le_toInt; omega, by have := x.toInt_lt; omega⟩
theorem iI_c {z : Int} (h0 : 0 ≤ z) (h1 : z < 2147483648) : (iI z).toNatClampNeg = z.toNat := by
  show (iI z).toInt.toNat = z.toNat
  rw [iI_t ⟨by omega, by omega⟩]
theorem iI_in {z : Int} {n : Nat} (h0 : 0 ≤ z) (h1 : z < n) (hn : n < 2147483648) : vp_in (iI z) n := vp_in_iff.mpr (by
  rw [iI_t ⟨by omega, by omega⟩]; exact ⟨h0, h1⟩)
theorem iI_l {z : Int} (h : rg z) : (iI z).toInt64 = lI z := by
  apply Int64.toInt.inj
  rw [Int32.toInt_toInt64, iI_t h, lI_t ⟨by have := h.1; omega, by have := h.2; omega⟩]
theorem lI_i (z : Int) : (lI z).toInt32 = iI z := Int64.toInt32_ofInt
theorem nI_iI (n : Nat) : nI n = iI n := Int32.ofInt_eq_ofNat.symm
theorem iI_ofNat (n : Nat) : Int32.ofNat n = iI n := Int32.ofInt_eq_ofNat.symm
theorem iI_div {a : Int} (d : Nat) (h0 : 0 ≤ a) (h1 : a < 2147483648) (hd : 0 < d) (hd2 : d < 2147483648) : iI a / iI d = iI (a / d) := by
  obtain ⟨n, rfl⟩ := Int.eq_ofNat_of_zero_le h0
  rw [← nI_iI, ← nI_iI, pk_div (by omega) hd (by omega), nI_iI]
  rfl
theorem iI_rem {a : Int} (d : Nat) (h0 : 0 ≤ a) (h1 : a < 2147483648) (hd : 0 < d) (hd2 : d < 2147483648) : iI a - iI a / iI d * iI d = iI (a % d) := by
  obtain ⟨n, rfl⟩ := Int.eq_ofNat_of_zero_le h0
  rw [← nI_iI, ← nI_iI, pk_rem (by omega) hd (by omega), nI_iI]
  rfl
/-! THE WORLD: a shape (which cells, which fields), addresses, and two functions: the number fields F and the arrays A. -/
abbrev x_F : Type := Nat ⊕ Nat
abbrev x_D : Type := Nat × ((Nat × List x_F) ⊕ (Nat × Nat))
abbrev x_St : Type := (Nat → Int) × (Nat → Int → Int)
def x_fv (ad : Nat → Nat) (F : Nat → Int) (f : x_F) : Value := match f with
  | .inl k => .ref (ad k)
  | .inr j => .int (iI (F j))
def x_ar (kd : Nat) (f : Int → Int) : (Nat → Int32) ⊕ (Nat → Int64) ⊕ (Nat → UInt32) ⊕ (Nat → UInt64) ⊕ (Nat → Option Nat) := match kd with
  | 2 => .inr (.inl (fun j => lI (f j)))
  | _ => .inl (fun j => iI (f j))
def x_e (ad : Nat → Nat) (cA : Nat → ClassId) (N : Nat → Nat) (F : Nat → Int) (A : Nat → Int → Int) (d : x_D) : Nat × va_E := (ad d.1, match d.2 with
  | .inl q => .inr (q.1, q.2.map (x_fv ad F))
  | .inr q => .inl (cA q.2, N q.2, x_ar q.1 (A q.2)))
def x_w (sh : List x_D) (ad : Nat → Nat) (cA : Nat → ClassId) (N : Nat → Nat) (F : Nat → Int) (A : Nat → Int → Int) : va_W := sh.map (x_e ad cA N F A)
def x_ty (kd : Nat) : FieldType := match kd with
  | 2 => .long
  | 1 => .boolean
  | _ => .int
def x_tys (sh : List x_D) (cA : Nat → ClassId) : List (ClassId × FieldType) := sh.filterMap (fun d => match d.2 with
  | .inl _ => none
  | .inr q => some (cA q.2, x_ty q.1))
def x_S (D : va_G) (cl : List vw_C) (sh : List x_D) (ad : Nat → Nat) (cA : Nat → ClassId) (N : Nat → Nat) (A0 : Nat → Prop) (s : State) (F : Nat → Int) (A : Nat → Int → Int) (H : Heap) (locs : List Loc) : Prop :=
  va_K D cl (x_tys sh cA) s ∧ va_P D cl (x_w sh ad cA N F A) H ∧ va_D A0 (x_w sh ad cA N F A) ∧ va_S A0 s.heap H locs ∧ ∀ k, N k < 2147483648
def ua (A : Nat → Int → Int) (k : Nat) (i v : Int) : Nat → Int → Int := fun a j => if a = k then (if j = i then v else A k j) else A a j
def uf (F : Nat → Int) (k : Nat) (v : Int) : Nat → Int := fun j => if j = k then v else F j
theorem x_wq {sh : List x_D} {ad : Nat → Nat} {cA : Nat → ClassId} {N : Nat → Nat} {F : Nat → Int} {A : Nat → Int → Int} {q : Nat} {d : x_D} (h : sh[q]? = some d) : (x_w sh ad cA N F A)[q]? = some (x_e ad cA N F A d) := by
  unfold x_w
  rw [List.getElem?_map, h]
  rfl
theorem x_tq {sh : List x_D} {cA : Nat → ClassId} {q t kd id : Nat} (h : sh[q]? = some (t, .inr (kd, id))) : ∃ t0 : Nat, (x_tys sh cA)[t0]? = some (cA id, x_ty kd) := by
  have hm : (cA id, x_ty kd) ∈ x_tys sh cA := List.mem_filterMap.mpr ⟨_, List.mem_of_getElem? h, rfl⟩
  obtain ⟨t0, h0, h1⟩ := List.getElem_of_mem hm
  exact ⟨t0, by rw [List.getElem?_eq_getElem h0, h1]⟩
theorem x_wl {sh : List x_D} {ad : Nat → Nat} {cA : Nat → ClassId} {N : Nat → Nat} {F F' : Nat → Int} {A A' : Nat → Int → Int} {k : Nat} {q : Nat × va_E} (h : (x_w sh ad cA N F' A')[k]? = some q) : ∃ e, (x_w sh ad cA N F A)[k]? = some (q.1, e) := by
  unfold x_w at h ⊢
  rw [List.getElem?_map] at h ⊢
  cases hd : sh[k]? with
  | none => rw [hd] at h; cases h
  | some d => rw [hd] at h; cases h; exact ⟨_, rfl⟩
theorem x_Dm {sh : List x_D} {ad : Nat → Nat} {cA : Nat → ClassId} {N : Nat → Nat} {F F' : Nat → Int} {A A' : Nat → Int → Int} {A0 : Nat → Prop} (h : va_D A0 (x_w sh ad cA N F A)) : va_D A0 (x_w sh ad cA N F' A') := by
  refine ⟨fun i j p q hp hq e => ?_, fun k q hq => ?_⟩
  · obtain ⟨e1, h1⟩ := x_wl (F := F) (A := A) hp
    obtain ⟨e2, h2⟩ := x_wl (F := F) (A := A) hq
    exact h.1 i j _ _ h1 h2 e
  · obtain ⟨e1, h1⟩ := x_wl (F := F) (A := A) hq
    exact h.2 k (q.1, e1) h1
theorem x_Am {sh : List x_D} {ad : Nat → Nat} {cA : Nat → ClassId} {N : Nat → Nat} {F F' : Nat → Int} {A A' : Nat → Int → Int} {sz : Nat} : va_A (x_w sh ad cA N F A) sz = va_A (x_w sh ad cA N F' A') sz := by
  funext q
  apply propext
  constructor
  · rintro (⟨k, e, h⟩ | h)
    · obtain ⟨e1, h1⟩ := x_wl (F := F') (A := A') h
      exact Or.inl ⟨k, e1, h1⟩
    · exact Or.inr h
  · rintro (⟨k, e, h⟩ | h)
    · obtain ⟨e1, h1⟩ := x_wl (F := F) (A := A) h
      exact Or.inl ⟨k, e1, h1⟩
    · exact Or.inr h
/-! LOOPS: the least predicate that a body closes; no fuel. -/
def Lp1 {A1 : Type} (B : (A1 → Prop) → A1 → Prop) (a1 : A1) : Prop := ∀ I : A1 → Prop, (∀ (a1 : A1), B I a1 → I a1) → I a1
theorem Lp1_by {A1 : Type} {B : (A1 → Prop) → A1 → Prop} (Inv : A1 → Prop) (μ : A1 → Nat) (hs : ∀ (a1 : A1), Inv a1 → ∀ P : A1 → Prop, (∀ (b1 : A1), Inv b1 → μ b1 < μ a1 → P b1) → B P a1) (a1 : A1) (h : Inv a1) : Lp1 B a1 := by
  intro I hI
  have key : ∀ (n : Nat) (a1 : A1), Inv a1 → μ a1 < n → I a1 := by
    intro n
    induction n with
    | zero => intro a1 _ h2; exact absurd h2 (Nat.not_lt_zero _)
    | succ n ih => intro a1 h1 h2; exact hI a1 (hs a1 h1 I (fun b1 h3 h4 => ih b1 h3 (by omega)))
  exact key (μ a1 + 1) a1 h (Nat.lt_succ_self _)
def Lp2 {A1 A2 : Type} (B : (A1 → A2 → Prop) → A1 → A2 → Prop) (a1 : A1) (a2 : A2) : Prop := ∀ I : A1 → A2 → Prop, (∀ (a1 : A1) (a2 : A2), B I a1 a2 → I a1 a2) → I a1 a2
theorem Lp2_by {A1 A2 : Type} {B : (A1 → A2 → Prop) → A1 → A2 → Prop} (Inv : A1 → A2 → Prop) (μ : A1 → A2 → Nat) (hs : ∀ (a1 : A1) (a2 : A2), Inv a1 a2 → ∀ P : A1 → A2 → Prop, (∀ (b1 : A1) (b2 : A2), Inv b1 b2 → μ b1 b2 < μ a1 a2 → P b1 b2) → B P a1 a2) (a1 : A1) (a2 : A2) (h : Inv a1 a2) : Lp2 B a1 a2 := by
  intro I hI
  have key : ∀ (n : Nat) (a1 : A1) (a2 : A2), Inv a1 a2 → μ a1 a2 < n → I a1 a2 := by
    intro n
    induction n with
    | zero => intro a1 a2 _ h2; exact absurd h2 (Nat.not_lt_zero _)
    | succ n ih => intro a1 a2 h1 h2; exact hI a1 a2 (hs a1 a2 h1 I (fun b1 b2 h3 h4 => ih b1 b2 h3 (by omega)))
  exact key (μ a1 a2 + 1) a1 a2 h (Nat.lt_succ_self _)
def Lp3 {A1 A2 A3 : Type} (B : (A1 → A2 → A3 → Prop) → A1 → A2 → A3 → Prop) (a1 : A1) (a2 : A2) (a3 : A3) : Prop := ∀ I : A1 → A2 → A3 → Prop, (∀ (a1 : A1) (a2 : A2) (a3 : A3), B I a1 a2 a3 → I a1 a2 a3) → I a1 a2 a3
theorem Lp3_by {A1 A2 A3 : Type} {B : (A1 → A2 → A3 → Prop) → A1 → A2 → A3 → Prop} (Inv : A1 → A2 → A3 → Prop) (μ : A1 → A2 → A3 → Nat) (hs : ∀ (a1 : A1) (a2 : A2) (a3 : A3), Inv a1 a2 a3 → ∀ P : A1 → A2 → A3 → Prop, (∀ (b1 : A1) (b2 : A2) (b3 : A3), Inv b1 b2 b3 → μ b1 b2 b3 < μ a1 a2 a3 → P b1 b2 b3) → B P a1 a2 a3) (a1 : A1) (a2 : A2) (a3 : A3) (h : Inv a1 a2 a3) : Lp3 B a1 a2 a3 := by
  intro I hI
  have key : ∀ (n : Nat) (a1 : A1) (a2 : A2) (a3 : A3), Inv a1 a2 a3 → μ a1 a2 a3 < n → I a1 a2 a3 := by
    intro n
    induction n with
    | zero => intro a1 a2 a3 _ h2; exact absurd h2 (Nat.not_lt_zero _)
    | succ n ih => intro a1 a2 a3 h1 h2; exact hI a1 a2 a3 (hs a1 a2 a3 h1 I (fun b1 b2 b3 h3 h4 => ih b1 b2 b3 h3 (by omega)))
  exact key (μ a1 a2 a3 + 1) a1 a2 a3 h (Nat.lt_succ_self _)
def Lp4 {A1 A2 A3 A4 : Type} (B : (A1 → A2 → A3 → A4 → Prop) → A1 → A2 → A3 → A4 → Prop) (a1 : A1) (a2 : A2) (a3 : A3) (a4 : A4) : Prop := ∀ I : A1 → A2 → A3 → A4 → Prop, (∀ (a1 : A1) (a2 : A2) (a3 : A3) (a4 : A4), B I a1 a2 a3 a4 → I a1 a2 a3 a4) → I a1 a2 a3 a4
theorem Lp4_by {A1 A2 A3 A4 : Type} {B : (A1 → A2 → A3 → A4 → Prop) → A1 → A2 → A3 → A4 → Prop} (Inv : A1 → A2 → A3 → A4 → Prop) (μ : A1 → A2 → A3 → A4 → Nat) (hs : ∀ (a1 : A1) (a2 : A2) (a3 : A3) (a4 : A4), Inv a1 a2 a3 a4 → ∀ P : A1 → A2 → A3 → A4 → Prop, (∀ (b1 : A1) (b2 : A2) (b3 : A3) (b4 : A4), Inv b1 b2 b3 b4 → μ b1 b2 b3 b4 < μ a1 a2 a3 a4 → P b1 b2 b3 b4) → B P a1 a2 a3 a4) (a1 : A1) (a2 : A2) (a3 : A3) (a4 : A4) (h : Inv a1 a2 a3 a4) : Lp4 B a1 a2 a3 a4 := by
  intro I hI
  have key : ∀ (n : Nat) (a1 : A1) (a2 : A2) (a3 : A3) (a4 : A4), Inv a1 a2 a3 a4 → μ a1 a2 a3 a4 < n → I a1 a2 a3 a4 := by
    intro n
    induction n with
    | zero => intro a1 a2 a3 a4 _ h2; exact absurd h2 (Nat.not_lt_zero _)
    | succ n ih => intro a1 a2 a3 a4 h1 h2; exact hI a1 a2 a3 a4 (hs a1 a2 a3 a4 h1 I (fun b1 b2 b3 b4 h3 h4 => ih b1 b2 b3 b4 h3 (by omega)))
  exact key (μ a1 a2 a3 a4 + 1) a1 a2 a3 a4 h (Nat.lt_succ_self _)
def Lp5 {A1 A2 A3 A4 A5 : Type} (B : (A1 → A2 → A3 → A4 → A5 → Prop) → A1 → A2 → A3 → A4 → A5 → Prop) (a1 : A1) (a2 : A2) (a3 : A3) (a4 : A4) (a5 : A5) : Prop := ∀ I : A1 → A2 → A3 → A4 → A5 → Prop, (∀ (a1 : A1) (a2 : A2) (a3 : A3) (a4 : A4) (a5 : A5), B I a1 a2 a3 a4 a5 → I a1 a2 a3 a4 a5) → I a1 a2 a3 a4 a5
theorem Lp5_by {A1 A2 A3 A4 A5 : Type} {B : (A1 → A2 → A3 → A4 → A5 → Prop) → A1 → A2 → A3 → A4 → A5 → Prop} (Inv : A1 → A2 → A3 → A4 → A5 → Prop) (μ : A1 → A2 → A3 → A4 → A5 → Nat) (hs : ∀ (a1 : A1) (a2 : A2) (a3 : A3) (a4 : A4) (a5 : A5), Inv a1 a2 a3 a4 a5 → ∀ P : A1 → A2 → A3 → A4 → A5 → Prop, (∀ (b1 : A1) (b2 : A2) (b3 : A3) (b4 : A4) (b5 : A5), Inv b1 b2 b3 b4 b5 → μ b1 b2 b3 b4 b5 < μ a1 a2 a3 a4 a5 → P b1 b2 b3 b4 b5) → B P a1 a2 a3 a4 a5) (a1 : A1) (a2 : A2) (a3 : A3) (a4 : A4) (a5 : A5) (h : Inv a1 a2 a3 a4 a5) : Lp5 B a1 a2 a3 a4 a5 := by
  intro I hI
  have key : ∀ (n : Nat) (a1 : A1) (a2 : A2) (a3 : A3) (a4 : A4) (a5 : A5), Inv a1 a2 a3 a4 a5 → μ a1 a2 a3 a4 a5 < n → I a1 a2 a3 a4 a5 := by
    intro n
    induction n with
    | zero => intro a1 a2 a3 a4 a5 _ h2; exact absurd h2 (Nat.not_lt_zero _)
    | succ n ih => intro a1 a2 a3 a4 a5 h1 h2; exact hI a1 a2 a3 a4 a5 (hs a1 a2 a3 a4 a5 h1 I (fun b1 b2 b3 b4 b5 h3 h4 => ih b1 b2 b3 b4 b5 h3 (by omega)))
  exact key (μ a1 a2 a3 a4 a5 + 1) a1 a2 a3 a4 a5 h (Nat.lt_succ_self _)
def Lp6 {A1 A2 A3 A4 A5 A6 : Type} (B : (A1 → A2 → A3 → A4 → A5 → A6 → Prop) → A1 → A2 → A3 → A4 → A5 → A6 → Prop) (a1 : A1) (a2 : A2) (a3 : A3) (a4 : A4) (a5 : A5) (a6 : A6) : Prop := ∀ I : A1 → A2 → A3 → A4 → A5 → A6 → Prop, (∀ (a1 : A1) (a2 : A2) (a3 : A3) (a4 : A4) (a5 : A5) (a6 : A6), B I a1 a2 a3 a4 a5 a6 → I a1 a2 a3 a4 a5 a6) → I a1 a2 a3 a4 a5 a6
theorem Lp6_by {A1 A2 A3 A4 A5 A6 : Type} {B : (A1 → A2 → A3 → A4 → A5 → A6 → Prop) → A1 → A2 → A3 → A4 → A5 → A6 → Prop} (Inv : A1 → A2 → A3 → A4 → A5 → A6 → Prop) (μ : A1 → A2 → A3 → A4 → A5 → A6 → Nat) (hs : ∀ (a1 : A1) (a2 : A2) (a3 : A3) (a4 : A4) (a5 : A5) (a6 : A6), Inv a1 a2 a3 a4 a5 a6 → ∀ P : A1 → A2 → A3 → A4 → A5 → A6 → Prop, (∀ (b1 : A1) (b2 : A2) (b3 : A3) (b4 : A4) (b5 : A5) (b6 : A6), Inv b1 b2 b3 b4 b5 b6 → μ b1 b2 b3 b4 b5 b6 < μ a1 a2 a3 a4 a5 a6 → P b1 b2 b3 b4 b5 b6) → B P a1 a2 a3 a4 a5 a6) (a1 : A1) (a2 : A2) (a3 : A3) (a4 : A4) (a5 : A5) (a6 : A6) (h : Inv a1 a2 a3 a4 a5 a6) : Lp6 B a1 a2 a3 a4 a5 a6 := by
  intro I hI
  have key : ∀ (n : Nat) (a1 : A1) (a2 : A2) (a3 : A3) (a4 : A4) (a5 : A5) (a6 : A6), Inv a1 a2 a3 a4 a5 a6 → μ a1 a2 a3 a4 a5 a6 < n → I a1 a2 a3 a4 a5 a6 := by
    intro n
    induction n with
    | zero => intro a1 a2 a3 a4 a5 a6 _ h2; exact absurd h2 (Nat.not_lt_zero _)
    | succ n ih => intro a1 a2 a3 a4 a5 a6 h1 h2; exact hI a1 a2 a3 a4 a5 a6 (hs a1 a2 a3 a4 a5 a6 h1 I (fun b1 b2 b3 b4 b5 b6 h3 h4 => ih b1 b2 b3 b4 b5 b6 h3 (by omega)))
  exact key (μ a1 a2 a3 a4 a5 a6 + 1) a1 a2 a3 a4 a5 a6 h (Nat.lt_succ_self _)
def Lp7 {A1 A2 A3 A4 A5 A6 A7 : Type} (B : (A1 → A2 → A3 → A4 → A5 → A6 → A7 → Prop) → A1 → A2 → A3 → A4 → A5 → A6 → A7 → Prop) (a1 : A1) (a2 : A2) (a3 : A3) (a4 : A4) (a5 : A5) (a6 : A6) (a7 : A7) : Prop := ∀ I : A1 → A2 → A3 → A4 → A5 → A6 → A7 → Prop, (∀ (a1 : A1) (a2 : A2) (a3 : A3) (a4 : A4) (a5 : A5) (a6 : A6) (a7 : A7), B I a1 a2 a3 a4 a5 a6 a7 → I a1 a2 a3 a4 a5 a6 a7) → I a1 a2 a3 a4 a5 a6 a7
theorem Lp7_by {A1 A2 A3 A4 A5 A6 A7 : Type} {B : (A1 → A2 → A3 → A4 → A5 → A6 → A7 → Prop) → A1 → A2 → A3 → A4 → A5 → A6 → A7 → Prop} (Inv : A1 → A2 → A3 → A4 → A5 → A6 → A7 → Prop) (μ : A1 → A2 → A3 → A4 → A5 → A6 → A7 → Nat) (hs : ∀ (a1 : A1) (a2 : A2) (a3 : A3) (a4 : A4) (a5 : A5) (a6 : A6) (a7 : A7), Inv a1 a2 a3 a4 a5 a6 a7 → ∀ P : A1 → A2 → A3 → A4 → A5 → A6 → A7 → Prop, (∀ (b1 : A1) (b2 : A2) (b3 : A3) (b4 : A4) (b5 : A5) (b6 : A6) (b7 : A7), Inv b1 b2 b3 b4 b5 b6 b7 → μ b1 b2 b3 b4 b5 b6 b7 < μ a1 a2 a3 a4 a5 a6 a7 → P b1 b2 b3 b4 b5 b6 b7) → B P a1 a2 a3 a4 a5 a6 a7) (a1 : A1) (a2 : A2) (a3 : A3) (a4 : A4) (a5 : A5) (a6 : A6) (a7 : A7) (h : Inv a1 a2 a3 a4 a5 a6 a7) : Lp7 B a1 a2 a3 a4 a5 a6 a7 := by
  intro I hI
  have key : ∀ (n : Nat) (a1 : A1) (a2 : A2) (a3 : A3) (a4 : A4) (a5 : A5) (a6 : A6) (a7 : A7), Inv a1 a2 a3 a4 a5 a6 a7 → μ a1 a2 a3 a4 a5 a6 a7 < n → I a1 a2 a3 a4 a5 a6 a7 := by
    intro n
    induction n with
    | zero => intro a1 a2 a3 a4 a5 a6 a7 _ h2; exact absurd h2 (Nat.not_lt_zero _)
    | succ n ih => intro a1 a2 a3 a4 a5 a6 a7 h1 h2; exact hI a1 a2 a3 a4 a5 a6 a7 (hs a1 a2 a3 a4 a5 a6 a7 h1 I (fun b1 b2 b3 b4 b5 b6 b7 h3 h4 => ih b1 b2 b3 b4 b5 b6 b7 h3 (by omega)))
  exact key (μ a1 a2 a3 a4 a5 a6 a7 + 1) a1 a2 a3 a4 a5 a6 a7 h (Nat.lt_succ_self _)
def Lp8 {A1 A2 A3 A4 A5 A6 A7 A8 : Type} (B : (A1 → A2 → A3 → A4 → A5 → A6 → A7 → A8 → Prop) → A1 → A2 → A3 → A4 → A5 → A6 → A7 → A8 → Prop) (a1 : A1) (a2 : A2) (a3 : A3) (a4 : A4) (a5 : A5) (a6 : A6) (a7 : A7) (a8 : A8) : Prop := ∀ I : A1 → A2 → A3 → A4 → A5 → A6 → A7 → A8 → Prop, (∀ (a1 : A1) (a2 : A2) (a3 : A3) (a4 : A4) (a5 : A5) (a6 : A6) (a7 : A7) (a8 : A8), B I a1 a2 a3 a4 a5 a6 a7 a8 → I a1 a2 a3 a4 a5 a6 a7 a8) → I a1 a2 a3 a4 a5 a6 a7 a8
theorem Lp8_by {A1 A2 A3 A4 A5 A6 A7 A8 : Type} {B : (A1 → A2 → A3 → A4 → A5 → A6 → A7 → A8 → Prop) → A1 → A2 → A3 → A4 → A5 → A6 → A7 → A8 → Prop} (Inv : A1 → A2 → A3 → A4 → A5 → A6 → A7 → A8 → Prop) (μ : A1 → A2 → A3 → A4 → A5 → A6 → A7 → A8 → Nat) (hs : ∀ (a1 : A1) (a2 : A2) (a3 : A3) (a4 : A4) (a5 : A5) (a6 : A6) (a7 : A7) (a8 : A8), Inv a1 a2 a3 a4 a5 a6 a7 a8 → ∀ P : A1 → A2 → A3 → A4 → A5 → A6 → A7 → A8 → Prop, (∀ (b1 : A1) (b2 : A2) (b3 : A3) (b4 : A4) (b5 : A5) (b6 : A6) (b7 : A7) (b8 : A8), Inv b1 b2 b3 b4 b5 b6 b7 b8 → μ b1 b2 b3 b4 b5 b6 b7 b8 < μ a1 a2 a3 a4 a5 a6 a7 a8 → P b1 b2 b3 b4 b5 b6 b7 b8) → B P a1 a2 a3 a4 a5 a6 a7 a8) (a1 : A1) (a2 : A2) (a3 : A3) (a4 : A4) (a5 : A5) (a6 : A6) (a7 : A7) (a8 : A8) (h : Inv a1 a2 a3 a4 a5 a6 a7 a8) : Lp8 B a1 a2 a3 a4 a5 a6 a7 a8 := by
  intro I hI
  have key : ∀ (n : Nat) (a1 : A1) (a2 : A2) (a3 : A3) (a4 : A4) (a5 : A5) (a6 : A6) (a7 : A7) (a8 : A8), Inv a1 a2 a3 a4 a5 a6 a7 a8 → μ a1 a2 a3 a4 a5 a6 a7 a8 < n → I a1 a2 a3 a4 a5 a6 a7 a8 := by
    intro n
    induction n with
    | zero => intro a1 a2 a3 a4 a5 a6 a7 a8 _ h2; exact absurd h2 (Nat.not_lt_zero _)
    | succ n ih => intro a1 a2 a3 a4 a5 a6 a7 a8 h1 h2; exact hI a1 a2 a3 a4 a5 a6 a7 a8 (hs a1 a2 a3 a4 a5 a6 a7 a8 h1 I (fun b1 b2 b3 b4 b5 b6 b7 b8 h3 h4 => ih b1 b2 b3 b4 b5 b6 b7 b8 h3 (by omega)))
  exact key (μ a1 a2 a3 a4 a5 a6 a7 a8 + 1) a1 a2 a3 a4 a5 a6 a7 a8 h (Nat.lt_succ_self _)
def Lp9 {A1 A2 A3 A4 A5 A6 A7 A8 A9 : Type} (B : (A1 → A2 → A3 → A4 → A5 → A6 → A7 → A8 → A9 → Prop) → A1 → A2 → A3 → A4 → A5 → A6 → A7 → A8 → A9 → Prop) (a1 : A1) (a2 : A2) (a3 : A3) (a4 : A4) (a5 : A5) (a6 : A6) (a7 : A7) (a8 : A8) (a9 : A9) : Prop := ∀ I : A1 → A2 → A3 → A4 → A5 → A6 → A7 → A8 → A9 → Prop, (∀ (a1 : A1) (a2 : A2) (a3 : A3) (a4 : A4) (a5 : A5) (a6 : A6) (a7 : A7) (a8 : A8) (a9 : A9), B I a1 a2 a3 a4 a5 a6 a7 a8 a9 → I a1 a2 a3 a4 a5 a6 a7 a8 a9) → I a1 a2 a3 a4 a5 a6 a7 a8 a9
theorem Lp9_by {A1 A2 A3 A4 A5 A6 A7 A8 A9 : Type} {B : (A1 → A2 → A3 → A4 → A5 → A6 → A7 → A8 → A9 → Prop) → A1 → A2 → A3 → A4 → A5 → A6 → A7 → A8 → A9 → Prop} (Inv : A1 → A2 → A3 → A4 → A5 → A6 → A7 → A8 → A9 → Prop) (μ : A1 → A2 → A3 → A4 → A5 → A6 → A7 → A8 → A9 → Nat) (hs : ∀ (a1 : A1) (a2 : A2) (a3 : A3) (a4 : A4) (a5 : A5) (a6 : A6) (a7 : A7) (a8 : A8) (a9 : A9), Inv a1 a2 a3 a4 a5 a6 a7 a8 a9 → ∀ P : A1 → A2 → A3 → A4 → A5 → A6 → A7 → A8 → A9 → Prop, (∀ (b1 : A1) (b2 : A2) (b3 : A3) (b4 : A4) (b5 : A5) (b6 : A6) (b7 : A7) (b8 : A8) (b9 : A9), Inv b1 b2 b3 b4 b5 b6 b7 b8 b9 → μ b1 b2 b3 b4 b5 b6 b7 b8 b9 < μ a1 a2 a3 a4 a5 a6 a7 a8 a9 → P b1 b2 b3 b4 b5 b6 b7 b8 b9) → B P a1 a2 a3 a4 a5 a6 a7 a8 a9) (a1 : A1) (a2 : A2) (a3 : A3) (a4 : A4) (a5 : A5) (a6 : A6) (a7 : A7) (a8 : A8) (a9 : A9) (h : Inv a1 a2 a3 a4 a5 a6 a7 a8 a9) : Lp9 B a1 a2 a3 a4 a5 a6 a7 a8 a9 := by
  intro I hI
  have key : ∀ (n : Nat) (a1 : A1) (a2 : A2) (a3 : A3) (a4 : A4) (a5 : A5) (a6 : A6) (a7 : A7) (a8 : A8) (a9 : A9), Inv a1 a2 a3 a4 a5 a6 a7 a8 a9 → μ a1 a2 a3 a4 a5 a6 a7 a8 a9 < n → I a1 a2 a3 a4 a5 a6 a7 a8 a9 := by
    intro n
    induction n with
    | zero => intro a1 a2 a3 a4 a5 a6 a7 a8 a9 _ h2; exact absurd h2 (Nat.not_lt_zero _)
    | succ n ih => intro a1 a2 a3 a4 a5 a6 a7 a8 a9 h1 h2; exact hI a1 a2 a3 a4 a5 a6 a7 a8 a9 (hs a1 a2 a3 a4 a5 a6 a7 a8 a9 h1 I (fun b1 b2 b3 b4 b5 b6 b7 b8 b9 h3 h4 => ih b1 b2 b3 b4 b5 b6 b7 b8 b9 h3 (by omega)))
  exact key (μ a1 a2 a3 a4 a5 a6 a7 a8 a9 + 1) a1 a2 a3 a4 a5 a6 a7 a8 a9 h (Nat.lt_succ_self _)
def Lp10 {A1 A2 A3 A4 A5 A6 A7 A8 A9 A10 : Type} (B : (A1 → A2 → A3 → A4 → A5 → A6 → A7 → A8 → A9 → A10 → Prop) → A1 → A2 → A3 → A4 → A5 → A6 → A7 → A8 → A9 → A10 → Prop) (a1 : A1) (a2 : A2) (a3 : A3) (a4 : A4) (a5 : A5) (a6 : A6) (a7 : A7) (a8 : A8) (a9 : A9) (a10 : A10) : Prop := ∀ I : A1 → A2 → A3 → A4 → A5 → A6 → A7 → A8 → A9 → A10 → Prop, (∀ (a1 : A1) (a2 : A2) (a3 : A3) (a4 : A4) (a5 : A5) (a6 : A6) (a7 : A7) (a8 : A8) (a9 : A9) (a10 : A10), B I a1 a2 a3 a4 a5 a6 a7 a8 a9 a10 → I a1 a2 a3 a4 a5 a6 a7 a8 a9 a10) → I a1 a2 a3 a4 a5 a6 a7 a8 a9 a10
theorem Lp10_by {A1 A2 A3 A4 A5 A6 A7 A8 A9 A10 : Type} {B : (A1 → A2 → A3 → A4 → A5 → A6 → A7 → A8 → A9 → A10 → Prop) → A1 → A2 → A3 → A4 → A5 → A6 → A7 → A8 → A9 → A10 → Prop} (Inv : A1 → A2 → A3 → A4 → A5 → A6 → A7 → A8 → A9 → A10 → Prop) (μ : A1 → A2 → A3 → A4 → A5 → A6 → A7 → A8 → A9 → A10 → Nat) (hs : ∀ (a1 : A1) (a2 : A2) (a3 : A3) (a4 : A4) (a5 : A5) (a6 : A6) (a7 : A7) (a8 : A8) (a9 : A9) (a10 : A10), Inv a1 a2 a3 a4 a5 a6 a7 a8 a9 a10 → ∀ P : A1 → A2 → A3 → A4 → A5 → A6 → A7 → A8 → A9 → A10 → Prop, (∀ (b1 : A1) (b2 : A2) (b3 : A3) (b4 : A4) (b5 : A5) (b6 : A6) (b7 : A7) (b8 : A8) (b9 : A9) (b10 : A10), Inv b1 b2 b3 b4 b5 b6 b7 b8 b9 b10 → μ b1 b2 b3 b4 b5 b6 b7 b8 b9 b10 < μ a1 a2 a3 a4 a5 a6 a7 a8 a9 a10 → P b1 b2 b3 b4 b5 b6 b7 b8 b9 b10) → B P a1 a2 a3 a4 a5 a6 a7 a8 a9 a10) (a1 : A1) (a2 : A2) (a3 : A3) (a4 : A4) (a5 : A5) (a6 : A6) (a7 : A7) (a8 : A8) (a9 : A9) (a10 : A10) (h : Inv a1 a2 a3 a4 a5 a6 a7 a8 a9 a10) : Lp10 B a1 a2 a3 a4 a5 a6 a7 a8 a9 a10 := by
  intro I hI
  have key : ∀ (n : Nat) (a1 : A1) (a2 : A2) (a3 : A3) (a4 : A4) (a5 : A5) (a6 : A6) (a7 : A7) (a8 : A8) (a9 : A9) (a10 : A10), Inv a1 a2 a3 a4 a5 a6 a7 a8 a9 a10 → μ a1 a2 a3 a4 a5 a6 a7 a8 a9 a10 < n → I a1 a2 a3 a4 a5 a6 a7 a8 a9 a10 := by
    intro n
    induction n with
    | zero => intro a1 a2 a3 a4 a5 a6 a7 a8 a9 a10 _ h2; exact absurd h2 (Nat.not_lt_zero _)
    | succ n ih => intro a1 a2 a3 a4 a5 a6 a7 a8 a9 a10 h1 h2; exact hI a1 a2 a3 a4 a5 a6 a7 a8 a9 a10 (hs a1 a2 a3 a4 a5 a6 a7 a8 a9 a10 h1 I (fun b1 b2 b3 b4 b5 b6 b7 b8 b9 b10 h3 h4 => ih b1 b2 b3 b4 b5 b6 b7 b8 b9 b10 h3 (by omega)))
  exact key (μ a1 a2 a3 a4 a5 a6 a7 a8 a9 a10 + 1) a1 a2 a3 a4 a5 a6 a7 a8 a9 a10 h (Nat.lt_succ_self _)
end
section
/-! ROWS over whole numbers (printed by mkrows.py): the kit's rows, with iI and lI -/
def xo (a : Int) : Int := if a % 2 = 0 then a + 1 else a - 1
theorem xo_nat (n : Nat) : ((n ^^^ 1 : Nat) : Int) = xo n := by
  have e : n ^^^ 1 = if n % 2 = 0 then n + 1 else n - 1 := by
    apply Nat.eq_of_testBit_eq
    intro i
    rw [Nat.testBit_xor]
    cases i with
    | zero =>
      rw [Nat.testBit_zero, Nat.testBit_zero, Nat.testBit_zero]
      rcases Nat.mod_two_eq_zero_or_one n with h | h
      · rw [if_pos h, h, show (n + 1) % 2 = 1 by omega]; rfl
      · rw [if_neg (by omega), h, show (n - 1) % 2 = 0 by omega]; rfl
    | succ i =>
      rw [Nat.testBit_succ, Nat.testBit_succ, Nat.testBit_succ]
      rw [show (1 : Nat) / 2 = 0 from rfl, Nat.zero_testBit, Bool.xor_false]
      congr 1
      split <;> omega
  rw [e]
  unfold xo
  split <;> split <;> omega
theorem iI_xo {a : Int} (h0 : 0 ≤ a) (h1 : a < 2147483648) : iI a ^^^ iI 1 = iI (xo a) := by
  obtain ⟨n, rfl⟩ := Int.eq_ofNat_of_zero_le h0
  rw [← xo_nat, ← nI_iI, ← nI_iI, show iI 1 = nI 1 from rfl]
  apply Int32.toBitVec_inj.1
  show BitVec.ofNat 32 n ^^^ BitVec.ofNat 32 1 = BitVec.ofNat 32 (n ^^^ 1)
  apply BitVec.eq_of_getLsbD_eq
  intro i hi
  simp [hi]
section XR
variable {p : Program} {l : Launch} {e : Env} {R : Room} {s : State} {m : MethodId} {args : Array Value} {below : List Frame} {meth : Method} {c : Code} {H : Heap} {locs : List Loc} {cells slots : Nat} {Q : State → Prop}
variable {cc : ByteArray} {pc : Nat} {ls : Array Slot} {rest : List Value}
theorem r_iconst (hx : p.tables.exec = Jvm.exec) (hb : c.code = cc) {n : Int} (hdg : decode cc pc = .ok (.iconst n, 1))
    (k : W p l e R s m args below meth c H locs cells slots Q (F0 m (pc + 1) ls (.int (iI n) :: rest))) : W p l e R s m args below meth c H locs cells slots Q (F0 m pc ls (rest)) := lv_iconst hx hb hdg rfl k
theorem r_bipush (hx : p.tables.exec = Jvm.exec) (hb : c.code = cc) {n : Int} (hdg : decode cc pc = .ok (.bipush n, 2)) (hv : (Int8.ofInt n).toInt32 = iI n)
    (k : W p l e R s m args below meth c H locs cells slots Q (F0 m (pc + 2) ls (.int (iI n) :: rest))) : W p l e R s m args below meth c H locs cells slots Q (F0 m pc ls (rest)) := lv_bipush hx hb hdg hv k
theorem r_sipush (hx : p.tables.exec = Jvm.exec) (hb : c.code = cc) {n : Int} (hdg : decode cc pc = .ok (.sipush n, 3)) (hv : (Int16.ofInt n).toInt32 = iI n)
    (k : W p l e R s m args below meth c H locs cells slots Q (F0 m (pc + 3) ls (.int (iI n) :: rest))) : W p l e R s m args below meth c H locs cells slots Q (F0 m pc ls (rest)) := lv_sipush hx hb hdg hv k
theorem r_lconst (hx : p.tables.exec = Jvm.exec) (hb : c.code = cc) {n : Fin 2} (z : Int) (hdg : decode cc pc = .ok (.lconst n, 1)) (hv : Int64.ofNat (n : Nat) = lI z)
    (k : W p l e R s m args below meth c H locs cells slots Q (F0 m (pc + 1) ls (.long (lI z) :: rest))) : W p l e R s m args below meth c H locs cells slots Q (F0 m pc ls (rest)) := lv_lconst hx hb hdg hv k
theorem r_iadd (hx : p.tables.exec = Jvm.exec) (hb : c.code = cc) {a b : Int} (hdg : decode cc pc = .ok (.iadd, 1))
    (k : W p l e R s m args below meth c H locs cells slots Q (F0 m (pc + 1) ls (.int (iI (a + b)) :: rest))) : W p l e R s m args below meth c H locs cells slots Q (F0 m pc ls (.int (iI b) :: .int (iI a) :: rest)) := lv_iadd hx hb hdg (by rw [iI_add]; exact k)
theorem r_isub (hx : p.tables.exec = Jvm.exec) (hb : c.code = cc) {a b : Int} (hdg : decode cc pc = .ok (.isub, 1))
    (k : W p l e R s m args below meth c H locs cells slots Q (F0 m (pc + 1) ls (.int (iI (a - b)) :: rest))) : W p l e R s m args below meth c H locs cells slots Q (F0 m pc ls (.int (iI b) :: .int (iI a) :: rest)) := lv_isub hx hb hdg (by rw [iI_sub]; exact k)
theorem r_imul (hx : p.tables.exec = Jvm.exec) (hb : c.code = cc) {a b : Int} (hdg : decode cc pc = .ok (.imul, 1))
    (k : W p l e R s m args below meth c H locs cells slots Q (F0 m (pc + 1) ls (.int (iI (a * b)) :: rest))) : W p l e R s m args below meth c H locs cells slots Q (F0 m pc ls (.int (iI b) :: .int (iI a) :: rest)) := lv_imul hx hb hdg (by rw [iI_mul]; exact k)
theorem r_ladd (hx : p.tables.exec = Jvm.exec) (hb : c.code = cc) {a b : Int} (hdg : decode cc pc = .ok (.ladd, 1))
    (k : W p l e R s m args below meth c H locs cells slots Q (F0 m (pc + 1) ls (.long (lI (a + b)) :: rest))) : W p l e R s m args below meth c H locs cells slots Q (F0 m pc ls (.long (lI b) :: .long (lI a) :: rest)) := lv_ladd hx hb hdg (by rw [lI_add]; exact k)
theorem r_lsub (hx : p.tables.exec = Jvm.exec) (hb : c.code = cc) {a b : Int} (hdg : decode cc pc = .ok (.lsub, 1))
    (k : W p l e R s m args below meth c H locs cells slots Q (F0 m (pc + 1) ls (.long (lI (a - b)) :: rest))) : W p l e R s m args below meth c H locs cells slots Q (F0 m pc ls (.long (lI b) :: .long (lI a) :: rest)) := lv_lsub hx hb hdg (by rw [lI_sub]; exact k)
theorem r_lmul (hx : p.tables.exec = Jvm.exec) (hb : c.code = cc) {a b : Int} (hdg : decode cc pc = .ok (.lmul, 1))
    (k : W p l e R s m args below meth c H locs cells slots Q (F0 m (pc + 1) ls (.long (lI (a * b)) :: rest))) : W p l e R s m args below meth c H locs cells slots Q (F0 m pc ls (.long (lI b) :: .long (lI a) :: rest)) := lv_lmul hx hb hdg (by rw [lI_mul]; exact k)
theorem r_i2l (hx : p.tables.exec = Jvm.exec) (hb : c.code = cc) {a : Int} (ha : rg a) (hdg : decode cc pc = .ok (.i2l, 1))
    (k : W p l e R s m args below meth c H locs cells slots Q (F0 m (pc + 1) ls (.long (lI a) :: rest))) : W p l e R s m args below meth c H locs cells slots Q (F0 m pc ls (.int (iI a) :: rest)) := lv_i2l hx hb hdg (iI_l ha) k
theorem r_l2i (hx : p.tables.exec = Jvm.exec) (hb : c.code = cc) {a : Int} (hdg : decode cc pc = .ok (.l2i, 1))
    (k : W p l e R s m args below meth c H locs cells slots Q (F0 m (pc + 1) ls (.int (iI a) :: rest))) : W p l e R s m args below meth c H locs cells slots Q (F0 m pc ls (.long (lI a) :: rest)) := lv_l2i hx hb hdg (lI_i a) k
theorem r_idiv (hx : p.tables.exec = Jvm.exec) (hb : c.code = cc) {a : Int} (d : Nat) (h0 : 0 ≤ a) (h1 : a < 2147483648) (hd : 0 < d) (hd2 : d < 2147483648) (hdg : decode cc pc = .ok (.idiv, 1))
    (k : W p l e R s m args below meth c H locs cells slots Q (F0 m (pc + 1) ls (.int (iI (a / d)) :: rest))) : W p l e R s m args below meth c H locs cells slots Q (F0 m pc ls (.int (iI d) :: .int (iI a) :: rest)) := lv_idiv hx hb hdg (by rw [← nI_iI]; exact nI_ne0 hd (by omega)) (by rw [iI_div d h0 h1 hd hd2]; exact k)
theorem r_irem (hx : p.tables.exec = Jvm.exec) (hb : c.code = cc) {a : Int} (d : Nat) (h0 : 0 ≤ a) (h1 : a < 2147483648) (hd : 0 < d) (hd2 : d < 2147483648) (hdg : decode cc pc = .ok (.irem, 1))
    (k : W p l e R s m args below meth c H locs cells slots Q (F0 m (pc + 1) ls (.int (iI (a % d)) :: rest))) : W p l e R s m args below meth c H locs cells slots Q (F0 m pc ls (.int (iI d) :: .int (iI a) :: rest)) := lv_irem hx hb hdg (by rw [← nI_iI]; exact nI_ne0 hd (by omega)) (by rw [iI_rem d h0 h1 hd hd2]; exact k)
theorem r_icmp_lt (hx : p.tables.exec = Jvm.exec) (hb : c.code = cc) {a b : Int} {off : Int} {tgt : Nat} (ha : rg a) (hb2 : rg b) (hdg : decode cc pc = .ok (.if_icmp .lt off, 3)) (ht : (pc : Int) + off = (tgt : Int))
    (kt : a < b → W p l e R s m args below meth c H locs cells slots Q (F0 m tgt ls rest)) (kf : ¬ a < b → W p l e R s m args below meth c H locs cells slots Q (F0 m (pc + 3) ls rest)) : W p l e R s m args below meth c H locs cells slots Q (F0 m pc ls (.int (iI b) :: .int (iI a) :: rest)) := lv_icmp_lt hx hb hdg ht (fun h => kt ((iI_lt ha hb2).mp h)) (fun h => kf (fun g => h ((iI_lt ha hb2).mpr g)))
theorem r_icmp_ge (hx : p.tables.exec = Jvm.exec) (hb : c.code = cc) {a b : Int} {off : Int} {tgt : Nat} (ha : rg a) (hb2 : rg b) (hdg : decode cc pc = .ok (.if_icmp .ge off, 3)) (ht : (pc : Int) + off = (tgt : Int))
    (kt : b ≤ a → W p l e R s m args below meth c H locs cells slots Q (F0 m tgt ls rest)) (kf : ¬ b ≤ a → W p l e R s m args below meth c H locs cells slots Q (F0 m (pc + 3) ls rest)) : W p l e R s m args below meth c H locs cells slots Q (F0 m pc ls (.int (iI b) :: .int (iI a) :: rest)) := lv_icmp_ge hx hb hdg ht (fun h => kt ((iI_le hb2 ha).mp h)) (fun h => kf (fun g => h ((iI_le hb2 ha).mpr g)))
theorem r_icmp_gt (hx : p.tables.exec = Jvm.exec) (hb : c.code = cc) {a b : Int} {off : Int} {tgt : Nat} (ha : rg a) (hb2 : rg b) (hdg : decode cc pc = .ok (.if_icmp .gt off, 3)) (ht : (pc : Int) + off = (tgt : Int))
    (kt : b < a → W p l e R s m args below meth c H locs cells slots Q (F0 m tgt ls rest)) (kf : ¬ b < a → W p l e R s m args below meth c H locs cells slots Q (F0 m (pc + 3) ls rest)) : W p l e R s m args below meth c H locs cells slots Q (F0 m pc ls (.int (iI b) :: .int (iI a) :: rest)) := lv_icmp_gt hx hb hdg ht (fun h => kt ((iI_lt hb2 ha).mp h)) (fun h => kf (fun g => h ((iI_lt hb2 ha).mpr g)))
theorem r_icmp_le (hx : p.tables.exec = Jvm.exec) (hb : c.code = cc) {a b : Int} {off : Int} {tgt : Nat} (ha : rg a) (hb2 : rg b) (hdg : decode cc pc = .ok (.if_icmp .le off, 3)) (ht : (pc : Int) + off = (tgt : Int))
    (kt : a ≤ b → W p l e R s m args below meth c H locs cells slots Q (F0 m tgt ls rest)) (kf : ¬ a ≤ b → W p l e R s m args below meth c H locs cells slots Q (F0 m (pc + 3) ls rest)) : W p l e R s m args below meth c H locs cells slots Q (F0 m pc ls (.int (iI b) :: .int (iI a) :: rest)) := lv_icmp_le hx hb hdg ht (fun h => kt ((iI_le ha hb2).mp h)) (fun h => kf (fun g => h ((iI_le ha hb2).mpr g)))
theorem r_icmp_eq (hx : p.tables.exec = Jvm.exec) (hb : c.code = cc) {a b : Int} {off : Int} {tgt : Nat} (ha : rg a) (hb2 : rg b) (hdg : decode cc pc = .ok (.if_icmp .eq off, 3)) (ht : (pc : Int) + off = (tgt : Int))
    (kt : a = b → W p l e R s m args below meth c H locs cells slots Q (F0 m tgt ls rest)) (kf : ¬ a = b → W p l e R s m args below meth c H locs cells slots Q (F0 m (pc + 3) ls rest)) : W p l e R s m args below meth c H locs cells slots Q (F0 m pc ls (.int (iI b) :: .int (iI a) :: rest)) := lv_icmp_eq hx hb hdg ht (fun h => kt ((iI_eq ha hb2).mp h)) (fun h => kf (fun g => h ((iI_eq ha hb2).mpr g)))
theorem r_icmp_ne (hx : p.tables.exec = Jvm.exec) (hb : c.code = cc) {a b : Int} {off : Int} {tgt : Nat} (ha : rg a) (hb2 : rg b) (hdg : decode cc pc = .ok (.if_icmp .ne off, 3)) (ht : (pc : Int) + off = (tgt : Int))
    (kt : ¬ a = b → W p l e R s m args below meth c H locs cells slots Q (F0 m tgt ls rest)) (kf : a = b → W p l e R s m args below meth c H locs cells slots Q (F0 m (pc + 3) ls rest)) : W p l e R s m args below meth c H locs cells slots Q (F0 m pc ls (.int (iI b) :: .int (iI a) :: rest)) := lv_icmp_ne hx hb hdg ht (fun h => kt (fun g => h ((iI_eq ha hb2).mpr g))) (fun h => kf ((iI_eq ha hb2).mp h))
theorem r_if_lt (hx : p.tables.exec = Jvm.exec) (hb : c.code = cc) {a : Int} {off : Int} {tgt : Nat} (ha : rg a) (hdg : decode cc pc = .ok (.ifCond .lt off, 3)) (ht : (pc : Int) + off = (tgt : Int))
    (kt : a < 0 → W p l e R s m args below meth c H locs cells slots Q (F0 m tgt ls rest)) (kf : ¬ a < 0 → W p l e R s m args below meth c H locs cells slots Q (F0 m (pc + 3) ls rest)) : W p l e R s m args below meth c H locs cells slots Q (F0 m pc ls (.int (iI a) :: rest)) := lv_if_lt hx hb hdg ht (fun h => kt ((iI_lt ha rg_0).mp h)) (fun h => kf (fun g => h ((iI_lt ha rg_0).mpr g)))
theorem r_if_ge (hx : p.tables.exec = Jvm.exec) (hb : c.code = cc) {a : Int} {off : Int} {tgt : Nat} (ha : rg a) (hdg : decode cc pc = .ok (.ifCond .ge off, 3)) (ht : (pc : Int) + off = (tgt : Int))
    (kt : 0 ≤ a → W p l e R s m args below meth c H locs cells slots Q (F0 m tgt ls rest)) (kf : ¬ 0 ≤ a → W p l e R s m args below meth c H locs cells slots Q (F0 m (pc + 3) ls rest)) : W p l e R s m args below meth c H locs cells slots Q (F0 m pc ls (.int (iI a) :: rest)) := lv_if_ge hx hb hdg ht (fun h => kt ((iI_le rg_0 ha).mp h)) (fun h => kf (fun g => h ((iI_le rg_0 ha).mpr g)))
theorem r_if_gt (hx : p.tables.exec = Jvm.exec) (hb : c.code = cc) {a : Int} {off : Int} {tgt : Nat} (ha : rg a) (hdg : decode cc pc = .ok (.ifCond .gt off, 3)) (ht : (pc : Int) + off = (tgt : Int))
    (kt : 0 < a → W p l e R s m args below meth c H locs cells slots Q (F0 m tgt ls rest)) (kf : ¬ 0 < a → W p l e R s m args below meth c H locs cells slots Q (F0 m (pc + 3) ls rest)) : W p l e R s m args below meth c H locs cells slots Q (F0 m pc ls (.int (iI a) :: rest)) := lv_if_gt hx hb hdg ht (fun h => kt ((iI_lt rg_0 ha).mp h)) (fun h => kf (fun g => h ((iI_lt rg_0 ha).mpr g)))
theorem r_if_le (hx : p.tables.exec = Jvm.exec) (hb : c.code = cc) {a : Int} {off : Int} {tgt : Nat} (ha : rg a) (hdg : decode cc pc = .ok (.ifCond .le off, 3)) (ht : (pc : Int) + off = (tgt : Int))
    (kt : a ≤ 0 → W p l e R s m args below meth c H locs cells slots Q (F0 m tgt ls rest)) (kf : ¬ a ≤ 0 → W p l e R s m args below meth c H locs cells slots Q (F0 m (pc + 3) ls rest)) : W p l e R s m args below meth c H locs cells slots Q (F0 m pc ls (.int (iI a) :: rest)) := lv_if_le hx hb hdg ht (fun h => kt ((iI_le ha rg_0).mp h)) (fun h => kf (fun g => h ((iI_le ha rg_0).mpr g)))
theorem r_if_eq (hx : p.tables.exec = Jvm.exec) (hb : c.code = cc) {a : Int} {off : Int} {tgt : Nat} (ha : rg a) (hdg : decode cc pc = .ok (.ifCond .eq off, 3)) (ht : (pc : Int) + off = (tgt : Int))
    (kt : a = 0 → W p l e R s m args below meth c H locs cells slots Q (F0 m tgt ls rest)) (kf : ¬ a = 0 → W p l e R s m args below meth c H locs cells slots Q (F0 m (pc + 3) ls rest)) : W p l e R s m args below meth c H locs cells slots Q (F0 m pc ls (.int (iI a) :: rest)) := lv_if_eq hx hb hdg ht (fun h => kt ((iI_eq ha rg_0).mp h)) (fun h => kf (fun g => h ((iI_eq ha rg_0).mpr g)))
theorem r_if_ne (hx : p.tables.exec = Jvm.exec) (hb : c.code = cc) {a : Int} {off : Int} {tgt : Nat} (ha : rg a) (hdg : decode cc pc = .ok (.ifCond .ne off, 3)) (ht : (pc : Int) + off = (tgt : Int))
    (kt : ¬ a = 0 → W p l e R s m args below meth c H locs cells slots Q (F0 m tgt ls rest)) (kf : a = 0 → W p l e R s m args below meth c H locs cells slots Q (F0 m (pc + 3) ls rest)) : W p l e R s m args below meth c H locs cells slots Q (F0 m pc ls (.int (iI a) :: rest)) := lv_if_ne hx hb hdg ht (fun h => kt (fun g => h ((iI_eq ha rg_0).mpr g))) (fun h => kf ((iI_eq ha rg_0).mp h))
theorem r_lcmp_lt (hx : p.tables.exec = Jvm.exec) (hb : c.code = cc) {a b : Int} {off : Int} {tgt : Nat} (ha : rL a) (hb2 : rL b) (hd0 : decode cc pc = .ok (.lcmp, 1)) (hdg : decode cc (pc + 1) = .ok (.ifCond .lt off, 3)) (ht : ((pc + 1 : Nat) : Int) + off = (tgt : Int))
    (kt : a < b → W p l e R s m args below meth c H locs cells slots Q (F0 m tgt ls rest)) (kf : ¬ a < b → W p l e R s m args below meth c H locs cells slots Q (F0 m (pc + 4) ls rest)) : W p l e R s m args below meth c H locs cells slots Q (F0 m pc ls (.long (lI b) :: .long (lI a) :: rest)) := by
  have key := (lg_cmp_lt (lI a) (lI b)).trans (lI_lt ha hb2)
  exact W.lcmp hx hb hd0 (lv_if_lt hx hb hdg ht (fun h => kt (key.mp h)) (fun h => kf (fun g => h (key.mpr g))))
theorem r_lcmp_ge (hx : p.tables.exec = Jvm.exec) (hb : c.code = cc) {a b : Int} {off : Int} {tgt : Nat} (ha : rL a) (hb2 : rL b) (hd0 : decode cc pc = .ok (.lcmp, 1)) (hdg : decode cc (pc + 1) = .ok (.ifCond .ge off, 3)) (ht : ((pc + 1 : Nat) : Int) + off = (tgt : Int))
    (kt : b ≤ a → W p l e R s m args below meth c H locs cells slots Q (F0 m tgt ls rest)) (kf : ¬ b ≤ a → W p l e R s m args below meth c H locs cells slots Q (F0 m (pc + 4) ls rest)) : W p l e R s m args below meth c H locs cells slots Q (F0 m pc ls (.long (lI b) :: .long (lI a) :: rest)) := by
  have key := (lg_cmp_ge (lI a) (lI b)).trans (lI_le hb2 ha)
  exact W.lcmp hx hb hd0 (lv_if_ge hx hb hdg ht (fun h => kt (key.mp h)) (fun h => kf (fun g => h (key.mpr g))))
theorem r_lcmp_gt (hx : p.tables.exec = Jvm.exec) (hb : c.code = cc) {a b : Int} {off : Int} {tgt : Nat} (ha : rL a) (hb2 : rL b) (hd0 : decode cc pc = .ok (.lcmp, 1)) (hdg : decode cc (pc + 1) = .ok (.ifCond .gt off, 3)) (ht : ((pc + 1 : Nat) : Int) + off = (tgt : Int))
    (kt : b < a → W p l e R s m args below meth c H locs cells slots Q (F0 m tgt ls rest)) (kf : ¬ b < a → W p l e R s m args below meth c H locs cells slots Q (F0 m (pc + 4) ls rest)) : W p l e R s m args below meth c H locs cells slots Q (F0 m pc ls (.long (lI b) :: .long (lI a) :: rest)) := by
  have key := (lg_cmp_gt (lI a) (lI b)).trans (lI_lt hb2 ha)
  exact W.lcmp hx hb hd0 (lv_if_gt hx hb hdg ht (fun h => kt (key.mp h)) (fun h => kf (fun g => h (key.mpr g))))
theorem r_lcmp_le (hx : p.tables.exec = Jvm.exec) (hb : c.code = cc) {a b : Int} {off : Int} {tgt : Nat} (ha : rL a) (hb2 : rL b) (hd0 : decode cc pc = .ok (.lcmp, 1)) (hdg : decode cc (pc + 1) = .ok (.ifCond .le off, 3)) (ht : ((pc + 1 : Nat) : Int) + off = (tgt : Int))
    (kt : a ≤ b → W p l e R s m args below meth c H locs cells slots Q (F0 m tgt ls rest)) (kf : ¬ a ≤ b → W p l e R s m args below meth c H locs cells slots Q (F0 m (pc + 4) ls rest)) : W p l e R s m args below meth c H locs cells slots Q (F0 m pc ls (.long (lI b) :: .long (lI a) :: rest)) := by
  have key := (lg_cmp_le (lI a) (lI b)).trans (lI_le ha hb2)
  exact W.lcmp hx hb hd0 (lv_if_le hx hb hdg ht (fun h => kt (key.mp h)) (fun h => kf (fun g => h (key.mpr g))))
theorem r_lcmp_eq (hx : p.tables.exec = Jvm.exec) (hb : c.code = cc) {a b : Int} {off : Int} {tgt : Nat} (ha : rL a) (hb2 : rL b) (hd0 : decode cc pc = .ok (.lcmp, 1)) (hdg : decode cc (pc + 1) = .ok (.ifCond .eq off, 3)) (ht : ((pc + 1 : Nat) : Int) + off = (tgt : Int))
    (kt : a = b → W p l e R s m args below meth c H locs cells slots Q (F0 m tgt ls rest)) (kf : ¬ a = b → W p l e R s m args below meth c H locs cells slots Q (F0 m (pc + 4) ls rest)) : W p l e R s m args below meth c H locs cells slots Q (F0 m pc ls (.long (lI b) :: .long (lI a) :: rest)) := by
  have key := (lg_cmp_eq (lI a) (lI b)).trans (lI_eq ha hb2)
  exact W.lcmp hx hb hd0 (lv_if_eq hx hb hdg ht (fun h => kt (key.mp h)) (fun h => kf (fun g => h (key.mpr g))))
theorem r_lcmp_ne (hx : p.tables.exec = Jvm.exec) (hb : c.code = cc) {a b : Int} {off : Int} {tgt : Nat} (ha : rL a) (hb2 : rL b) (hd0 : decode cc pc = .ok (.lcmp, 1)) (hdg : decode cc (pc + 1) = .ok (.ifCond .ne off, 3)) (ht : ((pc + 1 : Nat) : Int) + off = (tgt : Int))
    (kt : ¬ a = b → W p l e R s m args below meth c H locs cells slots Q (F0 m tgt ls rest)) (kf : a = b → W p l e R s m args below meth c H locs cells slots Q (F0 m (pc + 4) ls rest)) : W p l e R s m args below meth c H locs cells slots Q (F0 m pc ls (.long (lI b) :: .long (lI a) :: rest)) := by
  have key := (lg_cmp_eq (lI a) (lI b)).trans (lI_eq ha hb2)
  exact W.lcmp hx hb hd0 (lv_if_ne hx hb hdg ht (fun h => kt (fun g => h (key.mpr g))) (fun h => kf (key.mp h)))
theorem r_ixor1 (hx : p.tables.exec = Jvm.exec) (hb : c.code = cc) {a : Int} (h0 : 0 ≤ a) (h1 : a < 2147483648) (hdg : decode cc pc = .ok (.ixor, 1))
    (k : W p l e R s m args below meth c H locs cells slots Q (F0 m (pc + 1) ls (.int (iI (xo a)) :: rest))) : W p l e R s m args below meth c H locs cells slots Q (F0 m pc ls (.int (iI 1) :: .int (iI a) :: rest)) := lv_ixor hx hb hdg (by rw [iI_xo h0 h1]; exact k)
theorem r_ldc2 (z : Int) (hx : p.tables.exec = Jvm.exec) (hb : c.code = cc) {own : String} {index : Nat} (hown : s.vm.findClass own = some m.cls) {v : Int64} (hconst : (Jvm.Cond.constantLong own index v).before args s = true) (hv : v = lI z) (hdg : decode cc pc = .ok (.ldc2_w index, 3)) (k : W p l e R s m args below meth c H locs cells slots Q (F0 m (pc + 3) ls (.long (lI z) :: rest))) : W p l e R s m args below meth c H locs cells slots Q (F0 m pc ls rest) := lv_ldc2 hx hb hown hconst hdg (by rw [hv]; exact k)
theorem r_iinc (hx : p.tables.exec = Jvm.exec) (hb : c.code = cc) {i nL k : Nat} {n z : Int} {lv lv' : List (Nat × Value)} (hdg : decode cc pc = .ok (.iinc i n, 3)) (h : lv_has ls nL lv) (hk : lv[k]? = some (i, .int (iI z))) (hn : i < nL) (hl : (i, Value.int (iI (z + n))) :: lv.filter (fun q => !(q.1 == i) && !(q.1 + 1 == i && q.2.category == 2)) = lv')
    (kk : ∀ ls' : Array Slot, lv_has ls' nL lv' → W p l e R s m args below meth c H locs cells slots Q (F0 m (pc + 3) ls' rest)) : W p l e R s m args below meth c H locs cells slots Q (F0 m pc ls rest) := lv_iinc hx hb hdg h hk (iI_add z n) hn hl kk
end XR
end
section
/-! ROWS over the shaped world (printed by mkworld.py) -/
theorem x_upd {f : Int → Int} {g : Int → Int} {i v : Int} (h0 : 0 ≤ i) (hg : ∀ j : Int, g j = if j = i then v else f j) : upd (fun j : Nat => iI (f j)) i.toNat (iI v) = fun j : Nat => iI (g j) := by
  funext j
  unfold upd
  dsimp only
  rw [hg]
  by_cases h : j = i.toNat
  · rw [if_pos h, if_pos (by omega)]
  · rw [if_neg h, if_neg (by omega)]
theorem x_updL {f : Int → Int} {g : Int → Int} {i v : Int} (h0 : 0 ≤ i) (hg : ∀ j : Int, g j = if j = i then v else f j) : vp_updL (fun j : Nat => lI (f j)) i.toNat (lI v) = fun j : Nat => lI (g j) := by
  funext j
  unfold vp_updL
  dsimp only
  rw [hg]
  by_cases h : j = i.toNat
  · rw [if_pos h, if_pos (by omega)]
  · rw [if_neg h, if_neg (by omega)]
theorem ua_self (A : Nat → Int → Int) (k : Nat) (i v j : Int) : ua A k i v k j = if j = i then v else A k j := by unfold ua; rw [if_pos rfl]
theorem iI_max {a b : Int} (ha : rg a) (hb : rg b) : (if iI a < iI b then iI b else iI a) = iI (max a b) := by
  by_cases h : a < b
  · rw [if_pos ((iI_lt ha hb).mpr h)]; congr 1; omega
  · rw [if_neg (fun g => h ((iI_lt ha hb).mp g))]; congr 1; omega
theorem iI_min {a b : Int} (ha : rg a) (hb : rg b) : (if iI b < iI a then iI b else iI a) = iI (min a b) := by
  by_cases h : b < a
  · rw [if_pos ((iI_lt hb ha).mpr h)]; congr 1; omega
  · rw [if_neg (fun g => h ((iI_lt hb ha).mp g))]; congr 1; omega
theorem iI_abs {a : Int} (ha : rg a) : (if 0 ≤ iI a then iI a else 0 - iI a) = iI (a.natAbs : Int) := by
  have e : (0 ≤ iI a) ↔ 0 ≤ a := iI_le rg_0 ha
  by_cases h : 0 ≤ a
  · rw [if_pos (e.mpr h)]; congr 1; omega
  · rw [if_neg (fun g => h (e.mp g)), show (0 : Int32) - iI a = iI (0 - a) from iI_sub 0 a]; congr 1; omega
theorem x_bool {v : Int} (h : v = 0 ∨ v = 1) : narrow .boolean (.int (iI v)) = .int (iI v) ∧ fits .boolean (.int (iI v)) = true ∧ vp_nar .boolean (iI v) = iI v := by
  rcases h with rfl | rfl <;> decide +kernel
def uc (A : Nat → Int → Int) (k : Nat) (sp dp n : Int) : Nat → Int → Int := fun a j => if a = k then (if dp ≤ j ∧ j < dp + n then A k (sp + (j - dp)) else A k j) else A a j
def x_P (D : va_G) (cl : List vw_C) (sh : List x_D) (ad : Nat → Nat) (cA : Nat → ClassId) (N : Nat → Nat) (sz : Nat) (F : Nat → Int) (A : Nat → Int → Int) (U : State) : Prop :=
  U.heap.size = sz ∧ va_P D cl (x_w sh ad cA N F A) U.heap ∧ va_K D cl (x_tys sh cA) U ∧ va_D (fun _ => True) (x_w sh ad cA N F A) ∧ ∀ k, N k < 2147483648
def x_B (D : va_G) (cl : List vw_C) (sh : List x_D) (ad : Nat → Nat) (cA : Nat → ClassId) (N : Nat → Nat) (A0 : Nat → Prop) (u : x_St) (t : State) : Prop :=
  va_P D cl (x_w sh ad cA N u.1 u.2) t.heap ∧ va_K D cl (x_tys sh cA) t ∧ va_D A0 (x_w sh ad cA N u.1 u.2)
abbrev x_QI (D : va_G) (cl : List vw_C) (sh : List x_D) (ad : Nat → Nat) (cA : Nat → ClassId) (N : Nat → Nat) (A0 : Nat → Prop) (K : Int → (Nat → Int) → (Nat → Int → Int) → Prop) : Array Value → State → Outcome → State → Prop :=
  va_Qi (fun r (u : x_St) => ∃ z, r = iI z ∧ K z u.1 u.2) (x_B D cl sh ad cA N A0) A0
abbrev x_QL (D : va_G) (cl : List vw_C) (sh : List x_D) (ad : Nat → Nat) (cA : Nat → ClassId) (N : Nat → Nat) (A0 : Nat → Prop) (K : Int → (Nat → Int) → (Nat → Int → Int) → Prop) : Array Value → State → Outcome → State → Prop :=
  va_Ql (fun r (u : x_St) => ∃ z, r = lI z ∧ K z u.1 u.2) (x_B D cl sh ad cA N A0) A0
abbrev x_QV (D : va_G) (cl : List vw_C) (sh : List x_D) (ad : Nat → Nat) (cA : Nat → ClassId) (N : Nat → Nat) (A0 : Nat → Prop) (K : (Nat → Int) → (Nat → Int → Int) → Prop) : Array Value → State → Outcome → State → Prop :=
  va_Qv (fun (u : x_St) => K u.1 u.2) (x_B D cl sh ad cA N A0) A0
/-- what a walk of a method's body knows of its place -/
def x_C (p : Program) (s : State) (m : MethodId) (args : Array Value) (meth : Method) (c : Code) (cc : ByteArray) (nL : Nat) (ret : Option FieldType) (Ts : List Cond) (own : String) : Prop :=
  p.tables.exec = Jvm.exec ∧ c.code = cc ∧ meth.sig.returnType = ret ∧ c.maxLocals = nL ∧ s.vm.findClass own = some m.cls ∧ (∀ w ∈ Ts, w.before args s = true) ∧ meth.locks = false
section XW
variable {p : Program} {l : Launch} {e : Env} {R : Room} {s : State} {m : MethodId} {args : Array Value} {below : List Frame} {meth : Method} {c : Code} {H : Heap} {locs : List Loc} {cells slots : Nat} {Q : State → Prop}
variable {cc : ByteArray} {pc : Nat} {ls : Array Slot} {rest : List Value}
variable {D : va_G} {cl : List vw_C} {sh : List x_D} {ad : Nat → Nat} {cA : Nat → ClassId} {N : Nat → Nat} {A0 : Nat → Prop} {F : Nat → Int} {A : Nat → Int → Int}
theorem r_getr (hx : p.tables.exec = Jvm.exec) (hb : c.code = cc) {own C : String} {T : u_T} {n ci index : Nat} {Ts : List Cond} (hts : ∀ w ∈ Ts, w.before args s = true) (hin : ∀ w ∈ u_ws C T n, w ∈ Ts) (hown : s.vm.findClass own = some m.cls) (hS : x_S D cl sh ad cA N A0 s F A H locs) (q : Nat) {t : Nat} {fs : List x_F} (hq : sh[q]? = some (t, .inl (ci, fs))) (hc : cl[ci]? = some (C, T, n)) (k : Nat) (hk : k < n) {t2 : Nat} (hf : fs[k]? = some (.inl t2)) (hlink : (Cond.fieldLink own index (T k).1 (T k).2.1 (T k).2.2.1).before args s = true) (hdg : decode cc pc = .ok (.getfield index, 3)) 
    (kk : W p l e R s m args below meth c H locs cells slots Q (F0 m (pc + 3) ls (.ref (ad t2) :: rest))) : W p l e R s m args below meth c H locs cells slots Q (F0 m pc ls (.ref (ad t) :: rest)) :=
  va_get hx hb hts hin hown hS.1 hS.2.1 q (x_wq hq) hc k hk hlink (fun _ h => h) (by rw [List.getElem?_map, hf]; rfl) hdg kk
theorem r_geti (hx : p.tables.exec = Jvm.exec) (hb : c.code = cc) {own C : String} {T : u_T} {n ci index : Nat} {Ts : List Cond} (hts : ∀ w ∈ Ts, w.before args s = true) (hin : ∀ w ∈ u_ws C T n, w ∈ Ts) (hown : s.vm.findClass own = some m.cls) (hS : x_S D cl sh ad cA N A0 s F A H locs) (q : Nat) {t : Nat} {fs : List x_F} (hq : sh[q]? = some (t, .inl (ci, fs))) (hc : cl[ci]? = some (C, T, n)) (k : Nat) (hk : k < n) {j : Nat} {z : Int} (hf : fs[k]? = some (.inr j)) (hlink : (Cond.fieldLink own index (T k).1 (T k).2.1 (T k).2.2.1).before args s = true) (hdg : decode cc pc = .ok (.getfield index, 3)) (hz : F j = z)
    (kk : W p l e R s m args below meth c H locs cells slots Q (F0 m (pc + 3) ls (.int (iI z) :: rest))) : W p l e R s m args below meth c H locs cells slots Q (F0 m pc ls (.ref (ad t) :: rest)) :=
  va_get hx hb hts hin hown hS.1 hS.2.1 q (x_wq hq) hc k hk hlink (fun _ h => h) (by subst hz; rw [List.getElem?_map, hf]; rfl) hdg kk
theorem r_puti (hx : p.tables.exec = Jvm.exec) (hb : c.code = cc) {own C : String} {T : u_T} {n ci index : Nat} {Ts : List Cond} (hts : ∀ w ∈ Ts, w.before args s = true) (hin : ∀ w ∈ u_ws C T n, w ∈ Ts) (ty0 : Nat → FieldType) (hty : ∀ k, k < n → parseFieldDescriptor (T k).2.2.1 = some (ty0 k)) (hnm : ∀ a, a < n → ∀ b, b < n → a ≠ b → (T a).2.1 ≠ (T b).2.1) (hown : s.vm.findClass own = some m.cls) (hS : x_S D cl sh ad cA N A0 s F A H locs) (q : Nat) {t : Nat} {fs : List x_F} (hq : sh[q]? = some (t, .inl (ci, fs))) (hc : cl[ci]? = some (C, T, n)) (k : Nat) (hk : k < n) {j : Nat} (hlink : (Cond.fieldLink own index (T k).1 (T k).2.1 (T k).2.2.1).before args s = true) (hfin : (T k).2.2.2 = false) (hd : parseFieldDescriptor (T k).2.2.1 = some .int) {v : Int}  (hset : (x_w sh ad cA N F A).set q (ad t, .inr (ci, (fs.map (x_fv ad F)).set k (.int (iI v)))) = x_w sh ad cA N (uf F j v) A) (hl : k < fs.length) (hdg : decode cc pc = .ok (.putfield index, 3))
    (kk : ∀ (H1 : Heap) (locs1 : List Loc), x_S D cl sh ad cA N A0 s (uf F j v) A H1 locs1 → W p l e R s m args below meth c H1 locs1 cells slots Q (F0 m (pc + 3) ls rest)) : W p l e R s m args below meth c H locs cells slots Q (F0 m pc ls (.int (iI v) :: .ref (ad t) :: rest)) :=
  va_put hx hb hts hin ty0 hty hnm hown hS.1 hS.2.1 hS.2.2.1 hS.2.2.2.1 q (x_wq hq) hc k hk hlink (fun _ h => h) hfin (ty := .int) hd rfl rfl (by rw [List.length_map]; exact hl) hdg
    (fun H1 locs1 hP hD hS1 => kk H1 locs1 ⟨hS.1, by rw [← hset]; exact hP, by rw [← hset]; exact hD, hS1, hS.2.2.2.2⟩)
theorem r_putz (hx : p.tables.exec = Jvm.exec) (hb : c.code = cc) {own C : String} {T : u_T} {n ci index : Nat} {Ts : List Cond} (hts : ∀ w ∈ Ts, w.before args s = true) (hin : ∀ w ∈ u_ws C T n, w ∈ Ts) (ty0 : Nat → FieldType) (hty : ∀ k, k < n → parseFieldDescriptor (T k).2.2.1 = some (ty0 k)) (hnm : ∀ a, a < n → ∀ b, b < n → a ≠ b → (T a).2.1 ≠ (T b).2.1) (hown : s.vm.findClass own = some m.cls) (hS : x_S D cl sh ad cA N A0 s F A H locs) (q : Nat) {t : Nat} {fs : List x_F} (hq : sh[q]? = some (t, .inl (ci, fs))) (hc : cl[ci]? = some (C, T, n)) (k : Nat) (hk : k < n) {j : Nat} (hlink : (Cond.fieldLink own index (T k).1 (T k).2.1 (T k).2.2.1).before args s = true) (hfin : (T k).2.2.2 = false) (hd : parseFieldDescriptor (T k).2.2.1 = some .boolean) {v : Int} (hz : v = 0 ∨ v = 1) (hset : (x_w sh ad cA N F A).set q (ad t, .inr (ci, (fs.map (x_fv ad F)).set k (.int (iI v)))) = x_w sh ad cA N (uf F j v) A) (hl : k < fs.length) (hdg : decode cc pc = .ok (.putfield index, 3))
    (kk : ∀ (H1 : Heap) (locs1 : List Loc), x_S D cl sh ad cA N A0 s (uf F j v) A H1 locs1 → W p l e R s m args below meth c H1 locs1 cells slots Q (F0 m (pc + 3) ls rest)) : W p l e R s m args below meth c H locs cells slots Q (F0 m pc ls (.int (iI v) :: .ref (ad t) :: rest)) :=
  va_put hx hb hts hin ty0 hty hnm hown hS.1 hS.2.1 hS.2.2.1 hS.2.2.2.1 q (x_wq hq) hc k hk hlink (fun _ h => h) hfin (ty := .boolean) hd (x_bool hz).1 (x_bool hz).2.1 (by rw [List.length_map]; exact hl) hdg
    (fun H1 locs1 hP hD hS1 => kk H1 locs1 ⟨hS.1, by rw [← hset]; exact hP, by rw [← hset]; exact hD, hS1, hS.2.2.2.2⟩)
theorem r_iald (hx : p.tables.exec = Jvm.exec) (hb : c.code = cc) (hS : x_S D cl sh ad cA N A0 s F A H locs) (q : Nat) {t id : Nat} (hq : sh[q]? = some (t, .inr (0, id))) {i z : Int} (h0 : 0 ≤ i) (h1 : i < N id) (hdg : decode cc pc = .ok (.iaload, 1)) (hz : A id i = z)
    (kk : W p l e R s m args below meth c H locs cells slots Q (F0 m (pc + 1) ls (.int (iI z) :: rest))) : W p l e R s m args below meth c H locs cells slots Q (F0 m pc ls (.int (iI i) :: .ref (ad t) :: rest)) := by
  obtain ⟨t0, ht⟩ := x_tq (cA := cA) hq
  have hn := hS.2.2.2.2 id
  have e2 : (((iI i).toNatClampNeg : Nat) : Int) = i := by rw [iI_c h0 (by omega)]; exact Int.toNat_of_nonneg h0
  have kk2 : W p l e R s m args below meth c H locs cells slots Q (F0 m (pc + 1) ls (.int (iI (A id (((iI i).toNatClampNeg : Nat) : Int))) :: rest)) := by rw [e2, hz]; exact kk
  exact va_iald hx hb hS.1 hS.2.1 q t0 (x_wq hq) ht (iI_in h0 h1 hn) hdg kk2
theorem r_zald (hx : p.tables.exec = Jvm.exec) (hb : c.code = cc) (hS : x_S D cl sh ad cA N A0 s F A H locs) (q : Nat) {t id : Nat} (hq : sh[q]? = some (t, .inr (1, id))) {i z : Int} (h0 : 0 ≤ i) (h1 : i < N id) (hdg : decode cc pc = .ok (.baload, 1)) (hz : A id i = z)
    (kk : W p l e R s m args below meth c H locs cells slots Q (F0 m (pc + 1) ls (.int (iI z) :: rest))) : W p l e R s m args below meth c H locs cells slots Q (F0 m pc ls (.int (iI i) :: .ref (ad t) :: rest)) := by
  obtain ⟨t0, ht⟩ := x_tq (cA := cA) hq
  have hn := hS.2.2.2.2 id
  have e2 : (((iI i).toNatClampNeg : Nat) : Int) = i := by rw [iI_c h0 (by omega)]; exact Int.toNat_of_nonneg h0
  have kk2 : W p l e R s m args below meth c H locs cells slots Q (F0 m (pc + 1) ls (.int (iI (A id (((iI i).toNatClampNeg : Nat) : Int))) :: rest)) := by rw [e2, hz]; exact kk
  exact va_zald hx hb hS.1 hS.2.1 q t0 (x_wq hq) ht (iI_in h0 h1 hn) hdg kk2
theorem r_lald (hx : p.tables.exec = Jvm.exec) (hb : c.code = cc) (hS : x_S D cl sh ad cA N A0 s F A H locs) (q : Nat) {t id : Nat} (hq : sh[q]? = some (t, .inr (2, id))) {i z : Int} (h0 : 0 ≤ i) (h1 : i < N id) (hdg : decode cc pc = .ok (.laload, 1)) (hz : A id i = z)
    (kk : W p l e R s m args below meth c H locs cells slots Q (F0 m (pc + 1) ls (.long (lI z) :: rest))) : W p l e R s m args below meth c H locs cells slots Q (F0 m pc ls (.int (iI i) :: .ref (ad t) :: rest)) := by
  obtain ⟨t0, ht⟩ := x_tq (cA := cA) hq
  have hn := hS.2.2.2.2 id
  have e2 : (((iI i).toNatClampNeg : Nat) : Int) = i := by rw [iI_c h0 (by omega)]; exact Int.toNat_of_nonneg h0
  have kk2 : W p l e R s m args below meth c H locs cells slots Q (F0 m (pc + 1) ls (.long (lI (A id (((iI i).toNatClampNeg : Nat) : Int))) :: rest)) := by rw [e2, hz]; exact kk
  exact va_lald hx hb hS.1 hS.2.1 q t0 (x_wq hq) ht (iI_in h0 h1 hn) hdg kk2
theorem r_iast (hx : p.tables.exec = Jvm.exec) (hb : c.code = cc) (hS : x_S D cl sh ad cA N A0 s F A H locs) (q : Nat) {t id : Nat} (hq : sh[q]? = some (t, .inr (0, id))) {i v : Int} (h0 : 0 ≤ i) (h1 : i < N id)  (hset : (x_w sh ad cA N F A).set q (ad t, .inl (cA id, N id, x_ar 0 (ua A id i v id))) = x_w sh ad cA N F (ua A id i v)) (hdg : decode cc pc = .ok (.iastore, 1))
    (kk : ∀ (H1 : Heap) (locs1 : List Loc), x_S D cl sh ad cA N A0 s F (ua A id i v) H1 locs1 → W p l e R s m args below meth c H1 locs1 cells slots Q (F0 m (pc + 1) ls rest)) : W p l e R s m args below meth c H locs cells slots Q (F0 m pc ls (.int (iI v) :: .int (iI i) :: .ref (ad t) :: rest)) := by
  obtain ⟨t0, ht⟩ := x_tq (cA := cA) hq
  have hn := hS.2.2.2.2 id
  refine va_iast hx hb hS.1 hS.2.1 hS.2.2.1 hS.2.2.2.1 q t0 (x_wq hq) ht (iI_in h0 h1 hn) hdg (fun H1 locs1 hP hD hS1 => kk H1 locs1 ?_)
  rw [iI_c h0 (by omega), x_upd (g := ua A id i v id) h0 (fun j => ua_self A id i v j)] at hP hD
  exact ⟨hS.1, by rw [← hset]; exact hP, by rw [← hset]; exact hD, hS1, hS.2.2.2.2⟩
theorem r_zast (hx : p.tables.exec = Jvm.exec) (hb : c.code = cc) (hS : x_S D cl sh ad cA N A0 s F A H locs) (q : Nat) {t id : Nat} (hq : sh[q]? = some (t, .inr (1, id))) {i v : Int} (h0 : 0 ≤ i) (h1 : i < N id) (hz : v = 0 ∨ v = 1) (hset : (x_w sh ad cA N F A).set q (ad t, .inl (cA id, N id, x_ar 1 (ua A id i v id))) = x_w sh ad cA N F (ua A id i v)) (hdg : decode cc pc = .ok (.bastore, 1))
    (kk : ∀ (H1 : Heap) (locs1 : List Loc), x_S D cl sh ad cA N A0 s F (ua A id i v) H1 locs1 → W p l e R s m args below meth c H1 locs1 cells slots Q (F0 m (pc + 1) ls rest)) : W p l e R s m args below meth c H locs cells slots Q (F0 m pc ls (.int (iI v) :: .int (iI i) :: .ref (ad t) :: rest)) := by
  obtain ⟨t0, ht⟩ := x_tq (cA := cA) hq
  have hn := hS.2.2.2.2 id
  refine va_zast hx hb hS.1 hS.2.1 hS.2.2.1 hS.2.2.2.1 q t0 (x_wq hq) ht (iI_in h0 h1 hn) hdg (fun H1 locs1 hP hD hS1 => kk H1 locs1 ?_)
  rw [(x_bool hz).2.2] at hP hD
  rw [iI_c h0 (by omega), x_upd (g := ua A id i v id) h0 (fun j => ua_self A id i v j)] at hP hD
  exact ⟨hS.1, by rw [← hset]; exact hP, by rw [← hset]; exact hD, hS1, hS.2.2.2.2⟩
theorem r_last (hx : p.tables.exec = Jvm.exec) (hb : c.code = cc) (hS : x_S D cl sh ad cA N A0 s F A H locs) (q : Nat) {t id : Nat} (hq : sh[q]? = some (t, .inr (2, id))) {i v : Int} (h0 : 0 ≤ i) (h1 : i < N id)  (hset : (x_w sh ad cA N F A).set q (ad t, .inl (cA id, N id, x_ar 2 (ua A id i v id))) = x_w sh ad cA N F (ua A id i v)) (hdg : decode cc pc = .ok (.lastore, 1))
    (kk : ∀ (H1 : Heap) (locs1 : List Loc), x_S D cl sh ad cA N A0 s F (ua A id i v) H1 locs1 → W p l e R s m args below meth c H1 locs1 cells slots Q (F0 m (pc + 1) ls rest)) : W p l e R s m args below meth c H locs cells slots Q (F0 m pc ls (.long (lI v) :: .int (iI i) :: .ref (ad t) :: rest)) := by
  obtain ⟨t0, ht⟩ := x_tq (cA := cA) hq
  have hn := hS.2.2.2.2 id
  refine va_last hx hb hS.1 hS.2.1 hS.2.2.1 hS.2.2.2.1 q t0 (x_wq hq) ht (iI_in h0 h1 hn) hdg (fun H1 locs1 hP hD hS1 => kk H1 locs1 ?_)
  rw [iI_c h0 (by omega), x_updL (g := ua A id i v id) h0 (fun j => ua_self A id i v j)] at hP hD
  exact ⟨hS.1, by rw [← hset]; exact hP, by rw [← hset]; exact hD, hS1, hS.2.2.2.2⟩
theorem r_alen (hx : p.tables.exec = Jvm.exec) (hb : c.code = cc) (hS : x_S D cl sh ad cA N A0 s F A H locs) (q : Nat) {t kd id : Nat} (hq : sh[q]? = some (t, .inr (kd, id))) {z : Int} (hdg : decode cc pc = .ok (.arraylength, 1)) (hz : ((N id : Nat) : Int) = z)
    (kk : W p l e R s m args below meth c H locs cells slots Q (F0 m (pc + 1) ls (.int (iI z) :: rest))) : W p l e R s m args below meth c H locs cells slots Q (F0 m pc ls (.ref (ad t) :: rest)) := by
  obtain ⟨t0, ht⟩ := x_tq (cA := cA) hq
  exact va_alen hx hb hS.1 hS.2.1 q t0 (x_wq hq) ht (by rw [← hz]; exact iI_ofNat _) hdg kk
theorem r_ci {st0 : List Value} {vs : Array Value} {K : Int → (Nat → Int) → (Nat → Int → Int) → Prop} (hr : va_Run p l e R s m args below meth c H locs cells slots 0 0 (F0 m pc ls st0) rest (x_QI D cl sh ad cA N (va_A (x_w sh ad cA N F A) H.size) K vs) (va_A (x_w sh ad cA N F A) H.size)) (hS : x_S D cl sh ad cA N A0 s F A H locs) (hA : ∀ q : Nat, s.heap.size ≤ q → A0 q)
    (kk : ∀ (z : Int) (F1 : Nat → Int) (A1 : Nat → Int → Int) (H1 : Heap) (locs1 : List Loc), x_S D cl sh ad cA N A0 s F1 A1 H1 locs1 → K z F1 A1 → W p l e R s m args below meth c H1 locs1 cells slots Q (F0 m (pc + 3) ls (.int (iI z) :: rest))) : W p l e R s m args below meth c H locs cells slots Q (F0 m pc ls st0) := by
  have hF : ∀ q, va_A (x_w sh ad cA N F A) H.size q → A0 q := by
    rintro q (⟨k, e, h⟩ | h)
    · exact hS.2.2.1.2 k _ h
    · exact hA q (Nat.le_trans hS.2.2.2.1.1 h)
  refine va_calli hr hS.2.2.2.1 (fun q _ h => hF q h) hF (fun r u t H1 locs1 ht hvm hw hB hz1 hk1 hS1 => ?_)
  obtain ⟨z, rfl, hw⟩ := hw
  obtain ⟨hP1, hK1, hD1⟩ := hB
  rw [ht] at hP1
  exact kk z u.1 u.2 H1 locs1 ⟨hS.1, hP1, x_Dm hS.2.2.1, hS1, hS.2.2.2.2⟩ hw
theorem r_cl {st0 : List Value} {vs : Array Value} {K : Int → (Nat → Int) → (Nat → Int → Int) → Prop} (hr : va_Run p l e R s m args below meth c H locs cells slots 0 0 (F0 m pc ls st0) rest (x_QL D cl sh ad cA N (va_A (x_w sh ad cA N F A) H.size) K vs) (va_A (x_w sh ad cA N F A) H.size)) (hS : x_S D cl sh ad cA N A0 s F A H locs) (hA : ∀ q : Nat, s.heap.size ≤ q → A0 q)
    (kk : ∀ (z : Int) (F1 : Nat → Int) (A1 : Nat → Int → Int) (H1 : Heap) (locs1 : List Loc), x_S D cl sh ad cA N A0 s F1 A1 H1 locs1 → K z F1 A1 → W p l e R s m args below meth c H1 locs1 cells slots Q (F0 m (pc + 3) ls (.long (lI z) :: rest))) : W p l e R s m args below meth c H locs cells slots Q (F0 m pc ls st0) := by
  have hF : ∀ q, va_A (x_w sh ad cA N F A) H.size q → A0 q := by
    rintro q (⟨k, e, h⟩ | h)
    · exact hS.2.2.1.2 k _ h
    · exact hA q (Nat.le_trans hS.2.2.2.1.1 h)
  refine va_calll hr hS.2.2.2.1 (fun q _ h => hF q h) hF (fun r u t H1 locs1 ht hvm hw hB hz1 hk1 hS1 => ?_)
  obtain ⟨z, rfl, hw⟩ := hw
  obtain ⟨hP1, hK1, hD1⟩ := hB
  rw [ht] at hP1
  exact kk z u.1 u.2 H1 locs1 ⟨hS.1, hP1, x_Dm hS.2.2.1, hS1, hS.2.2.2.2⟩ hw
theorem r_cv {st0 : List Value} {vs : Array Value} {K : (Nat → Int) → (Nat → Int → Int) → Prop} (hr : va_Run p l e R s m args below meth c H locs cells slots 0 0 (F0 m pc ls st0) rest (x_QV D cl sh ad cA N (va_A (x_w sh ad cA N F A) H.size) K vs) (va_A (x_w sh ad cA N F A) H.size)) (hS : x_S D cl sh ad cA N A0 s F A H locs) (hA : ∀ q : Nat, s.heap.size ≤ q → A0 q)
    (kk : ∀ (F1 : Nat → Int) (A1 : Nat → Int → Int) (H1 : Heap) (locs1 : List Loc), x_S D cl sh ad cA N A0 s F1 A1 H1 locs1 → K F1 A1 → W p l e R s m args below meth c H1 locs1 cells slots Q (F0 m (pc + 3) ls (rest))) : W p l e R s m args below meth c H locs cells slots Q (F0 m pc ls st0) := by
  have hF : ∀ q, va_A (x_w sh ad cA N F A) H.size q → A0 q := by
    rintro q (⟨k, e, h⟩ | h)
    · exact hS.2.2.1.2 k _ h
    · exact hA q (Nat.le_trans hS.2.2.2.1.1 h)
  refine va_callv hr hS.2.2.2.1 (fun q _ h => hF q h) hF (fun u t H1 locs1 ht hvm hw hB hz1 hk1 hS1 => ?_)
  obtain ⟨hP1, hK1, hD1⟩ := hB
  rw [ht] at hP1
  exact kk u.1 u.2 H1 locs1 ⟨hS.1, hP1, x_Dm hS.2.2.1, hS1, hS.2.2.2.2⟩ hw
theorem x_blind {vs : List Value} {sz : Nat} : FrameBlind (va_Pc vs (x_P D cl sh ad cA N sz F A)) := fun a U g mk q => by
  obtain ⟨q0, q1, qP, qK, qD⟩ := q
  exact ⟨q0, q1, qP, va_K.moved (u := U) (U := U.calling g mk a) (Vm.Alike.refl U.vm) qK, qD⟩
theorem x_preS (hS : x_S D cl sh ad cA N A0 s F A H locs) (As : List Value) : PreS s H (va_Pc As (x_P D cl sh ad cA N H.size F A)) As :=
  ⟨x_blind, fun U hU hW => ⟨rfl, by rw [hU], by rw [hU]; exact hS.2.1, va_K.moved hW.alike hS.1, hS.2.2.1.weaken (fun _ _ _ _ => trivial), hS.2.2.2.2⟩⟩
theorem x_preV (hS : x_S D cl sh ad cA N A0 s F A H locs) (q : Nat) {C : String} {T : u_T} {t ci n : Nat} {fs : List x_F} (hq : sh[q]? = some (t, .inl (ci, fs))) (hc : cl[ci]? = some (C, T, n)) (As : List Value) : PreV s H C (ad t) (va_Pc (.ref (ad t) :: As) (x_P D cl sh ad cA N H.size F A)) As :=
  ⟨x_blind, va_recv hS.1 hS.2.1 hc (x_wq hq), fun U hU hW => ⟨rfl, by rw [hU], by rw [hU]; exact hS.2.1, va_K.moved hW.alike hS.1, hS.2.2.1.weaken (fun _ _ _ _ => trivial), hS.2.2.2.2⟩⟩
theorem r_iret (hx : p.tables.exec = Jvm.exec) (hb : c.code = cc) (hr : meth.sig.returnType = some .int) (hlocks : meth.locks = false) {K : Int → (Nat → Int) → (Nat → Int → Int) → Prop} {z : Int} (hS : x_S D cl sh ad cA N A0 s F A H locs) (hK : K z F A) (hdg : decode cc pc = .ok (.ireturn, 1)) : W p l e R s m args below meth c H locs cells slots (MQ below (x_QI D cl sh ad cA N A0 K) args s cells slots A0) (F0 m pc ls [.int (iI z)]) :=
  W.iret hx hb hr (fun t ht hW => ⟨⟨_, (F, A), rfl, ⟨z, rfl, hK⟩, by rw [ht]; exact hS.2.1, va_K.moved hW.alike hS.1, hS.2.2.1⟩, hS.2.2.2.1.F ht⟩) hS.2.2.2.1.2.2 hdg hlocks
theorem r_lret (hx : p.tables.exec = Jvm.exec) (hb : c.code = cc) (hr : meth.sig.returnType = some .long) (hlocks : meth.locks = false) {K : Int → (Nat → Int) → (Nat → Int → Int) → Prop} {z : Int} (hS : x_S D cl sh ad cA N A0 s F A H locs) (hK : K z F A) (hdg : decode cc pc = .ok (.lreturn, 1)) : W p l e R s m args below meth c H locs cells slots (MQ below (x_QL D cl sh ad cA N A0 K) args s cells slots A0) (F0 m pc ls [.long (lI z)]) :=
  W.lret hx hb hr (fun t ht hW => ⟨⟨_, (F, A), rfl, ⟨z, rfl, hK⟩, by rw [ht]; exact hS.2.1, va_K.moved hW.alike hS.1, hS.2.2.1⟩, hS.2.2.2.1.F ht⟩) hS.2.2.2.1.2.2 hdg hlocks
theorem r_vret (hx : p.tables.exec = Jvm.exec) (hb : c.code = cc) (hr : meth.sig.returnType = none) (hlocks : meth.locks = false) {K : (Nat → Int) → (Nat → Int → Int) → Prop} (hS : x_S D cl sh ad cA N A0 s F A H locs) (hK : K F A) (hdg : decode cc pc = .ok (.return_, 1)) : W p l e R s m args below meth c H locs cells slots (MQ below (x_QV D cl sh ad cA N A0 K) args s cells slots A0) (F0 m pc ls []) :=
  W.vret hx hb hr (fun t ht hW => ⟨⟨(F, A), rfl, hK, by rw [ht]; exact hS.2.1, va_K.moved hW.alike hS.1, hS.2.2.1⟩, hS.2.2.2.1.F ht⟩) hS.2.2.2.1.2.2 hdg hlocks
theorem r_zret (hx : p.tables.exec = Jvm.exec) (hb : c.code = cc) (hr : meth.sig.returnType = some .boolean) (hlocks : meth.locks = false) {K : Int → (Nat → Int) → (Nat → Int → Int) → Prop} {z : Int} (hz : z = 0 ∨ z = 1) (hS : x_S D cl sh ad cA N A0 s F A H locs) (hK : K z F A) (hdg : decode cc pc = .ok (.ireturn, 1)) : W p l e R s m args below meth c H locs cells slots (MQ below (x_QI D cl sh ad cA N A0 K) args s cells slots A0) (F0 m pc ls [.int (iI z)]) :=
  W.zret hx hb hr (x_bool hz).1 (fun t ht hW => ⟨⟨_, (F, A), rfl, ⟨z, rfl, hK⟩, by rw [ht]; exact hS.2.1, va_K.moved hW.alike hS.1, hS.2.2.1⟩, hS.2.2.2.1.F ht⟩) hS.2.2.2.1.2.2 hdg hlocks
theorem r_mmax (hx : p.tables.exec = Jvm.exec) (hb : c.code = cc) (hml : c.maxLocals = ls.size) {own : String} {index : Nat} (hown : s.vm.findClass own = some m.cls) (hlink : (Cond.methodLink own index Lib.Math.max.name).before args s = true) (hstat : (Cond.static Lib.Math.max.name).before args s = true) (hini : (Cond.initialized "java/lang/Math").before args s = true) (hcode : (Cond.code Lib.Math.max.name Lib.Math.max.code 2 (some .int)).before args s = true)
    (hframes : 1 ≤ R.frames) (hlocals : (rest.map fun v => v.category).sum + 13 ≤ R.locals) (hc : cells ≤ R.cells) (hs : slots ≤ R.slots) {a b : Int} (ha : rg a) (hb2 : rg b) (hdg : decode cc pc = .ok (.invokestatic index, 3))
    (kk : W p l e R s m args below meth c H locs cells slots Q (F0 m (pc + 3) ls (.int (iI (max a b)) :: rest))) : W p l e R s m args below meth c H locs cells slots Q (F0 m pc ls (.int (iI b) :: .int (iI a) :: rest)) :=
  va_mmax hx hb hml hown hlink hstat hini hcode hframes hlocals hc hs hdg (by rw [iI_max ha hb2]; exact kk)
theorem r_mmin (hx : p.tables.exec = Jvm.exec) (hb : c.code = cc) (hml : c.maxLocals = ls.size) {own : String} {index : Nat} (hown : s.vm.findClass own = some m.cls) (hlink : (Cond.methodLink own index Lib.Math.min.name).before args s = true) (hstat : (Cond.static Lib.Math.min.name).before args s = true) (hini : (Cond.initialized "java/lang/Math").before args s = true) (hcode : (Cond.code Lib.Math.min.name Lib.Math.min.code 2 (some .int)).before args s = true)
    (hframes : 1 ≤ R.frames) (hlocals : (rest.map fun v => v.category).sum + 13 ≤ R.locals) (hc : cells ≤ R.cells) (hs : slots ≤ R.slots) {a b : Int} (ha : rg a) (hb2 : rg b) (hdg : decode cc pc = .ok (.invokestatic index, 3))
    (kk : W p l e R s m args below meth c H locs cells slots Q (F0 m (pc + 3) ls (.int (iI (min a b)) :: rest))) : W p l e R s m args below meth c H locs cells slots Q (F0 m pc ls (.int (iI b) :: .int (iI a) :: rest)) :=
  va_mmin hx hb hml hown hlink hstat hini hcode hframes hlocals hc hs hdg (by rw [iI_min ha hb2]; exact kk)
theorem r_mabs (hx : p.tables.exec = Jvm.exec) (hb : c.code = cc) (hml : c.maxLocals = ls.size) {own : String} {index : Nat} (hown : s.vm.findClass own = some m.cls) (hlink : (Cond.methodLink own index Lib.Math.abs.name).before args s = true) (hstat : (Cond.static Lib.Math.abs.name).before args s = true) (hini : (Cond.initialized "java/lang/Math").before args s = true) (hcode : (Cond.code Lib.Math.abs.name Lib.Math.abs.code 1 (some .int)).before args s = true)
    (hframes : 1 ≤ R.frames) (hlocals : (rest.map fun v => v.category).sum + 13 ≤ R.locals) (hc : cells ≤ R.cells) (hs : slots ≤ R.slots) {a : Int} (ha : rg a) (hdg : decode cc pc = .ok (.invokestatic index, 3))
    (kk : W p l e R s m args below meth c H locs cells slots Q (F0 m (pc + 3) ls (.int (iI (a.natAbs : Int)) :: rest))) : W p l e R s m args below meth c H locs cells slots Q (F0 m pc ls (.int (iI a) :: rest)) :=
  va_mabs hx hb hml hown hlink hstat hini hcode hframes hlocals hc hs hdg (by rw [iI_abs ha]; exact kk)
theorem r_copy (hx : p.tables.exec = Jvm.exec) (hb : c.code = cc) (hml : c.maxLocals = ls.size) {own : String} {index : Nat} (hown : s.vm.findClass own = some m.cls) (hlink : (Cond.methodLink own index arraycopyName).before args s = true) (hnat : (Cond.native arraycopyName).before args s = true) (hstat : (Cond.static arraycopyName).before args s = true) (hini : (Cond.initialized "java/lang/System").before args s = true)
    (hS : x_S D cl sh ad cA N A0 s F A H locs) (q : Nat) {t id : Nat} (hq : sh[q]? = some (t, .inr (0, id))) {sp dp n : Int} (h1 : 0 ≤ sp) (h2 : 0 ≤ dp) (h3 : 0 ≤ n) (h4 : sp + n ≤ N id) (h5 : dp + n ≤ N id) (hset : (x_w sh ad cA N F A).set q (ad t, .inl (cA id, N id, x_ar 0 (uc A id sp dp n id))) = x_w sh ad cA N F (uc A id sp dp n))
    (hframes : 1 ≤ R.frames) (hlocals : (rest.map fun v => v.category).sum + (nativeFrameWords "java/lang/System" "arraycopy" 5 + 11) ≤ R.locals) (hdg : decode cc pc = .ok (.invokestatic index, 3))
    (kk : ∀ (H1 : Heap) (locs1 : List Loc), x_S D cl sh ad cA N A0 s F (uc A id sp dp n) H1 locs1 → W p l e R s m args below meth c H1 locs1 cells slots Q (F0 m (pc + 3) ls rest)) : W p l e R s m args below meth c H locs cells slots Q (F0 m pc ls (.int (iI n) :: .int (iI dp) :: .ref (ad t) :: .int (iI sp) :: .ref (ad t) :: rest)) := by
  obtain ⟨t0, ht⟩ := x_tq (cA := cA) hq
  have hn := hS.2.2.2.2 id
  have c1 : (iI sp).toNatClampNeg = sp.toNat := iI_c h1 (by omega)
  have c2 : (iI dp).toNatClampNeg = dp.toNat := iI_c h2 (by omega)
  have c3 : (iI n).toNatClampNeg = n.toNat := iI_c h3 (by omega)
  have ng : ∀ z : Int, 0 ≤ z → z < 2147483648 → ¬ iI z < 0 := fun z g1 g2 h => by
    have := (iI_lt ⟨by omega, by omega⟩ rg_0).mp h
    omega
  refine va_copyi hx hb hml hown hlink hnat hstat hini hS.1 hS.2.1 hS.2.2.1 hS.2.2.2.1 q q t0 t0 (x_wq hq) (x_wq hq) ht ht rfl (ng sp h1 (by omega)) (ng dp h2 (by omega)) (ng n h3 (by omega)) (by rw [c1, c3]; show _ ≤ N id; omega) (by rw [c2, c3]; show _ ≤ N id; omega) (fun _ _ => rfl) hframes hlocals hdg (fun H1 locs1 hP hD hS1 => kk H1 locs1 ?_)
  have e : va_cpy (fun j : Nat => iI (A id j)) (fun j : Nat => iI (A id j)) (iI sp).toNatClampNeg (iI dp).toNatClampNeg (iI n).toNatClampNeg = fun j : Nat => iI (uc A id sp dp n id j) := by
    rw [c1, c2, c3]
    funext j
    unfold va_cpy uc
    rw [if_pos rfl]
    by_cases h : dp.toNat ≤ j ∧ j < dp.toNat + n.toNat
    · rw [if_pos h, if_pos (by omega)]
      show iI (A id ((sp.toNat + (j - dp.toNat) : Nat) : Int)) = _
      rw [show ((sp.toNat + (j - dp.toNat) : Nat) : Int) = sp + ((j : Int) - dp) by omega]
    · rw [if_neg h, if_neg (by omega)]
  rw [e] at hP hD
  exact ⟨hS.1, by rw [← hset]; exact hP, by rw [← hset]; exact hD, hS1, hS.2.2.2.2⟩
end XW
end
section
/-! THE SHAPE OF THE WHOLE WORLD (by main.py): the class, the reference, the law's own array -/
def shU : List x_D := [(0, .inl (0, [.inl 1, .inl 2, .inl 3, .inl 4, .inr 0])), (1, .inl (1, [.inr 1, .inr 2, .inl 6, .inl 7, .inl 8, .inr 3])), (2, .inl (2, [.inl 9, .inl 10, .inl 11, .inl 12, .inl 13, .inl 14, .inl 15, .inl 16, .inr 4])), (3, .inl (3, [.inl 2, .inl 17, .inl 18, .inl 19, .inr 5])), (4, .inl (4, [.inl 1, .inl 2, .inl 5, .inl 20, .inl 21, .inl 22, .inl 23, .inl 24])), (5, .inl (5, [.inl 2, .inl 25, .inl 26, .inl 27, .inl 28, .inl 29, .inr 6, .inr 7, .inr 8, .inr 9])), (6, .inr (0, 0)), (7, .inr (0, 1)), (8, .inr (0, 2)), (9, .inr (0, 3)), (10, .inr (0, 4)), (11, .inr (0, 5)), (12, .inr (0, 6)), (13, .inr (0, 7)), (14, .inr (0, 8)), (15, .inr (0, 9)), (16, .inr (0, 10)), (17, .inr (0, 11)), (18, .inr (0, 12)), (19, .inr (0, 13)), (20, .inr (0, 14)), (21, .inr (0, 15)), (22, .inr (0, 16)), (23, .inr (0, 17)), (24, .inr (0, 18)), (25, .inr (0, 19)), (26, .inr (0, 20)), (27, .inr (0, 21)), (28, .inr (0, 22)), (29, .inr (0, 23)), (30, .inl (6, [.inr 10, .inr 11, .inr 12, .inl 31, .inr 13, .inl 32, .inl 33, .inl 34, .inl 35, .inl 36, .inl 37, .inl 38, .inl 39, .inr 14, .inl 40, .inl 41, .inl 42, .inr 15, .inl 43, .inr 16, .inr 17, .inr 18, .inl 44, .inl 45, .inr 19, .inl 46, .inl 47, .inl 48])), (31, .inr (1, 24)), (32, .inr (0, 25)), (33, .inr (0, 26)), (34, .inr (0, 27)), (35, .inr (0, 28)), (36, .inr (0, 29)), (37, .inr (0, 30)), (38, .inr (0, 31)), (39, .inr (0, 32)), (40, .inr (0, 33)), (41, .inr (0, 34)), (42, .inr (0, 35)), (43, .inr (0, 36)), (44, .inr (2, 37)), (45, .inr (0, 38)), (46, .inr (2, 39)), (47, .inr (0, 40)), (48, .inr (2, 41)), (49, .inr (2, 42))]
def NN (mo : Nat) : Nat → Nat := fun k => match k with
  | 0 => mo
  | 1 => mo
  | 2 => mo
  | 3 => 60
  | 4 => 60
  | 5 => 60
  | 6 => 60
  | 7 => 60
  | 8 => 60
  | 9 => 60
  | 10 => 16
  | 11 => 160
  | 12 => 160
  | 13 => 60
  | 14 => 60
  | 15 => 60
  | 16 => mo
  | 17 => mo
  | 18 => mo
  | 19 => 60
  | 20 => 60
  | 21 => 60
  | 22 => 60
  | 23 => 61
  | 24 => 16000
  | 25 => 60
  | 26 => 60
  | 27 => 60
  | 28 => 60
  | 29 => 60
  | 30 => 16
  | 31 => 80
  | 32 => 80
  | 33 => 60
  | 34 => 60
  | 35 => 60
  | 36 => 61
  | 37 => 62062
  | 38 => 60
  | 39 => 16000
  | 40 => 16000
  | 41 => 1000
  | 42 => 1
  | _ => 0
theorem setf_0 (ad : Nat → Nat) (cA : Nat → ClassId) (mo : Nat) (F : Nat → Int) (A : Nat → Int → Int) (v : Int) : (x_w shU ad cA (NN mo) F A).set 0 (ad 0, .inr (0, (List.map (x_fv ad F) ([.inl 1, .inl 2, .inl 3, .inl 4, .inr 0] : List x_F)).set 4 (.int (iI v)))) = x_w shU ad cA (NN mo) (uf F 0 v) A := rfl
theorem setf_1 (ad : Nat → Nat) (cA : Nat → ClassId) (mo : Nat) (F : Nat → Int) (A : Nat → Int → Int) (v : Int) : (x_w shU ad cA (NN mo) F A).set 1 (ad 1, .inr (1, (List.map (x_fv ad F) ([.inr 1, .inr 2, .inl 6, .inl 7, .inl 8, .inr 3] : List x_F)).set 0 (.int (iI v)))) = x_w shU ad cA (NN mo) (uf F 1 v) A := rfl
theorem setf_2 (ad : Nat → Nat) (cA : Nat → ClassId) (mo : Nat) (F : Nat → Int) (A : Nat → Int → Int) (v : Int) : (x_w shU ad cA (NN mo) F A).set 1 (ad 1, .inr (1, (List.map (x_fv ad F) ([.inr 1, .inr 2, .inl 6, .inl 7, .inl 8, .inr 3] : List x_F)).set 1 (.int (iI v)))) = x_w shU ad cA (NN mo) (uf F 2 v) A := rfl
theorem setf_3 (ad : Nat → Nat) (cA : Nat → ClassId) (mo : Nat) (F : Nat → Int) (A : Nat → Int → Int) (v : Int) : (x_w shU ad cA (NN mo) F A).set 1 (ad 1, .inr (1, (List.map (x_fv ad F) ([.inr 1, .inr 2, .inl 6, .inl 7, .inl 8, .inr 3] : List x_F)).set 5 (.int (iI v)))) = x_w shU ad cA (NN mo) (uf F 3 v) A := rfl
theorem setf_4 (ad : Nat → Nat) (cA : Nat → ClassId) (mo : Nat) (F : Nat → Int) (A : Nat → Int → Int) (v : Int) : (x_w shU ad cA (NN mo) F A).set 2 (ad 2, .inr (2, (List.map (x_fv ad F) ([.inl 9, .inl 10, .inl 11, .inl 12, .inl 13, .inl 14, .inl 15, .inl 16, .inr 4] : List x_F)).set 8 (.int (iI v)))) = x_w shU ad cA (NN mo) (uf F 4 v) A := rfl
theorem setf_5 (ad : Nat → Nat) (cA : Nat → ClassId) (mo : Nat) (F : Nat → Int) (A : Nat → Int → Int) (v : Int) : (x_w shU ad cA (NN mo) F A).set 3 (ad 3, .inr (3, (List.map (x_fv ad F) ([.inl 2, .inl 17, .inl 18, .inl 19, .inr 5] : List x_F)).set 4 (.int (iI v)))) = x_w shU ad cA (NN mo) (uf F 5 v) A := rfl
theorem setf_6 (ad : Nat → Nat) (cA : Nat → ClassId) (mo : Nat) (F : Nat → Int) (A : Nat → Int → Int) (v : Int) : (x_w shU ad cA (NN mo) F A).set 5 (ad 5, .inr (5, (List.map (x_fv ad F) ([.inl 2, .inl 25, .inl 26, .inl 27, .inl 28, .inl 29, .inr 6, .inr 7, .inr 8, .inr 9] : List x_F)).set 6 (.int (iI v)))) = x_w shU ad cA (NN mo) (uf F 6 v) A := rfl
theorem setf_7 (ad : Nat → Nat) (cA : Nat → ClassId) (mo : Nat) (F : Nat → Int) (A : Nat → Int → Int) (v : Int) : (x_w shU ad cA (NN mo) F A).set 5 (ad 5, .inr (5, (List.map (x_fv ad F) ([.inl 2, .inl 25, .inl 26, .inl 27, .inl 28, .inl 29, .inr 6, .inr 7, .inr 8, .inr 9] : List x_F)).set 7 (.int (iI v)))) = x_w shU ad cA (NN mo) (uf F 7 v) A := rfl
theorem setf_8 (ad : Nat → Nat) (cA : Nat → ClassId) (mo : Nat) (F : Nat → Int) (A : Nat → Int → Int) (v : Int) : (x_w shU ad cA (NN mo) F A).set 5 (ad 5, .inr (5, (List.map (x_fv ad F) ([.inl 2, .inl 25, .inl 26, .inl 27, .inl 28, .inl 29, .inr 6, .inr 7, .inr 8, .inr 9] : List x_F)).set 8 (.int (iI v)))) = x_w shU ad cA (NN mo) (uf F 8 v) A := rfl
theorem setf_9 (ad : Nat → Nat) (cA : Nat → ClassId) (mo : Nat) (F : Nat → Int) (A : Nat → Int → Int) (v : Int) : (x_w shU ad cA (NN mo) F A).set 5 (ad 5, .inr (5, (List.map (x_fv ad F) ([.inl 2, .inl 25, .inl 26, .inl 27, .inl 28, .inl 29, .inr 6, .inr 7, .inr 8, .inr 9] : List x_F)).set 9 (.int (iI v)))) = x_w shU ad cA (NN mo) (uf F 9 v) A := rfl
theorem setf_10 (ad : Nat → Nat) (cA : Nat → ClassId) (mo : Nat) (F : Nat → Int) (A : Nat → Int → Int) (v : Int) : (x_w shU ad cA (NN mo) F A).set 30 (ad 30, .inr (6, (List.map (x_fv ad F) ([.inr 10, .inr 11, .inr 12, .inl 31, .inr 13, .inl 32, .inl 33, .inl 34, .inl 35, .inl 36, .inl 37, .inl 38, .inl 39, .inr 14, .inl 40, .inl 41, .inl 42, .inr 15, .inl 43, .inr 16, .inr 17, .inr 18, .inl 44, .inl 45, .inr 19, .inl 46, .inl 47, .inl 48] : List x_F)).set 0 (.int (iI v)))) = x_w shU ad cA (NN mo) (uf F 10 v) A := rfl
theorem setf_11 (ad : Nat → Nat) (cA : Nat → ClassId) (mo : Nat) (F : Nat → Int) (A : Nat → Int → Int) (v : Int) : (x_w shU ad cA (NN mo) F A).set 30 (ad 30, .inr (6, (List.map (x_fv ad F) ([.inr 10, .inr 11, .inr 12, .inl 31, .inr 13, .inl 32, .inl 33, .inl 34, .inl 35, .inl 36, .inl 37, .inl 38, .inl 39, .inr 14, .inl 40, .inl 41, .inl 42, .inr 15, .inl 43, .inr 16, .inr 17, .inr 18, .inl 44, .inl 45, .inr 19, .inl 46, .inl 47, .inl 48] : List x_F)).set 1 (.int (iI v)))) = x_w shU ad cA (NN mo) (uf F 11 v) A := rfl
theorem setf_12 (ad : Nat → Nat) (cA : Nat → ClassId) (mo : Nat) (F : Nat → Int) (A : Nat → Int → Int) (v : Int) : (x_w shU ad cA (NN mo) F A).set 30 (ad 30, .inr (6, (List.map (x_fv ad F) ([.inr 10, .inr 11, .inr 12, .inl 31, .inr 13, .inl 32, .inl 33, .inl 34, .inl 35, .inl 36, .inl 37, .inl 38, .inl 39, .inr 14, .inl 40, .inl 41, .inl 42, .inr 15, .inl 43, .inr 16, .inr 17, .inr 18, .inl 44, .inl 45, .inr 19, .inl 46, .inl 47, .inl 48] : List x_F)).set 2 (.int (iI v)))) = x_w shU ad cA (NN mo) (uf F 12 v) A := rfl
theorem setf_13 (ad : Nat → Nat) (cA : Nat → ClassId) (mo : Nat) (F : Nat → Int) (A : Nat → Int → Int) (v : Int) : (x_w shU ad cA (NN mo) F A).set 30 (ad 30, .inr (6, (List.map (x_fv ad F) ([.inr 10, .inr 11, .inr 12, .inl 31, .inr 13, .inl 32, .inl 33, .inl 34, .inl 35, .inl 36, .inl 37, .inl 38, .inl 39, .inr 14, .inl 40, .inl 41, .inl 42, .inr 15, .inl 43, .inr 16, .inr 17, .inr 18, .inl 44, .inl 45, .inr 19, .inl 46, .inl 47, .inl 48] : List x_F)).set 4 (.int (iI v)))) = x_w shU ad cA (NN mo) (uf F 13 v) A := rfl
theorem setf_14 (ad : Nat → Nat) (cA : Nat → ClassId) (mo : Nat) (F : Nat → Int) (A : Nat → Int → Int) (v : Int) : (x_w shU ad cA (NN mo) F A).set 30 (ad 30, .inr (6, (List.map (x_fv ad F) ([.inr 10, .inr 11, .inr 12, .inl 31, .inr 13, .inl 32, .inl 33, .inl 34, .inl 35, .inl 36, .inl 37, .inl 38, .inl 39, .inr 14, .inl 40, .inl 41, .inl 42, .inr 15, .inl 43, .inr 16, .inr 17, .inr 18, .inl 44, .inl 45, .inr 19, .inl 46, .inl 47, .inl 48] : List x_F)).set 13 (.int (iI v)))) = x_w shU ad cA (NN mo) (uf F 14 v) A := rfl
theorem setf_15 (ad : Nat → Nat) (cA : Nat → ClassId) (mo : Nat) (F : Nat → Int) (A : Nat → Int → Int) (v : Int) : (x_w shU ad cA (NN mo) F A).set 30 (ad 30, .inr (6, (List.map (x_fv ad F) ([.inr 10, .inr 11, .inr 12, .inl 31, .inr 13, .inl 32, .inl 33, .inl 34, .inl 35, .inl 36, .inl 37, .inl 38, .inl 39, .inr 14, .inl 40, .inl 41, .inl 42, .inr 15, .inl 43, .inr 16, .inr 17, .inr 18, .inl 44, .inl 45, .inr 19, .inl 46, .inl 47, .inl 48] : List x_F)).set 17 (.int (iI v)))) = x_w shU ad cA (NN mo) (uf F 15 v) A := rfl
theorem setf_16 (ad : Nat → Nat) (cA : Nat → ClassId) (mo : Nat) (F : Nat → Int) (A : Nat → Int → Int) (v : Int) : (x_w shU ad cA (NN mo) F A).set 30 (ad 30, .inr (6, (List.map (x_fv ad F) ([.inr 10, .inr 11, .inr 12, .inl 31, .inr 13, .inl 32, .inl 33, .inl 34, .inl 35, .inl 36, .inl 37, .inl 38, .inl 39, .inr 14, .inl 40, .inl 41, .inl 42, .inr 15, .inl 43, .inr 16, .inr 17, .inr 18, .inl 44, .inl 45, .inr 19, .inl 46, .inl 47, .inl 48] : List x_F)).set 19 (.int (iI v)))) = x_w shU ad cA (NN mo) (uf F 16 v) A := rfl
theorem setf_17 (ad : Nat → Nat) (cA : Nat → ClassId) (mo : Nat) (F : Nat → Int) (A : Nat → Int → Int) (v : Int) : (x_w shU ad cA (NN mo) F A).set 30 (ad 30, .inr (6, (List.map (x_fv ad F) ([.inr 10, .inr 11, .inr 12, .inl 31, .inr 13, .inl 32, .inl 33, .inl 34, .inl 35, .inl 36, .inl 37, .inl 38, .inl 39, .inr 14, .inl 40, .inl 41, .inl 42, .inr 15, .inl 43, .inr 16, .inr 17, .inr 18, .inl 44, .inl 45, .inr 19, .inl 46, .inl 47, .inl 48] : List x_F)).set 20 (.int (iI v)))) = x_w shU ad cA (NN mo) (uf F 17 v) A := rfl
theorem setf_18 (ad : Nat → Nat) (cA : Nat → ClassId) (mo : Nat) (F : Nat → Int) (A : Nat → Int → Int) (v : Int) : (x_w shU ad cA (NN mo) F A).set 30 (ad 30, .inr (6, (List.map (x_fv ad F) ([.inr 10, .inr 11, .inr 12, .inl 31, .inr 13, .inl 32, .inl 33, .inl 34, .inl 35, .inl 36, .inl 37, .inl 38, .inl 39, .inr 14, .inl 40, .inl 41, .inl 42, .inr 15, .inl 43, .inr 16, .inr 17, .inr 18, .inl 44, .inl 45, .inr 19, .inl 46, .inl 47, .inl 48] : List x_F)).set 21 (.int (iI v)))) = x_w shU ad cA (NN mo) (uf F 18 v) A := rfl
theorem setf_19 (ad : Nat → Nat) (cA : Nat → ClassId) (mo : Nat) (F : Nat → Int) (A : Nat → Int → Int) (v : Int) : (x_w shU ad cA (NN mo) F A).set 30 (ad 30, .inr (6, (List.map (x_fv ad F) ([.inr 10, .inr 11, .inr 12, .inl 31, .inr 13, .inl 32, .inl 33, .inl 34, .inl 35, .inl 36, .inl 37, .inl 38, .inl 39, .inr 14, .inl 40, .inl 41, .inl 42, .inr 15, .inl 43, .inr 16, .inr 17, .inr 18, .inl 44, .inl 45, .inr 19, .inl 46, .inl 47, .inl 48] : List x_F)).set 24 (.int (iI v)))) = x_w shU ad cA (NN mo) (uf F 19 v) A := rfl
theorem seta_0 (ad : Nat → Nat) (cA : Nat → ClassId) (mo : Nat) (F : Nat → Int) (A : Nat → Int → Int) (i v : Int) : (x_w shU ad cA (NN mo) F A).set 6 (ad 6, .inl (cA 0, NN mo 0, x_ar 0 (ua A 0 i v 0))) = x_w shU ad cA (NN mo) F (ua A 0 i v) := rfl
theorem seta_1 (ad : Nat → Nat) (cA : Nat → ClassId) (mo : Nat) (F : Nat → Int) (A : Nat → Int → Int) (i v : Int) : (x_w shU ad cA (NN mo) F A).set 7 (ad 7, .inl (cA 1, NN mo 1, x_ar 0 (ua A 1 i v 1))) = x_w shU ad cA (NN mo) F (ua A 1 i v) := rfl
theorem seta_2 (ad : Nat → Nat) (cA : Nat → ClassId) (mo : Nat) (F : Nat → Int) (A : Nat → Int → Int) (i v : Int) : (x_w shU ad cA (NN mo) F A).set 8 (ad 8, .inl (cA 2, NN mo 2, x_ar 0 (ua A 2 i v 2))) = x_w shU ad cA (NN mo) F (ua A 2 i v) := rfl
theorem seta_3 (ad : Nat → Nat) (cA : Nat → ClassId) (mo : Nat) (F : Nat → Int) (A : Nat → Int → Int) (i v : Int) : (x_w shU ad cA (NN mo) F A).set 9 (ad 9, .inl (cA 3, NN mo 3, x_ar 0 (ua A 3 i v 3))) = x_w shU ad cA (NN mo) F (ua A 3 i v) := rfl
theorem seta_4 (ad : Nat → Nat) (cA : Nat → ClassId) (mo : Nat) (F : Nat → Int) (A : Nat → Int → Int) (i v : Int) : (x_w shU ad cA (NN mo) F A).set 10 (ad 10, .inl (cA 4, NN mo 4, x_ar 0 (ua A 4 i v 4))) = x_w shU ad cA (NN mo) F (ua A 4 i v) := rfl
theorem seta_5 (ad : Nat → Nat) (cA : Nat → ClassId) (mo : Nat) (F : Nat → Int) (A : Nat → Int → Int) (i v : Int) : (x_w shU ad cA (NN mo) F A).set 11 (ad 11, .inl (cA 5, NN mo 5, x_ar 0 (ua A 5 i v 5))) = x_w shU ad cA (NN mo) F (ua A 5 i v) := rfl
theorem seta_6 (ad : Nat → Nat) (cA : Nat → ClassId) (mo : Nat) (F : Nat → Int) (A : Nat → Int → Int) (i v : Int) : (x_w shU ad cA (NN mo) F A).set 12 (ad 12, .inl (cA 6, NN mo 6, x_ar 0 (ua A 6 i v 6))) = x_w shU ad cA (NN mo) F (ua A 6 i v) := rfl
theorem seta_7 (ad : Nat → Nat) (cA : Nat → ClassId) (mo : Nat) (F : Nat → Int) (A : Nat → Int → Int) (i v : Int) : (x_w shU ad cA (NN mo) F A).set 13 (ad 13, .inl (cA 7, NN mo 7, x_ar 0 (ua A 7 i v 7))) = x_w shU ad cA (NN mo) F (ua A 7 i v) := rfl
theorem seta_8 (ad : Nat → Nat) (cA : Nat → ClassId) (mo : Nat) (F : Nat → Int) (A : Nat → Int → Int) (i v : Int) : (x_w shU ad cA (NN mo) F A).set 14 (ad 14, .inl (cA 8, NN mo 8, x_ar 0 (ua A 8 i v 8))) = x_w shU ad cA (NN mo) F (ua A 8 i v) := rfl
theorem seta_9 (ad : Nat → Nat) (cA : Nat → ClassId) (mo : Nat) (F : Nat → Int) (A : Nat → Int → Int) (i v : Int) : (x_w shU ad cA (NN mo) F A).set 15 (ad 15, .inl (cA 9, NN mo 9, x_ar 0 (ua A 9 i v 9))) = x_w shU ad cA (NN mo) F (ua A 9 i v) := rfl
theorem seta_10 (ad : Nat → Nat) (cA : Nat → ClassId) (mo : Nat) (F : Nat → Int) (A : Nat → Int → Int) (i v : Int) : (x_w shU ad cA (NN mo) F A).set 16 (ad 16, .inl (cA 10, NN mo 10, x_ar 0 (ua A 10 i v 10))) = x_w shU ad cA (NN mo) F (ua A 10 i v) := rfl
theorem seta_11 (ad : Nat → Nat) (cA : Nat → ClassId) (mo : Nat) (F : Nat → Int) (A : Nat → Int → Int) (i v : Int) : (x_w shU ad cA (NN mo) F A).set 17 (ad 17, .inl (cA 11, NN mo 11, x_ar 0 (ua A 11 i v 11))) = x_w shU ad cA (NN mo) F (ua A 11 i v) := rfl
theorem seta_12 (ad : Nat → Nat) (cA : Nat → ClassId) (mo : Nat) (F : Nat → Int) (A : Nat → Int → Int) (i v : Int) : (x_w shU ad cA (NN mo) F A).set 18 (ad 18, .inl (cA 12, NN mo 12, x_ar 0 (ua A 12 i v 12))) = x_w shU ad cA (NN mo) F (ua A 12 i v) := rfl
theorem seta_13 (ad : Nat → Nat) (cA : Nat → ClassId) (mo : Nat) (F : Nat → Int) (A : Nat → Int → Int) (i v : Int) : (x_w shU ad cA (NN mo) F A).set 19 (ad 19, .inl (cA 13, NN mo 13, x_ar 0 (ua A 13 i v 13))) = x_w shU ad cA (NN mo) F (ua A 13 i v) := rfl
theorem seta_14 (ad : Nat → Nat) (cA : Nat → ClassId) (mo : Nat) (F : Nat → Int) (A : Nat → Int → Int) (i v : Int) : (x_w shU ad cA (NN mo) F A).set 20 (ad 20, .inl (cA 14, NN mo 14, x_ar 0 (ua A 14 i v 14))) = x_w shU ad cA (NN mo) F (ua A 14 i v) := rfl
theorem seta_15 (ad : Nat → Nat) (cA : Nat → ClassId) (mo : Nat) (F : Nat → Int) (A : Nat → Int → Int) (i v : Int) : (x_w shU ad cA (NN mo) F A).set 21 (ad 21, .inl (cA 15, NN mo 15, x_ar 0 (ua A 15 i v 15))) = x_w shU ad cA (NN mo) F (ua A 15 i v) := rfl
theorem seta_16 (ad : Nat → Nat) (cA : Nat → ClassId) (mo : Nat) (F : Nat → Int) (A : Nat → Int → Int) (i v : Int) : (x_w shU ad cA (NN mo) F A).set 22 (ad 22, .inl (cA 16, NN mo 16, x_ar 0 (ua A 16 i v 16))) = x_w shU ad cA (NN mo) F (ua A 16 i v) := rfl
theorem seta_17 (ad : Nat → Nat) (cA : Nat → ClassId) (mo : Nat) (F : Nat → Int) (A : Nat → Int → Int) (i v : Int) : (x_w shU ad cA (NN mo) F A).set 23 (ad 23, .inl (cA 17, NN mo 17, x_ar 0 (ua A 17 i v 17))) = x_w shU ad cA (NN mo) F (ua A 17 i v) := rfl
theorem seta_18 (ad : Nat → Nat) (cA : Nat → ClassId) (mo : Nat) (F : Nat → Int) (A : Nat → Int → Int) (i v : Int) : (x_w shU ad cA (NN mo) F A).set 24 (ad 24, .inl (cA 18, NN mo 18, x_ar 0 (ua A 18 i v 18))) = x_w shU ad cA (NN mo) F (ua A 18 i v) := rfl
theorem seta_19 (ad : Nat → Nat) (cA : Nat → ClassId) (mo : Nat) (F : Nat → Int) (A : Nat → Int → Int) (i v : Int) : (x_w shU ad cA (NN mo) F A).set 25 (ad 25, .inl (cA 19, NN mo 19, x_ar 0 (ua A 19 i v 19))) = x_w shU ad cA (NN mo) F (ua A 19 i v) := rfl
theorem seta_20 (ad : Nat → Nat) (cA : Nat → ClassId) (mo : Nat) (F : Nat → Int) (A : Nat → Int → Int) (i v : Int) : (x_w shU ad cA (NN mo) F A).set 26 (ad 26, .inl (cA 20, NN mo 20, x_ar 0 (ua A 20 i v 20))) = x_w shU ad cA (NN mo) F (ua A 20 i v) := rfl
theorem seta_21 (ad : Nat → Nat) (cA : Nat → ClassId) (mo : Nat) (F : Nat → Int) (A : Nat → Int → Int) (i v : Int) : (x_w shU ad cA (NN mo) F A).set 27 (ad 27, .inl (cA 21, NN mo 21, x_ar 0 (ua A 21 i v 21))) = x_w shU ad cA (NN mo) F (ua A 21 i v) := rfl
theorem seta_22 (ad : Nat → Nat) (cA : Nat → ClassId) (mo : Nat) (F : Nat → Int) (A : Nat → Int → Int) (i v : Int) : (x_w shU ad cA (NN mo) F A).set 28 (ad 28, .inl (cA 22, NN mo 22, x_ar 0 (ua A 22 i v 22))) = x_w shU ad cA (NN mo) F (ua A 22 i v) := rfl
theorem seta_23 (ad : Nat → Nat) (cA : Nat → ClassId) (mo : Nat) (F : Nat → Int) (A : Nat → Int → Int) (i v : Int) : (x_w shU ad cA (NN mo) F A).set 29 (ad 29, .inl (cA 23, NN mo 23, x_ar 0 (ua A 23 i v 23))) = x_w shU ad cA (NN mo) F (ua A 23 i v) := rfl
theorem seta_24 (ad : Nat → Nat) (cA : Nat → ClassId) (mo : Nat) (F : Nat → Int) (A : Nat → Int → Int) (i v : Int) : (x_w shU ad cA (NN mo) F A).set 31 (ad 31, .inl (cA 24, NN mo 24, x_ar 1 (ua A 24 i v 24))) = x_w shU ad cA (NN mo) F (ua A 24 i v) := rfl
theorem seta_25 (ad : Nat → Nat) (cA : Nat → ClassId) (mo : Nat) (F : Nat → Int) (A : Nat → Int → Int) (i v : Int) : (x_w shU ad cA (NN mo) F A).set 32 (ad 32, .inl (cA 25, NN mo 25, x_ar 0 (ua A 25 i v 25))) = x_w shU ad cA (NN mo) F (ua A 25 i v) := rfl
theorem seta_26 (ad : Nat → Nat) (cA : Nat → ClassId) (mo : Nat) (F : Nat → Int) (A : Nat → Int → Int) (i v : Int) : (x_w shU ad cA (NN mo) F A).set 33 (ad 33, .inl (cA 26, NN mo 26, x_ar 0 (ua A 26 i v 26))) = x_w shU ad cA (NN mo) F (ua A 26 i v) := rfl
theorem seta_27 (ad : Nat → Nat) (cA : Nat → ClassId) (mo : Nat) (F : Nat → Int) (A : Nat → Int → Int) (i v : Int) : (x_w shU ad cA (NN mo) F A).set 34 (ad 34, .inl (cA 27, NN mo 27, x_ar 0 (ua A 27 i v 27))) = x_w shU ad cA (NN mo) F (ua A 27 i v) := rfl
theorem seta_28 (ad : Nat → Nat) (cA : Nat → ClassId) (mo : Nat) (F : Nat → Int) (A : Nat → Int → Int) (i v : Int) : (x_w shU ad cA (NN mo) F A).set 35 (ad 35, .inl (cA 28, NN mo 28, x_ar 0 (ua A 28 i v 28))) = x_w shU ad cA (NN mo) F (ua A 28 i v) := rfl
theorem seta_29 (ad : Nat → Nat) (cA : Nat → ClassId) (mo : Nat) (F : Nat → Int) (A : Nat → Int → Int) (i v : Int) : (x_w shU ad cA (NN mo) F A).set 36 (ad 36, .inl (cA 29, NN mo 29, x_ar 0 (ua A 29 i v 29))) = x_w shU ad cA (NN mo) F (ua A 29 i v) := rfl
theorem seta_30 (ad : Nat → Nat) (cA : Nat → ClassId) (mo : Nat) (F : Nat → Int) (A : Nat → Int → Int) (i v : Int) : (x_w shU ad cA (NN mo) F A).set 37 (ad 37, .inl (cA 30, NN mo 30, x_ar 0 (ua A 30 i v 30))) = x_w shU ad cA (NN mo) F (ua A 30 i v) := rfl
theorem seta_31 (ad : Nat → Nat) (cA : Nat → ClassId) (mo : Nat) (F : Nat → Int) (A : Nat → Int → Int) (i v : Int) : (x_w shU ad cA (NN mo) F A).set 38 (ad 38, .inl (cA 31, NN mo 31, x_ar 0 (ua A 31 i v 31))) = x_w shU ad cA (NN mo) F (ua A 31 i v) := rfl
theorem seta_32 (ad : Nat → Nat) (cA : Nat → ClassId) (mo : Nat) (F : Nat → Int) (A : Nat → Int → Int) (i v : Int) : (x_w shU ad cA (NN mo) F A).set 39 (ad 39, .inl (cA 32, NN mo 32, x_ar 0 (ua A 32 i v 32))) = x_w shU ad cA (NN mo) F (ua A 32 i v) := rfl
theorem seta_33 (ad : Nat → Nat) (cA : Nat → ClassId) (mo : Nat) (F : Nat → Int) (A : Nat → Int → Int) (i v : Int) : (x_w shU ad cA (NN mo) F A).set 40 (ad 40, .inl (cA 33, NN mo 33, x_ar 0 (ua A 33 i v 33))) = x_w shU ad cA (NN mo) F (ua A 33 i v) := rfl
theorem seta_34 (ad : Nat → Nat) (cA : Nat → ClassId) (mo : Nat) (F : Nat → Int) (A : Nat → Int → Int) (i v : Int) : (x_w shU ad cA (NN mo) F A).set 41 (ad 41, .inl (cA 34, NN mo 34, x_ar 0 (ua A 34 i v 34))) = x_w shU ad cA (NN mo) F (ua A 34 i v) := rfl
theorem seta_35 (ad : Nat → Nat) (cA : Nat → ClassId) (mo : Nat) (F : Nat → Int) (A : Nat → Int → Int) (i v : Int) : (x_w shU ad cA (NN mo) F A).set 42 (ad 42, .inl (cA 35, NN mo 35, x_ar 0 (ua A 35 i v 35))) = x_w shU ad cA (NN mo) F (ua A 35 i v) := rfl
theorem seta_36 (ad : Nat → Nat) (cA : Nat → ClassId) (mo : Nat) (F : Nat → Int) (A : Nat → Int → Int) (i v : Int) : (x_w shU ad cA (NN mo) F A).set 43 (ad 43, .inl (cA 36, NN mo 36, x_ar 0 (ua A 36 i v 36))) = x_w shU ad cA (NN mo) F (ua A 36 i v) := rfl
theorem seta_37 (ad : Nat → Nat) (cA : Nat → ClassId) (mo : Nat) (F : Nat → Int) (A : Nat → Int → Int) (i v : Int) : (x_w shU ad cA (NN mo) F A).set 44 (ad 44, .inl (cA 37, NN mo 37, x_ar 2 (ua A 37 i v 37))) = x_w shU ad cA (NN mo) F (ua A 37 i v) := rfl
theorem seta_38 (ad : Nat → Nat) (cA : Nat → ClassId) (mo : Nat) (F : Nat → Int) (A : Nat → Int → Int) (i v : Int) : (x_w shU ad cA (NN mo) F A).set 45 (ad 45, .inl (cA 38, NN mo 38, x_ar 0 (ua A 38 i v 38))) = x_w shU ad cA (NN mo) F (ua A 38 i v) := rfl
theorem seta_39 (ad : Nat → Nat) (cA : Nat → ClassId) (mo : Nat) (F : Nat → Int) (A : Nat → Int → Int) (i v : Int) : (x_w shU ad cA (NN mo) F A).set 46 (ad 46, .inl (cA 39, NN mo 39, x_ar 2 (ua A 39 i v 39))) = x_w shU ad cA (NN mo) F (ua A 39 i v) := rfl
theorem seta_40 (ad : Nat → Nat) (cA : Nat → ClassId) (mo : Nat) (F : Nat → Int) (A : Nat → Int → Int) (i v : Int) : (x_w shU ad cA (NN mo) F A).set 47 (ad 47, .inl (cA 40, NN mo 40, x_ar 0 (ua A 40 i v 40))) = x_w shU ad cA (NN mo) F (ua A 40 i v) := rfl
theorem seta_41 (ad : Nat → Nat) (cA : Nat → ClassId) (mo : Nat) (F : Nat → Int) (A : Nat → Int → Int) (i v : Int) : (x_w shU ad cA (NN mo) F A).set 48 (ad 48, .inl (cA 41, NN mo 41, x_ar 2 (ua A 41 i v 41))) = x_w shU ad cA (NN mo) F (ua A 41 i v) := rfl
theorem seta_42 (ad : Nat → Nat) (cA : Nat → ClassId) (mo : Nat) (F : Nat → Int) (A : Nat → Int → Int) (i v : Int) : (x_w shU ad cA (NN mo) F A).set 49 (ad 49, .inl (cA 42, NN mo 42, x_ar 2 (ua A 42 i v 42))) = x_w shU ad cA (NN mo) F (ua A 42 i v) := rfl
theorem setc_0 (ad : Nat → Nat) (cA : Nat → ClassId) (mo : Nat) (F : Nat → Int) (A : Nat → Int → Int) (i j v : Int) : (x_w shU ad cA (NN mo) F A).set 6 (ad 6, .inl (cA 0, NN mo 0, x_ar 0 (uc A 0 i j v 0))) = x_w shU ad cA (NN mo) F (uc A 0 i j v) := rfl
theorem setc_1 (ad : Nat → Nat) (cA : Nat → ClassId) (mo : Nat) (F : Nat → Int) (A : Nat → Int → Int) (i j v : Int) : (x_w shU ad cA (NN mo) F A).set 7 (ad 7, .inl (cA 1, NN mo 1, x_ar 0 (uc A 1 i j v 1))) = x_w shU ad cA (NN mo) F (uc A 1 i j v) := rfl
theorem setc_2 (ad : Nat → Nat) (cA : Nat → ClassId) (mo : Nat) (F : Nat → Int) (A : Nat → Int → Int) (i j v : Int) : (x_w shU ad cA (NN mo) F A).set 8 (ad 8, .inl (cA 2, NN mo 2, x_ar 0 (uc A 2 i j v 2))) = x_w shU ad cA (NN mo) F (uc A 2 i j v) := rfl
def gT : List Cond := lw_tbl.filter goodWord
theorem gT_good {w : Cond} (h : w ∈ gT) : (w.onTables && w.keeps) = true ∨ ∃ ty, w = .arrayClass ty := good_of_word (List.mem_filter.mp h).2
theorem gT_t {w : Cond} (i : Nat) (h : tables_1[i]? = some w) (hg : goodWord w = true) : w ∈ gT := List.mem_filter.mpr ⟨List.mem_append_right _ (List.mem_of_getElem? h), hg⟩
theorem gT_s {w : Cond} (h : w ∈ k2_sels lw_privs) (hg : goodWord w = true) : w ∈ gT := List.mem_filter.mpr ⟨List.mem_append_left _ h, hg⟩
theorem gW {w : Cond} (h : w ∈ gT) : GoodIn gT (w :: gT) := fun x hx => by
  have hm : x ∈ gT := (List.mem_cons.mp hx).elim (fun e => e ▸ h) id
  exact ⟨hm, gT_good hm⟩
theorem gV {own C : String} {idx : Nat} {y : MethodName} {w : Cond} (h1 : Cond.methodLink own idx y ∈ gT) (h2 : Cond.instanceMethod y ∈ gT) (h3 : Cond.selects C y y ∈ gT) (h4 : Cond.initialized C ∈ gT) (h : w ∈ gT) : GoodIn gT (wsV own idx C y (w :: gT)) := fun x hx => by
  have hm : x ∈ gT := by
    unfold wsV at hx
    rcases List.mem_append.mp hx with g | g
    · rcases List.mem_cons.mp g with e | g
      · exact e ▸ h1
      rcases List.mem_cons.mp g with e | g
      · exact e ▸ h2
      rcases List.mem_cons.mp g with e | g
      · exact e ▸ h3
      rcases List.mem_cons.mp g with e | g
      · exact e ▸ h4
      · cases g
    · exact (gW h x g).1
  exact ⟨hm, gT_good hm⟩
theorem gS {own : String} {idx : Nat} {y : MethodName} {w : Cond} (h1 : Cond.methodLink own idx y ∈ gT) (h2 : Cond.static y ∈ gT) (h4 : Cond.initialized own ∈ gT) (h : w ∈ gT) : GoodIn gT (wsS own idx y (w :: gT)) := fun x hx => by
  have hm : x ∈ gT := by
    unfold wsS at hx
    rcases List.mem_append.mp hx with g | g
    · rcases List.mem_cons.mp g with e | g
      · exact e ▸ h1
      rcases List.mem_cons.mp g with e | g
      · exact e ▸ h2
      rcases List.mem_cons.mp g with e | g
      · exact e ▸ h4
      · cases g
    · exact (gW h x g).1
  exact ⟨hm, gT_good hm⟩
end
section
/-! words of the tables, by their places -/
theorem in_Lr : ∀ w ∈ u_ws R_Lr T_Lr 5, w ∈ gT := by decide +kernel
theorem in_Gr : ∀ w ∈ u_ws R_Gr T_Gr 6, w ∈ gT := by decide +kernel
theorem in_Ce : ∀ w ∈ u_ws R_Ce T_Ce 9, w ∈ gT := by decide +kernel
theorem in_Ne : ∀ w ∈ u_ws R_Ne T_Ne 5, w ∈ gT := by decide +kernel
theorem in_Fi : ∀ w ∈ u_ws R_Fi T_Fi 8, w ∈ gT := by decide +kernel
theorem in_Li : ∀ w ∈ u_ws R_Li T_Li 10, w ∈ gT := by decide +kernel
theorem in_Mo : ∀ w ∈ u_ws R_Mo T_Mo 28, w ∈ gT := by decide +kernel
theorem tw_118 : Cond.fieldLink R_Ne 21 "LegalRows$Nets" "cells" "LLegalRows$Cells;" ∈ gT := gT_t 118 (by decide +kernel) (by decide +kernel)
theorem tw_119 : Cond.fieldLink R_Ne 9 "LegalRows$Nets" "cellOf" "[I" ∈ gT := gT_t 119 (by decide +kernel) (by decide +kernel)
theorem tw_120 : Cond.fieldLink R_Ne 15 "LegalRows$Nets" "nextEnd" "[I" ∈ gT := gT_t 120 (by decide +kernel) (by decide +kernel)
theorem tw_121 : Cond.fieldLink R_Ne 18 "LegalRows$Nets" "firstEnd" "[I" ∈ gT := gT_t 121 (by decide +kernel) (by decide +kernel)
theorem tw_122 : Cond.fieldLink R_Ne 25 "LegalRows$Nets" "count" "I" ∈ gT := gT_t 122 (by decide +kernel) (by decide +kernel)
theorem tw_147 : Cond.fieldLink R_Li 27 "LegalRows$Line" "cells" "LLegalRows$Cells;" ∈ gT := gT_t 147 (by decide +kernel) (by decide +kernel)
theorem tw_148 : Cond.fieldLink R_Li 9 "LegalRows$Line" "cell" "[I" ∈ gT := gT_t 148 (by decide +kernel) (by decide +kernel)
theorem tw_149 : Cond.fieldLink R_Li 15 "LegalRows$Line" "offset" "[I" ∈ gT := gT_t 149 (by decide +kernel) (by decide +kernel)
theorem tw_15 : Cond.initialized "java/lang/System" ∈ gT := gT_t 15 (by decide +kernel) (by decide +kernel)
theorem tw_150 : Cond.fieldLink R_Li 18 "LegalRows$Line" "bestShift" "[I" ∈ gT := gT_t 150 (by decide +kernel) (by decide +kernel)
theorem tw_151 : Cond.fieldLink R_Li 21 "LegalRows$Line" "site" "[I" ∈ gT := gT_t 151 (by decide +kernel) (by decide +kernel)
theorem tw_152 : Cond.fieldLink R_Li 24 "LegalRows$Line" "bend" "[I" ∈ gT := gT_t 152 (by decide +kernel) (by decide +kernel)
theorem tw_153 : Cond.fieldLink R_Li 54 "LegalRows$Line" "bends" "I" ∈ gT := gT_t 153 (by decide +kernel) (by decide +kernel)
theorem tw_154 : Cond.fieldLink R_Li 31 "LegalRows$Line" "count" "I" ∈ gT := gT_t 154 (by decide +kernel) (by decide +kernel)
theorem tw_155 : Cond.fieldLink R_Li 35 "LegalRows$Line" "length" "I" ∈ gT := gT_t 155 (by decide +kernel) (by decide +kernel)
theorem tw_156 : Cond.fieldLink R_Fi 87 "LegalRows$Line" "sum" "I" ∈ gT := gT_t 156 (by decide +kernel) (by decide +kernel)
theorem tw_157 : Cond.fieldLink R_Li 72 "LegalRows$Line" "sum" "I" ∈ gT := gT_t 157 (by decide +kernel) (by decide +kernel)
theorem tw_179 : Cond.fieldLink R_Fi 18 "LegalRows$Filling" "ground" "LLegalRows$Ground;" ∈ gT := gT_t 179 (by decide +kernel) (by decide +kernel)
theorem tw_180 : Cond.fieldLink R_Fi 22 "LegalRows$Filling" "cells" "LLegalRows$Cells;" ∈ gT := gT_t 180 (by decide +kernel) (by decide +kernel)
theorem tw_181 : Cond.fieldLink R_Fi 31 "LegalRows$Filling" "line" "LLegalRows$Line;" ∈ gT := gT_t 181 (by decide +kernel) (by decide +kernel)
theorem tw_182 : Cond.fieldLink R_Fi 9 "LegalRows$Filling" "order" "[I" ∈ gT := gT_t 182 (by decide +kernel) (by decide +kernel)
theorem tw_183 : Cond.fieldLink R_Fi 15 "LegalRows$Filling" "nextCell" "[I" ∈ gT := gT_t 183 (by decide +kernel) (by decide +kernel)
theorem tw_184 : Cond.fieldLink R_Fi 40 "LegalRows$Filling" "firstCell" "[I" ∈ gT := gT_t 184 (by decide +kernel) (by decide +kernel)
theorem tw_185 : Cond.fieldLink R_Fi 43 "LegalRows$Filling" "lastCell" "[I" ∈ gT := gT_t 185 (by decide +kernel) (by decide +kernel)
theorem tw_186 : Cond.fieldLink R_Fi 46 "LegalRows$Filling" "sum" "[I" ∈ gT := gT_t 186 (by decide +kernel) (by decide +kernel)
theorem tw_2 : Cond.initialized "java/lang/Math" ∈ gT := gT_t 2 (by decide +kernel) (by decide +kernel)
theorem tw_207 : Cond.fieldLink R_Lr 55 "LegalRows" "filling" "LLegalRows$Filling;" ∈ gT := gT_t 207 (by decide +kernel) (by decide +kernel)
theorem tw_208 : Cond.fieldLink R_Lr 59 "LegalRows" "placed" "Z" ∈ gT := gT_t 208 (by decide +kernel) (by decide +kernel)
theorem tw_224 : Cond.methodLink R_Lr 126 y_Fi_placeAll ∈ gT := gT_t 224 (by decide +kernel) (by decide +kernel)
theorem tw_225 : Cond.instanceMethod y_Fi_placeAll ∈ gT := gT_t 225 (by decide +kernel) (by decide +kernel)
theorem tw_226 : Cond.selects R_Fi y_Fi_placeAll y_Fi_placeAll ∈ gT := gT_t 226 (by decide +kernel) (by decide +kernel)
theorem tw_227 : Cond.code y_Fi_placeAll c_Fi_placeAll 3 (some .int) ∈ gT := gT_t 227 (by decide +kernel) (by decide +kernel)
theorem tw_228 : Cond.methodLink R_Fi 49 y_Fi_emptyParts ∈ gT := gT_t 228 (by decide +kernel) (by decide +kernel)
theorem tw_230 : Cond.instanceMethod y_Fi_emptyParts ∈ gT := gT_t 230 (by decide +kernel) (by decide +kernel)
theorem tw_231 : Cond.code y_Fi_emptyParts c_Fi_emptyParts 2 (none) ∈ gT := gT_t 231 (by decide +kernel) (by decide +kernel)
theorem tw_232 : Cond.methodLink R_Fi 52 y_Fi_orderCells ∈ gT := gT_t 232 (by decide +kernel) (by decide +kernel)
theorem tw_234 : Cond.instanceMethod y_Fi_orderCells ∈ gT := gT_t 234 (by decide +kernel) (by decide +kernel)
theorem tw_235 : Cond.code y_Fi_orderCells c_Fi_orderCells 3 (none) ∈ gT := gT_t 235 (by decide +kernel) (by decide +kernel)
theorem tw_236 : Cond.methodLink R_Fi 61 y_Fi_cheapestPart ∈ gT := gT_t 236 (by decide +kernel) (by decide +kernel)
theorem tw_238 : Cond.instanceMethod y_Fi_cheapestPart ∈ gT := gT_t 238 (by decide +kernel) (by decide +kernel)
theorem tw_239 : Cond.code y_Fi_cheapestPart c_Fi_cheapestPart 6 (some .int) ∈ gT := gT_t 239 (by decide +kernel) (by decide +kernel)
theorem tw_240 : Cond.methodLink R_Fi 79 y_Fi_costAtLeast ∈ gT := gT_t 240 (by decide +kernel) (by decide +kernel)
theorem tw_242 : Cond.instanceMethod y_Fi_costAtLeast ∈ gT := gT_t 242 (by decide +kernel) (by decide +kernel)
theorem tw_243 : Cond.code y_Fi_costAtLeast c_Fi_costAtLeast 7 (some .int) ∈ gT := gT_t 243 (by decide +kernel) (by decide +kernel)
theorem tw_244 : Cond.methodLink R_Fi 101 Lib.Math.max.name ∈ gT := gT_t 244 (by decide +kernel) (by decide +kernel)
theorem tw_245 : Cond.methodLink R_Fi 89 y_Ce_rowCost ∈ gT := gT_t 245 (by decide +kernel) (by decide +kernel)
theorem tw_246 : Cond.instanceMethod y_Ce_rowCost ∈ gT := gT_t 246 (by decide +kernel) (by decide +kernel)
theorem tw_247 : Cond.selects R_Ce y_Ce_rowCost y_Ce_rowCost ∈ gT := gT_t 247 (by decide +kernel) (by decide +kernel)
theorem tw_248 : Cond.code y_Ce_rowCost c_Ce_rowCost 3 (some .int) ∈ gT := gT_t 248 (by decide +kernel) (by decide +kernel)
theorem tw_249 : Cond.methodLink R_Ce 48 Lib.Math.abs.name ∈ gT := gT_t 249 (by decide +kernel) (by decide +kernel)
theorem tw_25 : Cond.static Lib.Math.min.name ∈ gT := gT_t 25 (by decide +kernel) (by decide +kernel)
theorem tw_250 : Cond.static Lib.Math.abs.name ∈ gT := gT_t 250 (by decide +kernel) (by decide +kernel)
theorem tw_251 : Cond.code Lib.Math.abs.name Lib.Math.abs.code 1 (some .int) ∈ gT := gT_t 251 (by decide +kernel) (by decide +kernel)
theorem tw_252 : Cond.methodLink R_Fi 83 y_Fi_layWith ∈ gT := gT_t 252 (by decide +kernel) (by decide +kernel)
theorem tw_254 : Cond.instanceMethod y_Fi_layWith ∈ gT := gT_t 254 (by decide +kernel) (by decide +kernel)
theorem tw_255 : Cond.code y_Fi_layWith c_Fi_layWith 3 (some .boolean) ∈ gT := gT_t 255 (by decide +kernel) (by decide +kernel)
theorem tw_256 : Cond.methodLink R_Fi 106 y_Fi_gather ∈ gT := gT_t 256 (by decide +kernel) (by decide +kernel)
theorem tw_258 : Cond.instanceMethod y_Fi_gather ∈ gT := gT_t 258 (by decide +kernel) (by decide +kernel)
theorem tw_259 : Cond.code y_Fi_gather c_Fi_gather 4 (none) ∈ gT := gT_t 259 (by decide +kernel) (by decide +kernel)
theorem tw_26 : Cond.code Lib.Math.min.name Lib.Math.min.code 2 (some .int) ∈ gT := gT_t 26 (by decide +kernel) (by decide +kernel)
theorem tw_260 : Cond.methodLink R_Fi 115 y_Li_clear ∈ gT := gT_t 260 (by decide +kernel) (by decide +kernel)
theorem tw_261 : Cond.instanceMethod y_Li_clear ∈ gT := gT_t 261 (by decide +kernel) (by decide +kernel)
theorem tw_262 : Cond.selects R_Li y_Li_clear y_Li_clear ∈ gT := gT_t 262 (by decide +kernel) (by decide +kernel)
theorem tw_263 : Cond.code y_Li_clear c_Li_clear 1 (none) ∈ gT := gT_t 263 (by decide +kernel) (by decide +kernel)
theorem tw_264 : Cond.methodLink R_Fi 109 y_Li_add ∈ gT := gT_t 264 (by decide +kernel) (by decide +kernel)
theorem tw_265 : Cond.instanceMethod y_Li_add ∈ gT := gT_t 265 (by decide +kernel) (by decide +kernel)
theorem tw_266 : Cond.selects R_Li y_Li_add y_Li_add ∈ gT := gT_t 266 (by decide +kernel) (by decide +kernel)
theorem tw_267 : Cond.code y_Li_add c_Li_add 2 (none) ∈ gT := gT_t 267 (by decide +kernel) (by decide +kernel)
theorem tw_268 : Cond.methodLink R_Li 38 y_Ce_spaceBetween ∈ gT := gT_t 268 (by decide +kernel) (by decide +kernel)
theorem tw_269 : Cond.instanceMethod y_Ce_spaceBetween ∈ gT := gT_t 269 (by decide +kernel) (by decide +kernel)
theorem tw_270 : Cond.selects R_Ce y_Ce_spaceBetween y_Ce_spaceBetween ∈ gT := gT_t 270 (by decide +kernel) (by decide +kernel)
theorem tw_271 : Cond.code y_Ce_spaceBetween c_Ce_spaceBetween 3 (some .int) ∈ gT := gT_t 271 (by decide +kernel) (by decide +kernel)
theorem tw_272 : Cond.methodLink R_Fi 112 y_Li_layIn ∈ gT := gT_t 272 (by decide +kernel) (by decide +kernel)
theorem tw_273 : Cond.instanceMethod y_Li_layIn ∈ gT := gT_t 273 (by decide +kernel) (by decide +kernel)
theorem tw_274 : Cond.selects R_Li y_Li_layIn y_Li_layIn ∈ gT := gT_t 274 (by decide +kernel) (by decide +kernel)
theorem tw_275 : Cond.code y_Li_layIn c_Li_layIn 4 (some .boolean) ∈ gT := gT_t 275 (by decide +kernel) (by decide +kernel)
theorem tw_276 : Cond.methodLink R_Li 47 y_Li_findBestShifts ∈ gT := gT_t 276 (by decide +kernel) (by decide +kernel)
theorem tw_278 : Cond.instanceMethod y_Li_findBestShifts ∈ gT := gT_t 278 (by decide +kernel) (by decide +kernel)
theorem tw_279 : Cond.code y_Li_findBestShifts c_Li_findBestShifts 6 (none) ∈ gT := gT_t 279 (by decide +kernel) (by decide +kernel)
theorem tw_28 : Cond.static Lib.Math.max.name ∈ gT := gT_t 28 (by decide +kernel) (by decide +kernel)
theorem tw_280 : Cond.methodLink R_Li 60 Lib.Math.min.name ∈ gT := gT_t 280 (by decide +kernel) (by decide +kernel)
theorem tw_281 : Cond.methodLink R_Li 65 Lib.Math.max.name ∈ gT := gT_t 281 (by decide +kernel) (by decide +kernel)
theorem tw_282 : Cond.methodLink R_Li 68 y_Li_insertBend ∈ gT := gT_t 282 (by decide +kernel) (by decide +kernel)
theorem tw_284 : Cond.instanceMethod y_Li_insertBend ∈ gT := gT_t 284 (by decide +kernel) (by decide +kernel)
theorem tw_285 : Cond.code y_Li_insertBend c_Li_insertBend 3 (none) ∈ gT := gT_t 285 (by decide +kernel) (by decide +kernel)
theorem tw_286 : Cond.methodLink R_Li 51 y_Li_setSites ∈ gT := gT_t 286 (by decide +kernel) (by decide +kernel)
theorem tw_288 : Cond.instanceMethod y_Li_setSites ∈ gT := gT_t 288 (by decide +kernel) (by decide +kernel)
theorem tw_289 : Cond.code y_Li_setSites c_Li_setSites 5 (none) ∈ gT := gT_t 289 (by decide +kernel) (by decide +kernel)
theorem tw_29 : Cond.code Lib.Math.max.name Lib.Math.max.code 2 (some .int) ∈ gT := gT_t 29 (by decide +kernel) (by decide +kernel)
theorem tw_290 : Cond.methodLink R_Li 75 Lib.Math.abs.name ∈ gT := gT_t 290 (by decide +kernel) (by decide +kernel)
theorem tw_291 : Cond.methodLink R_Fi 65 y_Fi_append ∈ gT := gT_t 291 (by decide +kernel) (by decide +kernel)
theorem tw_293 : Cond.instanceMethod y_Fi_append ∈ gT := gT_t 293 (by decide +kernel) (by decide +kernel)
theorem tw_294 : Cond.code y_Fi_append c_Fi_append 3 (none) ∈ gT := gT_t 294 (by decide +kernel) (by decide +kernel)
theorem tw_295 : Cond.methodLink R_Fi 69 y_Fi_settle ∈ gT := gT_t 295 (by decide +kernel) (by decide +kernel)
theorem tw_297 : Cond.instanceMethod y_Fi_settle ∈ gT := gT_t 297 (by decide +kernel) (by decide +kernel)
theorem tw_298 : Cond.code y_Fi_settle c_Fi_settle 2 (none) ∈ gT := gT_t 298 (by decide +kernel) (by decide +kernel)
theorem tw_299 : Cond.methodLink R_Fi 118 y_Li_putCells ∈ gT := gT_t 299 (by decide +kernel) (by decide +kernel)
theorem tw_3 : Cond.initialized R_Gr ∈ gT := gT_t 3 (by decide +kernel) (by decide +kernel)
theorem tw_300 : Cond.instanceMethod y_Li_putCells ∈ gT := gT_t 300 (by decide +kernel) (by decide +kernel)
theorem tw_301 : Cond.selects R_Li y_Li_putCells y_Li_putCells ∈ gT := gT_t 301 (by decide +kernel) (by decide +kernel)
theorem tw_302 : Cond.code y_Li_putCells c_Li_putCells 3 (none) ∈ gT := gT_t 302 (by decide +kernel) (by decide +kernel)
theorem tw_303 : Cond.methodLink R_Li 79 y_Ce_put ∈ gT := gT_t 303 (by decide +kernel) (by decide +kernel)
theorem tw_304 : Cond.instanceMethod y_Ce_put ∈ gT := gT_t 304 (by decide +kernel) (by decide +kernel)
theorem tw_305 : Cond.selects R_Ce y_Ce_put y_Ce_put ∈ gT := gT_t 305 (by decide +kernel) (by decide +kernel)
theorem tw_306 : Cond.code y_Ce_put c_Ce_put 4 (none) ∈ gT := gT_t 306 (by decide +kernel) (by decide +kernel)
theorem tw_4 : Cond.initialized R_Ce ∈ gT := gT_t 4 (by decide +kernel) (by decide +kernel)
theorem tw_462 : Cond.methodLink R_Gr 29 Lib.Math.max.name ∈ gT := gT_t 462 (by decide +kernel) (by decide +kernel)
theorem tw_463 : Cond.methodLink R_Gr 35 Lib.Math.min.name ∈ gT := gT_t 463 (by decide +kernel) (by decide +kernel)
theorem tw_464 : Cond.methodLink R_Gr 38 y_Gr_cutPart ∈ gT := gT_t 464 (by decide +kernel) (by decide +kernel)
theorem tw_466 : Cond.instanceMethod y_Gr_cutPart ∈ gT := gT_t 466 (by decide +kernel) (by decide +kernel)
theorem tw_467 : Cond.code y_Gr_cutPart c_Gr_cutPart 6 (none) ∈ gT := gT_t 467 (by decide +kernel) (by decide +kernel)
theorem tw_468 : Cond.methodLink R_Gr 42 y_Gr_insertBehind ∈ gT := gT_t 468 (by decide +kernel) (by decide +kernel)
theorem tw_47 : Cond.fieldLink R_Gr 16 "LegalRows$Ground" "partRow" "[I" ∈ gT := gT_t 47 (by decide +kernel) (by decide +kernel)
theorem tw_470 : Cond.instanceMethod y_Gr_insertBehind ∈ gT := gT_t 470 (by decide +kernel) (by decide +kernel)
theorem tw_471 : Cond.code y_Gr_insertBehind c_Gr_insertBehind 4 (none) ∈ gT := gT_t 471 (by decide +kernel) (by decide +kernel)
theorem tw_472 : Cond.methodLink R_Gr 49 y_Gr_shiftParts ∈ gT := gT_t 472 (by decide +kernel) (by decide +kernel)
theorem tw_474 : Cond.instanceMethod y_Gr_shiftParts ∈ gT := gT_t 474 (by decide +kernel) (by decide +kernel)
theorem tw_475 : Cond.code y_Gr_shiftParts c_Gr_shiftParts 4 (none) ∈ gT := gT_t 475 (by decide +kernel) (by decide +kernel)
theorem tw_476 : Cond.methodLink R_Gr 53 arraycopyName ∈ gT := gT_t 476 (by decide +kernel) (by decide +kernel)
theorem tw_477 : Cond.static arraycopyName ∈ gT := gT_t 477 (by decide +kernel) (by decide +kernel)
theorem tw_478 : Cond.native arraycopyName ∈ gT := gT_t 478 (by decide +kernel) (by decide +kernel)
theorem tw_479 : Cond.methodLink R_Gr 45 y_Gr_remove ∈ gT := gT_t 479 (by decide +kernel) (by decide +kernel)
theorem tw_48 : Cond.fieldLink R_Fi 35 "LegalRows$Ground" "partRow" "[I" ∈ gT := gT_t 48 (by decide +kernel) (by decide +kernel)
theorem tw_481 : Cond.instanceMethod y_Gr_remove ∈ gT := gT_t 481 (by decide +kernel) (by decide +kernel)
theorem tw_482 : Cond.code y_Gr_remove c_Gr_remove 2 (none) ∈ gT := gT_t 482 (by decide +kernel) (by decide +kernel)
theorem tw_49 : Cond.fieldLink R_Gr 20 "LegalRows$Ground" "partFrom" "[I" ∈ gT := gT_t 49 (by decide +kernel) (by decide +kernel)
theorem tw_5 : Cond.initialized R_Ne ∈ gT := gT_t 5 (by decide +kernel) (by decide +kernel)
theorem tw_50 : Cond.fieldLink R_Fi 92 "LegalRows$Ground" "partFrom" "[I" ∈ gT := gT_t 50 (by decide +kernel) (by decide +kernel)
theorem tw_51 : Cond.fieldLink R_Gr 23 "LegalRows$Ground" "partTo" "[I" ∈ gT := gT_t 51 (by decide +kernel) (by decide +kernel)
theorem tw_52 : Cond.fieldLink R_Fi 98 "LegalRows$Ground" "partTo" "[I" ∈ gT := gT_t 52 (by decide +kernel) (by decide +kernel)
theorem tw_53 : Cond.fieldLink R_Gr 26 "LegalRows$Ground" "parts" "I" ∈ gT := gT_t 53 (by decide +kernel) (by decide +kernel)
theorem tw_54 : Cond.fieldLink R_Fi 73 "LegalRows$Ground" "parts" "I" ∈ gT := gT_t 54 (by decide +kernel) (by decide +kernel)
theorem tw_541 : Cond.methodLink R_Ce 53 y_Ce_rowCost ∈ gT := gT_t 541 (by decide +kernel) (by decide +kernel)
theorem tw_561 : Cond.methodLink R_Ne 40 y_Ce_alike ∈ gT := gT_t 561 (by decide +kernel) (by decide +kernel)
theorem tw_562 : Cond.instanceMethod y_Ce_alike ∈ gT := gT_t 562 (by decide +kernel) (by decide +kernel)
theorem tw_563 : Cond.selects R_Ce y_Ce_alike y_Ce_alike ∈ gT := gT_t 563 (by decide +kernel) (by decide +kernel)
theorem tw_564 : Cond.code y_Ce_alike c_Ce_alike 3 (some .boolean) ∈ gT := gT_t 564 (by decide +kernel) (by decide +kernel)
theorem tw_565 : Cond.methodLink R_Ne 44 y_Ne_gainOfCellAt ∈ gT := gT_t 565 (by decide +kernel) (by decide +kernel)
theorem tw_567 : Cond.instanceMethod y_Ne_gainOfCellAt ∈ gT := gT_t 567 (by decide +kernel) (by decide +kernel)
theorem tw_568 : Cond.code y_Ne_gainOfCellAt c_Ne_gainOfCellAt 7 (some .int) ∈ gT := gT_t 568 (by decide +kernel) (by decide +kernel)
theorem tw_569 : Cond.methodLink R_Ne 33 y_Ce_distance ∈ gT := gT_t 569 (by decide +kernel) (by decide +kernel)
theorem tw_570 : Cond.instanceMethod y_Ce_distance ∈ gT := gT_t 570 (by decide +kernel) (by decide +kernel)
theorem tw_571 : Cond.selects R_Ce y_Ce_distance y_Ce_distance ∈ gT := gT_t 571 (by decide +kernel) (by decide +kernel)
theorem tw_572 : Cond.code y_Ce_distance c_Ce_distance 4 (some .int) ∈ gT := gT_t 572 (by decide +kernel) (by decide +kernel)
theorem tw_573 : Cond.methodLink R_Ce 44 y_Ce_end ∈ gT := gT_t 573 (by decide +kernel) (by decide +kernel)
theorem tw_574 : Cond.instanceMethod y_Ce_end ∈ gT := gT_t 574 (by decide +kernel) (by decide +kernel)
theorem tw_575 : Cond.selects R_Ce y_Ce_end y_Ce_end ∈ gT := gT_t 575 (by decide +kernel) (by decide +kernel)
theorem tw_576 : Cond.code y_Ce_end c_Ce_end 2 (some .int) ∈ gT := gT_t 576 (by decide +kernel) (by decide +kernel)
theorem tw_577 : Cond.methodLink R_Ne 47 y_Ce_exchange ∈ gT := gT_t 577 (by decide +kernel) (by decide +kernel)
theorem tw_578 : Cond.instanceMethod y_Ce_exchange ∈ gT := gT_t 578 (by decide +kernel) (by decide +kernel)
theorem tw_579 : Cond.selects R_Ce y_Ce_exchange y_Ce_exchange ∈ gT := gT_t 579 (by decide +kernel) (by decide +kernel)
theorem tw_580 : Cond.code y_Ce_exchange c_Ce_exchange 5 (none) ∈ gT := gT_t 580 (by decide +kernel) (by decide +kernel)
theorem tw_581 : Cond.methodLink R_Ce 40 y_Ce_put ∈ gT := gT_t 581 (by decide +kernel) (by decide +kernel)
theorem tw_595 : Cond.methodLink R_Ne 29 y_Ne_chain ∈ gT := gT_t 595 (by decide +kernel) (by decide +kernel)
theorem tw_597 : Cond.instanceMethod y_Ne_chain ∈ gT := gT_t 597 (by decide +kernel) (by decide +kernel)
theorem tw_598 : Cond.code y_Ne_chain c_Ne_chain 3 (none) ∈ gT := gT_t 598 (by decide +kernel) (by decide +kernel)
theorem tw_6 : Cond.initialized R_Fi ∈ gT := gT_t 6 (by decide +kernel) (by decide +kernel)
theorem tw_634 : Cond.fieldLink R_Mo 76 "LegalRowsModel" "code" "I" ∈ gT := gT_t 634 (by decide +kernel) (by decide +kernel)
theorem tw_635 : Cond.fieldLink R_Mo 67 "LegalRowsModel" "rows" "I" ∈ gT := gT_t 635 (by decide +kernel) (by decide +kernel)
theorem tw_636 : Cond.fieldLink R_Mo 73 "LegalRowsModel" "sites" "I" ∈ gT := gT_t 636 (by decide +kernel) (by decide +kernel)
theorem tw_637 : Cond.fieldLink R_Mo 7 "LegalRowsModel" "barred" "[Z" ∈ gT := gT_t 637 (by decide +kernel) (by decide +kernel)
theorem tw_638 : Cond.fieldLink R_Mo 79 "LegalRowsModel" "cells" "I" ∈ gT := gT_t 638 (by decide +kernel) (by decide +kernel)
theorem tw_639 : Cond.fieldLink R_Mo 13 "LegalRowsModel" "widths" "[I" ∈ gT := gT_t 639 (by decide +kernel) (by decide +kernel)
theorem tw_640 : Cond.fieldLink R_Mo 17 "LegalRowsModel" "lefts" "[I" ∈ gT := gT_t 640 (by decide +kernel) (by decide +kernel)
theorem tw_641 : Cond.fieldLink R_Mo 20 "LegalRowsModel" "rights" "[I" ∈ gT := gT_t 641 (by decide +kernel) (by decide +kernel)
theorem tw_642 : Cond.fieldLink R_Mo 23 "LegalRowsModel" "wantedX" "[I" ∈ gT := gT_t 642 (by decide +kernel) (by decide +kernel)
theorem tw_643 : Cond.fieldLink R_Mo 26 "LegalRowsModel" "wantedRow" "[I" ∈ gT := gT_t 643 (by decide +kernel) (by decide +kernel)
theorem tw_644 : Cond.fieldLink R_Mo 29 "LegalRowsModel" "spaces" "[I" ∈ gT := gT_t 644 (by decide +kernel) (by decide +kernel)
theorem tw_645 : Cond.fieldLink R_Mo 32 "LegalRowsModel" "netA" "[I" ∈ gT := gT_t 645 (by decide +kernel) (by decide +kernel)
theorem tw_646 : Cond.fieldLink R_Mo 35 "LegalRowsModel" "netB" "[I" ∈ gT := gT_t 646 (by decide +kernel) (by decide +kernel)
theorem tw_647 : Cond.fieldLink R_Mo 161 "LegalRowsModel" "nets" "I" ∈ gT := gT_t 647 (by decide +kernel) (by decide +kernel)
theorem tw_648 : Cond.fieldLink R_Mo 38 "LegalRowsModel" "atX" "[I" ∈ gT := gT_t 648 (by decide +kernel) (by decide +kernel)
theorem tw_649 : Cond.fieldLink R_Mo 41 "LegalRowsModel" "atRow" "[I" ∈ gT := gT_t 649 (by decide +kernel) (by decide +kernel)
theorem tw_650 : Cond.fieldLink R_Mo 44 "LegalRowsModel" "partOf" "[I" ∈ gT := gT_t 650 (by decide +kernel) (by decide +kernel)
theorem tw_651 : Cond.fieldLink R_Mo 84 "LegalRowsModel" "placed" "Z" ∈ gT := gT_t 651 (by decide +kernel) (by decide +kernel)
theorem tw_652 : Cond.fieldLink R_Mo 47 "LegalRowsModel" "line" "[I" ∈ gT := gT_t 652 (by decide +kernel) (by decide +kernel)
theorem tw_653 : Cond.fieldLink R_Mo 100 "LegalRowsModel" "many" "I" ∈ gT := gT_t 653 (by decide +kernel) (by decide +kernel)
theorem tw_654 : Cond.fieldLink R_Mo 118 "LegalRowsModel" "first" "I" ∈ gT := gT_t 654 (by decide +kernel) (by decide +kernel)
theorem tw_655 : Cond.fieldLink R_Mo 106 "LegalRowsModel" "end" "I" ∈ gT := gT_t 655 (by decide +kernel) (by decide +kernel)
theorem tw_656 : Cond.fieldLink R_Mo 51 "LegalRowsModel" "table" "[J" ∈ gT := gT_t 656 (by decide +kernel) (by decide +kernel)
theorem tw_657 : Cond.fieldLink R_Mo 55 "LegalRowsModel" "order" "[I" ∈ gT := gT_t 657 (by decide +kernel) (by decide +kernel)
theorem tw_658 : Cond.fieldLink R_Mo 103 "LegalRowsModel" "turns" "I" ∈ gT := gT_t 658 (by decide +kernel) (by decide +kernel)
theorem tw_659 : Cond.fieldLink R_Mo 58 "LegalRowsModel" "fronts" "[J" ∈ gT := gT_t 659 (by decide +kernel) (by decide +kernel)
theorem tw_660 : Cond.fieldLink R_Mo 61 "LegalRowsModel" "lasts" "[I" ∈ gT := gT_t 660 (by decide +kernel) (by decide +kernel)
theorem tw_661 : Cond.fieldLink R_Mo 64 "LegalRowsModel" "trial" "[J" ∈ gT := gT_t 661 (by decide +kernel) (by decide +kernel)
theorem tw_7 : Cond.initialized R_Li ∈ gT := gT_t 7 (by decide +kernel) (by decide +kernel)
theorem tw_729 : Cond.constantLong R_Mo 82 40 ∈ gT := gT_t 729 (by decide +kernel) (by decide +kernel)
theorem tw_734 : Cond.methodLink R_Mo 88 y_Mo_isCell ∈ gT := gT_t 734 (by decide +kernel) (by decide +kernel)
theorem tw_736 : Cond.instanceMethod y_Mo_isCell ∈ gT := gT_t 736 (by decide +kernel) (by decide +kernel)
theorem tw_737 : Cond.code y_Mo_isCell c_Mo_isCell 2 (some .boolean) ∈ gT := gT_t 737 (by decide +kernel) (by decide +kernel)
theorem tw_738 : Cond.methodLink R_Mo 92 y_Mo_isRow ∈ gT := gT_t 738 (by decide +kernel) (by decide +kernel)
theorem tw_740 : Cond.instanceMethod y_Mo_isRow ∈ gT := gT_t 740 (by decide +kernel) (by decide +kernel)
theorem tw_741 : Cond.code y_Mo_isRow c_Mo_isRow 2 (some .boolean) ∈ gT := gT_t 741 (by decide +kernel) (by decide +kernel)
theorem tw_75 : Cond.fieldLink R_Ce 9 "LegalRows$Cells" "width" "[I" ∈ gT := gT_t 75 (by decide +kernel) (by decide +kernel)
theorem tw_750 : Cond.methodLink R_Mo 95 y_Mo_isKind ∈ gT := gT_t 750 (by decide +kernel) (by decide +kernel)
theorem tw_751 : Cond.static y_Mo_isKind ∈ gT := gT_t 751 (by decide +kernel) (by decide +kernel)
theorem tw_752 : Cond.code y_Mo_isKind c_Mo_isKind 1 (some .boolean) ∈ gT := gT_t 752 (by decide +kernel) (by decide +kernel)
theorem tw_757 : Cond.constantLong R_Mo 98 20 ∈ gT := gT_t 757 (by decide +kernel) (by decide +kernel)
theorem tw_76 : Cond.fieldLink R_Li 44 "LegalRows$Cells" "width" "[I" ∈ gT := gT_t 76 (by decide +kernel) (by decide +kernel)
theorem tw_762 : Cond.methodLink R_Mo 143 y_Mo_sort ∈ gT := gT_t 762 (by decide +kernel) (by decide +kernel)
theorem tw_764 : Cond.instanceMethod y_Mo_sort ∈ gT := gT_t 764 (by decide +kernel) (by decide +kernel)
theorem tw_765 : Cond.code y_Mo_sort c_Mo_sort 3 (none) ∈ gT := gT_t 765 (by decide +kernel) (by decide +kernel)
theorem tw_766 : Cond.methodLink R_Mo 146 y_Mo_isTaken ∈ gT := gT_t 766 (by decide +kernel) (by decide +kernel)
theorem tw_768 : Cond.instanceMethod y_Mo_isTaken ∈ gT := gT_t 768 (by decide +kernel) (by decide +kernel)
theorem tw_769 : Cond.code y_Mo_isTaken c_Mo_isTaken 11 (some .boolean) ∈ gT := gT_t 769 (by decide +kernel) (by decide +kernel)
theorem tw_77 : Cond.fieldLink R_Fi 95 "LegalRows$Cells" "width" "[I" ∈ gT := gT_t 77 (by decide +kernel) (by decide +kernel)
theorem tw_770 : Cond.constantLong R_Mo 109 1000000000 ∈ gT := gT_t 770 (by decide +kernel) (by decide +kernel)
theorem tw_771 : Cond.methodLink R_Mo 129 y_Mo_isBegin ∈ gT := gT_t 771 (by decide +kernel) (by decide +kernel)
theorem tw_773 : Cond.instanceMethod y_Mo_isBegin ∈ gT := gT_t 773 (by decide +kernel) (by decide +kernel)
theorem tw_774 : Cond.code y_Mo_isBegin c_Mo_isBegin 3 (some .boolean) ∈ gT := gT_t 774 (by decide +kernel) (by decide +kernel)
theorem tw_775 : Cond.methodLink R_Mo 133 y_Mo_endOf ∈ gT := gT_t 775 (by decide +kernel) (by decide +kernel)
theorem tw_777 : Cond.instanceMethod y_Mo_endOf ∈ gT := gT_t 777 (by decide +kernel) (by decide +kernel)
theorem tw_778 : Cond.code y_Mo_endOf c_Mo_endOf 4 (some .int) ∈ gT := gT_t 778 (by decide +kernel) (by decide +kernel)
theorem tw_779 : Cond.methodLink R_Mo 136 y_Mo_with ∈ gT := gT_t 779 (by decide +kernel) (by decide +kernel)
theorem tw_78 : Cond.fieldLink R_Ce 15 "LegalRows$Cells" "left" "[I" ∈ gT := gT_t 78 (by decide +kernel) (by decide +kernel)
theorem tw_781 : Cond.instanceMethod y_Mo_with ∈ gT := gT_t 781 (by decide +kernel) (by decide +kernel)
theorem tw_782 : Cond.code y_Mo_with c_Mo_with 12 (some .long) ∈ gT := gT_t 782 (by decide +kernel) (by decide +kernel)
theorem tw_783 : Cond.methodLink R_Mo 115 y_Mo_far ∈ gT := gT_t 783 (by decide +kernel) (by decide +kernel)
theorem tw_784 : Cond.static y_Mo_far ∈ gT := gT_t 784 (by decide +kernel) (by decide +kernel)
theorem tw_785 : Cond.code y_Mo_far c_Mo_far 2 (some .int) ∈ gT := gT_t 785 (by decide +kernel) (by decide +kernel)
theorem tw_786 : Cond.methodLink R_Mo 139 y_Mo_without ∈ gT := gT_t 786 (by decide +kernel) (by decide +kernel)
theorem tw_788 : Cond.instanceMethod y_Mo_without ∈ gT := gT_t 788 (by decide +kernel) (by decide +kernel)
theorem tw_789 : Cond.code y_Mo_without c_Mo_without 2 (some .long) ∈ gT := gT_t 789 (by decide +kernel) (by decide +kernel)
theorem tw_79 : Cond.fieldLink R_Ce 18 "LegalRows$Cells" "right" "[I" ∈ gT := gT_t 79 (by decide +kernel) (by decide +kernel)
theorem tw_790 : Cond.methodLink R_Mo 149 y_Mo_gather ∈ gT := gT_t 790 (by decide +kernel) (by decide +kernel)
theorem tw_792 : Cond.instanceMethod y_Mo_gather ∈ gT := gT_t 792 (by decide +kernel) (by decide +kernel)
theorem tw_793 : Cond.code y_Mo_gather c_Mo_gather 5 (none) ∈ gT := gT_t 793 (by decide +kernel) (by decide +kernel)
theorem tw_794 : Cond.methodLink R_Mo 153 y_Mo_settle ∈ gT := gT_t 794 (by decide +kernel) (by decide +kernel)
theorem tw_796 : Cond.instanceMethod y_Mo_settle ∈ gT := gT_t 796 (by decide +kernel) (by decide +kernel)
theorem tw_797 : Cond.code y_Mo_settle c_Mo_settle 6 (none) ∈ gT := gT_t 797 (by decide +kernel) (by decide +kernel)
theorem tw_798 : Cond.methodLink R_Mo 125 y_Mo_lay ∈ gT := gT_t 798 (by decide +kernel) (by decide +kernel)
theorem tw_8 : Cond.initialized R_Mo ∈ gT := gT_t 8 (by decide +kernel) (by decide +kernel)
theorem tw_80 : Cond.fieldLink R_Ce 21 "LegalRows$Cells" "wantedSite" "[I" ∈ gT := gT_t 80 (by decide +kernel) (by decide +kernel)
theorem tw_800 : Cond.instanceMethod y_Mo_lay ∈ gT := gT_t 800 (by decide +kernel) (by decide +kernel)
theorem tw_801 : Cond.code y_Mo_lay c_Mo_lay 7 (some .long) ∈ gT := gT_t 801 (by decide +kernel) (by decide +kernel)
theorem tw_802 : Cond.methodLink R_Mo 121 y_Mo_costAt ∈ gT := gT_t 802 (by decide +kernel) (by decide +kernel)
theorem tw_804 : Cond.instanceMethod y_Mo_costAt ∈ gT := gT_t 804 (by decide +kernel) (by decide +kernel)
theorem tw_805 : Cond.code y_Mo_costAt c_Mo_costAt 6 (some .long) ∈ gT := gT_t 805 (by decide +kernel) (by decide +kernel)
theorem tw_806 : Cond.methodLink R_Mo 111 y_Mo_behind ∈ gT := gT_t 806 (by decide +kernel) (by decide +kernel)
theorem tw_808 : Cond.instanceMethod y_Mo_behind ∈ gT := gT_t 808 (by decide +kernel) (by decide +kernel)
theorem tw_809 : Cond.code y_Mo_behind c_Mo_behind 4 (some .int) ∈ gT := gT_t 809 (by decide +kernel) (by decide +kernel)
theorem tw_81 : Cond.fieldLink R_Fi 76 "LegalRows$Cells" "wantedSite" "[I" ∈ gT := gT_t 81 (by decide +kernel) (by decide +kernel)
theorem tw_814 : Cond.methodLink R_Mo 157 y_Mo_faultOf ∈ gT := gT_t 814 (by decide +kernel) (by decide +kernel)
theorem tw_816 : Cond.instanceMethod y_Mo_faultOf ∈ gT := gT_t 816 (by decide +kernel) (by decide +kernel)
theorem tw_817 : Cond.code y_Mo_faultOf c_Mo_faultOf 2 (some .int) ∈ gT := gT_t 817 (by decide +kernel) (by decide +kernel)
theorem tw_82 : Cond.fieldLink R_Li 57 "LegalRows$Cells" "wantedSite" "[I" ∈ gT := gT_t 82 (by decide +kernel) (by decide +kernel)
theorem tw_83 : Cond.fieldLink R_Ce 24 "LegalRows$Cells" "wantedRow" "[I" ∈ gT := gT_t 83 (by decide +kernel) (by decide +kernel)
theorem tw_834 : Cond.methodLink R_Mo 170 y_Mo_isExchanged ∈ gT := gT_t 834 (by decide +kernel) (by decide +kernel)
theorem tw_836 : Cond.instanceMethod y_Mo_isExchanged ∈ gT := gT_t 836 (by decide +kernel) (by decide +kernel)
theorem tw_837 : Cond.code y_Mo_isExchanged c_Mo_isExchanged 5 (some .boolean) ∈ gT := gT_t 837 (by decide +kernel) (by decide +kernel)
theorem tw_838 : Cond.methodLink R_Mo 164 y_Mo_wireOf ∈ gT := gT_t 838 (by decide +kernel) (by decide +kernel)
theorem tw_84 : Cond.fieldLink R_Ce 27 "LegalRows$Cells" "site" "[I" ∈ gT := gT_t 84 (by decide +kernel) (by decide +kernel)
theorem tw_840 : Cond.instanceMethod y_Mo_wireOf ∈ gT := gT_t 840 (by decide +kernel) (by decide +kernel)
theorem tw_841 : Cond.code y_Mo_wireOf c_Mo_wireOf 6 (some .long) ∈ gT := gT_t 841 (by decide +kernel) (by decide +kernel)
theorem tw_842 : Cond.methodLink R_Mo 167 y_Mo_exchange ∈ gT := gT_t 842 (by decide +kernel) (by decide +kernel)
theorem tw_844 : Cond.instanceMethod y_Mo_exchange ∈ gT := gT_t 844 (by decide +kernel) (by decide +kernel)
theorem tw_845 : Cond.code y_Mo_exchange c_Mo_exchange 5 (none) ∈ gT := gT_t 845 (by decide +kernel) (by decide +kernel)
theorem tw_86 : Cond.fieldLink R_Ce 30 "LegalRows$Cells" "row" "[I" ∈ gT := gT_t 86 (by decide +kernel) (by decide +kernel)
theorem tw_88 : Cond.fieldLink R_Ce 33 "LegalRows$Cells" "spaces" "[I" ∈ gT := gT_t 88 (by decide +kernel) (by decide +kernel)
theorem tw_90 : Cond.fieldLink R_Ce 36 "LegalRows$Cells" "count" "I" ∈ gT := gT_t 90 (by decide +kernel) (by decide +kernel)
theorem tw_91 : Cond.fieldLink R_Fi 55 "LegalRows$Cells" "count" "I" ∈ gT := gT_t 91 (by decide +kernel) (by decide +kernel)
theorem tw_92 : Cond.fieldLink R_Ne 39 "LegalRows$Cells" "count" "I" ∈ gT := gT_t 92 (by decide +kernel) (by decide +kernel)
theorem tw_s_Fi_append : Cond.selects R_Fi y_Fi_append y_Fi_append ∈ gT := gT_s (by decide +kernel) (by decide +kernel)
theorem tw_s_Fi_cheapestPart : Cond.selects R_Fi y_Fi_cheapestPart y_Fi_cheapestPart ∈ gT := gT_s (by decide +kernel) (by decide +kernel)
theorem tw_s_Fi_costAtLeast : Cond.selects R_Fi y_Fi_costAtLeast y_Fi_costAtLeast ∈ gT := gT_s (by decide +kernel) (by decide +kernel)
theorem tw_s_Fi_emptyParts : Cond.selects R_Fi y_Fi_emptyParts y_Fi_emptyParts ∈ gT := gT_s (by decide +kernel) (by decide +kernel)
theorem tw_s_Fi_gather : Cond.selects R_Fi y_Fi_gather y_Fi_gather ∈ gT := gT_s (by decide +kernel) (by decide +kernel)
theorem tw_s_Fi_layWith : Cond.selects R_Fi y_Fi_layWith y_Fi_layWith ∈ gT := gT_s (by decide +kernel) (by decide +kernel)
theorem tw_s_Fi_orderCells : Cond.selects R_Fi y_Fi_orderCells y_Fi_orderCells ∈ gT := gT_s (by decide +kernel) (by decide +kernel)
theorem tw_s_Fi_settle : Cond.selects R_Fi y_Fi_settle y_Fi_settle ∈ gT := gT_s (by decide +kernel) (by decide +kernel)
theorem tw_s_Gr_cutPart : Cond.selects R_Gr y_Gr_cutPart y_Gr_cutPart ∈ gT := gT_s (by decide +kernel) (by decide +kernel)
theorem tw_s_Gr_insertBehind : Cond.selects R_Gr y_Gr_insertBehind y_Gr_insertBehind ∈ gT := gT_s (by decide +kernel) (by decide +kernel)
theorem tw_s_Gr_remove : Cond.selects R_Gr y_Gr_remove y_Gr_remove ∈ gT := gT_s (by decide +kernel) (by decide +kernel)
theorem tw_s_Gr_shiftParts : Cond.selects R_Gr y_Gr_shiftParts y_Gr_shiftParts ∈ gT := gT_s (by decide +kernel) (by decide +kernel)
theorem tw_s_Li_findBestShifts : Cond.selects R_Li y_Li_findBestShifts y_Li_findBestShifts ∈ gT := gT_s (by decide +kernel) (by decide +kernel)
theorem tw_s_Li_insertBend : Cond.selects R_Li y_Li_insertBend y_Li_insertBend ∈ gT := gT_s (by decide +kernel) (by decide +kernel)
theorem tw_s_Li_setSites : Cond.selects R_Li y_Li_setSites y_Li_setSites ∈ gT := gT_s (by decide +kernel) (by decide +kernel)
theorem tw_s_Mo_behind : Cond.selects R_Mo y_Mo_behind y_Mo_behind ∈ gT := gT_s (by decide +kernel) (by decide +kernel)
theorem tw_s_Mo_costAt : Cond.selects R_Mo y_Mo_costAt y_Mo_costAt ∈ gT := gT_s (by decide +kernel) (by decide +kernel)
theorem tw_s_Mo_endOf : Cond.selects R_Mo y_Mo_endOf y_Mo_endOf ∈ gT := gT_s (by decide +kernel) (by decide +kernel)
theorem tw_s_Mo_exchange : Cond.selects R_Mo y_Mo_exchange y_Mo_exchange ∈ gT := gT_s (by decide +kernel) (by decide +kernel)
theorem tw_s_Mo_faultOf : Cond.selects R_Mo y_Mo_faultOf y_Mo_faultOf ∈ gT := gT_s (by decide +kernel) (by decide +kernel)
theorem tw_s_Mo_gather : Cond.selects R_Mo y_Mo_gather y_Mo_gather ∈ gT := gT_s (by decide +kernel) (by decide +kernel)
theorem tw_s_Mo_isBegin : Cond.selects R_Mo y_Mo_isBegin y_Mo_isBegin ∈ gT := gT_s (by decide +kernel) (by decide +kernel)
theorem tw_s_Mo_isCell : Cond.selects R_Mo y_Mo_isCell y_Mo_isCell ∈ gT := gT_s (by decide +kernel) (by decide +kernel)
theorem tw_s_Mo_isExchanged : Cond.selects R_Mo y_Mo_isExchanged y_Mo_isExchanged ∈ gT := gT_s (by decide +kernel) (by decide +kernel)
theorem tw_s_Mo_isRow : Cond.selects R_Mo y_Mo_isRow y_Mo_isRow ∈ gT := gT_s (by decide +kernel) (by decide +kernel)
theorem tw_s_Mo_isTaken : Cond.selects R_Mo y_Mo_isTaken y_Mo_isTaken ∈ gT := gT_s (by decide +kernel) (by decide +kernel)
theorem tw_s_Mo_lay : Cond.selects R_Mo y_Mo_lay y_Mo_lay ∈ gT := gT_s (by decide +kernel) (by decide +kernel)
theorem tw_s_Mo_settle : Cond.selects R_Mo y_Mo_settle y_Mo_settle ∈ gT := gT_s (by decide +kernel) (by decide +kernel)
theorem tw_s_Mo_sort : Cond.selects R_Mo y_Mo_sort y_Mo_sort ∈ gT := gT_s (by decide +kernel) (by decide +kernel)
theorem tw_s_Mo_wireOf : Cond.selects R_Mo y_Mo_wireOf y_Mo_wireOf ∈ gT := gT_s (by decide +kernel) (by decide +kernel)
theorem tw_s_Mo_with : Cond.selects R_Mo y_Mo_with y_Mo_with ∈ gT := gT_s (by decide +kernel) (by decide +kernel)
theorem tw_s_Mo_without : Cond.selects R_Mo y_Mo_without y_Mo_without ∈ gT := gT_s (by decide +kernel) (by decide +kernel)
theorem tw_s_Ne_chain : Cond.selects R_Ne y_Ne_chain y_Ne_chain ∈ gT := gT_s (by decide +kernel) (by decide +kernel)
theorem tw_s_Ne_gainOfCellAt : Cond.selects R_Ne y_Ne_gainOfCellAt y_Ne_gainOfCellAt ∈ gT := gT_s (by decide +kernel) (by decide +kernel)
end
section
theorem d_Lr_init_0 : decode c_Lr_init 0 = .ok (.aload_n 0, 1) := by decide +kernel
theorem d_Lr_init_1 : decode c_Lr_init 1 = .ok (.invokespecial 1, 3) := by decide +kernel
theorem d_Lr_init_4 : decode c_Lr_init 4 = .ok (.iconst 1, 1) := by decide +kernel
theorem d_Lr_init_5 : decode c_Lr_init 5 = .ok (.bipush 16, 2) := by decide +kernel
theorem d_Lr_init_7 : decode c_Lr_init 7 = .ok (.iload_n 1, 1) := by decide +kernel
theorem d_Lr_init_8 : decode c_Lr_init 8 = .ok (.invokestatic 9, 3) := by decide +kernel
theorem d_Lr_init_11 : decode c_Lr_init 11 = .ok (.invokestatic 15, 3) := by decide +kernel
theorem d_Lr_init_14 : decode c_Lr_init 14 = .ok (.istore 4, 2) := by decide +kernel
theorem d_Lr_init_16 : decode c_Lr_init 16 = .ok (.lconst 1, 1) := by decide +kernel
theorem d_Lr_init_17 : decode c_Lr_init 17 = .ok (.ldc2_w 18, 3) := by decide +kernel
theorem d_Lr_init_20 : decode c_Lr_init 20 = .ok (.lload_n 2, 1) := by decide +kernel
theorem d_Lr_init_21 : decode c_Lr_init 21 = .ok (.invokestatic 20, 3) := by decide +kernel
theorem d_Lr_init_24 : decode c_Lr_init 24 = .ok (.invokestatic 23, 3) := by decide +kernel
theorem d_Lr_init_27 : decode c_Lr_init 27 = .ok (.l2i, 1) := by decide +kernel
theorem d_Lr_init_28 : decode c_Lr_init 28 = .ok (.istore 5, 2) := by decide +kernel
theorem d_Lr_init_30 : decode c_Lr_init 30 = .ok (.aload_n 0, 1) := by decide +kernel
theorem d_Lr_init_31 : decode c_Lr_init 31 = .ok (.new 25, 3) := by decide +kernel
theorem d_Lr_init_34 : decode c_Lr_init 34 = .ok (.dup, 1) := by decide +kernel
theorem d_Lr_init_35 : decode c_Lr_init 35 = .ok (.iload 4, 2) := by decide +kernel
theorem d_Lr_init_37 : decode c_Lr_init 37 = .ok (.iload 5, 2) := by decide +kernel
theorem d_Lr_init_39 : decode c_Lr_init 39 = .ok (.invokespecial 27, 3) := by decide +kernel
theorem d_Lr_init_42 : decode c_Lr_init 42 = .ok (.putfield 30, 3) := by decide +kernel
theorem d_Lr_init_45 : decode c_Lr_init 45 = .ok (.aload_n 0, 1) := by decide +kernel
theorem d_Lr_init_46 : decode c_Lr_init 46 = .ok (.new 34, 3) := by decide +kernel
theorem d_Lr_init_49 : decode c_Lr_init 49 = .ok (.dup, 1) := by decide +kernel
theorem d_Lr_init_50 : decode c_Lr_init 50 = .ok (.invokespecial 36, 3) := by decide +kernel
theorem d_Lr_init_53 : decode c_Lr_init 53 = .ok (.putfield 37, 3) := by decide +kernel
theorem d_Lr_init_56 : decode c_Lr_init 56 = .ok (.aload_n 0, 1) := by decide +kernel
theorem d_Lr_init_57 : decode c_Lr_init 57 = .ok (.new 41, 3) := by decide +kernel
theorem d_Lr_init_60 : decode c_Lr_init 60 = .ok (.dup, 1) := by decide +kernel
theorem d_Lr_init_61 : decode c_Lr_init 61 = .ok (.aload_n 0, 1) := by decide +kernel
theorem d_Lr_init_62 : decode c_Lr_init 62 = .ok (.getfield 37, 3) := by decide +kernel
theorem d_Lr_init_65 : decode c_Lr_init 65 = .ok (.invokespecial 43, 3) := by decide +kernel
theorem d_Lr_init_68 : decode c_Lr_init 68 = .ok (.putfield 46, 3) := by decide +kernel
theorem d_Lr_init_71 : decode c_Lr_init 71 = .ok (.aload_n 0, 1) := by decide +kernel
theorem d_Lr_init_72 : decode c_Lr_init 72 = .ok (.new 50, 3) := by decide +kernel
theorem d_Lr_init_75 : decode c_Lr_init 75 = .ok (.dup, 1) := by decide +kernel
theorem d_Lr_init_76 : decode c_Lr_init 76 = .ok (.aload_n 0, 1) := by decide +kernel
theorem d_Lr_init_77 : decode c_Lr_init 77 = .ok (.getfield 30, 3) := by decide +kernel
theorem d_Lr_init_80 : decode c_Lr_init 80 = .ok (.aload_n 0, 1) := by decide +kernel
theorem d_Lr_init_81 : decode c_Lr_init 81 = .ok (.getfield 37, 3) := by decide +kernel
theorem d_Lr_init_84 : decode c_Lr_init 84 = .ok (.invokespecial 52, 3) := by decide +kernel
theorem d_Lr_init_87 : decode c_Lr_init 87 = .ok (.putfield 55, 3) := by decide +kernel
theorem d_Lr_init_90 : decode c_Lr_init 90 = .ok (.aload_n 0, 1) := by decide +kernel
theorem d_Lr_init_91 : decode c_Lr_init 91 = .ok (.iconst 0, 1) := by decide +kernel
theorem d_Lr_init_92 : decode c_Lr_init 92 = .ok (.putfield 59, 3) := by decide +kernel
theorem d_Lr_init_95 : decode c_Lr_init 95 = .ok (.return_, 1) := by decide +kernel
theorem d_Lr_cell_0 : decode c_Lr_cell 0 = .ok (.aload_n 0, 1) := by decide +kernel
theorem d_Lr_cell_1 : decode c_Lr_cell 1 = .ok (.getfield 37, 3) := by decide +kernel
theorem d_Lr_cell_4 : decode c_Lr_cell 4 = .ok (.getfield 63, 3) := by decide +kernel
theorem d_Lr_cell_7 : decode c_Lr_cell 7 = .ok (.bipush 60, 2) := by decide +kernel
theorem d_Lr_cell_9 : decode c_Lr_cell 9 = .ok (.if_icmp .lt 13, 3) := by decide +kernel
theorem d_Lr_cell_12 : decode c_Lr_cell 12 = .ok (.new 67, 3) := by decide +kernel
theorem d_Lr_cell_15 : decode c_Lr_cell 15 = .ok (.dup, 1) := by decide +kernel
theorem d_Lr_cell_16 : decode c_Lr_cell 16 = .ok (.ldc 69, 2) := by decide +kernel
theorem d_Lr_cell_18 : decode c_Lr_cell 18 = .ok (.invokespecial 71, 3) := by decide +kernel
theorem d_Lr_cell_21 : decode c_Lr_cell 21 = .ok (.athrow, 1) := by decide +kernel
theorem d_Lr_cell_22 : decode c_Lr_cell 22 = .ok (.lload_n 1, 1) := by decide +kernel
theorem d_Lr_cell_23 : decode c_Lr_cell 23 = .ok (.lconst 1, 1) := by decide +kernel
theorem d_Lr_cell_24 : decode c_Lr_cell 24 = .ok (.lcmp, 1) := by decide +kernel
theorem d_Lr_cell_25 : decode c_Lr_cell 25 = .ok (.ifCond .lt 16, 3) := by decide +kernel
theorem d_Lr_cell_28 : decode c_Lr_cell 28 = .ok (.lload_n 1, 1) := by decide +kernel
theorem d_Lr_cell_29 : decode c_Lr_cell 29 = .ok (.ldc2_w 74, 3) := by decide +kernel
theorem d_Lr_cell_32 : decode c_Lr_cell 32 = .ok (.lcmp, 1) := by decide +kernel
theorem d_Lr_cell_33 : decode c_Lr_cell 33 = .ok (.ifCond .gt 8, 3) := by decide +kernel
theorem d_Lr_cell_36 : decode c_Lr_cell 36 = .ok (.iload_n 3, 1) := by decide +kernel
theorem d_Lr_cell_37 : decode c_Lr_cell 37 = .ok (.iconst 1, 1) := by decide +kernel
theorem d_Lr_cell_38 : decode c_Lr_cell 38 = .ok (.if_icmp .eq 13, 3) := by decide +kernel
theorem d_Lr_cell_41 : decode c_Lr_cell 41 = .ok (.new 76, 3) := by decide +kernel
theorem d_Lr_cell_44 : decode c_Lr_cell 44 = .ok (.dup, 1) := by decide +kernel
theorem d_Lr_cell_45 : decode c_Lr_cell 45 = .ok (.ldc 78, 2) := by decide +kernel
theorem d_Lr_cell_47 : decode c_Lr_cell 47 = .ok (.invokespecial 80, 3) := by decide +kernel
theorem d_Lr_cell_50 : decode c_Lr_cell 50 = .ok (.athrow, 1) := by decide +kernel
theorem d_Lr_cell_51 : decode c_Lr_cell 51 = .ok (.aload_n 0, 1) := by decide +kernel
theorem d_Lr_cell_52 : decode c_Lr_cell 52 = .ok (.iconst 0, 1) := by decide +kernel
theorem d_Lr_cell_53 : decode c_Lr_cell 53 = .ok (.putfield 59, 3) := by decide +kernel
theorem d_Lr_cell_56 : decode c_Lr_cell 56 = .ok (.aload_n 0, 1) := by decide +kernel
theorem d_Lr_cell_57 : decode c_Lr_cell 57 = .ok (.getfield 37, 3) := by decide +kernel
theorem d_Lr_cell_60 : decode c_Lr_cell 60 = .ok (.lload_n 1, 1) := by decide +kernel
theorem d_Lr_cell_61 : decode c_Lr_cell 61 = .ok (.l2i, 1) := by decide +kernel
theorem d_Lr_cell_62 : decode c_Lr_cell 62 = .ok (.invokevirtual 81, 3) := by decide +kernel
theorem d_Lr_cell_65 : decode c_Lr_cell 65 = .ok (.ireturn, 1) := by decide +kernel
theorem d_Lr_want_0 : decode c_Lr_want 0 = .ok (.aload_n 0, 1) := by decide +kernel
theorem d_Lr_want_1 : decode c_Lr_want 1 = .ok (.iload_n 1, 1) := by decide +kernel
theorem d_Lr_want_2 : decode c_Lr_want 2 = .ok (.invokevirtual 85, 3) := by decide +kernel
theorem d_Lr_want_5 : decode c_Lr_want 5 = .ok (.aload_n 0, 1) := by decide +kernel
theorem d_Lr_want_6 : decode c_Lr_want 6 = .ok (.iload 4, 2) := by decide +kernel
theorem d_Lr_want_8 : decode c_Lr_want 8 = .ok (.invokevirtual 89, 3) := by decide +kernel
theorem d_Lr_want_11 : decode c_Lr_want 11 = .ok (.lload_n 2, 1) := by decide +kernel
theorem d_Lr_want_12 : decode c_Lr_want 12 = .ok (.lconst 0, 1) := by decide +kernel
theorem d_Lr_want_13 : decode c_Lr_want 13 = .ok (.lcmp, 1) := by decide +kernel
theorem d_Lr_want_14 : decode c_Lr_want 14 = .ok (.ifCond .lt 16, 3) := by decide +kernel
theorem d_Lr_want_17 : decode c_Lr_want 17 = .ok (.lload_n 2, 1) := by decide +kernel
theorem d_Lr_want_18 : decode c_Lr_want 18 = .ok (.aload_n 0, 1) := by decide +kernel
theorem d_Lr_want_19 : decode c_Lr_want 19 = .ok (.getfield 30, 3) := by decide +kernel
theorem d_Lr_want_22 : decode c_Lr_want 22 = .ok (.getfield 92, 3) := by decide +kernel
theorem d_Lr_want_25 : decode c_Lr_want 25 = .ok (.i2l, 1) := by decide +kernel
theorem d_Lr_want_26 : decode c_Lr_want 26 = .ok (.lcmp, 1) := by decide +kernel
theorem d_Lr_want_27 : decode c_Lr_want 27 = .ok (.ifCond .lt 13, 3) := by decide +kernel
theorem d_Lr_want_30 : decode c_Lr_want 30 = .ok (.new 95, 3) := by decide +kernel
theorem d_Lr_want_33 : decode c_Lr_want 33 = .ok (.dup, 1) := by decide +kernel
theorem d_Lr_want_34 : decode c_Lr_want 34 = .ok (.ldc 97, 2) := by decide +kernel
theorem d_Lr_want_36 : decode c_Lr_want 36 = .ok (.invokespecial 99, 3) := by decide +kernel
theorem d_Lr_want_39 : decode c_Lr_want 39 = .ok (.athrow, 1) := by decide +kernel
theorem d_Lr_want_40 : decode c_Lr_want 40 = .ok (.aload_n 0, 1) := by decide +kernel
theorem d_Lr_want_41 : decode c_Lr_want 41 = .ok (.aload_n 0, 1) := by decide +kernel
theorem d_Lr_want_42 : decode c_Lr_want 42 = .ok (.getfield 37, 3) := by decide +kernel
theorem d_Lr_want_45 : decode c_Lr_want 45 = .ok (.iload_n 1, 1) := by decide +kernel
theorem d_Lr_want_46 : decode c_Lr_want 46 = .ok (.lload_n 2, 1) := by decide +kernel
theorem d_Lr_want_47 : decode c_Lr_want 47 = .ok (.l2i, 1) := by decide +kernel
theorem d_Lr_want_48 : decode c_Lr_want 48 = .ok (.iload 4, 2) := by decide +kernel
theorem d_Lr_want_50 : decode c_Lr_want 50 = .ok (.invokevirtual 100, 3) := by decide +kernel
theorem d_Lr_want_53 : decode c_Lr_want 53 = .ok (.invokevirtual 104, 3) := by decide +kernel
theorem d_Lr_want_56 : decode c_Lr_want 56 = .ok (.ireturn, 1) := by decide +kernel
theorem d_Lr_bar_0 : decode c_Lr_bar 0 = .ok (.aload_n 0, 1) := by decide +kernel
theorem d_Lr_bar_1 : decode c_Lr_bar 1 = .ok (.iload_n 1, 1) := by decide +kernel
theorem d_Lr_bar_2 : decode c_Lr_bar 2 = .ok (.invokevirtual 89, 3) := by decide +kernel
theorem d_Lr_bar_5 : decode c_Lr_bar 5 = .ok (.lload_n 2, 1) := by decide +kernel
theorem d_Lr_bar_6 : decode c_Lr_bar 6 = .ok (.lconst 0, 1) := by decide +kernel
theorem d_Lr_bar_7 : decode c_Lr_bar 7 = .ok (.lcmp, 1) := by decide +kernel
theorem d_Lr_bar_8 : decode c_Lr_bar 8 = .ok (.ifCond .lt 37, 3) := by decide +kernel
theorem d_Lr_bar_11 : decode c_Lr_bar 11 = .ok (.lload_n 2, 1) := by decide +kernel
theorem d_Lr_bar_12 : decode c_Lr_bar 12 = .ok (.aload_n 0, 1) := by decide +kernel
theorem d_Lr_bar_13 : decode c_Lr_bar 13 = .ok (.getfield 30, 3) := by decide +kernel
theorem d_Lr_bar_16 : decode c_Lr_bar 16 = .ok (.getfield 92, 3) := by decide +kernel
theorem d_Lr_bar_19 : decode c_Lr_bar 19 = .ok (.i2l, 1) := by decide +kernel
theorem d_Lr_bar_20 : decode c_Lr_bar 20 = .ok (.lcmp, 1) := by decide +kernel
theorem d_Lr_bar_21 : decode c_Lr_bar 21 = .ok (.ifCond .gt 24, 3) := by decide +kernel
theorem d_Lr_bar_24 : decode c_Lr_bar 24 = .ok (.lload 4, 2) := by decide +kernel
theorem d_Lr_bar_26 : decode c_Lr_bar 26 = .ok (.lload_n 2, 1) := by decide +kernel
theorem d_Lr_bar_27 : decode c_Lr_bar 27 = .ok (.lcmp, 1) := by decide +kernel
theorem d_Lr_bar_28 : decode c_Lr_bar 28 = .ok (.ifCond .lt 17, 3) := by decide +kernel
theorem d_Lr_bar_31 : decode c_Lr_bar 31 = .ok (.lload 4, 2) := by decide +kernel
theorem d_Lr_bar_33 : decode c_Lr_bar 33 = .ok (.aload_n 0, 1) := by decide +kernel
theorem d_Lr_bar_34 : decode c_Lr_bar 34 = .ok (.getfield 30, 3) := by decide +kernel
theorem d_Lr_bar_37 : decode c_Lr_bar 37 = .ok (.getfield 92, 3) := by decide +kernel
theorem d_Lr_bar_40 : decode c_Lr_bar 40 = .ok (.i2l, 1) := by decide +kernel
theorem d_Lr_bar_41 : decode c_Lr_bar 41 = .ok (.lcmp, 1) := by decide +kernel
theorem d_Lr_bar_42 : decode c_Lr_bar 42 = .ok (.ifCond .le 13, 3) := by decide +kernel
theorem d_Lr_bar_45 : decode c_Lr_bar 45 = .ok (.new 95, 3) := by decide +kernel
theorem d_Lr_bar_48 : decode c_Lr_bar 48 = .ok (.dup, 1) := by decide +kernel
theorem d_Lr_bar_49 : decode c_Lr_bar 49 = .ok (.ldc 108, 2) := by decide +kernel
theorem d_Lr_bar_51 : decode c_Lr_bar 51 = .ok (.invokespecial 99, 3) := by decide +kernel
theorem d_Lr_bar_54 : decode c_Lr_bar 54 = .ok (.athrow, 1) := by decide +kernel
theorem d_Lr_bar_55 : decode c_Lr_bar 55 = .ok (.aload_n 0, 1) := by decide +kernel
theorem d_Lr_bar_56 : decode c_Lr_bar 56 = .ok (.aload_n 0, 1) := by decide +kernel
theorem d_Lr_bar_57 : decode c_Lr_bar 57 = .ok (.getfield 30, 3) := by decide +kernel
theorem d_Lr_bar_60 : decode c_Lr_bar 60 = .ok (.iload_n 1, 1) := by decide +kernel
theorem d_Lr_bar_61 : decode c_Lr_bar 61 = .ok (.lload_n 2, 1) := by decide +kernel
theorem d_Lr_bar_62 : decode c_Lr_bar 62 = .ok (.l2i, 1) := by decide +kernel
theorem d_Lr_bar_63 : decode c_Lr_bar 63 = .ok (.lload 4, 2) := by decide +kernel
theorem d_Lr_bar_65 : decode c_Lr_bar 65 = .ok (.l2i, 1) := by decide +kernel
theorem d_Lr_bar_66 : decode c_Lr_bar 66 = .ok (.invokevirtual 110, 3) := by decide +kernel
theorem d_Lr_bar_69 : decode c_Lr_bar 69 = .ok (.invokevirtual 104, 3) := by decide +kernel
theorem d_Lr_bar_72 : decode c_Lr_bar 72 = .ok (.ireturn, 1) := by decide +kernel
theorem d_Lr_kind_0 : decode c_Lr_kind 0 = .ok (.aload_n 0, 1) := by decide +kernel
theorem d_Lr_kind_1 : decode c_Lr_kind 1 = .ok (.iload_n 1, 1) := by decide +kernel
theorem d_Lr_kind_2 : decode c_Lr_kind 2 = .ok (.invokevirtual 85, 3) := by decide +kernel
theorem d_Lr_kind_5 : decode c_Lr_kind 5 = .ok (.iload_n 2, 1) := by decide +kernel
theorem d_Lr_kind_6 : decode c_Lr_kind 6 = .ok (.iload_n 3, 1) := by decide +kernel
theorem d_Lr_kind_7 : decode c_Lr_kind 7 = .ok (.invokestatic 113, 3) := by decide +kernel
theorem d_Lr_kind_10 : decode c_Lr_kind 10 = .ok (.aload_n 0, 1) := by decide +kernel
theorem d_Lr_kind_11 : decode c_Lr_kind 11 = .ok (.aload_n 0, 1) := by decide +kernel
theorem d_Lr_kind_12 : decode c_Lr_kind 12 = .ok (.getfield 37, 3) := by decide +kernel
theorem d_Lr_kind_15 : decode c_Lr_kind 15 = .ok (.iload_n 1, 1) := by decide +kernel
theorem d_Lr_kind_16 : decode c_Lr_kind 16 = .ok (.iload_n 2, 1) := by decide +kernel
theorem d_Lr_kind_17 : decode c_Lr_kind 17 = .ok (.iload_n 3, 1) := by decide +kernel
theorem d_Lr_kind_18 : decode c_Lr_kind 18 = .ok (.invokevirtual 116, 3) := by decide +kernel
theorem d_Lr_kind_21 : decode c_Lr_kind 21 = .ok (.invokevirtual 104, 3) := by decide +kernel
theorem d_Lr_kind_24 : decode c_Lr_kind 24 = .ok (.ireturn, 1) := by decide +kernel
theorem d_Lr_space_0 : decode c_Lr_space 0 = .ok (.iload_n 1, 1) := by decide +kernel
theorem d_Lr_space_1 : decode c_Lr_space 1 = .ok (.iload_n 2, 1) := by decide +kernel
theorem d_Lr_space_2 : decode c_Lr_space 2 = .ok (.invokestatic 113, 3) := by decide +kernel
theorem d_Lr_space_5 : decode c_Lr_space 5 = .ok (.lload_n 3, 1) := by decide +kernel
theorem d_Lr_space_6 : decode c_Lr_space 6 = .ok (.lconst 0, 1) := by decide +kernel
theorem d_Lr_space_7 : decode c_Lr_space 7 = .ok (.lcmp, 1) := by decide +kernel
theorem d_Lr_space_8 : decode c_Lr_space 8 = .ok (.ifCond .lt 11, 3) := by decide +kernel
theorem d_Lr_space_11 : decode c_Lr_space 11 = .ok (.lload_n 3, 1) := by decide +kernel
theorem d_Lr_space_12 : decode c_Lr_space 12 = .ok (.ldc2_w 119, 3) := by decide +kernel
theorem d_Lr_space_15 : decode c_Lr_space 15 = .ok (.lcmp, 1) := by decide +kernel
theorem d_Lr_space_16 : decode c_Lr_space 16 = .ok (.ifCond .le 13, 3) := by decide +kernel
theorem d_Lr_space_19 : decode c_Lr_space 19 = .ok (.new 76, 3) := by decide +kernel
theorem d_Lr_space_22 : decode c_Lr_space 22 = .ok (.dup, 1) := by decide +kernel
theorem d_Lr_space_23 : decode c_Lr_space 23 = .ok (.ldc 121, 2) := by decide +kernel
theorem d_Lr_space_25 : decode c_Lr_space 25 = .ok (.invokespecial 80, 3) := by decide +kernel
theorem d_Lr_space_28 : decode c_Lr_space 28 = .ok (.athrow, 1) := by decide +kernel
theorem d_Lr_space_29 : decode c_Lr_space 29 = .ok (.aload_n 0, 1) := by decide +kernel
theorem d_Lr_space_30 : decode c_Lr_space 30 = .ok (.aload_n 0, 1) := by decide +kernel
theorem d_Lr_space_31 : decode c_Lr_space 31 = .ok (.getfield 37, 3) := by decide +kernel
theorem d_Lr_space_34 : decode c_Lr_space 34 = .ok (.iload_n 1, 1) := by decide +kernel
theorem d_Lr_space_35 : decode c_Lr_space 35 = .ok (.iload_n 2, 1) := by decide +kernel
theorem d_Lr_space_36 : decode c_Lr_space 36 = .ok (.lload_n 3, 1) := by decide +kernel
theorem d_Lr_space_37 : decode c_Lr_space 37 = .ok (.l2i, 1) := by decide +kernel
theorem d_Lr_space_38 : decode c_Lr_space 38 = .ok (.invokevirtual 123, 3) := by decide +kernel
theorem d_Lr_space_41 : decode c_Lr_space 41 = .ok (.invokevirtual 104, 3) := by decide +kernel
theorem d_Lr_space_44 : decode c_Lr_space 44 = .ok (.ireturn, 1) := by decide +kernel
theorem d_Lr_run_0 : decode c_Lr_run 0 = .ok (.aload_n 0, 1) := by decide +kernel
theorem d_Lr_run_1 : decode c_Lr_run 1 = .ok (.getfield 55, 3) := by decide +kernel
theorem d_Lr_run_4 : decode c_Lr_run 4 = .ok (.invokevirtual 126, 3) := by decide +kernel
theorem d_Lr_run_7 : decode c_Lr_run 7 = .ok (.istore_n 1, 1) := by decide +kernel
theorem d_Lr_run_8 : decode c_Lr_run 8 = .ok (.aload_n 0, 1) := by decide +kernel
theorem d_Lr_run_9 : decode c_Lr_run 9 = .ok (.iload_n 1, 1) := by decide +kernel
theorem d_Lr_run_10 : decode c_Lr_run 10 = .ok (.iconst (-1), 1) := by decide +kernel
theorem d_Lr_run_11 : decode c_Lr_run 11 = .ok (.if_icmp .ne 7, 3) := by decide +kernel
theorem d_Lr_run_14 : decode c_Lr_run 14 = .ok (.iconst 1, 1) := by decide +kernel
theorem d_Lr_run_15 : decode c_Lr_run 15 = .ok (.goto 4, 3) := by decide +kernel
theorem d_Lr_run_18 : decode c_Lr_run 18 = .ok (.iconst 0, 1) := by decide +kernel
theorem d_Lr_run_19 : decode c_Lr_run 19 = .ok (.putfield 59, 3) := by decide +kernel
theorem d_Lr_run_22 : decode c_Lr_run 22 = .ok (.aload_n 0, 1) := by decide +kernel
theorem d_Lr_run_23 : decode c_Lr_run 23 = .ok (.getfield 59, 3) := by decide +kernel
theorem d_Lr_run_26 : decode c_Lr_run 26 = .ok (.ifCond .eq 7, 3) := by decide +kernel
theorem d_Lr_run_29 : decode c_Lr_run 29 = .ok (.iconst 0, 1) := by decide +kernel
theorem d_Lr_run_30 : decode c_Lr_run 30 = .ok (.goto 6, 3) := by decide +kernel
theorem d_Lr_run_33 : decode c_Lr_run 33 = .ok (.iconst 1, 1) := by decide +kernel
theorem d_Lr_run_34 : decode c_Lr_run 34 = .ok (.iload_n 1, 1) := by decide +kernel
theorem d_Lr_run_35 : decode c_Lr_run 35 = .ok (.iadd, 1) := by decide +kernel
theorem d_Lr_run_36 : decode c_Lr_run 36 = .ok (.ireturn, 1) := by decide +kernel
theorem d_Lr_at_0 : decode c_Lr_at 0 = .ok (.aload_n 0, 1) := by decide +kernel
theorem d_Lr_at_1 : decode c_Lr_at 1 = .ok (.iload_n 1, 1) := by decide +kernel
theorem d_Lr_at_2 : decode c_Lr_at 2 = .ok (.invokevirtual 85, 3) := by decide +kernel
theorem d_Lr_at_5 : decode c_Lr_at 5 = .ok (.aload_n 0, 1) := by decide +kernel
theorem d_Lr_at_6 : decode c_Lr_at 6 = .ok (.invokevirtual 130, 3) := by decide +kernel
theorem d_Lr_at_9 : decode c_Lr_at 9 = .ok (.aload_n 0, 1) := by decide +kernel
theorem d_Lr_at_10 : decode c_Lr_at 10 = .ok (.getfield 37, 3) := by decide +kernel
theorem d_Lr_at_13 : decode c_Lr_at 13 = .ok (.getfield 133, 3) := by decide +kernel
theorem d_Lr_at_16 : decode c_Lr_at 16 = .ok (.iload_n 1, 1) := by decide +kernel
theorem d_Lr_at_17 : decode c_Lr_at 17 = .ok (.iaload, 1) := by decide +kernel
theorem d_Lr_at_18 : decode c_Lr_at 18 = .ok (.i2l, 1) := by decide +kernel
theorem d_Lr_at_19 : decode c_Lr_at 19 = .ok (.lreturn, 1) := by decide +kernel
theorem d_Lr_rowOf_0 : decode c_Lr_rowOf 0 = .ok (.aload_n 0, 1) := by decide +kernel
theorem d_Lr_rowOf_1 : decode c_Lr_rowOf 1 = .ok (.iload_n 1, 1) := by decide +kernel
theorem d_Lr_rowOf_2 : decode c_Lr_rowOf 2 = .ok (.invokevirtual 85, 3) := by decide +kernel
theorem d_Lr_rowOf_5 : decode c_Lr_rowOf 5 = .ok (.aload_n 0, 1) := by decide +kernel
theorem d_Lr_rowOf_6 : decode c_Lr_rowOf 6 = .ok (.invokevirtual 130, 3) := by decide +kernel
theorem d_Lr_rowOf_9 : decode c_Lr_rowOf 9 = .ok (.aload_n 0, 1) := by decide +kernel
theorem d_Lr_rowOf_10 : decode c_Lr_rowOf 10 = .ok (.getfield 37, 3) := by decide +kernel
theorem d_Lr_rowOf_13 : decode c_Lr_rowOf 13 = .ok (.getfield 137, 3) := by decide +kernel
theorem d_Lr_rowOf_16 : decode c_Lr_rowOf 16 = .ok (.iload_n 1, 1) := by decide +kernel
theorem d_Lr_rowOf_17 : decode c_Lr_rowOf 17 = .ok (.iaload, 1) := by decide +kernel
theorem d_Lr_rowOf_18 : decode c_Lr_rowOf 18 = .ok (.ireturn, 1) := by decide +kernel
theorem d_Lr_moved_0 : decode c_Lr_moved 0 = .ok (.aload_n 0, 1) := by decide +kernel
theorem d_Lr_moved_1 : decode c_Lr_moved 1 = .ok (.invokevirtual 130, 3) := by decide +kernel
theorem d_Lr_moved_4 : decode c_Lr_moved 4 = .ok (.aload_n 0, 1) := by decide +kernel
theorem d_Lr_moved_5 : decode c_Lr_moved 5 = .ok (.getfield 37, 3) := by decide +kernel
theorem d_Lr_moved_8 : decode c_Lr_moved 8 = .ok (.invokevirtual 140, 3) := by decide +kernel
theorem d_Lr_moved_11 : decode c_Lr_moved 11 = .ok (.lreturn, 1) := by decide +kernel
theorem d_Lr_mirrored_0 : decode c_Lr_mirrored 0 = .ok (.aload_n 0, 1) := by decide +kernel
theorem d_Lr_mirrored_1 : decode c_Lr_mirrored 1 = .ok (.iload_n 1, 1) := by decide +kernel
theorem d_Lr_mirrored_2 : decode c_Lr_mirrored 2 = .ok (.invokevirtual 85, 3) := by decide +kernel
theorem d_Lr_mirrored_5 : decode c_Lr_mirrored 5 = .ok (.aload_n 0, 1) := by decide +kernel
theorem d_Lr_mirrored_6 : decode c_Lr_mirrored 6 = .ok (.invokevirtual 130, 3) := by decide +kernel
theorem d_Lr_mirrored_9 : decode c_Lr_mirrored 9 = .ok (.aload_n 0, 1) := by decide +kernel
theorem d_Lr_mirrored_10 : decode c_Lr_mirrored 10 = .ok (.getfield 37, 3) := by decide +kernel
theorem d_Lr_mirrored_13 : decode c_Lr_mirrored 13 = .ok (.getfield 137, 3) := by decide +kernel
theorem d_Lr_mirrored_16 : decode c_Lr_mirrored 16 = .ok (.iload_n 1, 1) := by decide +kernel
theorem d_Lr_mirrored_17 : decode c_Lr_mirrored 17 = .ok (.iaload, 1) := by decide +kernel
theorem d_Lr_mirrored_18 : decode c_Lr_mirrored 18 = .ok (.iconst 2, 1) := by decide +kernel
theorem d_Lr_mirrored_19 : decode c_Lr_mirrored 19 = .ok (.irem, 1) := by decide +kernel
theorem d_Lr_mirrored_20 : decode c_Lr_mirrored 20 = .ok (.iconst 1, 1) := by decide +kernel
theorem d_Lr_mirrored_21 : decode c_Lr_mirrored 21 = .ok (.if_icmp .ne 7, 3) := by decide +kernel
theorem d_Lr_mirrored_24 : decode c_Lr_mirrored 24 = .ok (.iconst 1, 1) := by decide +kernel
theorem d_Lr_mirrored_25 : decode c_Lr_mirrored 25 = .ok (.goto 4, 3) := by decide +kernel
theorem d_Lr_mirrored_28 : decode c_Lr_mirrored 28 = .ok (.iconst 0, 1) := by decide +kernel
theorem d_Lr_mirrored_29 : decode c_Lr_mirrored 29 = .ok (.ireturn, 1) := by decide +kernel
theorem d_Lr_improve_0 : decode c_Lr_improve 0 = .ok (.aload_n 0, 1) := by decide +kernel
theorem d_Lr_improve_1 : decode c_Lr_improve 1 = .ok (.invokevirtual 130, 3) := by decide +kernel
theorem d_Lr_improve_4 : decode c_Lr_improve 4 = .ok (.iload_n 1, 1) := by decide +kernel
theorem d_Lr_improve_5 : decode c_Lr_improve 5 = .ok (.ifCond .ge 13, 3) := by decide +kernel
theorem d_Lr_improve_8 : decode c_Lr_improve 8 = .ok (.new 76, 3) := by decide +kernel
theorem d_Lr_improve_11 : decode c_Lr_improve 11 = .ok (.dup, 1) := by decide +kernel
theorem d_Lr_improve_12 : decode c_Lr_improve 12 = .ok (.ldc 144, 2) := by decide +kernel
theorem d_Lr_improve_14 : decode c_Lr_improve 14 = .ok (.invokespecial 80, 3) := by decide +kernel
theorem d_Lr_improve_17 : decode c_Lr_improve 17 = .ok (.athrow, 1) := by decide +kernel
theorem d_Lr_improve_18 : decode c_Lr_improve 18 = .ok (.iconst 0, 1) := by decide +kernel
theorem d_Lr_improve_19 : decode c_Lr_improve 19 = .ok (.istore_n 2, 1) := by decide +kernel
theorem d_Lr_improve_20 : decode c_Lr_improve 20 = .ok (.iload_n 2, 1) := by decide +kernel
theorem d_Lr_improve_21 : decode c_Lr_improve 21 = .ok (.iload_n 1, 1) := by decide +kernel
theorem d_Lr_improve_22 : decode c_Lr_improve 22 = .ok (.if_icmp .ge 19, 3) := by decide +kernel
theorem d_Lr_improve_25 : decode c_Lr_improve 25 = .ok (.aload_n 0, 1) := by decide +kernel
theorem d_Lr_improve_26 : decode c_Lr_improve 26 = .ok (.getfield 46, 3) := by decide +kernel
theorem d_Lr_improve_29 : decode c_Lr_improve 29 = .ok (.invokevirtual 146, 3) := by decide +kernel
theorem d_Lr_improve_32 : decode c_Lr_improve 32 = .ok (.ifCond .eq 9, 3) := by decide +kernel
theorem d_Lr_improve_35 : decode c_Lr_improve 35 = .ok (.iinc 2 1, 3) := by decide +kernel
theorem d_Lr_improve_38 : decode c_Lr_improve 38 = .ok (.goto (-18), 3) := by decide +kernel
theorem d_Lr_improve_41 : decode c_Lr_improve 41 = .ok (.iload_n 2, 1) := by decide +kernel
theorem d_Lr_improve_42 : decode c_Lr_improve 42 = .ok (.ireturn, 1) := by decide +kernel
theorem d_Lr_net_0 : decode c_Lr_net 0 = .ok (.aload_n 0, 1) := by decide +kernel
theorem d_Lr_net_1 : decode c_Lr_net 1 = .ok (.iload_n 1, 1) := by decide +kernel
theorem d_Lr_net_2 : decode c_Lr_net 2 = .ok (.invokevirtual 85, 3) := by decide +kernel
theorem d_Lr_net_5 : decode c_Lr_net 5 = .ok (.aload_n 0, 1) := by decide +kernel
theorem d_Lr_net_6 : decode c_Lr_net 6 = .ok (.iload_n 2, 1) := by decide +kernel
theorem d_Lr_net_7 : decode c_Lr_net 7 = .ok (.invokevirtual 85, 3) := by decide +kernel
theorem d_Lr_net_10 : decode c_Lr_net 10 = .ok (.aload_n 0, 1) := by decide +kernel
theorem d_Lr_net_11 : decode c_Lr_net 11 = .ok (.getfield 46, 3) := by decide +kernel
theorem d_Lr_net_14 : decode c_Lr_net 14 = .ok (.getfield 150, 3) := by decide +kernel
theorem d_Lr_net_17 : decode c_Lr_net 17 = .ok (.bipush 80, 2) := by decide +kernel
theorem d_Lr_net_19 : decode c_Lr_net 19 = .ok (.if_icmp .lt 13, 3) := by decide +kernel
theorem d_Lr_net_22 : decode c_Lr_net 22 = .ok (.new 67, 3) := by decide +kernel
theorem d_Lr_net_25 : decode c_Lr_net 25 = .ok (.dup, 1) := by decide +kernel
theorem d_Lr_net_26 : decode c_Lr_net 26 = .ok (.ldc 151, 2) := by decide +kernel
theorem d_Lr_net_28 : decode c_Lr_net 28 = .ok (.invokespecial 71, 3) := by decide +kernel
theorem d_Lr_net_31 : decode c_Lr_net 31 = .ok (.athrow, 1) := by decide +kernel
theorem d_Lr_net_32 : decode c_Lr_net 32 = .ok (.iload_n 1, 1) := by decide +kernel
theorem d_Lr_net_33 : decode c_Lr_net 33 = .ok (.iload_n 2, 1) := by decide +kernel
theorem d_Lr_net_34 : decode c_Lr_net 34 = .ok (.if_icmp .ne 13, 3) := by decide +kernel
theorem d_Lr_net_37 : decode c_Lr_net 37 = .ok (.new 76, 3) := by decide +kernel
theorem d_Lr_net_40 : decode c_Lr_net 40 = .ok (.dup, 1) := by decide +kernel
theorem d_Lr_net_41 : decode c_Lr_net 41 = .ok (.ldc 153, 2) := by decide +kernel
theorem d_Lr_net_43 : decode c_Lr_net 43 = .ok (.invokespecial 80, 3) := by decide +kernel
theorem d_Lr_net_46 : decode c_Lr_net 46 = .ok (.athrow, 1) := by decide +kernel
theorem d_Lr_net_47 : decode c_Lr_net 47 = .ok (.aload_n 0, 1) := by decide +kernel
theorem d_Lr_net_48 : decode c_Lr_net 48 = .ok (.getfield 46, 3) := by decide +kernel
theorem d_Lr_net_51 : decode c_Lr_net 51 = .ok (.iload_n 1, 1) := by decide +kernel
theorem d_Lr_net_52 : decode c_Lr_net 52 = .ok (.iload_n 2, 1) := by decide +kernel
theorem d_Lr_net_53 : decode c_Lr_net 53 = .ok (.invokevirtual 155, 3) := by decide +kernel
theorem d_Lr_net_56 : decode c_Lr_net 56 = .ok (.ireturn, 1) := by decide +kernel
theorem d_Lr_wire_0 : decode c_Lr_wire 0 = .ok (.aload_n 0, 1) := by decide +kernel
theorem d_Lr_wire_1 : decode c_Lr_wire 1 = .ok (.invokevirtual 130, 3) := by decide +kernel
theorem d_Lr_wire_4 : decode c_Lr_wire 4 = .ok (.aload_n 0, 1) := by decide +kernel
theorem d_Lr_wire_5 : decode c_Lr_wire 5 = .ok (.getfield 46, 3) := by decide +kernel
theorem d_Lr_wire_8 : decode c_Lr_wire 8 = .ok (.invokevirtual 157, 3) := by decide +kernel
theorem d_Lr_wire_11 : decode c_Lr_wire 11 = .ok (.lreturn, 1) := by decide +kernel
theorem d_Lr_overlap_0 : decode c_Lr_overlap 0 = .ok (.aload_n 0, 1) := by decide +kernel
theorem d_Lr_overlap_1 : decode c_Lr_overlap 1 = .ok (.invokevirtual 130, 3) := by decide +kernel
theorem d_Lr_overlap_4 : decode c_Lr_overlap 4 = .ok (.iconst 0, 1) := by decide +kernel
theorem d_Lr_overlap_5 : decode c_Lr_overlap 5 = .ok (.istore_n 1, 1) := by decide +kernel
theorem d_Lr_overlap_6 : decode c_Lr_overlap 6 = .ok (.iload_n 1, 1) := by decide +kernel
theorem d_Lr_overlap_7 : decode c_Lr_overlap 7 = .ok (.aload_n 0, 1) := by decide +kernel
theorem d_Lr_overlap_8 : decode c_Lr_overlap 8 = .ok (.getfield 37, 3) := by decide +kernel
theorem d_Lr_overlap_11 : decode c_Lr_overlap 11 = .ok (.getfield 63, 3) := by decide +kernel
theorem d_Lr_overlap_14 : decode c_Lr_overlap 14 = .ok (.if_icmp .ge 82, 3) := by decide +kernel
theorem d_Lr_overlap_17 : decode c_Lr_overlap 17 = .ok (.aload_n 0, 1) := by decide +kernel
theorem d_Lr_overlap_18 : decode c_Lr_overlap 18 = .ok (.getfield 30, 3) := by decide +kernel
theorem d_Lr_overlap_21 : decode c_Lr_overlap 21 = .ok (.aload_n 0, 1) := by decide +kernel
theorem d_Lr_overlap_22 : decode c_Lr_overlap 22 = .ok (.getfield 37, 3) := by decide +kernel
theorem d_Lr_overlap_25 : decode c_Lr_overlap 25 = .ok (.getfield 137, 3) := by decide +kernel
theorem d_Lr_overlap_28 : decode c_Lr_overlap 28 = .ok (.iload_n 1, 1) := by decide +kernel
theorem d_Lr_overlap_29 : decode c_Lr_overlap 29 = .ok (.iaload, 1) := by decide +kernel
theorem d_Lr_overlap_30 : decode c_Lr_overlap 30 = .ok (.aload_n 0, 1) := by decide +kernel
theorem d_Lr_overlap_31 : decode c_Lr_overlap 31 = .ok (.getfield 37, 3) := by decide +kernel
theorem d_Lr_overlap_34 : decode c_Lr_overlap 34 = .ok (.getfield 133, 3) := by decide +kernel
theorem d_Lr_overlap_37 : decode c_Lr_overlap 37 = .ok (.iload_n 1, 1) := by decide +kernel
theorem d_Lr_overlap_38 : decode c_Lr_overlap 38 = .ok (.iaload, 1) := by decide +kernel
theorem d_Lr_overlap_39 : decode c_Lr_overlap 39 = .ok (.aload_n 0, 1) := by decide +kernel
theorem d_Lr_overlap_40 : decode c_Lr_overlap 40 = .ok (.getfield 37, 3) := by decide +kernel
theorem d_Lr_overlap_43 : decode c_Lr_overlap 43 = .ok (.iload_n 1, 1) := by decide +kernel
theorem d_Lr_overlap_44 : decode c_Lr_overlap 44 = .ok (.invokevirtual 160, 3) := by decide +kernel
theorem d_Lr_overlap_47 : decode c_Lr_overlap 47 = .ok (.invokevirtual 163, 3) := by decide +kernel
theorem d_Lr_overlap_50 : decode c_Lr_overlap 50 = .ok (.ifCond .ne 5, 3) := by decide +kernel
theorem d_Lr_overlap_53 : decode c_Lr_overlap 53 = .ok (.iconst 1, 1) := by decide +kernel
theorem d_Lr_overlap_54 : decode c_Lr_overlap 54 = .ok (.ireturn, 1) := by decide +kernel
theorem d_Lr_overlap_55 : decode c_Lr_overlap 55 = .ok (.iload_n 1, 1) := by decide +kernel
theorem d_Lr_overlap_56 : decode c_Lr_overlap 56 = .ok (.iconst 1, 1) := by decide +kernel
theorem d_Lr_overlap_57 : decode c_Lr_overlap 57 = .ok (.iadd, 1) := by decide +kernel
theorem d_Lr_overlap_58 : decode c_Lr_overlap 58 = .ok (.istore_n 2, 1) := by decide +kernel
theorem d_Lr_overlap_59 : decode c_Lr_overlap 59 = .ok (.iload_n 2, 1) := by decide +kernel
theorem d_Lr_overlap_60 : decode c_Lr_overlap 60 = .ok (.aload_n 0, 1) := by decide +kernel
theorem d_Lr_overlap_61 : decode c_Lr_overlap 61 = .ok (.getfield 37, 3) := by decide +kernel
theorem d_Lr_overlap_64 : decode c_Lr_overlap 64 = .ok (.getfield 63, 3) := by decide +kernel
theorem d_Lr_overlap_67 : decode c_Lr_overlap 67 = .ok (.if_icmp .ge 23, 3) := by decide +kernel
theorem d_Lr_overlap_70 : decode c_Lr_overlap 70 = .ok (.aload_n 0, 1) := by decide +kernel
theorem d_Lr_overlap_71 : decode c_Lr_overlap 71 = .ok (.getfield 37, 3) := by decide +kernel
theorem d_Lr_overlap_74 : decode c_Lr_overlap 74 = .ok (.iload_n 1, 1) := by decide +kernel
theorem d_Lr_overlap_75 : decode c_Lr_overlap 75 = .ok (.iload_n 2, 1) := by decide +kernel
theorem d_Lr_overlap_76 : decode c_Lr_overlap 76 = .ok (.invokevirtual 166, 3) := by decide +kernel
theorem d_Lr_overlap_79 : decode c_Lr_overlap 79 = .ok (.ifCond .eq 5, 3) := by decide +kernel
theorem d_Lr_overlap_82 : decode c_Lr_overlap 82 = .ok (.iconst 1, 1) := by decide +kernel
theorem d_Lr_overlap_83 : decode c_Lr_overlap 83 = .ok (.ireturn, 1) := by decide +kernel
theorem d_Lr_overlap_84 : decode c_Lr_overlap 84 = .ok (.iinc 2 1, 3) := by decide +kernel
theorem d_Lr_overlap_87 : decode c_Lr_overlap 87 = .ok (.goto (-28), 3) := by decide +kernel
theorem d_Lr_overlap_90 : decode c_Lr_overlap 90 = .ok (.iinc 1 1, 3) := by decide +kernel
theorem d_Lr_overlap_93 : decode c_Lr_overlap 93 = .ok (.goto (-87), 3) := by decide +kernel
theorem d_Lr_overlap_96 : decode c_Lr_overlap 96 = .ok (.iconst 0, 1) := by decide +kernel
theorem d_Lr_overlap_97 : decode c_Lr_overlap 97 = .ok (.ireturn, 1) := by decide +kernel
theorem d_Lr_noteChange_0 : decode c_Lr_noteChange 0 = .ok (.iload_n 1, 1) := by decide +kernel
theorem d_Lr_noteChange_1 : decode c_Lr_noteChange 1 = .ok (.ifCond .eq 8, 3) := by decide +kernel
theorem d_Lr_noteChange_4 : decode c_Lr_noteChange 4 = .ok (.aload_n 0, 1) := by decide +kernel
theorem d_Lr_noteChange_5 : decode c_Lr_noteChange 5 = .ok (.iconst 0, 1) := by decide +kernel
theorem d_Lr_noteChange_6 : decode c_Lr_noteChange 6 = .ok (.putfield 59, 3) := by decide +kernel
theorem d_Lr_noteChange_9 : decode c_Lr_noteChange 9 = .ok (.iload_n 1, 1) := by decide +kernel
theorem d_Lr_noteChange_10 : decode c_Lr_noteChange 10 = .ok (.ireturn, 1) := by decide +kernel
theorem d_Lr_requireCell_0 : decode c_Lr_requireCell 0 = .ok (.iload_n 1, 1) := by decide +kernel
theorem d_Lr_requireCell_1 : decode c_Lr_requireCell 1 = .ok (.ifCond .lt 14, 3) := by decide +kernel
theorem d_Lr_requireCell_4 : decode c_Lr_requireCell 4 = .ok (.iload_n 1, 1) := by decide +kernel
theorem d_Lr_requireCell_5 : decode c_Lr_requireCell 5 = .ok (.aload_n 0, 1) := by decide +kernel
theorem d_Lr_requireCell_6 : decode c_Lr_requireCell 6 = .ok (.getfield 37, 3) := by decide +kernel
theorem d_Lr_requireCell_9 : decode c_Lr_requireCell 9 = .ok (.getfield 63, 3) := by decide +kernel
theorem d_Lr_requireCell_12 : decode c_Lr_requireCell 12 = .ok (.if_icmp .lt 13, 3) := by decide +kernel
theorem d_Lr_requireCell_15 : decode c_Lr_requireCell 15 = .ok (.new 95, 3) := by decide +kernel
theorem d_Lr_requireCell_18 : decode c_Lr_requireCell 18 = .ok (.dup, 1) := by decide +kernel
theorem d_Lr_requireCell_19 : decode c_Lr_requireCell 19 = .ok (.ldc 170, 2) := by decide +kernel
theorem d_Lr_requireCell_21 : decode c_Lr_requireCell 21 = .ok (.invokespecial 99, 3) := by decide +kernel
theorem d_Lr_requireCell_24 : decode c_Lr_requireCell 24 = .ok (.athrow, 1) := by decide +kernel
theorem d_Lr_requireCell_25 : decode c_Lr_requireCell 25 = .ok (.return_, 1) := by decide +kernel
theorem d_Lr_requireRow_0 : decode c_Lr_requireRow 0 = .ok (.iload_n 1, 1) := by decide +kernel
theorem d_Lr_requireRow_1 : decode c_Lr_requireRow 1 = .ok (.ifCond .lt 14, 3) := by decide +kernel
theorem d_Lr_requireRow_4 : decode c_Lr_requireRow 4 = .ok (.iload_n 1, 1) := by decide +kernel
theorem d_Lr_requireRow_5 : decode c_Lr_requireRow 5 = .ok (.aload_n 0, 1) := by decide +kernel
theorem d_Lr_requireRow_6 : decode c_Lr_requireRow 6 = .ok (.getfield 30, 3) := by decide +kernel
theorem d_Lr_requireRow_9 : decode c_Lr_requireRow 9 = .ok (.getfield 172, 3) := by decide +kernel
theorem d_Lr_requireRow_12 : decode c_Lr_requireRow 12 = .ok (.if_icmp .lt 13, 3) := by decide +kernel
theorem d_Lr_requireRow_15 : decode c_Lr_requireRow 15 = .ok (.new 95, 3) := by decide +kernel
theorem d_Lr_requireRow_18 : decode c_Lr_requireRow 18 = .ok (.dup, 1) := by decide +kernel
theorem d_Lr_requireRow_19 : decode c_Lr_requireRow 19 = .ok (.ldc 175, 2) := by decide +kernel
theorem d_Lr_requireRow_21 : decode c_Lr_requireRow 21 = .ok (.invokespecial 99, 3) := by decide +kernel
theorem d_Lr_requireRow_24 : decode c_Lr_requireRow 24 = .ok (.athrow, 1) := by decide +kernel
theorem d_Lr_requireRow_25 : decode c_Lr_requireRow 25 = .ok (.return_, 1) := by decide +kernel
theorem d_Lr_requirePlaces_0 : decode c_Lr_requirePlaces 0 = .ok (.aload_n 0, 1) := by decide +kernel
theorem d_Lr_requirePlaces_1 : decode c_Lr_requirePlaces 1 = .ok (.getfield 59, 3) := by decide +kernel
theorem d_Lr_requirePlaces_4 : decode c_Lr_requirePlaces 4 = .ok (.ifCond .ne 13, 3) := by decide +kernel
theorem d_Lr_requirePlaces_7 : decode c_Lr_requirePlaces 7 = .ok (.new 67, 3) := by decide +kernel
theorem d_Lr_requirePlaces_10 : decode c_Lr_requirePlaces 10 = .ok (.dup, 1) := by decide +kernel
theorem d_Lr_requirePlaces_11 : decode c_Lr_requirePlaces 11 = .ok (.ldc 177, 2) := by decide +kernel
theorem d_Lr_requirePlaces_13 : decode c_Lr_requirePlaces 13 = .ok (.invokespecial 71, 3) := by decide +kernel
theorem d_Lr_requirePlaces_16 : decode c_Lr_requirePlaces 16 = .ok (.athrow, 1) := by decide +kernel
theorem d_Lr_requirePlaces_17 : decode c_Lr_requirePlaces 17 = .ok (.return_, 1) := by decide +kernel
theorem d_Lr_requireKinds_0 : decode c_Lr_requireKinds 0 = .ok (.iload_n 0, 1) := by decide +kernel
theorem d_Lr_requireKinds_1 : decode c_Lr_requireKinds 1 = .ok (.ifCond .lt 17, 3) := by decide +kernel
theorem d_Lr_requireKinds_4 : decode c_Lr_requireKinds 4 = .ok (.iload_n 0, 1) := by decide +kernel
theorem d_Lr_requireKinds_5 : decode c_Lr_requireKinds 5 = .ok (.iconst 4, 1) := by decide +kernel
theorem d_Lr_requireKinds_6 : decode c_Lr_requireKinds 6 = .ok (.if_icmp .ge 12, 3) := by decide +kernel
theorem d_Lr_requireKinds_9 : decode c_Lr_requireKinds 9 = .ok (.iload_n 1, 1) := by decide +kernel
theorem d_Lr_requireKinds_10 : decode c_Lr_requireKinds 10 = .ok (.ifCond .lt 8, 3) := by decide +kernel
theorem d_Lr_requireKinds_13 : decode c_Lr_requireKinds 13 = .ok (.iload_n 1, 1) := by decide +kernel
theorem d_Lr_requireKinds_14 : decode c_Lr_requireKinds 14 = .ok (.iconst 4, 1) := by decide +kernel
theorem d_Lr_requireKinds_15 : decode c_Lr_requireKinds 15 = .ok (.if_icmp .lt 13, 3) := by decide +kernel
theorem d_Lr_requireKinds_18 : decode c_Lr_requireKinds 18 = .ok (.new 76, 3) := by decide +kernel
theorem d_Lr_requireKinds_21 : decode c_Lr_requireKinds 21 = .ok (.dup, 1) := by decide +kernel
theorem d_Lr_requireKinds_22 : decode c_Lr_requireKinds 22 = .ok (.ldc 179, 2) := by decide +kernel
theorem d_Lr_requireKinds_24 : decode c_Lr_requireKinds 24 = .ok (.invokespecial 80, 3) := by decide +kernel
theorem d_Lr_requireKinds_27 : decode c_Lr_requireKinds 27 = .ok (.athrow, 1) := by decide +kernel
theorem d_Lr_requireKinds_28 : decode c_Lr_requireKinds 28 = .ok (.return_, 1) := by decide +kernel
theorem d_Ce_init_0 : decode c_Ce_init 0 = .ok (.aload_n 0, 1) := by decide +kernel
theorem d_Ce_init_1 : decode c_Ce_init 1 = .ok (.invokespecial 3, 3) := by decide +kernel
theorem d_Ce_init_4 : decode c_Ce_init 4 = .ok (.aload_n 0, 1) := by decide +kernel
theorem d_Ce_init_5 : decode c_Ce_init 5 = .ok (.bipush 60, 2) := by decide +kernel
theorem d_Ce_init_7 : decode c_Ce_init 7 = .ok (.newarray .int, 2) := by decide +kernel
theorem d_Ce_init_9 : decode c_Ce_init 9 = .ok (.putfield 9, 3) := by decide +kernel
theorem d_Ce_init_12 : decode c_Ce_init 12 = .ok (.aload_n 0, 1) := by decide +kernel
theorem d_Ce_init_13 : decode c_Ce_init 13 = .ok (.bipush 60, 2) := by decide +kernel
theorem d_Ce_init_15 : decode c_Ce_init 15 = .ok (.newarray .int, 2) := by decide +kernel
theorem d_Ce_init_17 : decode c_Ce_init 17 = .ok (.putfield 15, 3) := by decide +kernel
theorem d_Ce_init_20 : decode c_Ce_init 20 = .ok (.aload_n 0, 1) := by decide +kernel
theorem d_Ce_init_21 : decode c_Ce_init 21 = .ok (.bipush 60, 2) := by decide +kernel
theorem d_Ce_init_23 : decode c_Ce_init 23 = .ok (.newarray .int, 2) := by decide +kernel
theorem d_Ce_init_25 : decode c_Ce_init 25 = .ok (.putfield 18, 3) := by decide +kernel
theorem d_Ce_init_28 : decode c_Ce_init 28 = .ok (.aload_n 0, 1) := by decide +kernel
theorem d_Ce_init_29 : decode c_Ce_init 29 = .ok (.bipush 60, 2) := by decide +kernel
theorem d_Ce_init_31 : decode c_Ce_init 31 = .ok (.newarray .int, 2) := by decide +kernel
theorem d_Ce_init_33 : decode c_Ce_init 33 = .ok (.putfield 21, 3) := by decide +kernel
theorem d_Ce_init_36 : decode c_Ce_init 36 = .ok (.aload_n 0, 1) := by decide +kernel
theorem d_Ce_init_37 : decode c_Ce_init 37 = .ok (.bipush 60, 2) := by decide +kernel
theorem d_Ce_init_39 : decode c_Ce_init 39 = .ok (.newarray .int, 2) := by decide +kernel
theorem d_Ce_init_41 : decode c_Ce_init 41 = .ok (.putfield 24, 3) := by decide +kernel
theorem d_Ce_init_44 : decode c_Ce_init 44 = .ok (.aload_n 0, 1) := by decide +kernel
theorem d_Ce_init_45 : decode c_Ce_init 45 = .ok (.bipush 60, 2) := by decide +kernel
theorem d_Ce_init_47 : decode c_Ce_init 47 = .ok (.newarray .int, 2) := by decide +kernel
theorem d_Ce_init_49 : decode c_Ce_init 49 = .ok (.putfield 27, 3) := by decide +kernel
theorem d_Ce_init_52 : decode c_Ce_init 52 = .ok (.aload_n 0, 1) := by decide +kernel
theorem d_Ce_init_53 : decode c_Ce_init 53 = .ok (.bipush 60, 2) := by decide +kernel
theorem d_Ce_init_55 : decode c_Ce_init 55 = .ok (.newarray .int, 2) := by decide +kernel
theorem d_Ce_init_57 : decode c_Ce_init 57 = .ok (.putfield 30, 3) := by decide +kernel
theorem d_Ce_init_60 : decode c_Ce_init 60 = .ok (.aload_n 0, 1) := by decide +kernel
theorem d_Ce_init_61 : decode c_Ce_init 61 = .ok (.bipush 16, 2) := by decide +kernel
theorem d_Ce_init_63 : decode c_Ce_init 63 = .ok (.newarray .int, 2) := by decide +kernel
theorem d_Ce_init_65 : decode c_Ce_init 65 = .ok (.putfield 33, 3) := by decide +kernel
theorem d_Ce_init_68 : decode c_Ce_init 68 = .ok (.return_, 1) := by decide +kernel
theorem d_Ce_add_0 : decode c_Ce_add 0 = .ok (.aload_n 0, 1) := by decide +kernel
theorem d_Ce_add_1 : decode c_Ce_add 1 = .ok (.getfield 9, 3) := by decide +kernel
theorem d_Ce_add_4 : decode c_Ce_add 4 = .ok (.aload_n 0, 1) := by decide +kernel
theorem d_Ce_add_5 : decode c_Ce_add 5 = .ok (.getfield 36, 3) := by decide +kernel
theorem d_Ce_add_8 : decode c_Ce_add 8 = .ok (.iload_n 1, 1) := by decide +kernel
theorem d_Ce_add_9 : decode c_Ce_add 9 = .ok (.iastore, 1) := by decide +kernel
theorem d_Ce_add_10 : decode c_Ce_add 10 = .ok (.aload_n 0, 1) := by decide +kernel
theorem d_Ce_add_11 : decode c_Ce_add 11 = .ok (.dup, 1) := by decide +kernel
theorem d_Ce_add_12 : decode c_Ce_add 12 = .ok (.getfield 36, 3) := by decide +kernel
theorem d_Ce_add_15 : decode c_Ce_add 15 = .ok (.iconst 1, 1) := by decide +kernel
theorem d_Ce_add_16 : decode c_Ce_add 16 = .ok (.iadd, 1) := by decide +kernel
theorem d_Ce_add_17 : decode c_Ce_add 17 = .ok (.putfield 36, 3) := by decide +kernel
theorem d_Ce_add_20 : decode c_Ce_add 20 = .ok (.aload_n 0, 1) := by decide +kernel
theorem d_Ce_add_21 : decode c_Ce_add 21 = .ok (.getfield 36, 3) := by decide +kernel
theorem d_Ce_add_24 : decode c_Ce_add 24 = .ok (.iconst 1, 1) := by decide +kernel
theorem d_Ce_add_25 : decode c_Ce_add 25 = .ok (.isub, 1) := by decide +kernel
theorem d_Ce_add_26 : decode c_Ce_add 26 = .ok (.ireturn, 1) := by decide +kernel
theorem d_Ce_setWanted_0 : decode c_Ce_setWanted 0 = .ok (.aload_n 0, 1) := by decide +kernel
theorem d_Ce_setWanted_1 : decode c_Ce_setWanted 1 = .ok (.getfield 21, 3) := by decide +kernel
theorem d_Ce_setWanted_4 : decode c_Ce_setWanted 4 = .ok (.iload_n 1, 1) := by decide +kernel
theorem d_Ce_setWanted_5 : decode c_Ce_setWanted 5 = .ok (.iaload, 1) := by decide +kernel
theorem d_Ce_setWanted_6 : decode c_Ce_setWanted 6 = .ok (.iload_n 2, 1) := by decide +kernel
theorem d_Ce_setWanted_7 : decode c_Ce_setWanted 7 = .ok (.if_icmp .ne 13, 3) := by decide +kernel
theorem d_Ce_setWanted_10 : decode c_Ce_setWanted 10 = .ok (.aload_n 0, 1) := by decide +kernel
theorem d_Ce_setWanted_11 : decode c_Ce_setWanted 11 = .ok (.getfield 24, 3) := by decide +kernel
theorem d_Ce_setWanted_14 : decode c_Ce_setWanted 14 = .ok (.iload_n 1, 1) := by decide +kernel
theorem d_Ce_setWanted_15 : decode c_Ce_setWanted 15 = .ok (.iaload, 1) := by decide +kernel
theorem d_Ce_setWanted_16 : decode c_Ce_setWanted 16 = .ok (.iload_n 3, 1) := by decide +kernel
theorem d_Ce_setWanted_17 : decode c_Ce_setWanted 17 = .ok (.if_icmp .eq 7, 3) := by decide +kernel
theorem d_Ce_setWanted_20 : decode c_Ce_setWanted 20 = .ok (.iconst 1, 1) := by decide +kernel
theorem d_Ce_setWanted_21 : decode c_Ce_setWanted 21 = .ok (.goto 4, 3) := by decide +kernel
theorem d_Ce_setWanted_24 : decode c_Ce_setWanted 24 = .ok (.iconst 0, 1) := by decide +kernel
theorem d_Ce_setWanted_25 : decode c_Ce_setWanted 25 = .ok (.istore 4, 2) := by decide +kernel
theorem d_Ce_setWanted_27 : decode c_Ce_setWanted 27 = .ok (.aload_n 0, 1) := by decide +kernel
theorem d_Ce_setWanted_28 : decode c_Ce_setWanted 28 = .ok (.getfield 21, 3) := by decide +kernel
theorem d_Ce_setWanted_31 : decode c_Ce_setWanted 31 = .ok (.iload_n 1, 1) := by decide +kernel
theorem d_Ce_setWanted_32 : decode c_Ce_setWanted 32 = .ok (.iload_n 2, 1) := by decide +kernel
theorem d_Ce_setWanted_33 : decode c_Ce_setWanted 33 = .ok (.iastore, 1) := by decide +kernel
theorem d_Ce_setWanted_34 : decode c_Ce_setWanted 34 = .ok (.aload_n 0, 1) := by decide +kernel
theorem d_Ce_setWanted_35 : decode c_Ce_setWanted 35 = .ok (.getfield 24, 3) := by decide +kernel
theorem d_Ce_setWanted_38 : decode c_Ce_setWanted 38 = .ok (.iload_n 1, 1) := by decide +kernel
theorem d_Ce_setWanted_39 : decode c_Ce_setWanted 39 = .ok (.iload_n 3, 1) := by decide +kernel
theorem d_Ce_setWanted_40 : decode c_Ce_setWanted 40 = .ok (.iastore, 1) := by decide +kernel
theorem d_Ce_setWanted_41 : decode c_Ce_setWanted 41 = .ok (.iload 4, 2) := by decide +kernel
theorem d_Ce_setWanted_43 : decode c_Ce_setWanted 43 = .ok (.ireturn, 1) := by decide +kernel
theorem d_Ce_setKinds_0 : decode c_Ce_setKinds 0 = .ok (.aload_n 0, 1) := by decide +kernel
theorem d_Ce_setKinds_1 : decode c_Ce_setKinds 1 = .ok (.getfield 15, 3) := by decide +kernel
theorem d_Ce_setKinds_4 : decode c_Ce_setKinds 4 = .ok (.iload_n 1, 1) := by decide +kernel
theorem d_Ce_setKinds_5 : decode c_Ce_setKinds 5 = .ok (.iaload, 1) := by decide +kernel
theorem d_Ce_setKinds_6 : decode c_Ce_setKinds 6 = .ok (.iload_n 2, 1) := by decide +kernel
theorem d_Ce_setKinds_7 : decode c_Ce_setKinds 7 = .ok (.if_icmp .ne 13, 3) := by decide +kernel
theorem d_Ce_setKinds_10 : decode c_Ce_setKinds 10 = .ok (.aload_n 0, 1) := by decide +kernel
theorem d_Ce_setKinds_11 : decode c_Ce_setKinds 11 = .ok (.getfield 18, 3) := by decide +kernel
theorem d_Ce_setKinds_14 : decode c_Ce_setKinds 14 = .ok (.iload_n 1, 1) := by decide +kernel
theorem d_Ce_setKinds_15 : decode c_Ce_setKinds 15 = .ok (.iaload, 1) := by decide +kernel
theorem d_Ce_setKinds_16 : decode c_Ce_setKinds 16 = .ok (.iload_n 3, 1) := by decide +kernel
theorem d_Ce_setKinds_17 : decode c_Ce_setKinds 17 = .ok (.if_icmp .eq 7, 3) := by decide +kernel
theorem d_Ce_setKinds_20 : decode c_Ce_setKinds 20 = .ok (.iconst 1, 1) := by decide +kernel
theorem d_Ce_setKinds_21 : decode c_Ce_setKinds 21 = .ok (.goto 4, 3) := by decide +kernel
theorem d_Ce_setKinds_24 : decode c_Ce_setKinds 24 = .ok (.iconst 0, 1) := by decide +kernel
theorem d_Ce_setKinds_25 : decode c_Ce_setKinds 25 = .ok (.istore 4, 2) := by decide +kernel
theorem d_Ce_setKinds_27 : decode c_Ce_setKinds 27 = .ok (.aload_n 0, 1) := by decide +kernel
theorem d_Ce_setKinds_28 : decode c_Ce_setKinds 28 = .ok (.getfield 15, 3) := by decide +kernel
theorem d_Ce_setKinds_31 : decode c_Ce_setKinds 31 = .ok (.iload_n 1, 1) := by decide +kernel
theorem d_Ce_setKinds_32 : decode c_Ce_setKinds 32 = .ok (.iload_n 2, 1) := by decide +kernel
theorem d_Ce_setKinds_33 : decode c_Ce_setKinds 33 = .ok (.iastore, 1) := by decide +kernel
theorem d_Ce_setKinds_34 : decode c_Ce_setKinds 34 = .ok (.aload_n 0, 1) := by decide +kernel
theorem d_Ce_setKinds_35 : decode c_Ce_setKinds 35 = .ok (.getfield 18, 3) := by decide +kernel
theorem d_Ce_setKinds_38 : decode c_Ce_setKinds 38 = .ok (.iload_n 1, 1) := by decide +kernel
theorem d_Ce_setKinds_39 : decode c_Ce_setKinds 39 = .ok (.iload_n 3, 1) := by decide +kernel
theorem d_Ce_setKinds_40 : decode c_Ce_setKinds 40 = .ok (.iastore, 1) := by decide +kernel
theorem d_Ce_setKinds_41 : decode c_Ce_setKinds 41 = .ok (.iload 4, 2) := by decide +kernel
theorem d_Ce_setKinds_43 : decode c_Ce_setKinds 43 = .ok (.ireturn, 1) := by decide +kernel
theorem d_Ce_setSpace_0 : decode c_Ce_setSpace 0 = .ok (.aload_n 0, 1) := by decide +kernel
theorem d_Ce_setSpace_1 : decode c_Ce_setSpace 1 = .ok (.getfield 33, 3) := by decide +kernel
theorem d_Ce_setSpace_4 : decode c_Ce_setSpace 4 = .ok (.iload_n 1, 1) := by decide +kernel
theorem d_Ce_setSpace_5 : decode c_Ce_setSpace 5 = .ok (.iconst 4, 1) := by decide +kernel
theorem d_Ce_setSpace_6 : decode c_Ce_setSpace 6 = .ok (.imul, 1) := by decide +kernel
theorem d_Ce_setSpace_7 : decode c_Ce_setSpace 7 = .ok (.iload_n 2, 1) := by decide +kernel
theorem d_Ce_setSpace_8 : decode c_Ce_setSpace 8 = .ok (.iadd, 1) := by decide +kernel
theorem d_Ce_setSpace_9 : decode c_Ce_setSpace 9 = .ok (.iaload, 1) := by decide +kernel
theorem d_Ce_setSpace_10 : decode c_Ce_setSpace 10 = .ok (.iload_n 3, 1) := by decide +kernel
theorem d_Ce_setSpace_11 : decode c_Ce_setSpace 11 = .ok (.if_icmp .eq 7, 3) := by decide +kernel
theorem d_Ce_setSpace_14 : decode c_Ce_setSpace 14 = .ok (.iconst 1, 1) := by decide +kernel
theorem d_Ce_setSpace_15 : decode c_Ce_setSpace 15 = .ok (.goto 4, 3) := by decide +kernel
theorem d_Ce_setSpace_18 : decode c_Ce_setSpace 18 = .ok (.iconst 0, 1) := by decide +kernel
theorem d_Ce_setSpace_19 : decode c_Ce_setSpace 19 = .ok (.istore 4, 2) := by decide +kernel
theorem d_Ce_setSpace_21 : decode c_Ce_setSpace 21 = .ok (.aload_n 0, 1) := by decide +kernel
theorem d_Ce_setSpace_22 : decode c_Ce_setSpace 22 = .ok (.getfield 33, 3) := by decide +kernel
theorem d_Ce_setSpace_25 : decode c_Ce_setSpace 25 = .ok (.iload_n 1, 1) := by decide +kernel
theorem d_Ce_setSpace_26 : decode c_Ce_setSpace 26 = .ok (.iconst 4, 1) := by decide +kernel
theorem d_Ce_setSpace_27 : decode c_Ce_setSpace 27 = .ok (.imul, 1) := by decide +kernel
theorem d_Ce_setSpace_28 : decode c_Ce_setSpace 28 = .ok (.iload_n 2, 1) := by decide +kernel
theorem d_Ce_setSpace_29 : decode c_Ce_setSpace 29 = .ok (.iadd, 1) := by decide +kernel
theorem d_Ce_setSpace_30 : decode c_Ce_setSpace 30 = .ok (.iload_n 3, 1) := by decide +kernel
theorem d_Ce_setSpace_31 : decode c_Ce_setSpace 31 = .ok (.iastore, 1) := by decide +kernel
theorem d_Ce_setSpace_32 : decode c_Ce_setSpace 32 = .ok (.iload 4, 2) := by decide +kernel
theorem d_Ce_setSpace_34 : decode c_Ce_setSpace 34 = .ok (.ireturn, 1) := by decide +kernel
theorem d_Ce_spaceBetween_0 : decode c_Ce_spaceBetween 0 = .ok (.aload_n 0, 1) := by decide +kernel
theorem d_Ce_spaceBetween_1 : decode c_Ce_spaceBetween 1 = .ok (.getfield 33, 3) := by decide +kernel
theorem d_Ce_spaceBetween_4 : decode c_Ce_spaceBetween 4 = .ok (.aload_n 0, 1) := by decide +kernel
theorem d_Ce_spaceBetween_5 : decode c_Ce_spaceBetween 5 = .ok (.getfield 18, 3) := by decide +kernel
theorem d_Ce_spaceBetween_8 : decode c_Ce_spaceBetween 8 = .ok (.iload_n 1, 1) := by decide +kernel
theorem d_Ce_spaceBetween_9 : decode c_Ce_spaceBetween 9 = .ok (.iaload, 1) := by decide +kernel
theorem d_Ce_spaceBetween_10 : decode c_Ce_spaceBetween 10 = .ok (.iconst 4, 1) := by decide +kernel
theorem d_Ce_spaceBetween_11 : decode c_Ce_spaceBetween 11 = .ok (.imul, 1) := by decide +kernel
theorem d_Ce_spaceBetween_12 : decode c_Ce_spaceBetween 12 = .ok (.aload_n 0, 1) := by decide +kernel
theorem d_Ce_spaceBetween_13 : decode c_Ce_spaceBetween 13 = .ok (.getfield 15, 3) := by decide +kernel
theorem d_Ce_spaceBetween_16 : decode c_Ce_spaceBetween 16 = .ok (.iload_n 2, 1) := by decide +kernel
theorem d_Ce_spaceBetween_17 : decode c_Ce_spaceBetween 17 = .ok (.iaload, 1) := by decide +kernel
theorem d_Ce_spaceBetween_18 : decode c_Ce_spaceBetween 18 = .ok (.iadd, 1) := by decide +kernel
theorem d_Ce_spaceBetween_19 : decode c_Ce_spaceBetween 19 = .ok (.iaload, 1) := by decide +kernel
theorem d_Ce_spaceBetween_20 : decode c_Ce_spaceBetween 20 = .ok (.ireturn, 1) := by decide +kernel
theorem d_Ce_put_0 : decode c_Ce_put 0 = .ok (.aload_n 0, 1) := by decide +kernel
theorem d_Ce_put_1 : decode c_Ce_put 1 = .ok (.getfield 27, 3) := by decide +kernel
theorem d_Ce_put_4 : decode c_Ce_put 4 = .ok (.iload_n 1, 1) := by decide +kernel
theorem d_Ce_put_5 : decode c_Ce_put 5 = .ok (.iload_n 2, 1) := by decide +kernel
theorem d_Ce_put_6 : decode c_Ce_put 6 = .ok (.iastore, 1) := by decide +kernel
theorem d_Ce_put_7 : decode c_Ce_put 7 = .ok (.aload_n 0, 1) := by decide +kernel
theorem d_Ce_put_8 : decode c_Ce_put 8 = .ok (.getfield 30, 3) := by decide +kernel
theorem d_Ce_put_11 : decode c_Ce_put 11 = .ok (.iload_n 1, 1) := by decide +kernel
theorem d_Ce_put_12 : decode c_Ce_put 12 = .ok (.iload_n 3, 1) := by decide +kernel
theorem d_Ce_put_13 : decode c_Ce_put 13 = .ok (.iastore, 1) := by decide +kernel
theorem d_Ce_put_14 : decode c_Ce_put 14 = .ok (.return_, 1) := by decide +kernel
theorem d_Ce_exchange_0 : decode c_Ce_exchange 0 = .ok (.aload_n 0, 1) := by decide +kernel
theorem d_Ce_exchange_1 : decode c_Ce_exchange 1 = .ok (.getfield 27, 3) := by decide +kernel
theorem d_Ce_exchange_4 : decode c_Ce_exchange 4 = .ok (.iload_n 1, 1) := by decide +kernel
theorem d_Ce_exchange_5 : decode c_Ce_exchange 5 = .ok (.iaload, 1) := by decide +kernel
theorem d_Ce_exchange_6 : decode c_Ce_exchange 6 = .ok (.istore_n 3, 1) := by decide +kernel
theorem d_Ce_exchange_7 : decode c_Ce_exchange 7 = .ok (.aload_n 0, 1) := by decide +kernel
theorem d_Ce_exchange_8 : decode c_Ce_exchange 8 = .ok (.getfield 30, 3) := by decide +kernel
theorem d_Ce_exchange_11 : decode c_Ce_exchange 11 = .ok (.iload_n 1, 1) := by decide +kernel
theorem d_Ce_exchange_12 : decode c_Ce_exchange 12 = .ok (.iaload, 1) := by decide +kernel
theorem d_Ce_exchange_13 : decode c_Ce_exchange 13 = .ok (.istore 4, 2) := by decide +kernel
theorem d_Ce_exchange_15 : decode c_Ce_exchange 15 = .ok (.aload_n 0, 1) := by decide +kernel
theorem d_Ce_exchange_16 : decode c_Ce_exchange 16 = .ok (.iload_n 1, 1) := by decide +kernel
theorem d_Ce_exchange_17 : decode c_Ce_exchange 17 = .ok (.aload_n 0, 1) := by decide +kernel
theorem d_Ce_exchange_18 : decode c_Ce_exchange 18 = .ok (.getfield 27, 3) := by decide +kernel
theorem d_Ce_exchange_21 : decode c_Ce_exchange 21 = .ok (.iload_n 2, 1) := by decide +kernel
theorem d_Ce_exchange_22 : decode c_Ce_exchange 22 = .ok (.iaload, 1) := by decide +kernel
theorem d_Ce_exchange_23 : decode c_Ce_exchange 23 = .ok (.aload_n 0, 1) := by decide +kernel
theorem d_Ce_exchange_24 : decode c_Ce_exchange 24 = .ok (.getfield 30, 3) := by decide +kernel
theorem d_Ce_exchange_27 : decode c_Ce_exchange 27 = .ok (.iload_n 2, 1) := by decide +kernel
theorem d_Ce_exchange_28 : decode c_Ce_exchange 28 = .ok (.iaload, 1) := by decide +kernel
theorem d_Ce_exchange_29 : decode c_Ce_exchange 29 = .ok (.invokevirtual 40, 3) := by decide +kernel
theorem d_Ce_exchange_32 : decode c_Ce_exchange 32 = .ok (.aload_n 0, 1) := by decide +kernel
theorem d_Ce_exchange_33 : decode c_Ce_exchange 33 = .ok (.iload_n 2, 1) := by decide +kernel
theorem d_Ce_exchange_34 : decode c_Ce_exchange 34 = .ok (.iload_n 3, 1) := by decide +kernel
theorem d_Ce_exchange_35 : decode c_Ce_exchange 35 = .ok (.iload 4, 2) := by decide +kernel
theorem d_Ce_exchange_37 : decode c_Ce_exchange 37 = .ok (.invokevirtual 40, 3) := by decide +kernel
theorem d_Ce_exchange_40 : decode c_Ce_exchange 40 = .ok (.return_, 1) := by decide +kernel
theorem d_Ce_alike_0 : decode c_Ce_alike 0 = .ok (.aload_n 0, 1) := by decide +kernel
theorem d_Ce_alike_1 : decode c_Ce_alike 1 = .ok (.getfield 9, 3) := by decide +kernel
theorem d_Ce_alike_4 : decode c_Ce_alike 4 = .ok (.iload_n 1, 1) := by decide +kernel
theorem d_Ce_alike_5 : decode c_Ce_alike 5 = .ok (.iaload, 1) := by decide +kernel
theorem d_Ce_alike_6 : decode c_Ce_alike 6 = .ok (.aload_n 0, 1) := by decide +kernel
theorem d_Ce_alike_7 : decode c_Ce_alike 7 = .ok (.getfield 9, 3) := by decide +kernel
theorem d_Ce_alike_10 : decode c_Ce_alike 10 = .ok (.iload_n 2, 1) := by decide +kernel
theorem d_Ce_alike_11 : decode c_Ce_alike 11 = .ok (.iaload, 1) := by decide +kernel
theorem d_Ce_alike_12 : decode c_Ce_alike 12 = .ok (.if_icmp .ne 37, 3) := by decide +kernel
theorem d_Ce_alike_15 : decode c_Ce_alike 15 = .ok (.aload_n 0, 1) := by decide +kernel
theorem d_Ce_alike_16 : decode c_Ce_alike 16 = .ok (.getfield 15, 3) := by decide +kernel
theorem d_Ce_alike_19 : decode c_Ce_alike 19 = .ok (.iload_n 1, 1) := by decide +kernel
theorem d_Ce_alike_20 : decode c_Ce_alike 20 = .ok (.iaload, 1) := by decide +kernel
theorem d_Ce_alike_21 : decode c_Ce_alike 21 = .ok (.aload_n 0, 1) := by decide +kernel
theorem d_Ce_alike_22 : decode c_Ce_alike 22 = .ok (.getfield 15, 3) := by decide +kernel
theorem d_Ce_alike_25 : decode c_Ce_alike 25 = .ok (.iload_n 2, 1) := by decide +kernel
theorem d_Ce_alike_26 : decode c_Ce_alike 26 = .ok (.iaload, 1) := by decide +kernel
theorem d_Ce_alike_27 : decode c_Ce_alike 27 = .ok (.if_icmp .ne 22, 3) := by decide +kernel
theorem d_Ce_alike_30 : decode c_Ce_alike 30 = .ok (.aload_n 0, 1) := by decide +kernel
theorem d_Ce_alike_31 : decode c_Ce_alike 31 = .ok (.getfield 18, 3) := by decide +kernel
theorem d_Ce_alike_34 : decode c_Ce_alike 34 = .ok (.iload_n 1, 1) := by decide +kernel
theorem d_Ce_alike_35 : decode c_Ce_alike 35 = .ok (.iaload, 1) := by decide +kernel
theorem d_Ce_alike_36 : decode c_Ce_alike 36 = .ok (.aload_n 0, 1) := by decide +kernel
theorem d_Ce_alike_37 : decode c_Ce_alike 37 = .ok (.getfield 18, 3) := by decide +kernel
theorem d_Ce_alike_40 : decode c_Ce_alike 40 = .ok (.iload_n 2, 1) := by decide +kernel
theorem d_Ce_alike_41 : decode c_Ce_alike 41 = .ok (.iaload, 1) := by decide +kernel
theorem d_Ce_alike_42 : decode c_Ce_alike 42 = .ok (.if_icmp .ne 7, 3) := by decide +kernel
theorem d_Ce_alike_45 : decode c_Ce_alike 45 = .ok (.iconst 1, 1) := by decide +kernel
theorem d_Ce_alike_46 : decode c_Ce_alike 46 = .ok (.goto 4, 3) := by decide +kernel
theorem d_Ce_alike_49 : decode c_Ce_alike 49 = .ok (.iconst 0, 1) := by decide +kernel
theorem d_Ce_alike_50 : decode c_Ce_alike 50 = .ok (.ireturn, 1) := by decide +kernel
theorem d_Ce_end_0 : decode c_Ce_end 0 = .ok (.aload_n 0, 1) := by decide +kernel
theorem d_Ce_end_1 : decode c_Ce_end 1 = .ok (.getfield 27, 3) := by decide +kernel
theorem d_Ce_end_4 : decode c_Ce_end 4 = .ok (.iload_n 1, 1) := by decide +kernel
theorem d_Ce_end_5 : decode c_Ce_end 5 = .ok (.iaload, 1) := by decide +kernel
theorem d_Ce_end_6 : decode c_Ce_end 6 = .ok (.aload_n 0, 1) := by decide +kernel
theorem d_Ce_end_7 : decode c_Ce_end 7 = .ok (.getfield 9, 3) := by decide +kernel
theorem d_Ce_end_10 : decode c_Ce_end 10 = .ok (.iload_n 1, 1) := by decide +kernel
theorem d_Ce_end_11 : decode c_Ce_end 11 = .ok (.iaload, 1) := by decide +kernel
theorem d_Ce_end_12 : decode c_Ce_end 12 = .ok (.iadd, 1) := by decide +kernel
theorem d_Ce_end_13 : decode c_Ce_end 13 = .ok (.ireturn, 1) := by decide +kernel
theorem d_Ce_shareSite_0 : decode c_Ce_shareSite 0 = .ok (.aload_n 0, 1) := by decide +kernel
theorem d_Ce_shareSite_1 : decode c_Ce_shareSite 1 = .ok (.getfield 30, 3) := by decide +kernel
theorem d_Ce_shareSite_4 : decode c_Ce_shareSite 4 = .ok (.iload_n 1, 1) := by decide +kernel
theorem d_Ce_shareSite_5 : decode c_Ce_shareSite 5 = .ok (.iaload, 1) := by decide +kernel
theorem d_Ce_shareSite_6 : decode c_Ce_shareSite 6 = .ok (.aload_n 0, 1) := by decide +kernel
theorem d_Ce_shareSite_7 : decode c_Ce_shareSite 7 = .ok (.getfield 30, 3) := by decide +kernel
theorem d_Ce_shareSite_10 : decode c_Ce_shareSite 10 = .ok (.iload_n 2, 1) := by decide +kernel
theorem d_Ce_shareSite_11 : decode c_Ce_shareSite 11 = .ok (.iaload, 1) := by decide +kernel
theorem d_Ce_shareSite_12 : decode c_Ce_shareSite 12 = .ok (.if_icmp .ne 35, 3) := by decide +kernel
theorem d_Ce_shareSite_15 : decode c_Ce_shareSite 15 = .ok (.aload_n 0, 1) := by decide +kernel
theorem d_Ce_shareSite_16 : decode c_Ce_shareSite 16 = .ok (.getfield 27, 3) := by decide +kernel
theorem d_Ce_shareSite_19 : decode c_Ce_shareSite 19 = .ok (.iload_n 1, 1) := by decide +kernel
theorem d_Ce_shareSite_20 : decode c_Ce_shareSite 20 = .ok (.iaload, 1) := by decide +kernel
theorem d_Ce_shareSite_21 : decode c_Ce_shareSite 21 = .ok (.aload_n 0, 1) := by decide +kernel
theorem d_Ce_shareSite_22 : decode c_Ce_shareSite 22 = .ok (.iload_n 2, 1) := by decide +kernel
theorem d_Ce_shareSite_23 : decode c_Ce_shareSite 23 = .ok (.invokevirtual 44, 3) := by decide +kernel
theorem d_Ce_shareSite_26 : decode c_Ce_shareSite 26 = .ok (.if_icmp .ge 21, 3) := by decide +kernel
theorem d_Ce_shareSite_29 : decode c_Ce_shareSite 29 = .ok (.aload_n 0, 1) := by decide +kernel
theorem d_Ce_shareSite_30 : decode c_Ce_shareSite 30 = .ok (.getfield 27, 3) := by decide +kernel
theorem d_Ce_shareSite_33 : decode c_Ce_shareSite 33 = .ok (.iload_n 2, 1) := by decide +kernel
theorem d_Ce_shareSite_34 : decode c_Ce_shareSite 34 = .ok (.iaload, 1) := by decide +kernel
theorem d_Ce_shareSite_35 : decode c_Ce_shareSite 35 = .ok (.aload_n 0, 1) := by decide +kernel
theorem d_Ce_shareSite_36 : decode c_Ce_shareSite 36 = .ok (.iload_n 1, 1) := by decide +kernel
theorem d_Ce_shareSite_37 : decode c_Ce_shareSite 37 = .ok (.invokevirtual 44, 3) := by decide +kernel
theorem d_Ce_shareSite_40 : decode c_Ce_shareSite 40 = .ok (.if_icmp .ge 7, 3) := by decide +kernel
theorem d_Ce_shareSite_43 : decode c_Ce_shareSite 43 = .ok (.iconst 1, 1) := by decide +kernel
theorem d_Ce_shareSite_44 : decode c_Ce_shareSite 44 = .ok (.goto 4, 3) := by decide +kernel
theorem d_Ce_shareSite_47 : decode c_Ce_shareSite 47 = .ok (.iconst 0, 1) := by decide +kernel
theorem d_Ce_shareSite_48 : decode c_Ce_shareSite 48 = .ok (.ireturn, 1) := by decide +kernel
theorem d_Ce_rowCost_0 : decode c_Ce_rowCost 0 = .ok (.bipush 20, 2) := by decide +kernel
theorem d_Ce_rowCost_2 : decode c_Ce_rowCost 2 = .ok (.aload_n 0, 1) := by decide +kernel
theorem d_Ce_rowCost_3 : decode c_Ce_rowCost 3 = .ok (.getfield 24, 3) := by decide +kernel
theorem d_Ce_rowCost_6 : decode c_Ce_rowCost 6 = .ok (.iload_n 1, 1) := by decide +kernel
theorem d_Ce_rowCost_7 : decode c_Ce_rowCost 7 = .ok (.iaload, 1) := by decide +kernel
theorem d_Ce_rowCost_8 : decode c_Ce_rowCost 8 = .ok (.iload_n 2, 1) := by decide +kernel
theorem d_Ce_rowCost_9 : decode c_Ce_rowCost 9 = .ok (.isub, 1) := by decide +kernel
theorem d_Ce_rowCost_10 : decode c_Ce_rowCost 10 = .ok (.invokestatic 48, 3) := by decide +kernel
theorem d_Ce_rowCost_13 : decode c_Ce_rowCost 13 = .ok (.imul, 1) := by decide +kernel
theorem d_Ce_rowCost_14 : decode c_Ce_rowCost 14 = .ok (.ireturn, 1) := by decide +kernel
theorem d_Ce_wayFromWanted_0 : decode c_Ce_wayFromWanted 0 = .ok (.lconst 0, 1) := by decide +kernel
theorem d_Ce_wayFromWanted_1 : decode c_Ce_wayFromWanted 1 = .ok (.lstore_n 1, 1) := by decide +kernel
theorem d_Ce_wayFromWanted_2 : decode c_Ce_wayFromWanted 2 = .ok (.iconst 0, 1) := by decide +kernel
theorem d_Ce_wayFromWanted_3 : decode c_Ce_wayFromWanted 3 = .ok (.istore_n 3, 1) := by decide +kernel
theorem d_Ce_wayFromWanted_4 : decode c_Ce_wayFromWanted 4 = .ok (.iload_n 3, 1) := by decide +kernel
theorem d_Ce_wayFromWanted_5 : decode c_Ce_wayFromWanted 5 = .ok (.aload_n 0, 1) := by decide +kernel
theorem d_Ce_wayFromWanted_6 : decode c_Ce_wayFromWanted 6 = .ok (.getfield 36, 3) := by decide +kernel
theorem d_Ce_wayFromWanted_9 : decode c_Ce_wayFromWanted 9 = .ok (.if_icmp .ge 41, 3) := by decide +kernel
theorem d_Ce_wayFromWanted_12 : decode c_Ce_wayFromWanted 12 = .ok (.lload_n 1, 1) := by decide +kernel
theorem d_Ce_wayFromWanted_13 : decode c_Ce_wayFromWanted 13 = .ok (.aload_n 0, 1) := by decide +kernel
theorem d_Ce_wayFromWanted_14 : decode c_Ce_wayFromWanted 14 = .ok (.getfield 27, 3) := by decide +kernel
theorem d_Ce_wayFromWanted_17 : decode c_Ce_wayFromWanted 17 = .ok (.iload_n 3, 1) := by decide +kernel
theorem d_Ce_wayFromWanted_18 : decode c_Ce_wayFromWanted 18 = .ok (.iaload, 1) := by decide +kernel
theorem d_Ce_wayFromWanted_19 : decode c_Ce_wayFromWanted 19 = .ok (.aload_n 0, 1) := by decide +kernel
theorem d_Ce_wayFromWanted_20 : decode c_Ce_wayFromWanted 20 = .ok (.getfield 21, 3) := by decide +kernel
theorem d_Ce_wayFromWanted_23 : decode c_Ce_wayFromWanted 23 = .ok (.iload_n 3, 1) := by decide +kernel
theorem d_Ce_wayFromWanted_24 : decode c_Ce_wayFromWanted 24 = .ok (.iaload, 1) := by decide +kernel
theorem d_Ce_wayFromWanted_25 : decode c_Ce_wayFromWanted 25 = .ok (.isub, 1) := by decide +kernel
theorem d_Ce_wayFromWanted_26 : decode c_Ce_wayFromWanted 26 = .ok (.invokestatic 48, 3) := by decide +kernel
theorem d_Ce_wayFromWanted_29 : decode c_Ce_wayFromWanted 29 = .ok (.aload_n 0, 1) := by decide +kernel
theorem d_Ce_wayFromWanted_30 : decode c_Ce_wayFromWanted 30 = .ok (.iload_n 3, 1) := by decide +kernel
theorem d_Ce_wayFromWanted_31 : decode c_Ce_wayFromWanted 31 = .ok (.aload_n 0, 1) := by decide +kernel
theorem d_Ce_wayFromWanted_32 : decode c_Ce_wayFromWanted 32 = .ok (.getfield 30, 3) := by decide +kernel
theorem d_Ce_wayFromWanted_35 : decode c_Ce_wayFromWanted 35 = .ok (.iload_n 3, 1) := by decide +kernel
theorem d_Ce_wayFromWanted_36 : decode c_Ce_wayFromWanted 36 = .ok (.iaload, 1) := by decide +kernel
theorem d_Ce_wayFromWanted_37 : decode c_Ce_wayFromWanted 37 = .ok (.invokevirtual 53, 3) := by decide +kernel
theorem d_Ce_wayFromWanted_40 : decode c_Ce_wayFromWanted 40 = .ok (.iadd, 1) := by decide +kernel
theorem d_Ce_wayFromWanted_41 : decode c_Ce_wayFromWanted 41 = .ok (.i2l, 1) := by decide +kernel
theorem d_Ce_wayFromWanted_42 : decode c_Ce_wayFromWanted 42 = .ok (.ladd, 1) := by decide +kernel
theorem d_Ce_wayFromWanted_43 : decode c_Ce_wayFromWanted 43 = .ok (.lstore_n 1, 1) := by decide +kernel
theorem d_Ce_wayFromWanted_44 : decode c_Ce_wayFromWanted 44 = .ok (.iinc 3 1, 3) := by decide +kernel
theorem d_Ce_wayFromWanted_47 : decode c_Ce_wayFromWanted 47 = .ok (.goto (-43), 3) := by decide +kernel
theorem d_Ce_wayFromWanted_50 : decode c_Ce_wayFromWanted 50 = .ok (.lload_n 1, 1) := by decide +kernel
theorem d_Ce_wayFromWanted_51 : decode c_Ce_wayFromWanted 51 = .ok (.lreturn, 1) := by decide +kernel
theorem d_Ce_distance_0 : decode c_Ce_distance 0 = .ok (.aload_n 0, 1) := by decide +kernel
theorem d_Ce_distance_1 : decode c_Ce_distance 1 = .ok (.getfield 27, 3) := by decide +kernel
theorem d_Ce_distance_4 : decode c_Ce_distance 4 = .ok (.iload_n 1, 1) := by decide +kernel
theorem d_Ce_distance_5 : decode c_Ce_distance 5 = .ok (.iaload, 1) := by decide +kernel
theorem d_Ce_distance_6 : decode c_Ce_distance 6 = .ok (.aload_n 0, 1) := by decide +kernel
theorem d_Ce_distance_7 : decode c_Ce_distance 7 = .ok (.iload_n 1, 1) := by decide +kernel
theorem d_Ce_distance_8 : decode c_Ce_distance 8 = .ok (.invokevirtual 44, 3) := by decide +kernel
theorem d_Ce_distance_11 : decode c_Ce_distance 11 = .ok (.iadd, 1) := by decide +kernel
theorem d_Ce_distance_12 : decode c_Ce_distance 12 = .ok (.aload_n 0, 1) := by decide +kernel
theorem d_Ce_distance_13 : decode c_Ce_distance 13 = .ok (.getfield 27, 3) := by decide +kernel
theorem d_Ce_distance_16 : decode c_Ce_distance 16 = .ok (.iload_n 2, 1) := by decide +kernel
theorem d_Ce_distance_17 : decode c_Ce_distance 17 = .ok (.iaload, 1) := by decide +kernel
theorem d_Ce_distance_18 : decode c_Ce_distance 18 = .ok (.isub, 1) := by decide +kernel
theorem d_Ce_distance_19 : decode c_Ce_distance 19 = .ok (.aload_n 0, 1) := by decide +kernel
theorem d_Ce_distance_20 : decode c_Ce_distance 20 = .ok (.iload_n 2, 1) := by decide +kernel
theorem d_Ce_distance_21 : decode c_Ce_distance 21 = .ok (.invokevirtual 44, 3) := by decide +kernel
theorem d_Ce_distance_24 : decode c_Ce_distance 24 = .ok (.isub, 1) := by decide +kernel
theorem d_Ce_distance_25 : decode c_Ce_distance 25 = .ok (.invokestatic 48, 3) := by decide +kernel
theorem d_Ce_distance_28 : decode c_Ce_distance 28 = .ok (.istore_n 3, 1) := by decide +kernel
theorem d_Ce_distance_29 : decode c_Ce_distance 29 = .ok (.iload_n 3, 1) := by decide +kernel
theorem d_Ce_distance_30 : decode c_Ce_distance 30 = .ok (.bipush 40, 2) := by decide +kernel
theorem d_Ce_distance_32 : decode c_Ce_distance 32 = .ok (.aload_n 0, 1) := by decide +kernel
theorem d_Ce_distance_33 : decode c_Ce_distance 33 = .ok (.getfield 30, 3) := by decide +kernel
theorem d_Ce_distance_36 : decode c_Ce_distance 36 = .ok (.iload_n 1, 1) := by decide +kernel
theorem d_Ce_distance_37 : decode c_Ce_distance 37 = .ok (.iaload, 1) := by decide +kernel
theorem d_Ce_distance_38 : decode c_Ce_distance 38 = .ok (.aload_n 0, 1) := by decide +kernel
theorem d_Ce_distance_39 : decode c_Ce_distance 39 = .ok (.getfield 30, 3) := by decide +kernel
theorem d_Ce_distance_42 : decode c_Ce_distance 42 = .ok (.iload_n 2, 1) := by decide +kernel
theorem d_Ce_distance_43 : decode c_Ce_distance 43 = .ok (.iaload, 1) := by decide +kernel
theorem d_Ce_distance_44 : decode c_Ce_distance 44 = .ok (.isub, 1) := by decide +kernel
theorem d_Ce_distance_45 : decode c_Ce_distance 45 = .ok (.invokestatic 48, 3) := by decide +kernel
theorem d_Ce_distance_48 : decode c_Ce_distance 48 = .ok (.imul, 1) := by decide +kernel
theorem d_Ce_distance_49 : decode c_Ce_distance 49 = .ok (.iadd, 1) := by decide +kernel
theorem d_Ce_distance_50 : decode c_Ce_distance 50 = .ok (.ireturn, 1) := by decide +kernel
theorem d_Gr_init_0 : decode c_Gr_init 0 = .ok (.aload_n 0, 1) := by decide +kernel
theorem d_Gr_init_1 : decode c_Gr_init 1 = .ok (.invokespecial 1, 3) := by decide +kernel
theorem d_Gr_init_4 : decode c_Gr_init 4 = .ok (.aload_n 0, 1) := by decide +kernel
theorem d_Gr_init_5 : decode c_Gr_init 5 = .ok (.iload_n 1, 1) := by decide +kernel
theorem d_Gr_init_6 : decode c_Gr_init 6 = .ok (.putfield 7, 3) := by decide +kernel
theorem d_Gr_init_9 : decode c_Gr_init 9 = .ok (.aload_n 0, 1) := by decide +kernel
theorem d_Gr_init_10 : decode c_Gr_init 10 = .ok (.iload_n 2, 1) := by decide +kernel
theorem d_Gr_init_11 : decode c_Gr_init 11 = .ok (.putfield 13, 3) := by decide +kernel
theorem d_Gr_init_14 : decode c_Gr_init 14 = .ok (.iload_n 1, 1) := by decide +kernel
theorem d_Gr_init_15 : decode c_Gr_init 15 = .ok (.iload_n 2, 1) := by decide +kernel
theorem d_Gr_init_16 : decode c_Gr_init 16 = .ok (.iconst 1, 1) := by decide +kernel
theorem d_Gr_init_17 : decode c_Gr_init 17 = .ok (.iadd, 1) := by decide +kernel
theorem d_Gr_init_18 : decode c_Gr_init 18 = .ok (.iconst 2, 1) := by decide +kernel
theorem d_Gr_init_19 : decode c_Gr_init 19 = .ok (.idiv, 1) := by decide +kernel
theorem d_Gr_init_20 : decode c_Gr_init 20 = .ok (.imul, 1) := by decide +kernel
theorem d_Gr_init_21 : decode c_Gr_init 21 = .ok (.istore_n 3, 1) := by decide +kernel
theorem d_Gr_init_22 : decode c_Gr_init 22 = .ok (.aload_n 0, 1) := by decide +kernel
theorem d_Gr_init_23 : decode c_Gr_init 23 = .ok (.iload_n 3, 1) := by decide +kernel
theorem d_Gr_init_24 : decode c_Gr_init 24 = .ok (.newarray .int, 2) := by decide +kernel
theorem d_Gr_init_26 : decode c_Gr_init 26 = .ok (.putfield 16, 3) := by decide +kernel
theorem d_Gr_init_29 : decode c_Gr_init 29 = .ok (.aload_n 0, 1) := by decide +kernel
theorem d_Gr_init_30 : decode c_Gr_init 30 = .ok (.iload_n 3, 1) := by decide +kernel
theorem d_Gr_init_31 : decode c_Gr_init 31 = .ok (.newarray .int, 2) := by decide +kernel
theorem d_Gr_init_33 : decode c_Gr_init 33 = .ok (.putfield 20, 3) := by decide +kernel
theorem d_Gr_init_36 : decode c_Gr_init 36 = .ok (.aload_n 0, 1) := by decide +kernel
theorem d_Gr_init_37 : decode c_Gr_init 37 = .ok (.iload_n 3, 1) := by decide +kernel
theorem d_Gr_init_38 : decode c_Gr_init 38 = .ok (.newarray .int, 2) := by decide +kernel
theorem d_Gr_init_40 : decode c_Gr_init 40 = .ok (.putfield 23, 3) := by decide +kernel
theorem d_Gr_init_43 : decode c_Gr_init 43 = .ok (.iconst 0, 1) := by decide +kernel
theorem d_Gr_init_44 : decode c_Gr_init 44 = .ok (.istore 4, 2) := by decide +kernel
theorem d_Gr_init_46 : decode c_Gr_init 46 = .ok (.iload 4, 2) := by decide +kernel
theorem d_Gr_init_48 : decode c_Gr_init 48 = .ok (.iload_n 1, 1) := by decide +kernel
theorem d_Gr_init_49 : decode c_Gr_init 49 = .ok (.if_icmp .ge 26, 3) := by decide +kernel
theorem d_Gr_init_52 : decode c_Gr_init 52 = .ok (.aload_n 0, 1) := by decide +kernel
theorem d_Gr_init_53 : decode c_Gr_init 53 = .ok (.getfield 16, 3) := by decide +kernel
theorem d_Gr_init_56 : decode c_Gr_init 56 = .ok (.iload 4, 2) := by decide +kernel
theorem d_Gr_init_58 : decode c_Gr_init 58 = .ok (.iload 4, 2) := by decide +kernel
theorem d_Gr_init_60 : decode c_Gr_init 60 = .ok (.iastore, 1) := by decide +kernel
theorem d_Gr_init_61 : decode c_Gr_init 61 = .ok (.aload_n 0, 1) := by decide +kernel
theorem d_Gr_init_62 : decode c_Gr_init 62 = .ok (.getfield 23, 3) := by decide +kernel
theorem d_Gr_init_65 : decode c_Gr_init 65 = .ok (.iload 4, 2) := by decide +kernel
theorem d_Gr_init_67 : decode c_Gr_init 67 = .ok (.iload_n 2, 1) := by decide +kernel
theorem d_Gr_init_68 : decode c_Gr_init 68 = .ok (.iastore, 1) := by decide +kernel
theorem d_Gr_init_69 : decode c_Gr_init 69 = .ok (.iinc 4 1, 3) := by decide +kernel
theorem d_Gr_init_72 : decode c_Gr_init 72 = .ok (.goto (-26), 3) := by decide +kernel
theorem d_Gr_init_75 : decode c_Gr_init 75 = .ok (.aload_n 0, 1) := by decide +kernel
theorem d_Gr_init_76 : decode c_Gr_init 76 = .ok (.iload_n 1, 1) := by decide +kernel
theorem d_Gr_init_77 : decode c_Gr_init 77 = .ok (.putfield 26, 3) := by decide +kernel
theorem d_Gr_init_80 : decode c_Gr_init 80 = .ok (.return_, 1) := by decide +kernel
theorem d_Gr_cut_0 : decode c_Gr_cut 0 = .ok (.iconst 0, 1) := by decide +kernel
theorem d_Gr_cut_1 : decode c_Gr_cut 1 = .ok (.istore 4, 2) := by decide +kernel
theorem d_Gr_cut_3 : decode c_Gr_cut 3 = .ok (.aload_n 0, 1) := by decide +kernel
theorem d_Gr_cut_4 : decode c_Gr_cut 4 = .ok (.getfield 26, 3) := by decide +kernel
theorem d_Gr_cut_7 : decode c_Gr_cut 7 = .ok (.iconst 1, 1) := by decide +kernel
theorem d_Gr_cut_8 : decode c_Gr_cut 8 = .ok (.isub, 1) := by decide +kernel
theorem d_Gr_cut_9 : decode c_Gr_cut 9 = .ok (.istore 5, 2) := by decide +kernel
theorem d_Gr_cut_11 : decode c_Gr_cut 11 = .ok (.iload 5, 2) := by decide +kernel
theorem d_Gr_cut_13 : decode c_Gr_cut 13 = .ok (.ifCond .lt 56, 3) := by decide +kernel
theorem d_Gr_cut_16 : decode c_Gr_cut 16 = .ok (.aload_n 0, 1) := by decide +kernel
theorem d_Gr_cut_17 : decode c_Gr_cut 17 = .ok (.getfield 16, 3) := by decide +kernel
theorem d_Gr_cut_20 : decode c_Gr_cut 20 = .ok (.iload 5, 2) := by decide +kernel
theorem d_Gr_cut_22 : decode c_Gr_cut 22 = .ok (.iaload, 1) := by decide +kernel
theorem d_Gr_cut_23 : decode c_Gr_cut 23 = .ok (.iload_n 1, 1) := by decide +kernel
theorem d_Gr_cut_24 : decode c_Gr_cut 24 = .ok (.if_icmp .ne 39, 3) := by decide +kernel
theorem d_Gr_cut_27 : decode c_Gr_cut 27 = .ok (.aload_n 0, 1) := by decide +kernel
theorem d_Gr_cut_28 : decode c_Gr_cut 28 = .ok (.getfield 20, 3) := by decide +kernel
theorem d_Gr_cut_31 : decode c_Gr_cut 31 = .ok (.iload 5, 2) := by decide +kernel
theorem d_Gr_cut_33 : decode c_Gr_cut 33 = .ok (.iaload, 1) := by decide +kernel
theorem d_Gr_cut_34 : decode c_Gr_cut 34 = .ok (.iload_n 2, 1) := by decide +kernel
theorem d_Gr_cut_35 : decode c_Gr_cut 35 = .ok (.invokestatic 29, 3) := by decide +kernel
theorem d_Gr_cut_38 : decode c_Gr_cut 38 = .ok (.aload_n 0, 1) := by decide +kernel
theorem d_Gr_cut_39 : decode c_Gr_cut 39 = .ok (.getfield 23, 3) := by decide +kernel
theorem d_Gr_cut_42 : decode c_Gr_cut 42 = .ok (.iload 5, 2) := by decide +kernel
theorem d_Gr_cut_44 : decode c_Gr_cut 44 = .ok (.iaload, 1) := by decide +kernel
theorem d_Gr_cut_45 : decode c_Gr_cut 45 = .ok (.iload_n 3, 1) := by decide +kernel
theorem d_Gr_cut_46 : decode c_Gr_cut 46 = .ok (.invokestatic 35, 3) := by decide +kernel
theorem d_Gr_cut_49 : decode c_Gr_cut 49 = .ok (.if_icmp .ge 14, 3) := by decide +kernel
theorem d_Gr_cut_52 : decode c_Gr_cut 52 = .ok (.aload_n 0, 1) := by decide +kernel
theorem d_Gr_cut_53 : decode c_Gr_cut 53 = .ok (.iload 5, 2) := by decide +kernel
theorem d_Gr_cut_55 : decode c_Gr_cut 55 = .ok (.iload_n 2, 1) := by decide +kernel
theorem d_Gr_cut_56 : decode c_Gr_cut 56 = .ok (.iload_n 3, 1) := by decide +kernel
theorem d_Gr_cut_57 : decode c_Gr_cut 57 = .ok (.invokevirtual 38, 3) := by decide +kernel
theorem d_Gr_cut_60 : decode c_Gr_cut 60 = .ok (.iconst 1, 1) := by decide +kernel
theorem d_Gr_cut_61 : decode c_Gr_cut 61 = .ok (.istore 4, 2) := by decide +kernel
theorem d_Gr_cut_63 : decode c_Gr_cut 63 = .ok (.iinc 5 (-1), 3) := by decide +kernel
theorem d_Gr_cut_66 : decode c_Gr_cut 66 = .ok (.goto (-55), 3) := by decide +kernel
theorem d_Gr_cut_69 : decode c_Gr_cut 69 = .ok (.iload 4, 2) := by decide +kernel
theorem d_Gr_cut_71 : decode c_Gr_cut 71 = .ok (.ireturn, 1) := by decide +kernel
theorem d_Gr_cutPart_0 : decode c_Gr_cutPart 0 = .ok (.aload_n 0, 1) := by decide +kernel
theorem d_Gr_cutPart_1 : decode c_Gr_cutPart 1 = .ok (.getfield 20, 3) := by decide +kernel
theorem d_Gr_cutPart_4 : decode c_Gr_cutPart 4 = .ok (.iload_n 1, 1) := by decide +kernel
theorem d_Gr_cutPart_5 : decode c_Gr_cutPart 5 = .ok (.iaload, 1) := by decide +kernel
theorem d_Gr_cutPart_6 : decode c_Gr_cutPart 6 = .ok (.iload_n 2, 1) := by decide +kernel
theorem d_Gr_cutPart_7 : decode c_Gr_cutPart 7 = .ok (.if_icmp .ge 7, 3) := by decide +kernel
theorem d_Gr_cutPart_10 : decode c_Gr_cutPart 10 = .ok (.iconst 1, 1) := by decide +kernel
theorem d_Gr_cutPart_11 : decode c_Gr_cutPart 11 = .ok (.goto 4, 3) := by decide +kernel
theorem d_Gr_cutPart_14 : decode c_Gr_cutPart 14 = .ok (.iconst 0, 1) := by decide +kernel
theorem d_Gr_cutPart_15 : decode c_Gr_cutPart 15 = .ok (.istore 4, 2) := by decide +kernel
theorem d_Gr_cutPart_17 : decode c_Gr_cutPart 17 = .ok (.iload_n 3, 1) := by decide +kernel
theorem d_Gr_cutPart_18 : decode c_Gr_cutPart 18 = .ok (.aload_n 0, 1) := by decide +kernel
theorem d_Gr_cutPart_19 : decode c_Gr_cutPart 19 = .ok (.getfield 23, 3) := by decide +kernel
theorem d_Gr_cutPart_22 : decode c_Gr_cutPart 22 = .ok (.iload_n 1, 1) := by decide +kernel
theorem d_Gr_cutPart_23 : decode c_Gr_cutPart 23 = .ok (.iaload, 1) := by decide +kernel
theorem d_Gr_cutPart_24 : decode c_Gr_cutPart 24 = .ok (.if_icmp .ge 7, 3) := by decide +kernel
theorem d_Gr_cutPart_27 : decode c_Gr_cutPart 27 = .ok (.iconst 1, 1) := by decide +kernel
theorem d_Gr_cutPart_28 : decode c_Gr_cutPart 28 = .ok (.goto 4, 3) := by decide +kernel
theorem d_Gr_cutPart_31 : decode c_Gr_cutPart 31 = .ok (.iconst 0, 1) := by decide +kernel
theorem d_Gr_cutPart_32 : decode c_Gr_cutPart 32 = .ok (.istore 5, 2) := by decide +kernel
theorem d_Gr_cutPart_34 : decode c_Gr_cutPart 34 = .ok (.iload 4, 2) := by decide +kernel
theorem d_Gr_cutPart_36 : decode c_Gr_cutPart 36 = .ok (.ifCond .eq 20, 3) := by decide +kernel
theorem d_Gr_cutPart_39 : decode c_Gr_cutPart 39 = .ok (.iload 5, 2) := by decide +kernel
theorem d_Gr_cutPart_41 : decode c_Gr_cutPart 41 = .ok (.ifCond .eq 15, 3) := by decide +kernel
theorem d_Gr_cutPart_44 : decode c_Gr_cutPart 44 = .ok (.aload_n 0, 1) := by decide +kernel
theorem d_Gr_cutPart_45 : decode c_Gr_cutPart 45 = .ok (.iload_n 1, 1) := by decide +kernel
theorem d_Gr_cutPart_46 : decode c_Gr_cutPart 46 = .ok (.iload_n 3, 1) := by decide +kernel
theorem d_Gr_cutPart_47 : decode c_Gr_cutPart 47 = .ok (.aload_n 0, 1) := by decide +kernel
theorem d_Gr_cutPart_48 : decode c_Gr_cutPart 48 = .ok (.getfield 23, 3) := by decide +kernel
theorem d_Gr_cutPart_51 : decode c_Gr_cutPart 51 = .ok (.iload_n 1, 1) := by decide +kernel
theorem d_Gr_cutPart_52 : decode c_Gr_cutPart 52 = .ok (.iaload, 1) := by decide +kernel
theorem d_Gr_cutPart_53 : decode c_Gr_cutPart 53 = .ok (.invokevirtual 42, 3) := by decide +kernel
theorem d_Gr_cutPart_56 : decode c_Gr_cutPart 56 = .ok (.iload 4, 2) := by decide +kernel
theorem d_Gr_cutPart_58 : decode c_Gr_cutPart 58 = .ok (.ifCond .eq 13, 3) := by decide +kernel
theorem d_Gr_cutPart_61 : decode c_Gr_cutPart 61 = .ok (.aload_n 0, 1) := by decide +kernel
theorem d_Gr_cutPart_62 : decode c_Gr_cutPart 62 = .ok (.getfield 23, 3) := by decide +kernel
theorem d_Gr_cutPart_65 : decode c_Gr_cutPart 65 = .ok (.iload_n 1, 1) := by decide +kernel
theorem d_Gr_cutPart_66 : decode c_Gr_cutPart 66 = .ok (.iload_n 2, 1) := by decide +kernel
theorem d_Gr_cutPart_67 : decode c_Gr_cutPart 67 = .ok (.iastore, 1) := by decide +kernel
theorem d_Gr_cutPart_68 : decode c_Gr_cutPart 68 = .ok (.goto 23, 3) := by decide +kernel
theorem d_Gr_cutPart_71 : decode c_Gr_cutPart 71 = .ok (.iload 5, 2) := by decide +kernel
theorem d_Gr_cutPart_73 : decode c_Gr_cutPart 73 = .ok (.ifCond .eq 13, 3) := by decide +kernel
theorem d_Gr_cutPart_76 : decode c_Gr_cutPart 76 = .ok (.aload_n 0, 1) := by decide +kernel
theorem d_Gr_cutPart_77 : decode c_Gr_cutPart 77 = .ok (.getfield 20, 3) := by decide +kernel
theorem d_Gr_cutPart_80 : decode c_Gr_cutPart 80 = .ok (.iload_n 1, 1) := by decide +kernel
theorem d_Gr_cutPart_81 : decode c_Gr_cutPart 81 = .ok (.iload_n 3, 1) := by decide +kernel
theorem d_Gr_cutPart_82 : decode c_Gr_cutPart 82 = .ok (.iastore, 1) := by decide +kernel
theorem d_Gr_cutPart_83 : decode c_Gr_cutPart 83 = .ok (.goto 8, 3) := by decide +kernel
theorem d_Gr_cutPart_86 : decode c_Gr_cutPart 86 = .ok (.aload_n 0, 1) := by decide +kernel
theorem d_Gr_cutPart_87 : decode c_Gr_cutPart 87 = .ok (.iload_n 1, 1) := by decide +kernel
theorem d_Gr_cutPart_88 : decode c_Gr_cutPart 88 = .ok (.invokevirtual 45, 3) := by decide +kernel
theorem d_Gr_cutPart_91 : decode c_Gr_cutPart 91 = .ok (.return_, 1) := by decide +kernel
theorem d_Gr_insertBehind_0 : decode c_Gr_insertBehind 0 = .ok (.aload_n 0, 1) := by decide +kernel
theorem d_Gr_insertBehind_1 : decode c_Gr_insertBehind 1 = .ok (.getfield 26, 3) := by decide +kernel
theorem d_Gr_insertBehind_4 : decode c_Gr_insertBehind 4 = .ok (.aload_n 0, 1) := by decide +kernel
theorem d_Gr_insertBehind_5 : decode c_Gr_insertBehind 5 = .ok (.getfield 16, 3) := by decide +kernel
theorem d_Gr_insertBehind_8 : decode c_Gr_insertBehind 8 = .ok (.arraylength, 1) := by decide +kernel
theorem d_Gr_insertBehind_9 : decode c_Gr_insertBehind 9 = .ok (.if_icmp .lt 4, 3) := by decide +kernel
theorem d_Gr_insertBehind_12 : decode c_Gr_insertBehind 12 = .ok (.return_, 1) := by decide +kernel
theorem d_Gr_insertBehind_13 : decode c_Gr_insertBehind 13 = .ok (.aload_n 0, 1) := by decide +kernel
theorem d_Gr_insertBehind_14 : decode c_Gr_insertBehind 14 = .ok (.iload_n 1, 1) := by decide +kernel
theorem d_Gr_insertBehind_15 : decode c_Gr_insertBehind 15 = .ok (.iconst 1, 1) := by decide +kernel
theorem d_Gr_insertBehind_16 : decode c_Gr_insertBehind 16 = .ok (.iadd, 1) := by decide +kernel
theorem d_Gr_insertBehind_17 : decode c_Gr_insertBehind 17 = .ok (.iload_n 1, 1) := by decide +kernel
theorem d_Gr_insertBehind_18 : decode c_Gr_insertBehind 18 = .ok (.iconst 2, 1) := by decide +kernel
theorem d_Gr_insertBehind_19 : decode c_Gr_insertBehind 19 = .ok (.iadd, 1) := by decide +kernel
theorem d_Gr_insertBehind_20 : decode c_Gr_insertBehind 20 = .ok (.invokevirtual 49, 3) := by decide +kernel
theorem d_Gr_insertBehind_23 : decode c_Gr_insertBehind 23 = .ok (.aload_n 0, 1) := by decide +kernel
theorem d_Gr_insertBehind_24 : decode c_Gr_insertBehind 24 = .ok (.dup, 1) := by decide +kernel
theorem d_Gr_insertBehind_25 : decode c_Gr_insertBehind 25 = .ok (.getfield 26, 3) := by decide +kernel
theorem d_Gr_insertBehind_28 : decode c_Gr_insertBehind 28 = .ok (.iconst 1, 1) := by decide +kernel
theorem d_Gr_insertBehind_29 : decode c_Gr_insertBehind 29 = .ok (.iadd, 1) := by decide +kernel
theorem d_Gr_insertBehind_30 : decode c_Gr_insertBehind 30 = .ok (.putfield 26, 3) := by decide +kernel
theorem d_Gr_insertBehind_33 : decode c_Gr_insertBehind 33 = .ok (.aload_n 0, 1) := by decide +kernel
theorem d_Gr_insertBehind_34 : decode c_Gr_insertBehind 34 = .ok (.getfield 16, 3) := by decide +kernel
theorem d_Gr_insertBehind_37 : decode c_Gr_insertBehind 37 = .ok (.iload_n 1, 1) := by decide +kernel
theorem d_Gr_insertBehind_38 : decode c_Gr_insertBehind 38 = .ok (.iconst 1, 1) := by decide +kernel
theorem d_Gr_insertBehind_39 : decode c_Gr_insertBehind 39 = .ok (.iadd, 1) := by decide +kernel
theorem d_Gr_insertBehind_40 : decode c_Gr_insertBehind 40 = .ok (.aload_n 0, 1) := by decide +kernel
theorem d_Gr_insertBehind_41 : decode c_Gr_insertBehind 41 = .ok (.getfield 16, 3) := by decide +kernel
theorem d_Gr_insertBehind_44 : decode c_Gr_insertBehind 44 = .ok (.iload_n 1, 1) := by decide +kernel
theorem d_Gr_insertBehind_45 : decode c_Gr_insertBehind 45 = .ok (.iaload, 1) := by decide +kernel
theorem d_Gr_insertBehind_46 : decode c_Gr_insertBehind 46 = .ok (.iastore, 1) := by decide +kernel
theorem d_Gr_insertBehind_47 : decode c_Gr_insertBehind 47 = .ok (.aload_n 0, 1) := by decide +kernel
theorem d_Gr_insertBehind_48 : decode c_Gr_insertBehind 48 = .ok (.getfield 20, 3) := by decide +kernel
theorem d_Gr_insertBehind_51 : decode c_Gr_insertBehind 51 = .ok (.iload_n 1, 1) := by decide +kernel
theorem d_Gr_insertBehind_52 : decode c_Gr_insertBehind 52 = .ok (.iconst 1, 1) := by decide +kernel
theorem d_Gr_insertBehind_53 : decode c_Gr_insertBehind 53 = .ok (.iadd, 1) := by decide +kernel
theorem d_Gr_insertBehind_54 : decode c_Gr_insertBehind 54 = .ok (.iload_n 2, 1) := by decide +kernel
theorem d_Gr_insertBehind_55 : decode c_Gr_insertBehind 55 = .ok (.iastore, 1) := by decide +kernel
theorem d_Gr_insertBehind_56 : decode c_Gr_insertBehind 56 = .ok (.aload_n 0, 1) := by decide +kernel
theorem d_Gr_insertBehind_57 : decode c_Gr_insertBehind 57 = .ok (.getfield 23, 3) := by decide +kernel
theorem d_Gr_insertBehind_60 : decode c_Gr_insertBehind 60 = .ok (.iload_n 1, 1) := by decide +kernel
theorem d_Gr_insertBehind_61 : decode c_Gr_insertBehind 61 = .ok (.iconst 1, 1) := by decide +kernel
theorem d_Gr_insertBehind_62 : decode c_Gr_insertBehind 62 = .ok (.iadd, 1) := by decide +kernel
theorem d_Gr_insertBehind_63 : decode c_Gr_insertBehind 63 = .ok (.iload_n 3, 1) := by decide +kernel
theorem d_Gr_insertBehind_64 : decode c_Gr_insertBehind 64 = .ok (.iastore, 1) := by decide +kernel
theorem d_Gr_insertBehind_65 : decode c_Gr_insertBehind 65 = .ok (.return_, 1) := by decide +kernel
theorem d_Gr_remove_0 : decode c_Gr_remove 0 = .ok (.aload_n 0, 1) := by decide +kernel
theorem d_Gr_remove_1 : decode c_Gr_remove 1 = .ok (.iload_n 1, 1) := by decide +kernel
theorem d_Gr_remove_2 : decode c_Gr_remove 2 = .ok (.iconst 1, 1) := by decide +kernel
theorem d_Gr_remove_3 : decode c_Gr_remove 3 = .ok (.iadd, 1) := by decide +kernel
theorem d_Gr_remove_4 : decode c_Gr_remove 4 = .ok (.iload_n 1, 1) := by decide +kernel
theorem d_Gr_remove_5 : decode c_Gr_remove 5 = .ok (.invokevirtual 49, 3) := by decide +kernel
theorem d_Gr_remove_8 : decode c_Gr_remove 8 = .ok (.aload_n 0, 1) := by decide +kernel
theorem d_Gr_remove_9 : decode c_Gr_remove 9 = .ok (.dup, 1) := by decide +kernel
theorem d_Gr_remove_10 : decode c_Gr_remove 10 = .ok (.getfield 26, 3) := by decide +kernel
theorem d_Gr_remove_13 : decode c_Gr_remove 13 = .ok (.iconst 1, 1) := by decide +kernel
theorem d_Gr_remove_14 : decode c_Gr_remove 14 = .ok (.isub, 1) := by decide +kernel
theorem d_Gr_remove_15 : decode c_Gr_remove 15 = .ok (.putfield 26, 3) := by decide +kernel
theorem d_Gr_remove_18 : decode c_Gr_remove 18 = .ok (.return_, 1) := by decide +kernel
theorem d_Gr_shiftParts_0 : decode c_Gr_shiftParts 0 = .ok (.aload_n 0, 1) := by decide +kernel
theorem d_Gr_shiftParts_1 : decode c_Gr_shiftParts 1 = .ok (.getfield 26, 3) := by decide +kernel
theorem d_Gr_shiftParts_4 : decode c_Gr_shiftParts 4 = .ok (.iload_n 1, 1) := by decide +kernel
theorem d_Gr_shiftParts_5 : decode c_Gr_shiftParts 5 = .ok (.isub, 1) := by decide +kernel
theorem d_Gr_shiftParts_6 : decode c_Gr_shiftParts 6 = .ok (.istore_n 3, 1) := by decide +kernel
theorem d_Gr_shiftParts_7 : decode c_Gr_shiftParts 7 = .ok (.iload_n 3, 1) := by decide +kernel
theorem d_Gr_shiftParts_8 : decode c_Gr_shiftParts 8 = .ok (.ifCond .gt 4, 3) := by decide +kernel
theorem d_Gr_shiftParts_11 : decode c_Gr_shiftParts 11 = .ok (.return_, 1) := by decide +kernel
theorem d_Gr_shiftParts_12 : decode c_Gr_shiftParts 12 = .ok (.aload_n 0, 1) := by decide +kernel
theorem d_Gr_shiftParts_13 : decode c_Gr_shiftParts 13 = .ok (.getfield 16, 3) := by decide +kernel
theorem d_Gr_shiftParts_16 : decode c_Gr_shiftParts 16 = .ok (.iload_n 1, 1) := by decide +kernel
theorem d_Gr_shiftParts_17 : decode c_Gr_shiftParts 17 = .ok (.aload_n 0, 1) := by decide +kernel
theorem d_Gr_shiftParts_18 : decode c_Gr_shiftParts 18 = .ok (.getfield 16, 3) := by decide +kernel
theorem d_Gr_shiftParts_21 : decode c_Gr_shiftParts 21 = .ok (.iload_n 2, 1) := by decide +kernel
theorem d_Gr_shiftParts_22 : decode c_Gr_shiftParts 22 = .ok (.iload_n 3, 1) := by decide +kernel
theorem d_Gr_shiftParts_23 : decode c_Gr_shiftParts 23 = .ok (.invokestatic 53, 3) := by decide +kernel
theorem d_Gr_shiftParts_26 : decode c_Gr_shiftParts 26 = .ok (.aload_n 0, 1) := by decide +kernel
theorem d_Gr_shiftParts_27 : decode c_Gr_shiftParts 27 = .ok (.getfield 20, 3) := by decide +kernel
theorem d_Gr_shiftParts_30 : decode c_Gr_shiftParts 30 = .ok (.iload_n 1, 1) := by decide +kernel
theorem d_Gr_shiftParts_31 : decode c_Gr_shiftParts 31 = .ok (.aload_n 0, 1) := by decide +kernel
theorem d_Gr_shiftParts_32 : decode c_Gr_shiftParts 32 = .ok (.getfield 20, 3) := by decide +kernel
theorem d_Gr_shiftParts_35 : decode c_Gr_shiftParts 35 = .ok (.iload_n 2, 1) := by decide +kernel
theorem d_Gr_shiftParts_36 : decode c_Gr_shiftParts 36 = .ok (.iload_n 3, 1) := by decide +kernel
theorem d_Gr_shiftParts_37 : decode c_Gr_shiftParts 37 = .ok (.invokestatic 53, 3) := by decide +kernel
theorem d_Gr_shiftParts_40 : decode c_Gr_shiftParts 40 = .ok (.aload_n 0, 1) := by decide +kernel
theorem d_Gr_shiftParts_41 : decode c_Gr_shiftParts 41 = .ok (.getfield 23, 3) := by decide +kernel
theorem d_Gr_shiftParts_44 : decode c_Gr_shiftParts 44 = .ok (.iload_n 1, 1) := by decide +kernel
theorem d_Gr_shiftParts_45 : decode c_Gr_shiftParts 45 = .ok (.aload_n 0, 1) := by decide +kernel
theorem d_Gr_shiftParts_46 : decode c_Gr_shiftParts 46 = .ok (.getfield 23, 3) := by decide +kernel
theorem d_Gr_shiftParts_49 : decode c_Gr_shiftParts 49 = .ok (.iload_n 2, 1) := by decide +kernel
theorem d_Gr_shiftParts_50 : decode c_Gr_shiftParts 50 = .ok (.iload_n 3, 1) := by decide +kernel
theorem d_Gr_shiftParts_51 : decode c_Gr_shiftParts 51 = .ok (.invokestatic 53, 3) := by decide +kernel
theorem d_Gr_shiftParts_54 : decode c_Gr_shiftParts 54 = .ok (.return_, 1) := by decide +kernel
theorem d_Gr_isFree_0 : decode c_Gr_isFree 0 = .ok (.iconst 0, 1) := by decide +kernel
theorem d_Gr_isFree_1 : decode c_Gr_isFree 1 = .ok (.istore 4, 2) := by decide +kernel
theorem d_Gr_isFree_3 : decode c_Gr_isFree 3 = .ok (.iload 4, 2) := by decide +kernel
theorem d_Gr_isFree_5 : decode c_Gr_isFree 5 = .ok (.aload_n 0, 1) := by decide +kernel
theorem d_Gr_isFree_6 : decode c_Gr_isFree 6 = .ok (.getfield 26, 3) := by decide +kernel
theorem d_Gr_isFree_9 : decode c_Gr_isFree 9 = .ok (.if_icmp .ge 44, 3) := by decide +kernel
theorem d_Gr_isFree_12 : decode c_Gr_isFree 12 = .ok (.aload_n 0, 1) := by decide +kernel
theorem d_Gr_isFree_13 : decode c_Gr_isFree 13 = .ok (.getfield 16, 3) := by decide +kernel
theorem d_Gr_isFree_16 : decode c_Gr_isFree 16 = .ok (.iload 4, 2) := by decide +kernel
theorem d_Gr_isFree_18 : decode c_Gr_isFree 18 = .ok (.iaload, 1) := by decide +kernel
theorem d_Gr_isFree_19 : decode c_Gr_isFree 19 = .ok (.iload_n 1, 1) := by decide +kernel
theorem d_Gr_isFree_20 : decode c_Gr_isFree 20 = .ok (.if_icmp .ne 27, 3) := by decide +kernel
theorem d_Gr_isFree_23 : decode c_Gr_isFree 23 = .ok (.aload_n 0, 1) := by decide +kernel
theorem d_Gr_isFree_24 : decode c_Gr_isFree 24 = .ok (.getfield 20, 3) := by decide +kernel
theorem d_Gr_isFree_27 : decode c_Gr_isFree 27 = .ok (.iload 4, 2) := by decide +kernel
theorem d_Gr_isFree_29 : decode c_Gr_isFree 29 = .ok (.iaload, 1) := by decide +kernel
theorem d_Gr_isFree_30 : decode c_Gr_isFree 30 = .ok (.iload_n 2, 1) := by decide +kernel
theorem d_Gr_isFree_31 : decode c_Gr_isFree 31 = .ok (.if_icmp .gt 16, 3) := by decide +kernel
theorem d_Gr_isFree_34 : decode c_Gr_isFree 34 = .ok (.iload_n 3, 1) := by decide +kernel
theorem d_Gr_isFree_35 : decode c_Gr_isFree 35 = .ok (.aload_n 0, 1) := by decide +kernel
theorem d_Gr_isFree_36 : decode c_Gr_isFree 36 = .ok (.getfield 23, 3) := by decide +kernel
theorem d_Gr_isFree_39 : decode c_Gr_isFree 39 = .ok (.iload 4, 2) := by decide +kernel
theorem d_Gr_isFree_41 : decode c_Gr_isFree 41 = .ok (.iaload, 1) := by decide +kernel
theorem d_Gr_isFree_42 : decode c_Gr_isFree 42 = .ok (.if_icmp .gt 5, 3) := by decide +kernel
theorem d_Gr_isFree_45 : decode c_Gr_isFree 45 = .ok (.iconst 1, 1) := by decide +kernel
theorem d_Gr_isFree_46 : decode c_Gr_isFree 46 = .ok (.ireturn, 1) := by decide +kernel
theorem d_Gr_isFree_47 : decode c_Gr_isFree 47 = .ok (.iinc 4 1, 3) := by decide +kernel
theorem d_Gr_isFree_50 : decode c_Gr_isFree 50 = .ok (.goto (-47), 3) := by decide +kernel
theorem d_Gr_isFree_53 : decode c_Gr_isFree 53 = .ok (.iconst 0, 1) := by decide +kernel
theorem d_Gr_isFree_54 : decode c_Gr_isFree 54 = .ok (.ireturn, 1) := by decide +kernel
theorem d_Ne_init_0 : decode c_Ne_init 0 = .ok (.aload_n 0, 1) := by decide +kernel
theorem d_Ne_init_1 : decode c_Ne_init 1 = .ok (.invokespecial 3, 3) := by decide +kernel
theorem d_Ne_init_4 : decode c_Ne_init 4 = .ok (.aload_n 0, 1) := by decide +kernel
theorem d_Ne_init_5 : decode c_Ne_init 5 = .ok (.sipush 160, 3) := by decide +kernel
theorem d_Ne_init_8 : decode c_Ne_init 8 = .ok (.newarray .int, 2) := by decide +kernel
theorem d_Ne_init_10 : decode c_Ne_init 10 = .ok (.putfield 9, 3) := by decide +kernel
theorem d_Ne_init_13 : decode c_Ne_init 13 = .ok (.aload_n 0, 1) := by decide +kernel
theorem d_Ne_init_14 : decode c_Ne_init 14 = .ok (.sipush 160, 3) := by decide +kernel
theorem d_Ne_init_17 : decode c_Ne_init 17 = .ok (.newarray .int, 2) := by decide +kernel
theorem d_Ne_init_19 : decode c_Ne_init 19 = .ok (.putfield 15, 3) := by decide +kernel
theorem d_Ne_init_22 : decode c_Ne_init 22 = .ok (.aload_n 0, 1) := by decide +kernel
theorem d_Ne_init_23 : decode c_Ne_init 23 = .ok (.bipush 60, 2) := by decide +kernel
theorem d_Ne_init_25 : decode c_Ne_init 25 = .ok (.newarray .int, 2) := by decide +kernel
theorem d_Ne_init_27 : decode c_Ne_init 27 = .ok (.putfield 18, 3) := by decide +kernel
theorem d_Ne_init_30 : decode c_Ne_init 30 = .ok (.aload_n 0, 1) := by decide +kernel
theorem d_Ne_init_31 : decode c_Ne_init 31 = .ok (.aload_n 1, 1) := by decide +kernel
theorem d_Ne_init_32 : decode c_Ne_init 32 = .ok (.putfield 21, 3) := by decide +kernel
theorem d_Ne_init_35 : decode c_Ne_init 35 = .ok (.iconst 0, 1) := by decide +kernel
theorem d_Ne_init_36 : decode c_Ne_init 36 = .ok (.istore_n 2, 1) := by decide +kernel
theorem d_Ne_init_37 : decode c_Ne_init 37 = .ok (.iload_n 2, 1) := by decide +kernel
theorem d_Ne_init_38 : decode c_Ne_init 38 = .ok (.bipush 60, 2) := by decide +kernel
theorem d_Ne_init_40 : decode c_Ne_init 40 = .ok (.if_icmp .ge 16, 3) := by decide +kernel
theorem d_Ne_init_43 : decode c_Ne_init 43 = .ok (.aload_n 0, 1) := by decide +kernel
theorem d_Ne_init_44 : decode c_Ne_init 44 = .ok (.getfield 18, 3) := by decide +kernel
theorem d_Ne_init_47 : decode c_Ne_init 47 = .ok (.iload_n 2, 1) := by decide +kernel
theorem d_Ne_init_48 : decode c_Ne_init 48 = .ok (.iconst (-1), 1) := by decide +kernel
theorem d_Ne_init_49 : decode c_Ne_init 49 = .ok (.iastore, 1) := by decide +kernel
theorem d_Ne_init_50 : decode c_Ne_init 50 = .ok (.iinc 2 1, 3) := by decide +kernel
theorem d_Ne_init_53 : decode c_Ne_init 53 = .ok (.goto (-16), 3) := by decide +kernel
theorem d_Ne_init_56 : decode c_Ne_init 56 = .ok (.return_, 1) := by decide +kernel
theorem d_Ne_add_0 : decode c_Ne_add 0 = .ok (.aload_n 0, 1) := by decide +kernel
theorem d_Ne_add_1 : decode c_Ne_add 1 = .ok (.iconst 2, 1) := by decide +kernel
theorem d_Ne_add_2 : decode c_Ne_add 2 = .ok (.aload_n 0, 1) := by decide +kernel
theorem d_Ne_add_3 : decode c_Ne_add 3 = .ok (.getfield 25, 3) := by decide +kernel
theorem d_Ne_add_6 : decode c_Ne_add 6 = .ok (.imul, 1) := by decide +kernel
theorem d_Ne_add_7 : decode c_Ne_add 7 = .ok (.iload_n 1, 1) := by decide +kernel
theorem d_Ne_add_8 : decode c_Ne_add 8 = .ok (.invokevirtual 29, 3) := by decide +kernel
theorem d_Ne_add_11 : decode c_Ne_add 11 = .ok (.aload_n 0, 1) := by decide +kernel
theorem d_Ne_add_12 : decode c_Ne_add 12 = .ok (.iconst 2, 1) := by decide +kernel
theorem d_Ne_add_13 : decode c_Ne_add 13 = .ok (.aload_n 0, 1) := by decide +kernel
theorem d_Ne_add_14 : decode c_Ne_add 14 = .ok (.getfield 25, 3) := by decide +kernel
theorem d_Ne_add_17 : decode c_Ne_add 17 = .ok (.imul, 1) := by decide +kernel
theorem d_Ne_add_18 : decode c_Ne_add 18 = .ok (.iconst 1, 1) := by decide +kernel
theorem d_Ne_add_19 : decode c_Ne_add 19 = .ok (.iadd, 1) := by decide +kernel
theorem d_Ne_add_20 : decode c_Ne_add 20 = .ok (.iload_n 2, 1) := by decide +kernel
theorem d_Ne_add_21 : decode c_Ne_add 21 = .ok (.invokevirtual 29, 3) := by decide +kernel
theorem d_Ne_add_24 : decode c_Ne_add 24 = .ok (.aload_n 0, 1) := by decide +kernel
theorem d_Ne_add_25 : decode c_Ne_add 25 = .ok (.dup, 1) := by decide +kernel
theorem d_Ne_add_26 : decode c_Ne_add 26 = .ok (.getfield 25, 3) := by decide +kernel
theorem d_Ne_add_29 : decode c_Ne_add 29 = .ok (.iconst 1, 1) := by decide +kernel
theorem d_Ne_add_30 : decode c_Ne_add 30 = .ok (.iadd, 1) := by decide +kernel
theorem d_Ne_add_31 : decode c_Ne_add 31 = .ok (.putfield 25, 3) := by decide +kernel
theorem d_Ne_add_34 : decode c_Ne_add 34 = .ok (.aload_n 0, 1) := by decide +kernel
theorem d_Ne_add_35 : decode c_Ne_add 35 = .ok (.getfield 25, 3) := by decide +kernel
theorem d_Ne_add_38 : decode c_Ne_add 38 = .ok (.iconst 1, 1) := by decide +kernel
theorem d_Ne_add_39 : decode c_Ne_add 39 = .ok (.isub, 1) := by decide +kernel
theorem d_Ne_add_40 : decode c_Ne_add 40 = .ok (.ireturn, 1) := by decide +kernel
theorem d_Ne_chain_0 : decode c_Ne_chain 0 = .ok (.aload_n 0, 1) := by decide +kernel
theorem d_Ne_chain_1 : decode c_Ne_chain 1 = .ok (.getfield 9, 3) := by decide +kernel
theorem d_Ne_chain_4 : decode c_Ne_chain 4 = .ok (.iload_n 1, 1) := by decide +kernel
theorem d_Ne_chain_5 : decode c_Ne_chain 5 = .ok (.iload_n 2, 1) := by decide +kernel
theorem d_Ne_chain_6 : decode c_Ne_chain 6 = .ok (.iastore, 1) := by decide +kernel
theorem d_Ne_chain_7 : decode c_Ne_chain 7 = .ok (.aload_n 0, 1) := by decide +kernel
theorem d_Ne_chain_8 : decode c_Ne_chain 8 = .ok (.getfield 15, 3) := by decide +kernel
theorem d_Ne_chain_11 : decode c_Ne_chain 11 = .ok (.iload_n 1, 1) := by decide +kernel
theorem d_Ne_chain_12 : decode c_Ne_chain 12 = .ok (.aload_n 0, 1) := by decide +kernel
theorem d_Ne_chain_13 : decode c_Ne_chain 13 = .ok (.getfield 18, 3) := by decide +kernel
theorem d_Ne_chain_16 : decode c_Ne_chain 16 = .ok (.iload_n 2, 1) := by decide +kernel
theorem d_Ne_chain_17 : decode c_Ne_chain 17 = .ok (.iaload, 1) := by decide +kernel
theorem d_Ne_chain_18 : decode c_Ne_chain 18 = .ok (.iastore, 1) := by decide +kernel
theorem d_Ne_chain_19 : decode c_Ne_chain 19 = .ok (.aload_n 0, 1) := by decide +kernel
theorem d_Ne_chain_20 : decode c_Ne_chain 20 = .ok (.getfield 18, 3) := by decide +kernel
theorem d_Ne_chain_23 : decode c_Ne_chain 23 = .ok (.iload_n 2, 1) := by decide +kernel
theorem d_Ne_chain_24 : decode c_Ne_chain 24 = .ok (.iload_n 1, 1) := by decide +kernel
theorem d_Ne_chain_25 : decode c_Ne_chain 25 = .ok (.iastore, 1) := by decide +kernel
theorem d_Ne_chain_26 : decode c_Ne_chain 26 = .ok (.return_, 1) := by decide +kernel
theorem d_Ne_length_0 : decode c_Ne_length 0 = .ok (.lconst 0, 1) := by decide +kernel
theorem d_Ne_length_1 : decode c_Ne_length 1 = .ok (.lstore_n 1, 1) := by decide +kernel
theorem d_Ne_length_2 : decode c_Ne_length 2 = .ok (.iconst 0, 1) := by decide +kernel
theorem d_Ne_length_3 : decode c_Ne_length 3 = .ok (.istore_n 3, 1) := by decide +kernel
theorem d_Ne_length_4 : decode c_Ne_length 4 = .ok (.iload_n 3, 1) := by decide +kernel
theorem d_Ne_length_5 : decode c_Ne_length 5 = .ok (.aload_n 0, 1) := by decide +kernel
theorem d_Ne_length_6 : decode c_Ne_length 6 = .ok (.getfield 25, 3) := by decide +kernel
theorem d_Ne_length_9 : decode c_Ne_length 9 = .ok (.if_icmp .ge 38, 3) := by decide +kernel
theorem d_Ne_length_12 : decode c_Ne_length 12 = .ok (.lload_n 1, 1) := by decide +kernel
theorem d_Ne_length_13 : decode c_Ne_length 13 = .ok (.aload_n 0, 1) := by decide +kernel
theorem d_Ne_length_14 : decode c_Ne_length 14 = .ok (.getfield 21, 3) := by decide +kernel
theorem d_Ne_length_17 : decode c_Ne_length 17 = .ok (.aload_n 0, 1) := by decide +kernel
theorem d_Ne_length_18 : decode c_Ne_length 18 = .ok (.getfield 9, 3) := by decide +kernel
theorem d_Ne_length_21 : decode c_Ne_length 21 = .ok (.iconst 2, 1) := by decide +kernel
theorem d_Ne_length_22 : decode c_Ne_length 22 = .ok (.iload_n 3, 1) := by decide +kernel
theorem d_Ne_length_23 : decode c_Ne_length 23 = .ok (.imul, 1) := by decide +kernel
theorem d_Ne_length_24 : decode c_Ne_length 24 = .ok (.iaload, 1) := by decide +kernel
theorem d_Ne_length_25 : decode c_Ne_length 25 = .ok (.aload_n 0, 1) := by decide +kernel
theorem d_Ne_length_26 : decode c_Ne_length 26 = .ok (.getfield 9, 3) := by decide +kernel
theorem d_Ne_length_29 : decode c_Ne_length 29 = .ok (.iconst 2, 1) := by decide +kernel
theorem d_Ne_length_30 : decode c_Ne_length 30 = .ok (.iload_n 3, 1) := by decide +kernel
theorem d_Ne_length_31 : decode c_Ne_length 31 = .ok (.imul, 1) := by decide +kernel
theorem d_Ne_length_32 : decode c_Ne_length 32 = .ok (.iconst 1, 1) := by decide +kernel
theorem d_Ne_length_33 : decode c_Ne_length 33 = .ok (.iadd, 1) := by decide +kernel
theorem d_Ne_length_34 : decode c_Ne_length 34 = .ok (.iaload, 1) := by decide +kernel
theorem d_Ne_length_35 : decode c_Ne_length 35 = .ok (.invokevirtual 33, 3) := by decide +kernel
theorem d_Ne_length_38 : decode c_Ne_length 38 = .ok (.i2l, 1) := by decide +kernel
theorem d_Ne_length_39 : decode c_Ne_length 39 = .ok (.ladd, 1) := by decide +kernel
theorem d_Ne_length_40 : decode c_Ne_length 40 = .ok (.lstore_n 1, 1) := by decide +kernel
theorem d_Ne_length_41 : decode c_Ne_length 41 = .ok (.iinc 3 1, 3) := by decide +kernel
theorem d_Ne_length_44 : decode c_Ne_length 44 = .ok (.goto (-40), 3) := by decide +kernel
theorem d_Ne_length_47 : decode c_Ne_length 47 = .ok (.lload_n 1, 1) := by decide +kernel
theorem d_Ne_length_48 : decode c_Ne_length 48 = .ok (.lreturn, 1) := by decide +kernel
theorem d_Ne_exchangeFirstPair_0 : decode c_Ne_exchangeFirstPair 0 = .ok (.iconst 0, 1) := by decide +kernel
theorem d_Ne_exchangeFirstPair_1 : decode c_Ne_exchangeFirstPair 1 = .ok (.istore_n 1, 1) := by decide +kernel
theorem d_Ne_exchangeFirstPair_2 : decode c_Ne_exchangeFirstPair 2 = .ok (.iload_n 1, 1) := by decide +kernel
theorem d_Ne_exchangeFirstPair_3 : decode c_Ne_exchangeFirstPair 3 = .ok (.aload_n 0, 1) := by decide +kernel
theorem d_Ne_exchangeFirstPair_4 : decode c_Ne_exchangeFirstPair 4 = .ok (.getfield 21, 3) := by decide +kernel
theorem d_Ne_exchangeFirstPair_7 : decode c_Ne_exchangeFirstPair 7 = .ok (.getfield 39, 3) := by decide +kernel
theorem d_Ne_exchangeFirstPair_10 : decode c_Ne_exchangeFirstPair 10 = .ok (.if_icmp .ge 69, 3) := by decide +kernel
theorem d_Ne_exchangeFirstPair_13 : decode c_Ne_exchangeFirstPair 13 = .ok (.iload_n 1, 1) := by decide +kernel
theorem d_Ne_exchangeFirstPair_14 : decode c_Ne_exchangeFirstPair 14 = .ok (.iconst 1, 1) := by decide +kernel
theorem d_Ne_exchangeFirstPair_15 : decode c_Ne_exchangeFirstPair 15 = .ok (.iadd, 1) := by decide +kernel
theorem d_Ne_exchangeFirstPair_16 : decode c_Ne_exchangeFirstPair 16 = .ok (.istore_n 2, 1) := by decide +kernel
theorem d_Ne_exchangeFirstPair_17 : decode c_Ne_exchangeFirstPair 17 = .ok (.iload_n 2, 1) := by decide +kernel
theorem d_Ne_exchangeFirstPair_18 : decode c_Ne_exchangeFirstPair 18 = .ok (.aload_n 0, 1) := by decide +kernel
theorem d_Ne_exchangeFirstPair_19 : decode c_Ne_exchangeFirstPair 19 = .ok (.getfield 21, 3) := by decide +kernel
theorem d_Ne_exchangeFirstPair_22 : decode c_Ne_exchangeFirstPair 22 = .ok (.getfield 39, 3) := by decide +kernel
theorem d_Ne_exchangeFirstPair_25 : decode c_Ne_exchangeFirstPair 25 = .ok (.if_icmp .ge 48, 3) := by decide +kernel
theorem d_Ne_exchangeFirstPair_28 : decode c_Ne_exchangeFirstPair 28 = .ok (.aload_n 0, 1) := by decide +kernel
theorem d_Ne_exchangeFirstPair_29 : decode c_Ne_exchangeFirstPair 29 = .ok (.getfield 21, 3) := by decide +kernel
theorem d_Ne_exchangeFirstPair_32 : decode c_Ne_exchangeFirstPair 32 = .ok (.iload_n 1, 1) := by decide +kernel
theorem d_Ne_exchangeFirstPair_33 : decode c_Ne_exchangeFirstPair 33 = .ok (.iload_n 2, 1) := by decide +kernel
theorem d_Ne_exchangeFirstPair_34 : decode c_Ne_exchangeFirstPair 34 = .ok (.invokevirtual 40, 3) := by decide +kernel
theorem d_Ne_exchangeFirstPair_37 : decode c_Ne_exchangeFirstPair 37 = .ok (.ifCond .eq 30, 3) := by decide +kernel
theorem d_Ne_exchangeFirstPair_40 : decode c_Ne_exchangeFirstPair 40 = .ok (.aload_n 0, 1) := by decide +kernel
theorem d_Ne_exchangeFirstPair_41 : decode c_Ne_exchangeFirstPair 41 = .ok (.iload_n 1, 1) := by decide +kernel
theorem d_Ne_exchangeFirstPair_42 : decode c_Ne_exchangeFirstPair 42 = .ok (.iload_n 2, 1) := by decide +kernel
theorem d_Ne_exchangeFirstPair_43 : decode c_Ne_exchangeFirstPair 43 = .ok (.invokevirtual 44, 3) := by decide +kernel
theorem d_Ne_exchangeFirstPair_46 : decode c_Ne_exchangeFirstPair 46 = .ok (.aload_n 0, 1) := by decide +kernel
theorem d_Ne_exchangeFirstPair_47 : decode c_Ne_exchangeFirstPair 47 = .ok (.iload_n 2, 1) := by decide +kernel
theorem d_Ne_exchangeFirstPair_48 : decode c_Ne_exchangeFirstPair 48 = .ok (.iload_n 1, 1) := by decide +kernel
theorem d_Ne_exchangeFirstPair_49 : decode c_Ne_exchangeFirstPair 49 = .ok (.invokevirtual 44, 3) := by decide +kernel
theorem d_Ne_exchangeFirstPair_52 : decode c_Ne_exchangeFirstPair 52 = .ok (.iadd, 1) := by decide +kernel
theorem d_Ne_exchangeFirstPair_53 : decode c_Ne_exchangeFirstPair 53 = .ok (.ifCond .le 14, 3) := by decide +kernel
theorem d_Ne_exchangeFirstPair_56 : decode c_Ne_exchangeFirstPair 56 = .ok (.aload_n 0, 1) := by decide +kernel
theorem d_Ne_exchangeFirstPair_57 : decode c_Ne_exchangeFirstPair 57 = .ok (.getfield 21, 3) := by decide +kernel
theorem d_Ne_exchangeFirstPair_60 : decode c_Ne_exchangeFirstPair 60 = .ok (.iload_n 1, 1) := by decide +kernel
theorem d_Ne_exchangeFirstPair_61 : decode c_Ne_exchangeFirstPair 61 = .ok (.iload_n 2, 1) := by decide +kernel
theorem d_Ne_exchangeFirstPair_62 : decode c_Ne_exchangeFirstPair 62 = .ok (.invokevirtual 47, 3) := by decide +kernel
theorem d_Ne_exchangeFirstPair_65 : decode c_Ne_exchangeFirstPair 65 = .ok (.iconst 1, 1) := by decide +kernel
theorem d_Ne_exchangeFirstPair_66 : decode c_Ne_exchangeFirstPair 66 = .ok (.ireturn, 1) := by decide +kernel
theorem d_Ne_exchangeFirstPair_67 : decode c_Ne_exchangeFirstPair 67 = .ok (.iinc 2 1, 3) := by decide +kernel
theorem d_Ne_exchangeFirstPair_70 : decode c_Ne_exchangeFirstPair 70 = .ok (.goto (-53), 3) := by decide +kernel
theorem d_Ne_exchangeFirstPair_73 : decode c_Ne_exchangeFirstPair 73 = .ok (.iinc 1 1, 3) := by decide +kernel
theorem d_Ne_exchangeFirstPair_76 : decode c_Ne_exchangeFirstPair 76 = .ok (.goto (-74), 3) := by decide +kernel
theorem d_Ne_exchangeFirstPair_79 : decode c_Ne_exchangeFirstPair 79 = .ok (.iconst 0, 1) := by decide +kernel
theorem d_Ne_exchangeFirstPair_80 : decode c_Ne_exchangeFirstPair 80 = .ok (.ireturn, 1) := by decide +kernel
theorem d_Ne_gainOfCellAt_0 : decode c_Ne_gainOfCellAt 0 = .ok (.iconst 0, 1) := by decide +kernel
theorem d_Ne_gainOfCellAt_1 : decode c_Ne_gainOfCellAt 1 = .ok (.istore_n 3, 1) := by decide +kernel
theorem d_Ne_gainOfCellAt_2 : decode c_Ne_gainOfCellAt 2 = .ok (.aload_n 0, 1) := by decide +kernel
theorem d_Ne_gainOfCellAt_3 : decode c_Ne_gainOfCellAt 3 = .ok (.getfield 18, 3) := by decide +kernel
theorem d_Ne_gainOfCellAt_6 : decode c_Ne_gainOfCellAt 6 = .ok (.iload_n 1, 1) := by decide +kernel
theorem d_Ne_gainOfCellAt_7 : decode c_Ne_gainOfCellAt 7 = .ok (.iaload, 1) := by decide +kernel
theorem d_Ne_gainOfCellAt_8 : decode c_Ne_gainOfCellAt 8 = .ok (.istore 4, 2) := by decide +kernel
theorem d_Ne_gainOfCellAt_10 : decode c_Ne_gainOfCellAt 10 = .ok (.iconst 0, 1) := by decide +kernel
theorem d_Ne_gainOfCellAt_11 : decode c_Ne_gainOfCellAt 11 = .ok (.istore 5, 2) := by decide +kernel
theorem d_Ne_gainOfCellAt_13 : decode c_Ne_gainOfCellAt 13 = .ok (.iload 5, 2) := by decide +kernel
theorem d_Ne_gainOfCellAt_15 : decode c_Ne_gainOfCellAt 15 = .ok (.bipush 80, 2) := by decide +kernel
theorem d_Ne_gainOfCellAt_17 : decode c_Ne_gainOfCellAt 17 = .ok (.if_icmp .ge 65, 3) := by decide +kernel
theorem d_Ne_gainOfCellAt_20 : decode c_Ne_gainOfCellAt 20 = .ok (.iload 4, 2) := by decide +kernel
theorem d_Ne_gainOfCellAt_22 : decode c_Ne_gainOfCellAt 22 = .ok (.iconst (-1), 1) := by decide +kernel
theorem d_Ne_gainOfCellAt_23 : decode c_Ne_gainOfCellAt 23 = .ok (.if_icmp .eq 59, 3) := by decide +kernel
theorem d_Ne_gainOfCellAt_26 : decode c_Ne_gainOfCellAt 26 = .ok (.aload_n 0, 1) := by decide +kernel
theorem d_Ne_gainOfCellAt_27 : decode c_Ne_gainOfCellAt 27 = .ok (.getfield 9, 3) := by decide +kernel
theorem d_Ne_gainOfCellAt_30 : decode c_Ne_gainOfCellAt 30 = .ok (.iload 4, 2) := by decide +kernel
theorem d_Ne_gainOfCellAt_32 : decode c_Ne_gainOfCellAt 32 = .ok (.iconst 1, 1) := by decide +kernel
theorem d_Ne_gainOfCellAt_33 : decode c_Ne_gainOfCellAt 33 = .ok (.ixor, 1) := by decide +kernel
theorem d_Ne_gainOfCellAt_34 : decode c_Ne_gainOfCellAt 34 = .ok (.iaload, 1) := by decide +kernel
theorem d_Ne_gainOfCellAt_35 : decode c_Ne_gainOfCellAt 35 = .ok (.istore 6, 2) := by decide +kernel
theorem d_Ne_gainOfCellAt_37 : decode c_Ne_gainOfCellAt 37 = .ok (.iload 6, 2) := by decide +kernel
theorem d_Ne_gainOfCellAt_39 : decode c_Ne_gainOfCellAt 39 = .ok (.iload_n 2, 1) := by decide +kernel
theorem d_Ne_gainOfCellAt_40 : decode c_Ne_gainOfCellAt 40 = .ok (.if_icmp .eq 27, 3) := by decide +kernel
theorem d_Ne_gainOfCellAt_43 : decode c_Ne_gainOfCellAt 43 = .ok (.iload_n 3, 1) := by decide +kernel
theorem d_Ne_gainOfCellAt_44 : decode c_Ne_gainOfCellAt 44 = .ok (.aload_n 0, 1) := by decide +kernel
theorem d_Ne_gainOfCellAt_45 : decode c_Ne_gainOfCellAt 45 = .ok (.getfield 21, 3) := by decide +kernel
theorem d_Ne_gainOfCellAt_48 : decode c_Ne_gainOfCellAt 48 = .ok (.iload_n 1, 1) := by decide +kernel
theorem d_Ne_gainOfCellAt_49 : decode c_Ne_gainOfCellAt 49 = .ok (.iload 6, 2) := by decide +kernel
theorem d_Ne_gainOfCellAt_51 : decode c_Ne_gainOfCellAt 51 = .ok (.invokevirtual 33, 3) := by decide +kernel
theorem d_Ne_gainOfCellAt_54 : decode c_Ne_gainOfCellAt 54 = .ok (.aload_n 0, 1) := by decide +kernel
theorem d_Ne_gainOfCellAt_55 : decode c_Ne_gainOfCellAt 55 = .ok (.getfield 21, 3) := by decide +kernel
theorem d_Ne_gainOfCellAt_58 : decode c_Ne_gainOfCellAt 58 = .ok (.iload_n 2, 1) := by decide +kernel
theorem d_Ne_gainOfCellAt_59 : decode c_Ne_gainOfCellAt 59 = .ok (.iload 6, 2) := by decide +kernel
theorem d_Ne_gainOfCellAt_61 : decode c_Ne_gainOfCellAt 61 = .ok (.invokevirtual 33, 3) := by decide +kernel
theorem d_Ne_gainOfCellAt_64 : decode c_Ne_gainOfCellAt 64 = .ok (.isub, 1) := by decide +kernel
theorem d_Ne_gainOfCellAt_65 : decode c_Ne_gainOfCellAt 65 = .ok (.iadd, 1) := by decide +kernel
theorem d_Ne_gainOfCellAt_66 : decode c_Ne_gainOfCellAt 66 = .ok (.istore_n 3, 1) := by decide +kernel
theorem d_Ne_gainOfCellAt_67 : decode c_Ne_gainOfCellAt 67 = .ok (.aload_n 0, 1) := by decide +kernel
theorem d_Ne_gainOfCellAt_68 : decode c_Ne_gainOfCellAt 68 = .ok (.getfield 15, 3) := by decide +kernel
theorem d_Ne_gainOfCellAt_71 : decode c_Ne_gainOfCellAt 71 = .ok (.iload 4, 2) := by decide +kernel
theorem d_Ne_gainOfCellAt_73 : decode c_Ne_gainOfCellAt 73 = .ok (.iaload, 1) := by decide +kernel
theorem d_Ne_gainOfCellAt_74 : decode c_Ne_gainOfCellAt 74 = .ok (.istore 4, 2) := by decide +kernel
theorem d_Ne_gainOfCellAt_76 : decode c_Ne_gainOfCellAt 76 = .ok (.iinc 5 1, 3) := by decide +kernel
theorem d_Ne_gainOfCellAt_79 : decode c_Ne_gainOfCellAt 79 = .ok (.goto (-66), 3) := by decide +kernel
theorem d_Ne_gainOfCellAt_82 : decode c_Ne_gainOfCellAt 82 = .ok (.iload_n 3, 1) := by decide +kernel
theorem d_Ne_gainOfCellAt_83 : decode c_Ne_gainOfCellAt 83 = .ok (.ireturn, 1) := by decide +kernel
end
section
theorem d_Fi_init_0 : decode c_Fi_init 0 = .ok (.aload_n 0, 1) := by decide +kernel
theorem d_Fi_init_1 : decode c_Fi_init 1 = .ok (.invokespecial 3, 3) := by decide +kernel
theorem d_Fi_init_4 : decode c_Fi_init 4 = .ok (.aload_n 0, 1) := by decide +kernel
theorem d_Fi_init_5 : decode c_Fi_init 5 = .ok (.bipush 60, 2) := by decide +kernel
theorem d_Fi_init_7 : decode c_Fi_init 7 = .ok (.newarray .int, 2) := by decide +kernel
theorem d_Fi_init_9 : decode c_Fi_init 9 = .ok (.putfield 9, 3) := by decide +kernel
theorem d_Fi_init_12 : decode c_Fi_init 12 = .ok (.aload_n 0, 1) := by decide +kernel
theorem d_Fi_init_13 : decode c_Fi_init 13 = .ok (.bipush 60, 2) := by decide +kernel
theorem d_Fi_init_15 : decode c_Fi_init 15 = .ok (.newarray .int, 2) := by decide +kernel
theorem d_Fi_init_17 : decode c_Fi_init 17 = .ok (.putfield 15, 3) := by decide +kernel
theorem d_Fi_init_20 : decode c_Fi_init 20 = .ok (.aload_n 0, 1) := by decide +kernel
theorem d_Fi_init_21 : decode c_Fi_init 21 = .ok (.aload_n 1, 1) := by decide +kernel
theorem d_Fi_init_22 : decode c_Fi_init 22 = .ok (.putfield 18, 3) := by decide +kernel
theorem d_Fi_init_25 : decode c_Fi_init 25 = .ok (.aload_n 0, 1) := by decide +kernel
theorem d_Fi_init_26 : decode c_Fi_init 26 = .ok (.aload_n 2, 1) := by decide +kernel
theorem d_Fi_init_27 : decode c_Fi_init 27 = .ok (.putfield 22, 3) := by decide +kernel
theorem d_Fi_init_30 : decode c_Fi_init 30 = .ok (.aload_n 0, 1) := by decide +kernel
theorem d_Fi_init_31 : decode c_Fi_init 31 = .ok (.new 26, 3) := by decide +kernel
theorem d_Fi_init_34 : decode c_Fi_init 34 = .ok (.dup, 1) := by decide +kernel
theorem d_Fi_init_35 : decode c_Fi_init 35 = .ok (.aload_n 2, 1) := by decide +kernel
theorem d_Fi_init_36 : decode c_Fi_init 36 = .ok (.invokespecial 28, 3) := by decide +kernel
theorem d_Fi_init_39 : decode c_Fi_init 39 = .ok (.putfield 31, 3) := by decide +kernel
theorem d_Fi_init_42 : decode c_Fi_init 42 = .ok (.aload_n 1, 1) := by decide +kernel
theorem d_Fi_init_43 : decode c_Fi_init 43 = .ok (.getfield 35, 3) := by decide +kernel
theorem d_Fi_init_46 : decode c_Fi_init 46 = .ok (.arraylength, 1) := by decide +kernel
theorem d_Fi_init_47 : decode c_Fi_init 47 = .ok (.istore_n 3, 1) := by decide +kernel
theorem d_Fi_init_48 : decode c_Fi_init 48 = .ok (.aload_n 0, 1) := by decide +kernel
theorem d_Fi_init_49 : decode c_Fi_init 49 = .ok (.iload_n 3, 1) := by decide +kernel
theorem d_Fi_init_50 : decode c_Fi_init 50 = .ok (.newarray .int, 2) := by decide +kernel
theorem d_Fi_init_52 : decode c_Fi_init 52 = .ok (.putfield 40, 3) := by decide +kernel
theorem d_Fi_init_55 : decode c_Fi_init 55 = .ok (.aload_n 0, 1) := by decide +kernel
theorem d_Fi_init_56 : decode c_Fi_init 56 = .ok (.iload_n 3, 1) := by decide +kernel
theorem d_Fi_init_57 : decode c_Fi_init 57 = .ok (.newarray .int, 2) := by decide +kernel
theorem d_Fi_init_59 : decode c_Fi_init 59 = .ok (.putfield 43, 3) := by decide +kernel
theorem d_Fi_init_62 : decode c_Fi_init 62 = .ok (.aload_n 0, 1) := by decide +kernel
theorem d_Fi_init_63 : decode c_Fi_init 63 = .ok (.iload_n 3, 1) := by decide +kernel
theorem d_Fi_init_64 : decode c_Fi_init 64 = .ok (.newarray .int, 2) := by decide +kernel
theorem d_Fi_init_66 : decode c_Fi_init 66 = .ok (.putfield 46, 3) := by decide +kernel
theorem d_Fi_init_69 : decode c_Fi_init 69 = .ok (.return_, 1) := by decide +kernel
theorem d_Fi_placeAll_0 : decode c_Fi_placeAll 0 = .ok (.aload_n 0, 1) := by decide +kernel
theorem d_Fi_placeAll_1 : decode c_Fi_placeAll 1 = .ok (.invokevirtual 49, 3) := by decide +kernel
theorem d_Fi_placeAll_4 : decode c_Fi_placeAll 4 = .ok (.aload_n 0, 1) := by decide +kernel
theorem d_Fi_placeAll_5 : decode c_Fi_placeAll 5 = .ok (.invokevirtual 52, 3) := by decide +kernel
theorem d_Fi_placeAll_8 : decode c_Fi_placeAll 8 = .ok (.iconst 0, 1) := by decide +kernel
theorem d_Fi_placeAll_9 : decode c_Fi_placeAll 9 = .ok (.istore_n 1, 1) := by decide +kernel
theorem d_Fi_placeAll_10 : decode c_Fi_placeAll 10 = .ok (.iload_n 1, 1) := by decide +kernel
theorem d_Fi_placeAll_11 : decode c_Fi_placeAll 11 = .ok (.aload_n 0, 1) := by decide +kernel
theorem d_Fi_placeAll_12 : decode c_Fi_placeAll 12 = .ok (.getfield 22, 3) := by decide +kernel
theorem d_Fi_placeAll_15 : decode c_Fi_placeAll 15 = .ok (.getfield 55, 3) := by decide +kernel
theorem d_Fi_placeAll_18 : decode c_Fi_placeAll 18 = .ok (.if_icmp .ge 48, 3) := by decide +kernel
theorem d_Fi_placeAll_21 : decode c_Fi_placeAll 21 = .ok (.aload_n 0, 1) := by decide +kernel
theorem d_Fi_placeAll_22 : decode c_Fi_placeAll 22 = .ok (.aload_n 0, 1) := by decide +kernel
theorem d_Fi_placeAll_23 : decode c_Fi_placeAll 23 = .ok (.getfield 9, 3) := by decide +kernel
theorem d_Fi_placeAll_26 : decode c_Fi_placeAll 26 = .ok (.iload_n 1, 1) := by decide +kernel
theorem d_Fi_placeAll_27 : decode c_Fi_placeAll 27 = .ok (.iaload, 1) := by decide +kernel
theorem d_Fi_placeAll_28 : decode c_Fi_placeAll 28 = .ok (.invokevirtual 61, 3) := by decide +kernel
theorem d_Fi_placeAll_31 : decode c_Fi_placeAll 31 = .ok (.istore_n 2, 1) := by decide +kernel
theorem d_Fi_placeAll_32 : decode c_Fi_placeAll 32 = .ok (.iload_n 2, 1) := by decide +kernel
theorem d_Fi_placeAll_33 : decode c_Fi_placeAll 33 = .ok (.iconst (-1), 1) := by decide +kernel
theorem d_Fi_placeAll_34 : decode c_Fi_placeAll 34 = .ok (.if_icmp .ne 10, 3) := by decide +kernel
theorem d_Fi_placeAll_37 : decode c_Fi_placeAll 37 = .ok (.aload_n 0, 1) := by decide +kernel
theorem d_Fi_placeAll_38 : decode c_Fi_placeAll 38 = .ok (.getfield 9, 3) := by decide +kernel
theorem d_Fi_placeAll_41 : decode c_Fi_placeAll 41 = .ok (.iload_n 1, 1) := by decide +kernel
theorem d_Fi_placeAll_42 : decode c_Fi_placeAll 42 = .ok (.iaload, 1) := by decide +kernel
theorem d_Fi_placeAll_43 : decode c_Fi_placeAll 43 = .ok (.ireturn, 1) := by decide +kernel
theorem d_Fi_placeAll_44 : decode c_Fi_placeAll 44 = .ok (.aload_n 0, 1) := by decide +kernel
theorem d_Fi_placeAll_45 : decode c_Fi_placeAll 45 = .ok (.aload_n 0, 1) := by decide +kernel
theorem d_Fi_placeAll_46 : decode c_Fi_placeAll 46 = .ok (.getfield 9, 3) := by decide +kernel
theorem d_Fi_placeAll_49 : decode c_Fi_placeAll 49 = .ok (.iload_n 1, 1) := by decide +kernel
theorem d_Fi_placeAll_50 : decode c_Fi_placeAll 50 = .ok (.iaload, 1) := by decide +kernel
theorem d_Fi_placeAll_51 : decode c_Fi_placeAll 51 = .ok (.iload_n 2, 1) := by decide +kernel
theorem d_Fi_placeAll_52 : decode c_Fi_placeAll 52 = .ok (.invokevirtual 65, 3) := by decide +kernel
theorem d_Fi_placeAll_55 : decode c_Fi_placeAll 55 = .ok (.aload_n 0, 1) := by decide +kernel
theorem d_Fi_placeAll_56 : decode c_Fi_placeAll 56 = .ok (.iload_n 2, 1) := by decide +kernel
theorem d_Fi_placeAll_57 : decode c_Fi_placeAll 57 = .ok (.invokevirtual 69, 3) := by decide +kernel
theorem d_Fi_placeAll_60 : decode c_Fi_placeAll 60 = .ok (.iinc 1 1, 3) := by decide +kernel
theorem d_Fi_placeAll_63 : decode c_Fi_placeAll 63 = .ok (.goto (-53), 3) := by decide +kernel
theorem d_Fi_placeAll_66 : decode c_Fi_placeAll 66 = .ok (.iconst (-1), 1) := by decide +kernel
theorem d_Fi_placeAll_67 : decode c_Fi_placeAll 67 = .ok (.ireturn, 1) := by decide +kernel
theorem d_Fi_emptyParts_0 : decode c_Fi_emptyParts 0 = .ok (.iconst 0, 1) := by decide +kernel
theorem d_Fi_emptyParts_1 : decode c_Fi_emptyParts 1 = .ok (.istore_n 1, 1) := by decide +kernel
theorem d_Fi_emptyParts_2 : decode c_Fi_emptyParts 2 = .ok (.iload_n 1, 1) := by decide +kernel
theorem d_Fi_emptyParts_3 : decode c_Fi_emptyParts 3 = .ok (.aload_n 0, 1) := by decide +kernel
theorem d_Fi_emptyParts_4 : decode c_Fi_emptyParts 4 = .ok (.getfield 18, 3) := by decide +kernel
theorem d_Fi_emptyParts_7 : decode c_Fi_emptyParts 7 = .ok (.getfield 73, 3) := by decide +kernel
theorem d_Fi_emptyParts_10 : decode c_Fi_emptyParts 10 = .ok (.if_icmp .ge 30, 3) := by decide +kernel
theorem d_Fi_emptyParts_13 : decode c_Fi_emptyParts 13 = .ok (.aload_n 0, 1) := by decide +kernel
theorem d_Fi_emptyParts_14 : decode c_Fi_emptyParts 14 = .ok (.getfield 40, 3) := by decide +kernel
theorem d_Fi_emptyParts_17 : decode c_Fi_emptyParts 17 = .ok (.iload_n 1, 1) := by decide +kernel
theorem d_Fi_emptyParts_18 : decode c_Fi_emptyParts 18 = .ok (.iconst (-1), 1) := by decide +kernel
theorem d_Fi_emptyParts_19 : decode c_Fi_emptyParts 19 = .ok (.iastore, 1) := by decide +kernel
theorem d_Fi_emptyParts_20 : decode c_Fi_emptyParts 20 = .ok (.aload_n 0, 1) := by decide +kernel
theorem d_Fi_emptyParts_21 : decode c_Fi_emptyParts 21 = .ok (.getfield 43, 3) := by decide +kernel
theorem d_Fi_emptyParts_24 : decode c_Fi_emptyParts 24 = .ok (.iload_n 1, 1) := by decide +kernel
theorem d_Fi_emptyParts_25 : decode c_Fi_emptyParts 25 = .ok (.iconst (-1), 1) := by decide +kernel
theorem d_Fi_emptyParts_26 : decode c_Fi_emptyParts 26 = .ok (.iastore, 1) := by decide +kernel
theorem d_Fi_emptyParts_27 : decode c_Fi_emptyParts 27 = .ok (.aload_n 0, 1) := by decide +kernel
theorem d_Fi_emptyParts_28 : decode c_Fi_emptyParts 28 = .ok (.getfield 46, 3) := by decide +kernel
theorem d_Fi_emptyParts_31 : decode c_Fi_emptyParts 31 = .ok (.iload_n 1, 1) := by decide +kernel
theorem d_Fi_emptyParts_32 : decode c_Fi_emptyParts 32 = .ok (.iconst 0, 1) := by decide +kernel
theorem d_Fi_emptyParts_33 : decode c_Fi_emptyParts 33 = .ok (.iastore, 1) := by decide +kernel
theorem d_Fi_emptyParts_34 : decode c_Fi_emptyParts 34 = .ok (.iinc 1 1, 3) := by decide +kernel
theorem d_Fi_emptyParts_37 : decode c_Fi_emptyParts 37 = .ok (.goto (-35), 3) := by decide +kernel
theorem d_Fi_emptyParts_40 : decode c_Fi_emptyParts 40 = .ok (.return_, 1) := by decide +kernel
theorem d_Fi_orderCells_0 : decode c_Fi_orderCells 0 = .ok (.iconst 0, 1) := by decide +kernel
theorem d_Fi_orderCells_1 : decode c_Fi_orderCells 1 = .ok (.istore_n 1, 1) := by decide +kernel
theorem d_Fi_orderCells_2 : decode c_Fi_orderCells 2 = .ok (.iload_n 1, 1) := by decide +kernel
theorem d_Fi_orderCells_3 : decode c_Fi_orderCells 3 = .ok (.aload_n 0, 1) := by decide +kernel
theorem d_Fi_orderCells_4 : decode c_Fi_orderCells 4 = .ok (.getfield 22, 3) := by decide +kernel
theorem d_Fi_orderCells_7 : decode c_Fi_orderCells 7 = .ok (.getfield 55, 3) := by decide +kernel
theorem d_Fi_orderCells_10 : decode c_Fi_orderCells 10 = .ok (.if_icmp .ge 70, 3) := by decide +kernel
theorem d_Fi_orderCells_13 : decode c_Fi_orderCells 13 = .ok (.iload_n 1, 1) := by decide +kernel
theorem d_Fi_orderCells_14 : decode c_Fi_orderCells 14 = .ok (.istore_n 2, 1) := by decide +kernel
theorem d_Fi_orderCells_15 : decode c_Fi_orderCells 15 = .ok (.iload_n 2, 1) := by decide +kernel
theorem d_Fi_orderCells_16 : decode c_Fi_orderCells 16 = .ok (.ifCond .le 51, 3) := by decide +kernel
theorem d_Fi_orderCells_19 : decode c_Fi_orderCells 19 = .ok (.aload_n 0, 1) := by decide +kernel
theorem d_Fi_orderCells_20 : decode c_Fi_orderCells 20 = .ok (.getfield 22, 3) := by decide +kernel
theorem d_Fi_orderCells_23 : decode c_Fi_orderCells 23 = .ok (.getfield 76, 3) := by decide +kernel
theorem d_Fi_orderCells_26 : decode c_Fi_orderCells 26 = .ok (.aload_n 0, 1) := by decide +kernel
theorem d_Fi_orderCells_27 : decode c_Fi_orderCells 27 = .ok (.getfield 9, 3) := by decide +kernel
theorem d_Fi_orderCells_30 : decode c_Fi_orderCells 30 = .ok (.iload_n 2, 1) := by decide +kernel
theorem d_Fi_orderCells_31 : decode c_Fi_orderCells 31 = .ok (.iconst 1, 1) := by decide +kernel
theorem d_Fi_orderCells_32 : decode c_Fi_orderCells 32 = .ok (.isub, 1) := by decide +kernel
theorem d_Fi_orderCells_33 : decode c_Fi_orderCells 33 = .ok (.iaload, 1) := by decide +kernel
theorem d_Fi_orderCells_34 : decode c_Fi_orderCells 34 = .ok (.iaload, 1) := by decide +kernel
theorem d_Fi_orderCells_35 : decode c_Fi_orderCells 35 = .ok (.aload_n 0, 1) := by decide +kernel
theorem d_Fi_orderCells_36 : decode c_Fi_orderCells 36 = .ok (.getfield 22, 3) := by decide +kernel
theorem d_Fi_orderCells_39 : decode c_Fi_orderCells 39 = .ok (.getfield 76, 3) := by decide +kernel
theorem d_Fi_orderCells_42 : decode c_Fi_orderCells 42 = .ok (.iload_n 1, 1) := by decide +kernel
theorem d_Fi_orderCells_43 : decode c_Fi_orderCells 43 = .ok (.iaload, 1) := by decide +kernel
theorem d_Fi_orderCells_44 : decode c_Fi_orderCells 44 = .ok (.if_icmp .le 23, 3) := by decide +kernel
theorem d_Fi_orderCells_47 : decode c_Fi_orderCells 47 = .ok (.aload_n 0, 1) := by decide +kernel
theorem d_Fi_orderCells_48 : decode c_Fi_orderCells 48 = .ok (.getfield 9, 3) := by decide +kernel
theorem d_Fi_orderCells_51 : decode c_Fi_orderCells 51 = .ok (.iload_n 2, 1) := by decide +kernel
theorem d_Fi_orderCells_52 : decode c_Fi_orderCells 52 = .ok (.aload_n 0, 1) := by decide +kernel
theorem d_Fi_orderCells_53 : decode c_Fi_orderCells 53 = .ok (.getfield 9, 3) := by decide +kernel
theorem d_Fi_orderCells_56 : decode c_Fi_orderCells 56 = .ok (.iload_n 2, 1) := by decide +kernel
theorem d_Fi_orderCells_57 : decode c_Fi_orderCells 57 = .ok (.iconst 1, 1) := by decide +kernel
theorem d_Fi_orderCells_58 : decode c_Fi_orderCells 58 = .ok (.isub, 1) := by decide +kernel
theorem d_Fi_orderCells_59 : decode c_Fi_orderCells 59 = .ok (.iaload, 1) := by decide +kernel
theorem d_Fi_orderCells_60 : decode c_Fi_orderCells 60 = .ok (.iastore, 1) := by decide +kernel
theorem d_Fi_orderCells_61 : decode c_Fi_orderCells 61 = .ok (.iinc 2 (-1), 3) := by decide +kernel
theorem d_Fi_orderCells_64 : decode c_Fi_orderCells 64 = .ok (.goto (-49), 3) := by decide +kernel
theorem d_Fi_orderCells_67 : decode c_Fi_orderCells 67 = .ok (.aload_n 0, 1) := by decide +kernel
theorem d_Fi_orderCells_68 : decode c_Fi_orderCells 68 = .ok (.getfield 9, 3) := by decide +kernel
theorem d_Fi_orderCells_71 : decode c_Fi_orderCells 71 = .ok (.iload_n 2, 1) := by decide +kernel
theorem d_Fi_orderCells_72 : decode c_Fi_orderCells 72 = .ok (.iload_n 1, 1) := by decide +kernel
theorem d_Fi_orderCells_73 : decode c_Fi_orderCells 73 = .ok (.iastore, 1) := by decide +kernel
theorem d_Fi_orderCells_74 : decode c_Fi_orderCells 74 = .ok (.iinc 1 1, 3) := by decide +kernel
theorem d_Fi_orderCells_77 : decode c_Fi_orderCells 77 = .ok (.goto (-75), 3) := by decide +kernel
theorem d_Fi_orderCells_80 : decode c_Fi_orderCells 80 = .ok (.return_, 1) := by decide +kernel
theorem d_Fi_cheapestPart_0 : decode c_Fi_cheapestPart 0 = .ok (.iconst (-1), 1) := by decide +kernel
theorem d_Fi_cheapestPart_1 : decode c_Fi_cheapestPart 1 = .ok (.istore_n 2, 1) := by decide +kernel
theorem d_Fi_cheapestPart_2 : decode c_Fi_cheapestPart 2 = .ok (.iconst 0, 1) := by decide +kernel
theorem d_Fi_cheapestPart_3 : decode c_Fi_cheapestPart 3 = .ok (.istore_n 3, 1) := by decide +kernel
theorem d_Fi_cheapestPart_4 : decode c_Fi_cheapestPart 4 = .ok (.iconst 0, 1) := by decide +kernel
theorem d_Fi_cheapestPart_5 : decode c_Fi_cheapestPart 5 = .ok (.istore 4, 2) := by decide +kernel
theorem d_Fi_cheapestPart_7 : decode c_Fi_cheapestPart 7 = .ok (.iload 4, 2) := by decide +kernel
theorem d_Fi_cheapestPart_9 : decode c_Fi_cheapestPart 9 = .ok (.aload_n 0, 1) := by decide +kernel
theorem d_Fi_cheapestPart_10 : decode c_Fi_cheapestPart 10 = .ok (.getfield 18, 3) := by decide +kernel
theorem d_Fi_cheapestPart_13 : decode c_Fi_cheapestPart 13 = .ok (.getfield 73, 3) := by decide +kernel
theorem d_Fi_cheapestPart_16 : decode c_Fi_cheapestPart 16 = .ok (.if_icmp .ge 91, 3) := by decide +kernel
theorem d_Fi_cheapestPart_19 : decode c_Fi_cheapestPart 19 = .ok (.iload_n 2, 1) := by decide +kernel
theorem d_Fi_cheapestPart_20 : decode c_Fi_cheapestPart 20 = .ok (.iconst (-1), 1) := by decide +kernel
theorem d_Fi_cheapestPart_21 : decode c_Fi_cheapestPart 21 = .ok (.if_icmp .eq 17, 3) := by decide +kernel
theorem d_Fi_cheapestPart_24 : decode c_Fi_cheapestPart 24 = .ok (.aload_n 0, 1) := by decide +kernel
theorem d_Fi_cheapestPart_25 : decode c_Fi_cheapestPart 25 = .ok (.iload_n 1, 1) := by decide +kernel
theorem d_Fi_cheapestPart_26 : decode c_Fi_cheapestPart 26 = .ok (.iload 4, 2) := by decide +kernel
theorem d_Fi_cheapestPart_28 : decode c_Fi_cheapestPart 28 = .ok (.invokevirtual 79, 3) := by decide +kernel
theorem d_Fi_cheapestPart_31 : decode c_Fi_cheapestPart 31 = .ok (.iload_n 3, 1) := by decide +kernel
theorem d_Fi_cheapestPart_32 : decode c_Fi_cheapestPart 32 = .ok (.if_icmp .lt 6, 3) := by decide +kernel
theorem d_Fi_cheapestPart_35 : decode c_Fi_cheapestPart 35 = .ok (.goto 66, 3) := by decide +kernel
theorem d_Fi_cheapestPart_38 : decode c_Fi_cheapestPart 38 = .ok (.aload_n 0, 1) := by decide +kernel
theorem d_Fi_cheapestPart_39 : decode c_Fi_cheapestPart 39 = .ok (.iload_n 1, 1) := by decide +kernel
theorem d_Fi_cheapestPart_40 : decode c_Fi_cheapestPart 40 = .ok (.iload 4, 2) := by decide +kernel
theorem d_Fi_cheapestPart_42 : decode c_Fi_cheapestPart 42 = .ok (.invokevirtual 83, 3) := by decide +kernel
theorem d_Fi_cheapestPart_45 : decode c_Fi_cheapestPart 45 = .ok (.ifCond .eq 56, 3) := by decide +kernel
theorem d_Fi_cheapestPart_48 : decode c_Fi_cheapestPart 48 = .ok (.aload_n 0, 1) := by decide +kernel
theorem d_Fi_cheapestPart_49 : decode c_Fi_cheapestPart 49 = .ok (.getfield 31, 3) := by decide +kernel
theorem d_Fi_cheapestPart_52 : decode c_Fi_cheapestPart 52 = .ok (.getfield 87, 3) := by decide +kernel
theorem d_Fi_cheapestPart_55 : decode c_Fi_cheapestPart 55 = .ok (.aload_n 0, 1) := by decide +kernel
theorem d_Fi_cheapestPart_56 : decode c_Fi_cheapestPart 56 = .ok (.getfield 46, 3) := by decide +kernel
theorem d_Fi_cheapestPart_59 : decode c_Fi_cheapestPart 59 = .ok (.iload 4, 2) := by decide +kernel
theorem d_Fi_cheapestPart_61 : decode c_Fi_cheapestPart 61 = .ok (.iaload, 1) := by decide +kernel
theorem d_Fi_cheapestPart_62 : decode c_Fi_cheapestPart 62 = .ok (.isub, 1) := by decide +kernel
theorem d_Fi_cheapestPart_63 : decode c_Fi_cheapestPart 63 = .ok (.aload_n 0, 1) := by decide +kernel
theorem d_Fi_cheapestPart_64 : decode c_Fi_cheapestPart 64 = .ok (.getfield 22, 3) := by decide +kernel
theorem d_Fi_cheapestPart_67 : decode c_Fi_cheapestPart 67 = .ok (.iload_n 1, 1) := by decide +kernel
theorem d_Fi_cheapestPart_68 : decode c_Fi_cheapestPart 68 = .ok (.aload_n 0, 1) := by decide +kernel
theorem d_Fi_cheapestPart_69 : decode c_Fi_cheapestPart 69 = .ok (.getfield 18, 3) := by decide +kernel
theorem d_Fi_cheapestPart_72 : decode c_Fi_cheapestPart 72 = .ok (.getfield 35, 3) := by decide +kernel
theorem d_Fi_cheapestPart_75 : decode c_Fi_cheapestPart 75 = .ok (.iload 4, 2) := by decide +kernel
theorem d_Fi_cheapestPart_77 : decode c_Fi_cheapestPart 77 = .ok (.iaload, 1) := by decide +kernel
theorem d_Fi_cheapestPart_78 : decode c_Fi_cheapestPart 78 = .ok (.invokevirtual 89, 3) := by decide +kernel
theorem d_Fi_cheapestPart_81 : decode c_Fi_cheapestPart 81 = .ok (.iadd, 1) := by decide +kernel
theorem d_Fi_cheapestPart_82 : decode c_Fi_cheapestPart 82 = .ok (.istore 5, 2) := by decide +kernel
theorem d_Fi_cheapestPart_84 : decode c_Fi_cheapestPart 84 = .ok (.iload_n 2, 1) := by decide +kernel
theorem d_Fi_cheapestPart_85 : decode c_Fi_cheapestPart 85 = .ok (.iconst (-1), 1) := by decide +kernel
theorem d_Fi_cheapestPart_86 : decode c_Fi_cheapestPart 86 = .ok (.if_icmp .eq 9, 3) := by decide +kernel
theorem d_Fi_cheapestPart_89 : decode c_Fi_cheapestPart 89 = .ok (.iload 5, 2) := by decide +kernel
theorem d_Fi_cheapestPart_91 : decode c_Fi_cheapestPart 91 = .ok (.iload_n 3, 1) := by decide +kernel
theorem d_Fi_cheapestPart_92 : decode c_Fi_cheapestPart 92 = .ok (.if_icmp .ge 9, 3) := by decide +kernel
theorem d_Fi_cheapestPart_95 : decode c_Fi_cheapestPart 95 = .ok (.iload 4, 2) := by decide +kernel
theorem d_Fi_cheapestPart_97 : decode c_Fi_cheapestPart 97 = .ok (.istore_n 2, 1) := by decide +kernel
theorem d_Fi_cheapestPart_98 : decode c_Fi_cheapestPart 98 = .ok (.iload 5, 2) := by decide +kernel
theorem d_Fi_cheapestPart_100 : decode c_Fi_cheapestPart 100 = .ok (.istore_n 3, 1) := by decide +kernel
theorem d_Fi_cheapestPart_101 : decode c_Fi_cheapestPart 101 = .ok (.iinc 4 1, 3) := by decide +kernel
theorem d_Fi_cheapestPart_104 : decode c_Fi_cheapestPart 104 = .ok (.goto (-97), 3) := by decide +kernel
theorem d_Fi_cheapestPart_107 : decode c_Fi_cheapestPart 107 = .ok (.iload_n 2, 1) := by decide +kernel
theorem d_Fi_cheapestPart_108 : decode c_Fi_cheapestPart 108 = .ok (.ireturn, 1) := by decide +kernel
theorem d_Fi_costAtLeast_0 : decode c_Fi_costAtLeast 0 = .ok (.aload_n 0, 1) := by decide +kernel
theorem d_Fi_costAtLeast_1 : decode c_Fi_costAtLeast 1 = .ok (.getfield 22, 3) := by decide +kernel
theorem d_Fi_costAtLeast_4 : decode c_Fi_costAtLeast 4 = .ok (.getfield 76, 3) := by decide +kernel
theorem d_Fi_costAtLeast_7 : decode c_Fi_costAtLeast 7 = .ok (.iload_n 1, 1) := by decide +kernel
theorem d_Fi_costAtLeast_8 : decode c_Fi_costAtLeast 8 = .ok (.iaload, 1) := by decide +kernel
theorem d_Fi_costAtLeast_9 : decode c_Fi_costAtLeast 9 = .ok (.istore_n 3, 1) := by decide +kernel
theorem d_Fi_costAtLeast_10 : decode c_Fi_costAtLeast 10 = .ok (.aload_n 0, 1) := by decide +kernel
theorem d_Fi_costAtLeast_11 : decode c_Fi_costAtLeast 11 = .ok (.getfield 18, 3) := by decide +kernel
theorem d_Fi_costAtLeast_14 : decode c_Fi_costAtLeast 14 = .ok (.getfield 92, 3) := by decide +kernel
theorem d_Fi_costAtLeast_17 : decode c_Fi_costAtLeast 17 = .ok (.iload_n 2, 1) := by decide +kernel
theorem d_Fi_costAtLeast_18 : decode c_Fi_costAtLeast 18 = .ok (.iaload, 1) := by decide +kernel
theorem d_Fi_costAtLeast_19 : decode c_Fi_costAtLeast 19 = .ok (.iload_n 3, 1) := by decide +kernel
theorem d_Fi_costAtLeast_20 : decode c_Fi_costAtLeast 20 = .ok (.isub, 1) := by decide +kernel
theorem d_Fi_costAtLeast_21 : decode c_Fi_costAtLeast 21 = .ok (.istore 4, 2) := by decide +kernel
theorem d_Fi_costAtLeast_23 : decode c_Fi_costAtLeast 23 = .ok (.iload_n 3, 1) := by decide +kernel
theorem d_Fi_costAtLeast_24 : decode c_Fi_costAtLeast 24 = .ok (.aload_n 0, 1) := by decide +kernel
theorem d_Fi_costAtLeast_25 : decode c_Fi_costAtLeast 25 = .ok (.getfield 22, 3) := by decide +kernel
theorem d_Fi_costAtLeast_28 : decode c_Fi_costAtLeast 28 = .ok (.getfield 95, 3) := by decide +kernel
theorem d_Fi_costAtLeast_31 : decode c_Fi_costAtLeast 31 = .ok (.iload_n 1, 1) := by decide +kernel
theorem d_Fi_costAtLeast_32 : decode c_Fi_costAtLeast 32 = .ok (.iaload, 1) := by decide +kernel
theorem d_Fi_costAtLeast_33 : decode c_Fi_costAtLeast 33 = .ok (.iadd, 1) := by decide +kernel
theorem d_Fi_costAtLeast_34 : decode c_Fi_costAtLeast 34 = .ok (.aload_n 0, 1) := by decide +kernel
theorem d_Fi_costAtLeast_35 : decode c_Fi_costAtLeast 35 = .ok (.getfield 18, 3) := by decide +kernel
theorem d_Fi_costAtLeast_38 : decode c_Fi_costAtLeast 38 = .ok (.getfield 98, 3) := by decide +kernel
theorem d_Fi_costAtLeast_41 : decode c_Fi_costAtLeast 41 = .ok (.iload_n 2, 1) := by decide +kernel
theorem d_Fi_costAtLeast_42 : decode c_Fi_costAtLeast 42 = .ok (.iaload, 1) := by decide +kernel
theorem d_Fi_costAtLeast_43 : decode c_Fi_costAtLeast 43 = .ok (.isub, 1) := by decide +kernel
theorem d_Fi_costAtLeast_44 : decode c_Fi_costAtLeast 44 = .ok (.istore 5, 2) := by decide +kernel
theorem d_Fi_costAtLeast_46 : decode c_Fi_costAtLeast 46 = .ok (.iconst 0, 1) := by decide +kernel
theorem d_Fi_costAtLeast_47 : decode c_Fi_costAtLeast 47 = .ok (.iload 4, 2) := by decide +kernel
theorem d_Fi_costAtLeast_49 : decode c_Fi_costAtLeast 49 = .ok (.iload 5, 2) := by decide +kernel
theorem d_Fi_costAtLeast_51 : decode c_Fi_costAtLeast 51 = .ok (.invokestatic 101, 3) := by decide +kernel
theorem d_Fi_costAtLeast_54 : decode c_Fi_costAtLeast 54 = .ok (.invokestatic 101, 3) := by decide +kernel
theorem d_Fi_costAtLeast_57 : decode c_Fi_costAtLeast 57 = .ok (.istore 6, 2) := by decide +kernel
theorem d_Fi_costAtLeast_59 : decode c_Fi_costAtLeast 59 = .ok (.iload 6, 2) := by decide +kernel
theorem d_Fi_costAtLeast_61 : decode c_Fi_costAtLeast 61 = .ok (.aload_n 0, 1) := by decide +kernel
theorem d_Fi_costAtLeast_62 : decode c_Fi_costAtLeast 62 = .ok (.getfield 22, 3) := by decide +kernel
theorem d_Fi_costAtLeast_65 : decode c_Fi_costAtLeast 65 = .ok (.iload_n 1, 1) := by decide +kernel
theorem d_Fi_costAtLeast_66 : decode c_Fi_costAtLeast 66 = .ok (.aload_n 0, 1) := by decide +kernel
theorem d_Fi_costAtLeast_67 : decode c_Fi_costAtLeast 67 = .ok (.getfield 18, 3) := by decide +kernel
theorem d_Fi_costAtLeast_70 : decode c_Fi_costAtLeast 70 = .ok (.getfield 35, 3) := by decide +kernel
theorem d_Fi_costAtLeast_73 : decode c_Fi_costAtLeast 73 = .ok (.iload_n 2, 1) := by decide +kernel
theorem d_Fi_costAtLeast_74 : decode c_Fi_costAtLeast 74 = .ok (.iaload, 1) := by decide +kernel
theorem d_Fi_costAtLeast_75 : decode c_Fi_costAtLeast 75 = .ok (.invokevirtual 89, 3) := by decide +kernel
theorem d_Fi_costAtLeast_78 : decode c_Fi_costAtLeast 78 = .ok (.iadd, 1) := by decide +kernel
theorem d_Fi_costAtLeast_79 : decode c_Fi_costAtLeast 79 = .ok (.ireturn, 1) := by decide +kernel
theorem d_Fi_append_0 : decode c_Fi_append 0 = .ok (.aload_n 0, 1) := by decide +kernel
theorem d_Fi_append_1 : decode c_Fi_append 1 = .ok (.getfield 43, 3) := by decide +kernel
theorem d_Fi_append_4 : decode c_Fi_append 4 = .ok (.iload_n 2, 1) := by decide +kernel
theorem d_Fi_append_5 : decode c_Fi_append 5 = .ok (.iaload, 1) := by decide +kernel
theorem d_Fi_append_6 : decode c_Fi_append 6 = .ok (.iconst (-1), 1) := by decide +kernel
theorem d_Fi_append_7 : decode c_Fi_append 7 = .ok (.if_icmp .ne 13, 3) := by decide +kernel
theorem d_Fi_append_10 : decode c_Fi_append 10 = .ok (.aload_n 0, 1) := by decide +kernel
theorem d_Fi_append_11 : decode c_Fi_append 11 = .ok (.getfield 40, 3) := by decide +kernel
theorem d_Fi_append_14 : decode c_Fi_append 14 = .ok (.iload_n 2, 1) := by decide +kernel
theorem d_Fi_append_15 : decode c_Fi_append 15 = .ok (.iload_n 1, 1) := by decide +kernel
theorem d_Fi_append_16 : decode c_Fi_append 16 = .ok (.iastore, 1) := by decide +kernel
theorem d_Fi_append_17 : decode c_Fi_append 17 = .ok (.goto 15, 3) := by decide +kernel
theorem d_Fi_append_20 : decode c_Fi_append 20 = .ok (.aload_n 0, 1) := by decide +kernel
theorem d_Fi_append_21 : decode c_Fi_append 21 = .ok (.getfield 15, 3) := by decide +kernel
theorem d_Fi_append_24 : decode c_Fi_append 24 = .ok (.aload_n 0, 1) := by decide +kernel
theorem d_Fi_append_25 : decode c_Fi_append 25 = .ok (.getfield 43, 3) := by decide +kernel
theorem d_Fi_append_28 : decode c_Fi_append 28 = .ok (.iload_n 2, 1) := by decide +kernel
theorem d_Fi_append_29 : decode c_Fi_append 29 = .ok (.iaload, 1) := by decide +kernel
theorem d_Fi_append_30 : decode c_Fi_append 30 = .ok (.iload_n 1, 1) := by decide +kernel
theorem d_Fi_append_31 : decode c_Fi_append 31 = .ok (.iastore, 1) := by decide +kernel
theorem d_Fi_append_32 : decode c_Fi_append 32 = .ok (.aload_n 0, 1) := by decide +kernel
theorem d_Fi_append_33 : decode c_Fi_append 33 = .ok (.getfield 43, 3) := by decide +kernel
theorem d_Fi_append_36 : decode c_Fi_append 36 = .ok (.iload_n 2, 1) := by decide +kernel
theorem d_Fi_append_37 : decode c_Fi_append 37 = .ok (.iload_n 1, 1) := by decide +kernel
theorem d_Fi_append_38 : decode c_Fi_append 38 = .ok (.iastore, 1) := by decide +kernel
theorem d_Fi_append_39 : decode c_Fi_append 39 = .ok (.aload_n 0, 1) := by decide +kernel
theorem d_Fi_append_40 : decode c_Fi_append 40 = .ok (.getfield 15, 3) := by decide +kernel
theorem d_Fi_append_43 : decode c_Fi_append 43 = .ok (.iload_n 1, 1) := by decide +kernel
theorem d_Fi_append_44 : decode c_Fi_append 44 = .ok (.iconst (-1), 1) := by decide +kernel
theorem d_Fi_append_45 : decode c_Fi_append 45 = .ok (.iastore, 1) := by decide +kernel
theorem d_Fi_append_46 : decode c_Fi_append 46 = .ok (.return_, 1) := by decide +kernel
theorem d_Fi_layWith_0 : decode c_Fi_layWith 0 = .ok (.aload_n 0, 1) := by decide +kernel
theorem d_Fi_layWith_1 : decode c_Fi_layWith 1 = .ok (.iload_n 2, 1) := by decide +kernel
theorem d_Fi_layWith_2 : decode c_Fi_layWith 2 = .ok (.invokevirtual 106, 3) := by decide +kernel
theorem d_Fi_layWith_5 : decode c_Fi_layWith 5 = .ok (.aload_n 0, 1) := by decide +kernel
theorem d_Fi_layWith_6 : decode c_Fi_layWith 6 = .ok (.getfield 31, 3) := by decide +kernel
theorem d_Fi_layWith_9 : decode c_Fi_layWith 9 = .ok (.iload_n 1, 1) := by decide +kernel
theorem d_Fi_layWith_10 : decode c_Fi_layWith 10 = .ok (.invokevirtual 109, 3) := by decide +kernel
theorem d_Fi_layWith_13 : decode c_Fi_layWith 13 = .ok (.aload_n 0, 1) := by decide +kernel
theorem d_Fi_layWith_14 : decode c_Fi_layWith 14 = .ok (.getfield 31, 3) := by decide +kernel
theorem d_Fi_layWith_17 : decode c_Fi_layWith 17 = .ok (.aload_n 0, 1) := by decide +kernel
theorem d_Fi_layWith_18 : decode c_Fi_layWith 18 = .ok (.getfield 18, 3) := by decide +kernel
theorem d_Fi_layWith_21 : decode c_Fi_layWith 21 = .ok (.getfield 92, 3) := by decide +kernel
theorem d_Fi_layWith_24 : decode c_Fi_layWith 24 = .ok (.iload_n 2, 1) := by decide +kernel
theorem d_Fi_layWith_25 : decode c_Fi_layWith 25 = .ok (.iaload, 1) := by decide +kernel
theorem d_Fi_layWith_26 : decode c_Fi_layWith 26 = .ok (.aload_n 0, 1) := by decide +kernel
theorem d_Fi_layWith_27 : decode c_Fi_layWith 27 = .ok (.getfield 18, 3) := by decide +kernel
theorem d_Fi_layWith_30 : decode c_Fi_layWith 30 = .ok (.getfield 98, 3) := by decide +kernel
theorem d_Fi_layWith_33 : decode c_Fi_layWith 33 = .ok (.iload_n 2, 1) := by decide +kernel
theorem d_Fi_layWith_34 : decode c_Fi_layWith 34 = .ok (.iaload, 1) := by decide +kernel
theorem d_Fi_layWith_35 : decode c_Fi_layWith 35 = .ok (.invokevirtual 112, 3) := by decide +kernel
theorem d_Fi_layWith_38 : decode c_Fi_layWith 38 = .ok (.ireturn, 1) := by decide +kernel
theorem d_Fi_gather_0 : decode c_Fi_gather 0 = .ok (.aload_n 0, 1) := by decide +kernel
theorem d_Fi_gather_1 : decode c_Fi_gather 1 = .ok (.getfield 31, 3) := by decide +kernel
theorem d_Fi_gather_4 : decode c_Fi_gather 4 = .ok (.invokevirtual 115, 3) := by decide +kernel
theorem d_Fi_gather_7 : decode c_Fi_gather 7 = .ok (.aload_n 0, 1) := by decide +kernel
theorem d_Fi_gather_8 : decode c_Fi_gather 8 = .ok (.getfield 40, 3) := by decide +kernel
theorem d_Fi_gather_11 : decode c_Fi_gather 11 = .ok (.iload_n 1, 1) := by decide +kernel
theorem d_Fi_gather_12 : decode c_Fi_gather 12 = .ok (.iaload, 1) := by decide +kernel
theorem d_Fi_gather_13 : decode c_Fi_gather 13 = .ok (.istore_n 2, 1) := by decide +kernel
theorem d_Fi_gather_14 : decode c_Fi_gather 14 = .ok (.iconst 0, 1) := by decide +kernel
theorem d_Fi_gather_15 : decode c_Fi_gather 15 = .ok (.istore_n 3, 1) := by decide +kernel
theorem d_Fi_gather_16 : decode c_Fi_gather 16 = .ok (.iload_n 3, 1) := by decide +kernel
theorem d_Fi_gather_17 : decode c_Fi_gather 17 = .ok (.bipush 60, 2) := by decide +kernel
theorem d_Fi_gather_19 : decode c_Fi_gather 19 = .ok (.if_icmp .ge 29, 3) := by decide +kernel
theorem d_Fi_gather_22 : decode c_Fi_gather 22 = .ok (.iload_n 2, 1) := by decide +kernel
theorem d_Fi_gather_23 : decode c_Fi_gather 23 = .ok (.iconst (-1), 1) := by decide +kernel
theorem d_Fi_gather_24 : decode c_Fi_gather 24 = .ok (.if_icmp .eq 24, 3) := by decide +kernel
theorem d_Fi_gather_27 : decode c_Fi_gather 27 = .ok (.aload_n 0, 1) := by decide +kernel
theorem d_Fi_gather_28 : decode c_Fi_gather 28 = .ok (.getfield 31, 3) := by decide +kernel
theorem d_Fi_gather_31 : decode c_Fi_gather 31 = .ok (.iload_n 2, 1) := by decide +kernel
theorem d_Fi_gather_32 : decode c_Fi_gather 32 = .ok (.invokevirtual 109, 3) := by decide +kernel
theorem d_Fi_gather_35 : decode c_Fi_gather 35 = .ok (.aload_n 0, 1) := by decide +kernel
theorem d_Fi_gather_36 : decode c_Fi_gather 36 = .ok (.getfield 15, 3) := by decide +kernel
theorem d_Fi_gather_39 : decode c_Fi_gather 39 = .ok (.iload_n 2, 1) := by decide +kernel
theorem d_Fi_gather_40 : decode c_Fi_gather 40 = .ok (.iaload, 1) := by decide +kernel
theorem d_Fi_gather_41 : decode c_Fi_gather 41 = .ok (.istore_n 2, 1) := by decide +kernel
theorem d_Fi_gather_42 : decode c_Fi_gather 42 = .ok (.iinc 3 1, 3) := by decide +kernel
theorem d_Fi_gather_45 : decode c_Fi_gather 45 = .ok (.goto (-29), 3) := by decide +kernel
theorem d_Fi_gather_48 : decode c_Fi_gather 48 = .ok (.return_, 1) := by decide +kernel
theorem d_Fi_settle_0 : decode c_Fi_settle 0 = .ok (.aload_n 0, 1) := by decide +kernel
theorem d_Fi_settle_1 : decode c_Fi_settle 1 = .ok (.iload_n 1, 1) := by decide +kernel
theorem d_Fi_settle_2 : decode c_Fi_settle 2 = .ok (.invokevirtual 106, 3) := by decide +kernel
theorem d_Fi_settle_5 : decode c_Fi_settle 5 = .ok (.aload_n 0, 1) := by decide +kernel
theorem d_Fi_settle_6 : decode c_Fi_settle 6 = .ok (.getfield 31, 3) := by decide +kernel
theorem d_Fi_settle_9 : decode c_Fi_settle 9 = .ok (.aload_n 0, 1) := by decide +kernel
theorem d_Fi_settle_10 : decode c_Fi_settle 10 = .ok (.getfield 18, 3) := by decide +kernel
theorem d_Fi_settle_13 : decode c_Fi_settle 13 = .ok (.getfield 92, 3) := by decide +kernel
theorem d_Fi_settle_16 : decode c_Fi_settle 16 = .ok (.iload_n 1, 1) := by decide +kernel
theorem d_Fi_settle_17 : decode c_Fi_settle 17 = .ok (.iaload, 1) := by decide +kernel
theorem d_Fi_settle_18 : decode c_Fi_settle 18 = .ok (.aload_n 0, 1) := by decide +kernel
theorem d_Fi_settle_19 : decode c_Fi_settle 19 = .ok (.getfield 18, 3) := by decide +kernel
theorem d_Fi_settle_22 : decode c_Fi_settle 22 = .ok (.getfield 98, 3) := by decide +kernel
theorem d_Fi_settle_25 : decode c_Fi_settle 25 = .ok (.iload_n 1, 1) := by decide +kernel
theorem d_Fi_settle_26 : decode c_Fi_settle 26 = .ok (.iaload, 1) := by decide +kernel
theorem d_Fi_settle_27 : decode c_Fi_settle 27 = .ok (.invokevirtual 112, 3) := by decide +kernel
theorem d_Fi_settle_30 : decode c_Fi_settle 30 = .ok (.ifCond .eq 32, 3) := by decide +kernel
theorem d_Fi_settle_33 : decode c_Fi_settle 33 = .ok (.aload_n 0, 1) := by decide +kernel
theorem d_Fi_settle_34 : decode c_Fi_settle 34 = .ok (.getfield 46, 3) := by decide +kernel
theorem d_Fi_settle_37 : decode c_Fi_settle 37 = .ok (.iload_n 1, 1) := by decide +kernel
theorem d_Fi_settle_38 : decode c_Fi_settle 38 = .ok (.aload_n 0, 1) := by decide +kernel
theorem d_Fi_settle_39 : decode c_Fi_settle 39 = .ok (.getfield 31, 3) := by decide +kernel
theorem d_Fi_settle_42 : decode c_Fi_settle 42 = .ok (.getfield 87, 3) := by decide +kernel
theorem d_Fi_settle_45 : decode c_Fi_settle 45 = .ok (.iastore, 1) := by decide +kernel
theorem d_Fi_settle_46 : decode c_Fi_settle 46 = .ok (.aload_n 0, 1) := by decide +kernel
theorem d_Fi_settle_47 : decode c_Fi_settle 47 = .ok (.getfield 31, 3) := by decide +kernel
theorem d_Fi_settle_50 : decode c_Fi_settle 50 = .ok (.aload_n 0, 1) := by decide +kernel
theorem d_Fi_settle_51 : decode c_Fi_settle 51 = .ok (.getfield 18, 3) := by decide +kernel
theorem d_Fi_settle_54 : decode c_Fi_settle 54 = .ok (.getfield 35, 3) := by decide +kernel
theorem d_Fi_settle_57 : decode c_Fi_settle 57 = .ok (.iload_n 1, 1) := by decide +kernel
theorem d_Fi_settle_58 : decode c_Fi_settle 58 = .ok (.iaload, 1) := by decide +kernel
theorem d_Fi_settle_59 : decode c_Fi_settle 59 = .ok (.invokevirtual 118, 3) := by decide +kernel
theorem d_Fi_settle_62 : decode c_Fi_settle 62 = .ok (.return_, 1) := by decide +kernel
theorem d_Li_init_0 : decode c_Li_init 0 = .ok (.aload_n 0, 1) := by decide +kernel
theorem d_Li_init_1 : decode c_Li_init 1 = .ok (.invokespecial 3, 3) := by decide +kernel
theorem d_Li_init_4 : decode c_Li_init 4 = .ok (.aload_n 0, 1) := by decide +kernel
theorem d_Li_init_5 : decode c_Li_init 5 = .ok (.bipush 60, 2) := by decide +kernel
theorem d_Li_init_7 : decode c_Li_init 7 = .ok (.newarray .int, 2) := by decide +kernel
theorem d_Li_init_9 : decode c_Li_init 9 = .ok (.putfield 9, 3) := by decide +kernel
theorem d_Li_init_12 : decode c_Li_init 12 = .ok (.aload_n 0, 1) := by decide +kernel
theorem d_Li_init_13 : decode c_Li_init 13 = .ok (.bipush 60, 2) := by decide +kernel
theorem d_Li_init_15 : decode c_Li_init 15 = .ok (.newarray .int, 2) := by decide +kernel
theorem d_Li_init_17 : decode c_Li_init 17 = .ok (.putfield 15, 3) := by decide +kernel
theorem d_Li_init_20 : decode c_Li_init 20 = .ok (.aload_n 0, 1) := by decide +kernel
theorem d_Li_init_21 : decode c_Li_init 21 = .ok (.bipush 60, 2) := by decide +kernel
theorem d_Li_init_23 : decode c_Li_init 23 = .ok (.newarray .int, 2) := by decide +kernel
theorem d_Li_init_25 : decode c_Li_init 25 = .ok (.putfield 18, 3) := by decide +kernel
theorem d_Li_init_28 : decode c_Li_init 28 = .ok (.aload_n 0, 1) := by decide +kernel
theorem d_Li_init_29 : decode c_Li_init 29 = .ok (.bipush 60, 2) := by decide +kernel
theorem d_Li_init_31 : decode c_Li_init 31 = .ok (.newarray .int, 2) := by decide +kernel
theorem d_Li_init_33 : decode c_Li_init 33 = .ok (.putfield 21, 3) := by decide +kernel
theorem d_Li_init_36 : decode c_Li_init 36 = .ok (.aload_n 0, 1) := by decide +kernel
theorem d_Li_init_37 : decode c_Li_init 37 = .ok (.bipush 61, 2) := by decide +kernel
theorem d_Li_init_39 : decode c_Li_init 39 = .ok (.newarray .int, 2) := by decide +kernel
theorem d_Li_init_41 : decode c_Li_init 41 = .ok (.putfield 24, 3) := by decide +kernel
theorem d_Li_init_44 : decode c_Li_init 44 = .ok (.aload_n 0, 1) := by decide +kernel
theorem d_Li_init_45 : decode c_Li_init 45 = .ok (.aload_n 1, 1) := by decide +kernel
theorem d_Li_init_46 : decode c_Li_init 46 = .ok (.putfield 27, 3) := by decide +kernel
theorem d_Li_init_49 : decode c_Li_init 49 = .ok (.return_, 1) := by decide +kernel
theorem d_Li_clear_0 : decode c_Li_clear 0 = .ok (.aload_n 0, 1) := by decide +kernel
theorem d_Li_clear_1 : decode c_Li_clear 1 = .ok (.iconst 0, 1) := by decide +kernel
theorem d_Li_clear_2 : decode c_Li_clear 2 = .ok (.putfield 31, 3) := by decide +kernel
theorem d_Li_clear_5 : decode c_Li_clear 5 = .ok (.aload_n 0, 1) := by decide +kernel
theorem d_Li_clear_6 : decode c_Li_clear 6 = .ok (.iconst 0, 1) := by decide +kernel
theorem d_Li_clear_7 : decode c_Li_clear 7 = .ok (.putfield 35, 3) := by decide +kernel
theorem d_Li_clear_10 : decode c_Li_clear 10 = .ok (.return_, 1) := by decide +kernel
theorem d_Li_add_0 : decode c_Li_add 0 = .ok (.aload_n 0, 1) := by decide +kernel
theorem d_Li_add_1 : decode c_Li_add 1 = .ok (.getfield 31, 3) := by decide +kernel
theorem d_Li_add_4 : decode c_Li_add 4 = .ok (.bipush 60, 2) := by decide +kernel
theorem d_Li_add_6 : decode c_Li_add 6 = .ok (.if_icmp .lt 4, 3) := by decide +kernel
theorem d_Li_add_9 : decode c_Li_add 9 = .ok (.return_, 1) := by decide +kernel
theorem d_Li_add_10 : decode c_Li_add 10 = .ok (.aload_n 0, 1) := by decide +kernel
theorem d_Li_add_11 : decode c_Li_add 11 = .ok (.getfield 31, 3) := by decide +kernel
theorem d_Li_add_14 : decode c_Li_add 14 = .ok (.ifCond .le 31, 3) := by decide +kernel
theorem d_Li_add_17 : decode c_Li_add 17 = .ok (.aload_n 0, 1) := by decide +kernel
theorem d_Li_add_18 : decode c_Li_add 18 = .ok (.dup, 1) := by decide +kernel
theorem d_Li_add_19 : decode c_Li_add 19 = .ok (.getfield 35, 3) := by decide +kernel
theorem d_Li_add_22 : decode c_Li_add 22 = .ok (.aload_n 0, 1) := by decide +kernel
theorem d_Li_add_23 : decode c_Li_add 23 = .ok (.getfield 27, 3) := by decide +kernel
theorem d_Li_add_26 : decode c_Li_add 26 = .ok (.aload_n 0, 1) := by decide +kernel
theorem d_Li_add_27 : decode c_Li_add 27 = .ok (.getfield 9, 3) := by decide +kernel
theorem d_Li_add_30 : decode c_Li_add 30 = .ok (.aload_n 0, 1) := by decide +kernel
theorem d_Li_add_31 : decode c_Li_add 31 = .ok (.getfield 31, 3) := by decide +kernel
theorem d_Li_add_34 : decode c_Li_add 34 = .ok (.iconst 1, 1) := by decide +kernel
theorem d_Li_add_35 : decode c_Li_add 35 = .ok (.isub, 1) := by decide +kernel
theorem d_Li_add_36 : decode c_Li_add 36 = .ok (.iaload, 1) := by decide +kernel
theorem d_Li_add_37 : decode c_Li_add 37 = .ok (.iload_n 1, 1) := by decide +kernel
theorem d_Li_add_38 : decode c_Li_add 38 = .ok (.invokevirtual 38, 3) := by decide +kernel
theorem d_Li_add_41 : decode c_Li_add 41 = .ok (.iadd, 1) := by decide +kernel
theorem d_Li_add_42 : decode c_Li_add 42 = .ok (.putfield 35, 3) := by decide +kernel
theorem d_Li_add_45 : decode c_Li_add 45 = .ok (.aload_n 0, 1) := by decide +kernel
theorem d_Li_add_46 : decode c_Li_add 46 = .ok (.getfield 9, 3) := by decide +kernel
theorem d_Li_add_49 : decode c_Li_add 49 = .ok (.aload_n 0, 1) := by decide +kernel
theorem d_Li_add_50 : decode c_Li_add 50 = .ok (.getfield 31, 3) := by decide +kernel
theorem d_Li_add_53 : decode c_Li_add 53 = .ok (.iload_n 1, 1) := by decide +kernel
theorem d_Li_add_54 : decode c_Li_add 54 = .ok (.iastore, 1) := by decide +kernel
theorem d_Li_add_55 : decode c_Li_add 55 = .ok (.aload_n 0, 1) := by decide +kernel
theorem d_Li_add_56 : decode c_Li_add 56 = .ok (.getfield 15, 3) := by decide +kernel
theorem d_Li_add_59 : decode c_Li_add 59 = .ok (.aload_n 0, 1) := by decide +kernel
theorem d_Li_add_60 : decode c_Li_add 60 = .ok (.getfield 31, 3) := by decide +kernel
theorem d_Li_add_63 : decode c_Li_add 63 = .ok (.aload_n 0, 1) := by decide +kernel
theorem d_Li_add_64 : decode c_Li_add 64 = .ok (.getfield 35, 3) := by decide +kernel
theorem d_Li_add_67 : decode c_Li_add 67 = .ok (.iastore, 1) := by decide +kernel
theorem d_Li_add_68 : decode c_Li_add 68 = .ok (.aload_n 0, 1) := by decide +kernel
theorem d_Li_add_69 : decode c_Li_add 69 = .ok (.dup, 1) := by decide +kernel
theorem d_Li_add_70 : decode c_Li_add 70 = .ok (.getfield 35, 3) := by decide +kernel
theorem d_Li_add_73 : decode c_Li_add 73 = .ok (.aload_n 0, 1) := by decide +kernel
theorem d_Li_add_74 : decode c_Li_add 74 = .ok (.getfield 27, 3) := by decide +kernel
theorem d_Li_add_77 : decode c_Li_add 77 = .ok (.getfield 44, 3) := by decide +kernel
theorem d_Li_add_80 : decode c_Li_add 80 = .ok (.iload_n 1, 1) := by decide +kernel
theorem d_Li_add_81 : decode c_Li_add 81 = .ok (.iaload, 1) := by decide +kernel
theorem d_Li_add_82 : decode c_Li_add 82 = .ok (.iadd, 1) := by decide +kernel
theorem d_Li_add_83 : decode c_Li_add 83 = .ok (.putfield 35, 3) := by decide +kernel
theorem d_Li_add_86 : decode c_Li_add 86 = .ok (.aload_n 0, 1) := by decide +kernel
theorem d_Li_add_87 : decode c_Li_add 87 = .ok (.dup, 1) := by decide +kernel
theorem d_Li_add_88 : decode c_Li_add 88 = .ok (.getfield 31, 3) := by decide +kernel
theorem d_Li_add_91 : decode c_Li_add 91 = .ok (.iconst 1, 1) := by decide +kernel
theorem d_Li_add_92 : decode c_Li_add 92 = .ok (.iadd, 1) := by decide +kernel
theorem d_Li_add_93 : decode c_Li_add 93 = .ok (.putfield 31, 3) := by decide +kernel
theorem d_Li_add_96 : decode c_Li_add 96 = .ok (.return_, 1) := by decide +kernel
theorem d_Li_layIn_0 : decode c_Li_layIn 0 = .ok (.iload_n 2, 1) := by decide +kernel
theorem d_Li_layIn_1 : decode c_Li_layIn 1 = .ok (.iload_n 1, 1) := by decide +kernel
theorem d_Li_layIn_2 : decode c_Li_layIn 2 = .ok (.isub, 1) := by decide +kernel
theorem d_Li_layIn_3 : decode c_Li_layIn 3 = .ok (.aload_n 0, 1) := by decide +kernel
theorem d_Li_layIn_4 : decode c_Li_layIn 4 = .ok (.getfield 35, 3) := by decide +kernel
theorem d_Li_layIn_7 : decode c_Li_layIn 7 = .ok (.isub, 1) := by decide +kernel
theorem d_Li_layIn_8 : decode c_Li_layIn 8 = .ok (.istore_n 3, 1) := by decide +kernel
theorem d_Li_layIn_9 : decode c_Li_layIn 9 = .ok (.iload_n 3, 1) := by decide +kernel
theorem d_Li_layIn_10 : decode c_Li_layIn 10 = .ok (.ifCond .ge 5, 3) := by decide +kernel
theorem d_Li_layIn_13 : decode c_Li_layIn 13 = .ok (.iconst 0, 1) := by decide +kernel
theorem d_Li_layIn_14 : decode c_Li_layIn 14 = .ok (.ireturn, 1) := by decide +kernel
theorem d_Li_layIn_15 : decode c_Li_layIn 15 = .ok (.aload_n 0, 1) := by decide +kernel
theorem d_Li_layIn_16 : decode c_Li_layIn 16 = .ok (.iload_n 1, 1) := by decide +kernel
theorem d_Li_layIn_17 : decode c_Li_layIn 17 = .ok (.iload_n 3, 1) := by decide +kernel
theorem d_Li_layIn_18 : decode c_Li_layIn 18 = .ok (.invokevirtual 47, 3) := by decide +kernel
theorem d_Li_layIn_21 : decode c_Li_layIn 21 = .ok (.aload_n 0, 1) := by decide +kernel
theorem d_Li_layIn_22 : decode c_Li_layIn 22 = .ok (.iload_n 1, 1) := by decide +kernel
theorem d_Li_layIn_23 : decode c_Li_layIn 23 = .ok (.iload_n 3, 1) := by decide +kernel
theorem d_Li_layIn_24 : decode c_Li_layIn 24 = .ok (.invokevirtual 51, 3) := by decide +kernel
theorem d_Li_layIn_27 : decode c_Li_layIn 27 = .ok (.iconst 1, 1) := by decide +kernel
theorem d_Li_layIn_28 : decode c_Li_layIn 28 = .ok (.ireturn, 1) := by decide +kernel
theorem d_Li_findBestShifts_0 : decode c_Li_findBestShifts 0 = .ok (.aload_n 0, 1) := by decide +kernel
theorem d_Li_findBestShifts_1 : decode c_Li_findBestShifts 1 = .ok (.iconst 0, 1) := by decide +kernel
theorem d_Li_findBestShifts_2 : decode c_Li_findBestShifts 2 = .ok (.putfield 54, 3) := by decide +kernel
theorem d_Li_findBestShifts_5 : decode c_Li_findBestShifts 5 = .ok (.iconst 0, 1) := by decide +kernel
theorem d_Li_findBestShifts_6 : decode c_Li_findBestShifts 6 = .ok (.istore_n 3, 1) := by decide +kernel
theorem d_Li_findBestShifts_7 : decode c_Li_findBestShifts 7 = .ok (.iload_n 3, 1) := by decide +kernel
theorem d_Li_findBestShifts_8 : decode c_Li_findBestShifts 8 = .ok (.aload_n 0, 1) := by decide +kernel
theorem d_Li_findBestShifts_9 : decode c_Li_findBestShifts 9 = .ok (.getfield 31, 3) := by decide +kernel
theorem d_Li_findBestShifts_12 : decode c_Li_findBestShifts 12 = .ok (.if_icmp .ge 85, 3) := by decide +kernel
theorem d_Li_findBestShifts_15 : decode c_Li_findBestShifts 15 = .ok (.aload_n 0, 1) := by decide +kernel
theorem d_Li_findBestShifts_16 : decode c_Li_findBestShifts 16 = .ok (.getfield 27, 3) := by decide +kernel
theorem d_Li_findBestShifts_19 : decode c_Li_findBestShifts 19 = .ok (.getfield 57, 3) := by decide +kernel
theorem d_Li_findBestShifts_22 : decode c_Li_findBestShifts 22 = .ok (.aload_n 0, 1) := by decide +kernel
theorem d_Li_findBestShifts_23 : decode c_Li_findBestShifts 23 = .ok (.getfield 9, 3) := by decide +kernel
theorem d_Li_findBestShifts_26 : decode c_Li_findBestShifts 26 = .ok (.iload_n 3, 1) := by decide +kernel
theorem d_Li_findBestShifts_27 : decode c_Li_findBestShifts 27 = .ok (.iaload, 1) := by decide +kernel
theorem d_Li_findBestShifts_28 : decode c_Li_findBestShifts 28 = .ok (.iaload, 1) := by decide +kernel
theorem d_Li_findBestShifts_29 : decode c_Li_findBestShifts 29 = .ok (.aload_n 0, 1) := by decide +kernel
theorem d_Li_findBestShifts_30 : decode c_Li_findBestShifts 30 = .ok (.getfield 15, 3) := by decide +kernel
theorem d_Li_findBestShifts_33 : decode c_Li_findBestShifts 33 = .ok (.iload_n 3, 1) := by decide +kernel
theorem d_Li_findBestShifts_34 : decode c_Li_findBestShifts 34 = .ok (.iaload, 1) := by decide +kernel
theorem d_Li_findBestShifts_35 : decode c_Li_findBestShifts 35 = .ok (.isub, 1) := by decide +kernel
theorem d_Li_findBestShifts_36 : decode c_Li_findBestShifts 36 = .ok (.iload_n 1, 1) := by decide +kernel
theorem d_Li_findBestShifts_37 : decode c_Li_findBestShifts 37 = .ok (.isub, 1) := by decide +kernel
theorem d_Li_findBestShifts_38 : decode c_Li_findBestShifts 38 = .ok (.istore 4, 2) := by decide +kernel
theorem d_Li_findBestShifts_40 : decode c_Li_findBestShifts 40 = .ok (.iconst 0, 1) := by decide +kernel
theorem d_Li_findBestShifts_41 : decode c_Li_findBestShifts 41 = .ok (.iload_n 2, 1) := by decide +kernel
theorem d_Li_findBestShifts_42 : decode c_Li_findBestShifts 42 = .ok (.iload 4, 2) := by decide +kernel
theorem d_Li_findBestShifts_44 : decode c_Li_findBestShifts 44 = .ok (.invokestatic 60, 3) := by decide +kernel
theorem d_Li_findBestShifts_47 : decode c_Li_findBestShifts 47 = .ok (.invokestatic 65, 3) := by decide +kernel
theorem d_Li_findBestShifts_50 : decode c_Li_findBestShifts 50 = .ok (.istore 5, 2) := by decide +kernel
theorem d_Li_findBestShifts_52 : decode c_Li_findBestShifts 52 = .ok (.aload_n 0, 1) := by decide +kernel
theorem d_Li_findBestShifts_53 : decode c_Li_findBestShifts 53 = .ok (.iload 5, 2) := by decide +kernel
theorem d_Li_findBestShifts_55 : decode c_Li_findBestShifts 55 = .ok (.invokevirtual 68, 3) := by decide +kernel
theorem d_Li_findBestShifts_58 : decode c_Li_findBestShifts 58 = .ok (.aload_n 0, 1) := by decide +kernel
theorem d_Li_findBestShifts_59 : decode c_Li_findBestShifts 59 = .ok (.iload 5, 2) := by decide +kernel
theorem d_Li_findBestShifts_61 : decode c_Li_findBestShifts 61 = .ok (.invokevirtual 68, 3) := by decide +kernel
theorem d_Li_findBestShifts_64 : decode c_Li_findBestShifts 64 = .ok (.aload_n 0, 1) := by decide +kernel
theorem d_Li_findBestShifts_65 : decode c_Li_findBestShifts 65 = .ok (.dup, 1) := by decide +kernel
theorem d_Li_findBestShifts_66 : decode c_Li_findBestShifts 66 = .ok (.getfield 54, 3) := by decide +kernel
theorem d_Li_findBestShifts_69 : decode c_Li_findBestShifts 69 = .ok (.iconst 1, 1) := by decide +kernel
theorem d_Li_findBestShifts_70 : decode c_Li_findBestShifts 70 = .ok (.isub, 1) := by decide +kernel
theorem d_Li_findBestShifts_71 : decode c_Li_findBestShifts 71 = .ok (.putfield 54, 3) := by decide +kernel
theorem d_Li_findBestShifts_74 : decode c_Li_findBestShifts 74 = .ok (.aload_n 0, 1) := by decide +kernel
theorem d_Li_findBestShifts_75 : decode c_Li_findBestShifts 75 = .ok (.getfield 18, 3) := by decide +kernel
theorem d_Li_findBestShifts_78 : decode c_Li_findBestShifts 78 = .ok (.iload_n 3, 1) := by decide +kernel
theorem d_Li_findBestShifts_79 : decode c_Li_findBestShifts 79 = .ok (.aload_n 0, 1) := by decide +kernel
theorem d_Li_findBestShifts_80 : decode c_Li_findBestShifts 80 = .ok (.getfield 24, 3) := by decide +kernel
theorem d_Li_findBestShifts_83 : decode c_Li_findBestShifts 83 = .ok (.aload_n 0, 1) := by decide +kernel
theorem d_Li_findBestShifts_84 : decode c_Li_findBestShifts 84 = .ok (.getfield 54, 3) := by decide +kernel
theorem d_Li_findBestShifts_87 : decode c_Li_findBestShifts 87 = .ok (.iconst 1, 1) := by decide +kernel
theorem d_Li_findBestShifts_88 : decode c_Li_findBestShifts 88 = .ok (.isub, 1) := by decide +kernel
theorem d_Li_findBestShifts_89 : decode c_Li_findBestShifts 89 = .ok (.iaload, 1) := by decide +kernel
theorem d_Li_findBestShifts_90 : decode c_Li_findBestShifts 90 = .ok (.iastore, 1) := by decide +kernel
theorem d_Li_findBestShifts_91 : decode c_Li_findBestShifts 91 = .ok (.iinc 3 1, 3) := by decide +kernel
theorem d_Li_findBestShifts_94 : decode c_Li_findBestShifts 94 = .ok (.goto (-87), 3) := by decide +kernel
theorem d_Li_findBestShifts_97 : decode c_Li_findBestShifts 97 = .ok (.return_, 1) := by decide +kernel
theorem d_Li_insertBend_0 : decode c_Li_insertBend 0 = .ok (.aload_n 0, 1) := by decide +kernel
theorem d_Li_insertBend_1 : decode c_Li_insertBend 1 = .ok (.getfield 54, 3) := by decide +kernel
theorem d_Li_insertBend_4 : decode c_Li_insertBend 4 = .ok (.aload_n 0, 1) := by decide +kernel
theorem d_Li_insertBend_5 : decode c_Li_insertBend 5 = .ok (.getfield 24, 3) := by decide +kernel
theorem d_Li_insertBend_8 : decode c_Li_insertBend 8 = .ok (.arraylength, 1) := by decide +kernel
theorem d_Li_insertBend_9 : decode c_Li_insertBend 9 = .ok (.if_icmp .lt 4, 3) := by decide +kernel
theorem d_Li_insertBend_12 : decode c_Li_insertBend 12 = .ok (.return_, 1) := by decide +kernel
theorem d_Li_insertBend_13 : decode c_Li_insertBend 13 = .ok (.aload_n 0, 1) := by decide +kernel
theorem d_Li_insertBend_14 : decode c_Li_insertBend 14 = .ok (.getfield 54, 3) := by decide +kernel
theorem d_Li_insertBend_17 : decode c_Li_insertBend 17 = .ok (.istore_n 2, 1) := by decide +kernel
theorem d_Li_insertBend_18 : decode c_Li_insertBend 18 = .ok (.iload_n 2, 1) := by decide +kernel
theorem d_Li_insertBend_19 : decode c_Li_insertBend 19 = .ok (.ifCond .le 35, 3) := by decide +kernel
theorem d_Li_insertBend_22 : decode c_Li_insertBend 22 = .ok (.aload_n 0, 1) := by decide +kernel
theorem d_Li_insertBend_23 : decode c_Li_insertBend 23 = .ok (.getfield 24, 3) := by decide +kernel
theorem d_Li_insertBend_26 : decode c_Li_insertBend 26 = .ok (.iload_n 2, 1) := by decide +kernel
theorem d_Li_insertBend_27 : decode c_Li_insertBend 27 = .ok (.iconst 1, 1) := by decide +kernel
theorem d_Li_insertBend_28 : decode c_Li_insertBend 28 = .ok (.isub, 1) := by decide +kernel
theorem d_Li_insertBend_29 : decode c_Li_insertBend 29 = .ok (.iaload, 1) := by decide +kernel
theorem d_Li_insertBend_30 : decode c_Li_insertBend 30 = .ok (.iload_n 1, 1) := by decide +kernel
theorem d_Li_insertBend_31 : decode c_Li_insertBend 31 = .ok (.if_icmp .le 23, 3) := by decide +kernel
theorem d_Li_insertBend_34 : decode c_Li_insertBend 34 = .ok (.aload_n 0, 1) := by decide +kernel
theorem d_Li_insertBend_35 : decode c_Li_insertBend 35 = .ok (.getfield 24, 3) := by decide +kernel
theorem d_Li_insertBend_38 : decode c_Li_insertBend 38 = .ok (.iload_n 2, 1) := by decide +kernel
theorem d_Li_insertBend_39 : decode c_Li_insertBend 39 = .ok (.aload_n 0, 1) := by decide +kernel
theorem d_Li_insertBend_40 : decode c_Li_insertBend 40 = .ok (.getfield 24, 3) := by decide +kernel
theorem d_Li_insertBend_43 : decode c_Li_insertBend 43 = .ok (.iload_n 2, 1) := by decide +kernel
theorem d_Li_insertBend_44 : decode c_Li_insertBend 44 = .ok (.iconst 1, 1) := by decide +kernel
theorem d_Li_insertBend_45 : decode c_Li_insertBend 45 = .ok (.isub, 1) := by decide +kernel
theorem d_Li_insertBend_46 : decode c_Li_insertBend 46 = .ok (.iaload, 1) := by decide +kernel
theorem d_Li_insertBend_47 : decode c_Li_insertBend 47 = .ok (.iastore, 1) := by decide +kernel
theorem d_Li_insertBend_48 : decode c_Li_insertBend 48 = .ok (.iinc 2 (-1), 3) := by decide +kernel
theorem d_Li_insertBend_51 : decode c_Li_insertBend 51 = .ok (.goto (-33), 3) := by decide +kernel
theorem d_Li_insertBend_54 : decode c_Li_insertBend 54 = .ok (.aload_n 0, 1) := by decide +kernel
theorem d_Li_insertBend_55 : decode c_Li_insertBend 55 = .ok (.getfield 24, 3) := by decide +kernel
theorem d_Li_insertBend_58 : decode c_Li_insertBend 58 = .ok (.iload_n 2, 1) := by decide +kernel
theorem d_Li_insertBend_59 : decode c_Li_insertBend 59 = .ok (.iload_n 1, 1) := by decide +kernel
theorem d_Li_insertBend_60 : decode c_Li_insertBend 60 = .ok (.iastore, 1) := by decide +kernel
theorem d_Li_insertBend_61 : decode c_Li_insertBend 61 = .ok (.aload_n 0, 1) := by decide +kernel
theorem d_Li_insertBend_62 : decode c_Li_insertBend 62 = .ok (.dup, 1) := by decide +kernel
theorem d_Li_insertBend_63 : decode c_Li_insertBend 63 = .ok (.getfield 54, 3) := by decide +kernel
theorem d_Li_insertBend_66 : decode c_Li_insertBend 66 = .ok (.iconst 1, 1) := by decide +kernel
theorem d_Li_insertBend_67 : decode c_Li_insertBend 67 = .ok (.iadd, 1) := by decide +kernel
theorem d_Li_insertBend_68 : decode c_Li_insertBend 68 = .ok (.putfield 54, 3) := by decide +kernel
theorem d_Li_insertBend_71 : decode c_Li_insertBend 71 = .ok (.return_, 1) := by decide +kernel
theorem d_Li_setSites_0 : decode c_Li_setSites 0 = .ok (.iload_n 2, 1) := by decide +kernel
theorem d_Li_setSites_1 : decode c_Li_setSites 1 = .ok (.istore_n 3, 1) := by decide +kernel
theorem d_Li_setSites_2 : decode c_Li_setSites 2 = .ok (.aload_n 0, 1) := by decide +kernel
theorem d_Li_setSites_3 : decode c_Li_setSites 3 = .ok (.iconst 0, 1) := by decide +kernel
theorem d_Li_setSites_4 : decode c_Li_setSites 4 = .ok (.putfield 72, 3) := by decide +kernel
theorem d_Li_setSites_7 : decode c_Li_setSites 7 = .ok (.aload_n 0, 1) := by decide +kernel
theorem d_Li_setSites_8 : decode c_Li_setSites 8 = .ok (.getfield 31, 3) := by decide +kernel
theorem d_Li_setSites_11 : decode c_Li_setSites 11 = .ok (.iconst 1, 1) := by decide +kernel
theorem d_Li_setSites_12 : decode c_Li_setSites 12 = .ok (.isub, 1) := by decide +kernel
theorem d_Li_setSites_13 : decode c_Li_setSites 13 = .ok (.istore 4, 2) := by decide +kernel
theorem d_Li_setSites_15 : decode c_Li_setSites 15 = .ok (.iload 4, 2) := by decide +kernel
theorem d_Li_setSites_17 : decode c_Li_setSites 17 = .ok (.ifCond .lt 74, 3) := by decide +kernel
theorem d_Li_setSites_20 : decode c_Li_setSites 20 = .ok (.iload_n 3, 1) := by decide +kernel
theorem d_Li_setSites_21 : decode c_Li_setSites 21 = .ok (.aload_n 0, 1) := by decide +kernel
theorem d_Li_setSites_22 : decode c_Li_setSites 22 = .ok (.getfield 18, 3) := by decide +kernel
theorem d_Li_setSites_25 : decode c_Li_setSites 25 = .ok (.iload 4, 2) := by decide +kernel
theorem d_Li_setSites_27 : decode c_Li_setSites 27 = .ok (.iaload, 1) := by decide +kernel
theorem d_Li_setSites_28 : decode c_Li_setSites 28 = .ok (.invokestatic 60, 3) := by decide +kernel
theorem d_Li_setSites_31 : decode c_Li_setSites 31 = .ok (.istore_n 3, 1) := by decide +kernel
theorem d_Li_setSites_32 : decode c_Li_setSites 32 = .ok (.aload_n 0, 1) := by decide +kernel
theorem d_Li_setSites_33 : decode c_Li_setSites 33 = .ok (.getfield 21, 3) := by decide +kernel
theorem d_Li_setSites_36 : decode c_Li_setSites 36 = .ok (.iload 4, 2) := by decide +kernel
theorem d_Li_setSites_38 : decode c_Li_setSites 38 = .ok (.iload_n 1, 1) := by decide +kernel
theorem d_Li_setSites_39 : decode c_Li_setSites 39 = .ok (.aload_n 0, 1) := by decide +kernel
theorem d_Li_setSites_40 : decode c_Li_setSites 40 = .ok (.getfield 15, 3) := by decide +kernel
theorem d_Li_setSites_43 : decode c_Li_setSites 43 = .ok (.iload 4, 2) := by decide +kernel
theorem d_Li_setSites_45 : decode c_Li_setSites 45 = .ok (.iaload, 1) := by decide +kernel
theorem d_Li_setSites_46 : decode c_Li_setSites 46 = .ok (.iadd, 1) := by decide +kernel
theorem d_Li_setSites_47 : decode c_Li_setSites 47 = .ok (.iload_n 3, 1) := by decide +kernel
theorem d_Li_setSites_48 : decode c_Li_setSites 48 = .ok (.iadd, 1) := by decide +kernel
theorem d_Li_setSites_49 : decode c_Li_setSites 49 = .ok (.iastore, 1) := by decide +kernel
theorem d_Li_setSites_50 : decode c_Li_setSites 50 = .ok (.aload_n 0, 1) := by decide +kernel
theorem d_Li_setSites_51 : decode c_Li_setSites 51 = .ok (.dup, 1) := by decide +kernel
theorem d_Li_setSites_52 : decode c_Li_setSites 52 = .ok (.getfield 72, 3) := by decide +kernel
theorem d_Li_setSites_55 : decode c_Li_setSites 55 = .ok (.aload_n 0, 1) := by decide +kernel
theorem d_Li_setSites_56 : decode c_Li_setSites 56 = .ok (.getfield 21, 3) := by decide +kernel
theorem d_Li_setSites_59 : decode c_Li_setSites 59 = .ok (.iload 4, 2) := by decide +kernel
theorem d_Li_setSites_61 : decode c_Li_setSites 61 = .ok (.iaload, 1) := by decide +kernel
theorem d_Li_setSites_62 : decode c_Li_setSites 62 = .ok (.aload_n 0, 1) := by decide +kernel
theorem d_Li_setSites_63 : decode c_Li_setSites 63 = .ok (.getfield 27, 3) := by decide +kernel
theorem d_Li_setSites_66 : decode c_Li_setSites 66 = .ok (.getfield 57, 3) := by decide +kernel
theorem d_Li_setSites_69 : decode c_Li_setSites 69 = .ok (.aload_n 0, 1) := by decide +kernel
theorem d_Li_setSites_70 : decode c_Li_setSites 70 = .ok (.getfield 9, 3) := by decide +kernel
theorem d_Li_setSites_73 : decode c_Li_setSites 73 = .ok (.iload 4, 2) := by decide +kernel
theorem d_Li_setSites_75 : decode c_Li_setSites 75 = .ok (.iaload, 1) := by decide +kernel
theorem d_Li_setSites_76 : decode c_Li_setSites 76 = .ok (.iaload, 1) := by decide +kernel
theorem d_Li_setSites_77 : decode c_Li_setSites 77 = .ok (.isub, 1) := by decide +kernel
theorem d_Li_setSites_78 : decode c_Li_setSites 78 = .ok (.invokestatic 75, 3) := by decide +kernel
theorem d_Li_setSites_81 : decode c_Li_setSites 81 = .ok (.iadd, 1) := by decide +kernel
theorem d_Li_setSites_82 : decode c_Li_setSites 82 = .ok (.putfield 72, 3) := by decide +kernel
theorem d_Li_setSites_85 : decode c_Li_setSites 85 = .ok (.iinc 4 (-1), 3) := by decide +kernel
theorem d_Li_setSites_88 : decode c_Li_setSites 88 = .ok (.goto (-73), 3) := by decide +kernel
theorem d_Li_setSites_91 : decode c_Li_setSites 91 = .ok (.return_, 1) := by decide +kernel
theorem d_Li_putCells_0 : decode c_Li_putCells 0 = .ok (.iconst 0, 1) := by decide +kernel
theorem d_Li_putCells_1 : decode c_Li_putCells 1 = .ok (.istore_n 2, 1) := by decide +kernel
theorem d_Li_putCells_2 : decode c_Li_putCells 2 = .ok (.iload_n 2, 1) := by decide +kernel
theorem d_Li_putCells_3 : decode c_Li_putCells 3 = .ok (.aload_n 0, 1) := by decide +kernel
theorem d_Li_putCells_4 : decode c_Li_putCells 4 = .ok (.getfield 31, 3) := by decide +kernel
theorem d_Li_putCells_7 : decode c_Li_putCells 7 = .ok (.if_icmp .ge 29, 3) := by decide +kernel
theorem d_Li_putCells_10 : decode c_Li_putCells 10 = .ok (.aload_n 0, 1) := by decide +kernel
theorem d_Li_putCells_11 : decode c_Li_putCells 11 = .ok (.getfield 27, 3) := by decide +kernel
theorem d_Li_putCells_14 : decode c_Li_putCells 14 = .ok (.aload_n 0, 1) := by decide +kernel
theorem d_Li_putCells_15 : decode c_Li_putCells 15 = .ok (.getfield 9, 3) := by decide +kernel
theorem d_Li_putCells_18 : decode c_Li_putCells 18 = .ok (.iload_n 2, 1) := by decide +kernel
theorem d_Li_putCells_19 : decode c_Li_putCells 19 = .ok (.iaload, 1) := by decide +kernel
theorem d_Li_putCells_20 : decode c_Li_putCells 20 = .ok (.aload_n 0, 1) := by decide +kernel
theorem d_Li_putCells_21 : decode c_Li_putCells 21 = .ok (.getfield 21, 3) := by decide +kernel
theorem d_Li_putCells_24 : decode c_Li_putCells 24 = .ok (.iload_n 2, 1) := by decide +kernel
theorem d_Li_putCells_25 : decode c_Li_putCells 25 = .ok (.iaload, 1) := by decide +kernel
theorem d_Li_putCells_26 : decode c_Li_putCells 26 = .ok (.iload_n 1, 1) := by decide +kernel
theorem d_Li_putCells_27 : decode c_Li_putCells 27 = .ok (.invokevirtual 79, 3) := by decide +kernel
theorem d_Li_putCells_30 : decode c_Li_putCells 30 = .ok (.iinc 2 1, 3) := by decide +kernel
theorem d_Li_putCells_33 : decode c_Li_putCells 33 = .ok (.goto (-31), 3) := by decide +kernel
theorem d_Li_putCells_36 : decode c_Li_putCells 36 = .ok (.return_, 1) := by decide +kernel
end
section
theorem d_Mo_init_0 : decode c_Mo_init 0 = .ok (.aload_n 0, 1) := by decide +kernel
theorem d_Mo_init_1 : decode c_Mo_init 1 = .ok (.invokespecial 1, 3) := by decide +kernel
theorem d_Mo_init_4 : decode c_Mo_init 4 = .ok (.aload_n 0, 1) := by decide +kernel
theorem d_Mo_init_5 : decode c_Mo_init 5 = .ok (.sipush 16000, 3) := by decide +kernel
theorem d_Mo_init_8 : decode c_Mo_init 8 = .ok (.newarray .boolean, 2) := by decide +kernel
theorem d_Mo_init_10 : decode c_Mo_init 10 = .ok (.putfield 7, 3) := by decide +kernel
theorem d_Mo_init_13 : decode c_Mo_init 13 = .ok (.aload_n 0, 1) := by decide +kernel
theorem d_Mo_init_14 : decode c_Mo_init 14 = .ok (.bipush 60, 2) := by decide +kernel
theorem d_Mo_init_16 : decode c_Mo_init 16 = .ok (.newarray .int, 2) := by decide +kernel
theorem d_Mo_init_18 : decode c_Mo_init 18 = .ok (.putfield 13, 3) := by decide +kernel
theorem d_Mo_init_21 : decode c_Mo_init 21 = .ok (.aload_n 0, 1) := by decide +kernel
theorem d_Mo_init_22 : decode c_Mo_init 22 = .ok (.bipush 60, 2) := by decide +kernel
theorem d_Mo_init_24 : decode c_Mo_init 24 = .ok (.newarray .int, 2) := by decide +kernel
theorem d_Mo_init_26 : decode c_Mo_init 26 = .ok (.putfield 17, 3) := by decide +kernel
theorem d_Mo_init_29 : decode c_Mo_init 29 = .ok (.aload_n 0, 1) := by decide +kernel
theorem d_Mo_init_30 : decode c_Mo_init 30 = .ok (.bipush 60, 2) := by decide +kernel
theorem d_Mo_init_32 : decode c_Mo_init 32 = .ok (.newarray .int, 2) := by decide +kernel
theorem d_Mo_init_34 : decode c_Mo_init 34 = .ok (.putfield 20, 3) := by decide +kernel
theorem d_Mo_init_37 : decode c_Mo_init 37 = .ok (.aload_n 0, 1) := by decide +kernel
theorem d_Mo_init_38 : decode c_Mo_init 38 = .ok (.bipush 60, 2) := by decide +kernel
theorem d_Mo_init_40 : decode c_Mo_init 40 = .ok (.newarray .int, 2) := by decide +kernel
theorem d_Mo_init_42 : decode c_Mo_init 42 = .ok (.putfield 23, 3) := by decide +kernel
theorem d_Mo_init_45 : decode c_Mo_init 45 = .ok (.aload_n 0, 1) := by decide +kernel
theorem d_Mo_init_46 : decode c_Mo_init 46 = .ok (.bipush 60, 2) := by decide +kernel
theorem d_Mo_init_48 : decode c_Mo_init 48 = .ok (.newarray .int, 2) := by decide +kernel
theorem d_Mo_init_50 : decode c_Mo_init 50 = .ok (.putfield 26, 3) := by decide +kernel
theorem d_Mo_init_53 : decode c_Mo_init 53 = .ok (.aload_n 0, 1) := by decide +kernel
theorem d_Mo_init_54 : decode c_Mo_init 54 = .ok (.bipush 16, 2) := by decide +kernel
theorem d_Mo_init_56 : decode c_Mo_init 56 = .ok (.newarray .int, 2) := by decide +kernel
theorem d_Mo_init_58 : decode c_Mo_init 58 = .ok (.putfield 29, 3) := by decide +kernel
theorem d_Mo_init_61 : decode c_Mo_init 61 = .ok (.aload_n 0, 1) := by decide +kernel
theorem d_Mo_init_62 : decode c_Mo_init 62 = .ok (.bipush 80, 2) := by decide +kernel
theorem d_Mo_init_64 : decode c_Mo_init 64 = .ok (.newarray .int, 2) := by decide +kernel
theorem d_Mo_init_66 : decode c_Mo_init 66 = .ok (.putfield 32, 3) := by decide +kernel
theorem d_Mo_init_69 : decode c_Mo_init 69 = .ok (.aload_n 0, 1) := by decide +kernel
theorem d_Mo_init_70 : decode c_Mo_init 70 = .ok (.bipush 80, 2) := by decide +kernel
theorem d_Mo_init_72 : decode c_Mo_init 72 = .ok (.newarray .int, 2) := by decide +kernel
theorem d_Mo_init_74 : decode c_Mo_init 74 = .ok (.putfield 35, 3) := by decide +kernel
theorem d_Mo_init_77 : decode c_Mo_init 77 = .ok (.aload_n 0, 1) := by decide +kernel
theorem d_Mo_init_78 : decode c_Mo_init 78 = .ok (.bipush 60, 2) := by decide +kernel
theorem d_Mo_init_80 : decode c_Mo_init 80 = .ok (.newarray .int, 2) := by decide +kernel
theorem d_Mo_init_82 : decode c_Mo_init 82 = .ok (.putfield 38, 3) := by decide +kernel
theorem d_Mo_init_85 : decode c_Mo_init 85 = .ok (.aload_n 0, 1) := by decide +kernel
theorem d_Mo_init_86 : decode c_Mo_init 86 = .ok (.bipush 60, 2) := by decide +kernel
theorem d_Mo_init_88 : decode c_Mo_init 88 = .ok (.newarray .int, 2) := by decide +kernel
theorem d_Mo_init_90 : decode c_Mo_init 90 = .ok (.putfield 41, 3) := by decide +kernel
theorem d_Mo_init_93 : decode c_Mo_init 93 = .ok (.aload_n 0, 1) := by decide +kernel
theorem d_Mo_init_94 : decode c_Mo_init 94 = .ok (.bipush 60, 2) := by decide +kernel
theorem d_Mo_init_96 : decode c_Mo_init 96 = .ok (.newarray .int, 2) := by decide +kernel
theorem d_Mo_init_98 : decode c_Mo_init 98 = .ok (.putfield 44, 3) := by decide +kernel
theorem d_Mo_init_101 : decode c_Mo_init 101 = .ok (.aload_n 0, 1) := by decide +kernel
theorem d_Mo_init_102 : decode c_Mo_init 102 = .ok (.bipush 61, 2) := by decide +kernel
theorem d_Mo_init_104 : decode c_Mo_init 104 = .ok (.newarray .int, 2) := by decide +kernel
theorem d_Mo_init_106 : decode c_Mo_init 106 = .ok (.putfield 47, 3) := by decide +kernel
theorem d_Mo_init_109 : decode c_Mo_init 109 = .ok (.aload_n 0, 1) := by decide +kernel
theorem d_Mo_init_110 : decode c_Mo_init 110 = .ok (.ldc 50, 2) := by decide +kernel
theorem d_Mo_init_112 : decode c_Mo_init 112 = .ok (.newarray .long, 2) := by decide +kernel
theorem d_Mo_init_114 : decode c_Mo_init 114 = .ok (.putfield 51, 3) := by decide +kernel
theorem d_Mo_init_117 : decode c_Mo_init 117 = .ok (.aload_n 0, 1) := by decide +kernel
theorem d_Mo_init_118 : decode c_Mo_init 118 = .ok (.bipush 60, 2) := by decide +kernel
theorem d_Mo_init_120 : decode c_Mo_init 120 = .ok (.newarray .int, 2) := by decide +kernel
theorem d_Mo_init_122 : decode c_Mo_init 122 = .ok (.putfield 55, 3) := by decide +kernel
theorem d_Mo_init_125 : decode c_Mo_init 125 = .ok (.aload_n 0, 1) := by decide +kernel
theorem d_Mo_init_126 : decode c_Mo_init 126 = .ok (.sipush 16000, 3) := by decide +kernel
theorem d_Mo_init_129 : decode c_Mo_init 129 = .ok (.newarray .long, 2) := by decide +kernel
theorem d_Mo_init_131 : decode c_Mo_init 131 = .ok (.putfield 58, 3) := by decide +kernel
theorem d_Mo_init_134 : decode c_Mo_init 134 = .ok (.aload_n 0, 1) := by decide +kernel
theorem d_Mo_init_135 : decode c_Mo_init 135 = .ok (.sipush 16000, 3) := by decide +kernel
theorem d_Mo_init_138 : decode c_Mo_init 138 = .ok (.newarray .int, 2) := by decide +kernel
theorem d_Mo_init_140 : decode c_Mo_init 140 = .ok (.putfield 61, 3) := by decide +kernel
theorem d_Mo_init_143 : decode c_Mo_init 143 = .ok (.aload_n 0, 1) := by decide +kernel
theorem d_Mo_init_144 : decode c_Mo_init 144 = .ok (.sipush 1000, 3) := by decide +kernel
theorem d_Mo_init_147 : decode c_Mo_init 147 = .ok (.newarray .long, 2) := by decide +kernel
theorem d_Mo_init_149 : decode c_Mo_init 149 = .ok (.putfield 64, 3) := by decide +kernel
theorem d_Mo_init_152 : decode c_Mo_init 152 = .ok (.aload_n 0, 1) := by decide +kernel
theorem d_Mo_init_153 : decode c_Mo_init 153 = .ok (.iload_n 1, 1) := by decide +kernel
theorem d_Mo_init_154 : decode c_Mo_init 154 = .ok (.iconst 1, 1) := by decide +kernel
theorem d_Mo_init_155 : decode c_Mo_init 155 = .ok (.if_icmp .ge 7, 3) := by decide +kernel
theorem d_Mo_init_158 : decode c_Mo_init 158 = .ok (.iconst 1, 1) := by decide +kernel
theorem d_Mo_init_159 : decode c_Mo_init 159 = .ok (.goto 15, 3) := by decide +kernel
theorem d_Mo_init_162 : decode c_Mo_init 162 = .ok (.iload_n 1, 1) := by decide +kernel
theorem d_Mo_init_163 : decode c_Mo_init 163 = .ok (.bipush 16, 2) := by decide +kernel
theorem d_Mo_init_165 : decode c_Mo_init 165 = .ok (.if_icmp .le 8, 3) := by decide +kernel
theorem d_Mo_init_168 : decode c_Mo_init 168 = .ok (.bipush 16, 2) := by decide +kernel
theorem d_Mo_init_170 : decode c_Mo_init 170 = .ok (.goto 4, 3) := by decide +kernel
theorem d_Mo_init_173 : decode c_Mo_init 173 = .ok (.iload_n 1, 1) := by decide +kernel
theorem d_Mo_init_174 : decode c_Mo_init 174 = .ok (.putfield 67, 3) := by decide +kernel
theorem d_Mo_init_177 : decode c_Mo_init 177 = .ok (.aload_n 0, 1) := by decide +kernel
theorem d_Mo_init_178 : decode c_Mo_init 178 = .ok (.lload_n 2, 1) := by decide +kernel
theorem d_Mo_init_179 : decode c_Mo_init 179 = .ok (.lconst 1, 1) := by decide +kernel
theorem d_Mo_init_180 : decode c_Mo_init 180 = .ok (.lcmp, 1) := by decide +kernel
theorem d_Mo_init_181 : decode c_Mo_init 181 = .ok (.ifCond .ge 7, 3) := by decide +kernel
theorem d_Mo_init_184 : decode c_Mo_init 184 = .ok (.iconst 1, 1) := by decide +kernel
theorem d_Mo_init_185 : decode c_Mo_init 185 = .ok (.goto 19, 3) := by decide +kernel
theorem d_Mo_init_188 : decode c_Mo_init 188 = .ok (.lload_n 2, 1) := by decide +kernel
theorem d_Mo_init_189 : decode c_Mo_init 189 = .ok (.ldc2_w 71, 3) := by decide +kernel
theorem d_Mo_init_192 : decode c_Mo_init 192 = .ok (.lcmp, 1) := by decide +kernel
theorem d_Mo_init_193 : decode c_Mo_init 193 = .ok (.ifCond .le 9, 3) := by decide +kernel
theorem d_Mo_init_196 : decode c_Mo_init 196 = .ok (.sipush 1000, 3) := by decide +kernel
theorem d_Mo_init_199 : decode c_Mo_init 199 = .ok (.goto 5, 3) := by decide +kernel
theorem d_Mo_init_202 : decode c_Mo_init 202 = .ok (.lload_n 2, 1) := by decide +kernel
theorem d_Mo_init_203 : decode c_Mo_init 203 = .ok (.l2i, 1) := by decide +kernel
theorem d_Mo_init_204 : decode c_Mo_init 204 = .ok (.putfield 73, 3) := by decide +kernel
theorem d_Mo_init_207 : decode c_Mo_init 207 = .ok (.return_, 1) := by decide +kernel
theorem d_Mo_thrown_0 : decode c_Mo_thrown 0 = .ok (.aload_n 0, 1) := by decide +kernel
theorem d_Mo_thrown_1 : decode c_Mo_thrown 1 = .ok (.getfield 76, 3) := by decide +kernel
theorem d_Mo_thrown_4 : decode c_Mo_thrown 4 = .ok (.ireturn, 1) := by decide +kernel
theorem d_Mo_isCell_0 : decode c_Mo_isCell 0 = .ok (.iload_n 1, 1) := by decide +kernel
theorem d_Mo_isCell_1 : decode c_Mo_isCell 1 = .ok (.ifCond .lt 15, 3) := by decide +kernel
theorem d_Mo_isCell_4 : decode c_Mo_isCell 4 = .ok (.iload_n 1, 1) := by decide +kernel
theorem d_Mo_isCell_5 : decode c_Mo_isCell 5 = .ok (.aload_n 0, 1) := by decide +kernel
theorem d_Mo_isCell_6 : decode c_Mo_isCell 6 = .ok (.getfield 79, 3) := by decide +kernel
theorem d_Mo_isCell_9 : decode c_Mo_isCell 9 = .ok (.if_icmp .ge 7, 3) := by decide +kernel
theorem d_Mo_isCell_12 : decode c_Mo_isCell 12 = .ok (.iconst 1, 1) := by decide +kernel
theorem d_Mo_isCell_13 : decode c_Mo_isCell 13 = .ok (.goto 4, 3) := by decide +kernel
theorem d_Mo_isCell_16 : decode c_Mo_isCell 16 = .ok (.iconst 0, 1) := by decide +kernel
theorem d_Mo_isCell_17 : decode c_Mo_isCell 17 = .ok (.ireturn, 1) := by decide +kernel
theorem d_Mo_isRow_0 : decode c_Mo_isRow 0 = .ok (.iload_n 1, 1) := by decide +kernel
theorem d_Mo_isRow_1 : decode c_Mo_isRow 1 = .ok (.ifCond .lt 15, 3) := by decide +kernel
theorem d_Mo_isRow_4 : decode c_Mo_isRow 4 = .ok (.iload_n 1, 1) := by decide +kernel
theorem d_Mo_isRow_5 : decode c_Mo_isRow 5 = .ok (.aload_n 0, 1) := by decide +kernel
theorem d_Mo_isRow_6 : decode c_Mo_isRow 6 = .ok (.getfield 67, 3) := by decide +kernel
theorem d_Mo_isRow_9 : decode c_Mo_isRow 9 = .ok (.if_icmp .ge 7, 3) := by decide +kernel
theorem d_Mo_isRow_12 : decode c_Mo_isRow 12 = .ok (.iconst 1, 1) := by decide +kernel
theorem d_Mo_isRow_13 : decode c_Mo_isRow 13 = .ok (.goto 4, 3) := by decide +kernel
theorem d_Mo_isRow_16 : decode c_Mo_isRow 16 = .ok (.iconst 0, 1) := by decide +kernel
theorem d_Mo_isRow_17 : decode c_Mo_isRow 17 = .ok (.ireturn, 1) := by decide +kernel
theorem d_Mo_isKind_0 : decode c_Mo_isKind 0 = .ok (.iload_n 0, 1) := by decide +kernel
theorem d_Mo_isKind_1 : decode c_Mo_isKind 1 = .ok (.ifCond .lt 12, 3) := by decide +kernel
theorem d_Mo_isKind_4 : decode c_Mo_isKind 4 = .ok (.iload_n 0, 1) := by decide +kernel
theorem d_Mo_isKind_5 : decode c_Mo_isKind 5 = .ok (.iconst 4, 1) := by decide +kernel
theorem d_Mo_isKind_6 : decode c_Mo_isKind 6 = .ok (.if_icmp .ge 7, 3) := by decide +kernel
theorem d_Mo_isKind_9 : decode c_Mo_isKind 9 = .ok (.iconst 1, 1) := by decide +kernel
theorem d_Mo_isKind_10 : decode c_Mo_isKind 10 = .ok (.goto 4, 3) := by decide +kernel
theorem d_Mo_isKind_13 : decode c_Mo_isKind 13 = .ok (.iconst 0, 1) := by decide +kernel
theorem d_Mo_isKind_14 : decode c_Mo_isKind 14 = .ok (.ireturn, 1) := by decide +kernel
theorem d_Mo_cell_0 : decode c_Mo_cell 0 = .ok (.aload_n 0, 1) := by decide +kernel
theorem d_Mo_cell_1 : decode c_Mo_cell 1 = .ok (.aload_n 0, 1) := by decide +kernel
theorem d_Mo_cell_2 : decode c_Mo_cell 2 = .ok (.getfield 79, 3) := by decide +kernel
theorem d_Mo_cell_5 : decode c_Mo_cell 5 = .ok (.bipush 60, 2) := by decide +kernel
theorem d_Mo_cell_7 : decode c_Mo_cell 7 = .ok (.if_icmp .ne 7, 3) := by decide +kernel
theorem d_Mo_cell_10 : decode c_Mo_cell 10 = .ok (.iconst 1, 1) := by decide +kernel
theorem d_Mo_cell_11 : decode c_Mo_cell 11 = .ok (.goto 27, 3) := by decide +kernel
theorem d_Mo_cell_14 : decode c_Mo_cell 14 = .ok (.lload_n 1, 1) := by decide +kernel
theorem d_Mo_cell_15 : decode c_Mo_cell 15 = .ok (.lconst 1, 1) := by decide +kernel
theorem d_Mo_cell_16 : decode c_Mo_cell 16 = .ok (.lcmp, 1) := by decide +kernel
theorem d_Mo_cell_17 : decode c_Mo_cell 17 = .ok (.ifCond .lt 16, 3) := by decide +kernel
theorem d_Mo_cell_20 : decode c_Mo_cell 20 = .ok (.lload_n 1, 1) := by decide +kernel
theorem d_Mo_cell_21 : decode c_Mo_cell 21 = .ok (.ldc2_w 82, 3) := by decide +kernel
theorem d_Mo_cell_24 : decode c_Mo_cell 24 = .ok (.lcmp, 1) := by decide +kernel
theorem d_Mo_cell_25 : decode c_Mo_cell 25 = .ok (.ifCond .gt 8, 3) := by decide +kernel
theorem d_Mo_cell_28 : decode c_Mo_cell 28 = .ok (.iload_n 3, 1) := by decide +kernel
theorem d_Mo_cell_29 : decode c_Mo_cell 29 = .ok (.iconst 1, 1) := by decide +kernel
theorem d_Mo_cell_30 : decode c_Mo_cell 30 = .ok (.if_icmp .eq 7, 3) := by decide +kernel
theorem d_Mo_cell_33 : decode c_Mo_cell 33 = .ok (.iconst 2, 1) := by decide +kernel
theorem d_Mo_cell_34 : decode c_Mo_cell 34 = .ok (.goto 4, 3) := by decide +kernel
theorem d_Mo_cell_37 : decode c_Mo_cell 37 = .ok (.iconst 0, 1) := by decide +kernel
theorem d_Mo_cell_38 : decode c_Mo_cell 38 = .ok (.putfield 76, 3) := by decide +kernel
theorem d_Mo_cell_41 : decode c_Mo_cell 41 = .ok (.aload_n 0, 1) := by decide +kernel
theorem d_Mo_cell_42 : decode c_Mo_cell 42 = .ok (.getfield 76, 3) := by decide +kernel
theorem d_Mo_cell_45 : decode c_Mo_cell 45 = .ok (.ifCond .le 5, 3) := by decide +kernel
theorem d_Mo_cell_48 : decode c_Mo_cell 48 = .ok (.iconst 0, 1) := by decide +kernel
theorem d_Mo_cell_49 : decode c_Mo_cell 49 = .ok (.ireturn, 1) := by decide +kernel
theorem d_Mo_cell_50 : decode c_Mo_cell 50 = .ok (.aload_n 0, 1) := by decide +kernel
theorem d_Mo_cell_51 : decode c_Mo_cell 51 = .ok (.getfield 13, 3) := by decide +kernel
theorem d_Mo_cell_54 : decode c_Mo_cell 54 = .ok (.aload_n 0, 1) := by decide +kernel
theorem d_Mo_cell_55 : decode c_Mo_cell 55 = .ok (.getfield 79, 3) := by decide +kernel
theorem d_Mo_cell_58 : decode c_Mo_cell 58 = .ok (.lload_n 1, 1) := by decide +kernel
theorem d_Mo_cell_59 : decode c_Mo_cell 59 = .ok (.l2i, 1) := by decide +kernel
theorem d_Mo_cell_60 : decode c_Mo_cell 60 = .ok (.iastore, 1) := by decide +kernel
theorem d_Mo_cell_61 : decode c_Mo_cell 61 = .ok (.aload_n 0, 1) := by decide +kernel
theorem d_Mo_cell_62 : decode c_Mo_cell 62 = .ok (.dup, 1) := by decide +kernel
theorem d_Mo_cell_63 : decode c_Mo_cell 63 = .ok (.getfield 79, 3) := by decide +kernel
theorem d_Mo_cell_66 : decode c_Mo_cell 66 = .ok (.iconst 1, 1) := by decide +kernel
theorem d_Mo_cell_67 : decode c_Mo_cell 67 = .ok (.iadd, 1) := by decide +kernel
theorem d_Mo_cell_68 : decode c_Mo_cell 68 = .ok (.putfield 79, 3) := by decide +kernel
theorem d_Mo_cell_71 : decode c_Mo_cell 71 = .ok (.aload_n 0, 1) := by decide +kernel
theorem d_Mo_cell_72 : decode c_Mo_cell 72 = .ok (.iconst 0, 1) := by decide +kernel
theorem d_Mo_cell_73 : decode c_Mo_cell 73 = .ok (.putfield 84, 3) := by decide +kernel
theorem d_Mo_cell_76 : decode c_Mo_cell 76 = .ok (.aload_n 0, 1) := by decide +kernel
theorem d_Mo_cell_77 : decode c_Mo_cell 77 = .ok (.getfield 79, 3) := by decide +kernel
theorem d_Mo_cell_80 : decode c_Mo_cell 80 = .ok (.iconst 1, 1) := by decide +kernel
theorem d_Mo_cell_81 : decode c_Mo_cell 81 = .ok (.isub, 1) := by decide +kernel
theorem d_Mo_cell_82 : decode c_Mo_cell 82 = .ok (.ireturn, 1) := by decide +kernel
theorem d_Mo_want_0 : decode c_Mo_want 0 = .ok (.aload_n 0, 1) := by decide +kernel
theorem d_Mo_want_1 : decode c_Mo_want 1 = .ok (.aload_n 0, 1) := by decide +kernel
theorem d_Mo_want_2 : decode c_Mo_want 2 = .ok (.iload_n 1, 1) := by decide +kernel
theorem d_Mo_want_3 : decode c_Mo_want 3 = .ok (.invokevirtual 88, 3) := by decide +kernel
theorem d_Mo_want_6 : decode c_Mo_want 6 = .ok (.ifCond .eq 28, 3) := by decide +kernel
theorem d_Mo_want_9 : decode c_Mo_want 9 = .ok (.lload_n 2, 1) := by decide +kernel
theorem d_Mo_want_10 : decode c_Mo_want 10 = .ok (.lconst 0, 1) := by decide +kernel
theorem d_Mo_want_11 : decode c_Mo_want 11 = .ok (.lcmp, 1) := by decide +kernel
theorem d_Mo_want_12 : decode c_Mo_want 12 = .ok (.ifCond .lt 22, 3) := by decide +kernel
theorem d_Mo_want_15 : decode c_Mo_want 15 = .ok (.lload_n 2, 1) := by decide +kernel
theorem d_Mo_want_16 : decode c_Mo_want 16 = .ok (.aload_n 0, 1) := by decide +kernel
theorem d_Mo_want_17 : decode c_Mo_want 17 = .ok (.getfield 73, 3) := by decide +kernel
theorem d_Mo_want_20 : decode c_Mo_want 20 = .ok (.i2l, 1) := by decide +kernel
theorem d_Mo_want_21 : decode c_Mo_want 21 = .ok (.lcmp, 1) := by decide +kernel
theorem d_Mo_want_22 : decode c_Mo_want 22 = .ok (.ifCond .ge 12, 3) := by decide +kernel
theorem d_Mo_want_25 : decode c_Mo_want 25 = .ok (.aload_n 0, 1) := by decide +kernel
theorem d_Mo_want_26 : decode c_Mo_want 26 = .ok (.iload 4, 2) := by decide +kernel
theorem d_Mo_want_28 : decode c_Mo_want 28 = .ok (.invokevirtual 92, 3) := by decide +kernel
theorem d_Mo_want_31 : decode c_Mo_want 31 = .ok (.ifCond .ne 7, 3) := by decide +kernel
theorem d_Mo_want_34 : decode c_Mo_want 34 = .ok (.iconst 1, 1) := by decide +kernel
theorem d_Mo_want_35 : decode c_Mo_want 35 = .ok (.goto 4, 3) := by decide +kernel
theorem d_Mo_want_38 : decode c_Mo_want 38 = .ok (.iconst 0, 1) := by decide +kernel
theorem d_Mo_want_39 : decode c_Mo_want 39 = .ok (.putfield 76, 3) := by decide +kernel
theorem d_Mo_want_42 : decode c_Mo_want 42 = .ok (.aload_n 0, 1) := by decide +kernel
theorem d_Mo_want_43 : decode c_Mo_want 43 = .ok (.getfield 76, 3) := by decide +kernel
theorem d_Mo_want_46 : decode c_Mo_want 46 = .ok (.ifCond .gt 26, 3) := by decide +kernel
theorem d_Mo_want_49 : decode c_Mo_want 49 = .ok (.aload_n 0, 1) := by decide +kernel
theorem d_Mo_want_50 : decode c_Mo_want 50 = .ok (.getfield 23, 3) := by decide +kernel
theorem d_Mo_want_53 : decode c_Mo_want 53 = .ok (.iload_n 1, 1) := by decide +kernel
theorem d_Mo_want_54 : decode c_Mo_want 54 = .ok (.iaload, 1) := by decide +kernel
theorem d_Mo_want_55 : decode c_Mo_want 55 = .ok (.i2l, 1) := by decide +kernel
theorem d_Mo_want_56 : decode c_Mo_want 56 = .ok (.lload_n 2, 1) := by decide +kernel
theorem d_Mo_want_57 : decode c_Mo_want 57 = .ok (.lcmp, 1) := by decide +kernel
theorem d_Mo_want_58 : decode c_Mo_want 58 = .ok (.ifCond .ne 16, 3) := by decide +kernel
theorem d_Mo_want_61 : decode c_Mo_want 61 = .ok (.aload_n 0, 1) := by decide +kernel
theorem d_Mo_want_62 : decode c_Mo_want 62 = .ok (.getfield 26, 3) := by decide +kernel
theorem d_Mo_want_65 : decode c_Mo_want 65 = .ok (.iload_n 1, 1) := by decide +kernel
theorem d_Mo_want_66 : decode c_Mo_want 66 = .ok (.iaload, 1) := by decide +kernel
theorem d_Mo_want_67 : decode c_Mo_want 67 = .ok (.iload 4, 2) := by decide +kernel
theorem d_Mo_want_69 : decode c_Mo_want 69 = .ok (.if_icmp .ne 5, 3) := by decide +kernel
theorem d_Mo_want_72 : decode c_Mo_want 72 = .ok (.iconst 0, 1) := by decide +kernel
theorem d_Mo_want_73 : decode c_Mo_want 73 = .ok (.ireturn, 1) := by decide +kernel
theorem d_Mo_want_74 : decode c_Mo_want 74 = .ok (.aload_n 0, 1) := by decide +kernel
theorem d_Mo_want_75 : decode c_Mo_want 75 = .ok (.getfield 23, 3) := by decide +kernel
theorem d_Mo_want_78 : decode c_Mo_want 78 = .ok (.iload_n 1, 1) := by decide +kernel
theorem d_Mo_want_79 : decode c_Mo_want 79 = .ok (.lload_n 2, 1) := by decide +kernel
theorem d_Mo_want_80 : decode c_Mo_want 80 = .ok (.l2i, 1) := by decide +kernel
theorem d_Mo_want_81 : decode c_Mo_want 81 = .ok (.iastore, 1) := by decide +kernel
theorem d_Mo_want_82 : decode c_Mo_want 82 = .ok (.aload_n 0, 1) := by decide +kernel
theorem d_Mo_want_83 : decode c_Mo_want 83 = .ok (.getfield 26, 3) := by decide +kernel
theorem d_Mo_want_86 : decode c_Mo_want 86 = .ok (.iload_n 1, 1) := by decide +kernel
theorem d_Mo_want_87 : decode c_Mo_want 87 = .ok (.iload 4, 2) := by decide +kernel
theorem d_Mo_want_89 : decode c_Mo_want 89 = .ok (.iastore, 1) := by decide +kernel
theorem d_Mo_want_90 : decode c_Mo_want 90 = .ok (.aload_n 0, 1) := by decide +kernel
theorem d_Mo_want_91 : decode c_Mo_want 91 = .ok (.iconst 0, 1) := by decide +kernel
theorem d_Mo_want_92 : decode c_Mo_want 92 = .ok (.putfield 84, 3) := by decide +kernel
theorem d_Mo_want_95 : decode c_Mo_want 95 = .ok (.iconst 1, 1) := by decide +kernel
theorem d_Mo_want_96 : decode c_Mo_want 96 = .ok (.ireturn, 1) := by decide +kernel
theorem d_Mo_bar_0 : decode c_Mo_bar 0 = .ok (.aload_n 0, 1) := by decide +kernel
theorem d_Mo_bar_1 : decode c_Mo_bar 1 = .ok (.aload_n 0, 1) := by decide +kernel
theorem d_Mo_bar_2 : decode c_Mo_bar 2 = .ok (.iload_n 1, 1) := by decide +kernel
theorem d_Mo_bar_3 : decode c_Mo_bar 3 = .ok (.invokevirtual 92, 3) := by decide +kernel
theorem d_Mo_bar_6 : decode c_Mo_bar 6 = .ok (.ifCond .eq 37, 3) := by decide +kernel
theorem d_Mo_bar_9 : decode c_Mo_bar 9 = .ok (.lload_n 2, 1) := by decide +kernel
theorem d_Mo_bar_10 : decode c_Mo_bar 10 = .ok (.lconst 0, 1) := by decide +kernel
theorem d_Mo_bar_11 : decode c_Mo_bar 11 = .ok (.lcmp, 1) := by decide +kernel
theorem d_Mo_bar_12 : decode c_Mo_bar 12 = .ok (.ifCond .lt 31, 3) := by decide +kernel
theorem d_Mo_bar_15 : decode c_Mo_bar 15 = .ok (.lload_n 2, 1) := by decide +kernel
theorem d_Mo_bar_16 : decode c_Mo_bar 16 = .ok (.aload_n 0, 1) := by decide +kernel
theorem d_Mo_bar_17 : decode c_Mo_bar 17 = .ok (.getfield 73, 3) := by decide +kernel
theorem d_Mo_bar_20 : decode c_Mo_bar 20 = .ok (.i2l, 1) := by decide +kernel
theorem d_Mo_bar_21 : decode c_Mo_bar 21 = .ok (.lcmp, 1) := by decide +kernel
theorem d_Mo_bar_22 : decode c_Mo_bar 22 = .ok (.ifCond .gt 21, 3) := by decide +kernel
theorem d_Mo_bar_25 : decode c_Mo_bar 25 = .ok (.lload 4, 2) := by decide +kernel
theorem d_Mo_bar_27 : decode c_Mo_bar 27 = .ok (.lload_n 2, 1) := by decide +kernel
theorem d_Mo_bar_28 : decode c_Mo_bar 28 = .ok (.lcmp, 1) := by decide +kernel
theorem d_Mo_bar_29 : decode c_Mo_bar 29 = .ok (.ifCond .lt 14, 3) := by decide +kernel
theorem d_Mo_bar_32 : decode c_Mo_bar 32 = .ok (.lload 4, 2) := by decide +kernel
theorem d_Mo_bar_34 : decode c_Mo_bar 34 = .ok (.aload_n 0, 1) := by decide +kernel
theorem d_Mo_bar_35 : decode c_Mo_bar 35 = .ok (.getfield 73, 3) := by decide +kernel
theorem d_Mo_bar_38 : decode c_Mo_bar 38 = .ok (.i2l, 1) := by decide +kernel
theorem d_Mo_bar_39 : decode c_Mo_bar 39 = .ok (.lcmp, 1) := by decide +kernel
theorem d_Mo_bar_40 : decode c_Mo_bar 40 = .ok (.ifCond .le 7, 3) := by decide +kernel
theorem d_Mo_bar_43 : decode c_Mo_bar 43 = .ok (.iconst 1, 1) := by decide +kernel
theorem d_Mo_bar_44 : decode c_Mo_bar 44 = .ok (.goto 4, 3) := by decide +kernel
theorem d_Mo_bar_47 : decode c_Mo_bar 47 = .ok (.iconst 0, 1) := by decide +kernel
theorem d_Mo_bar_48 : decode c_Mo_bar 48 = .ok (.putfield 76, 3) := by decide +kernel
theorem d_Mo_bar_51 : decode c_Mo_bar 51 = .ok (.aload_n 0, 1) := by decide +kernel
theorem d_Mo_bar_52 : decode c_Mo_bar 52 = .ok (.getfield 76, 3) := by decide +kernel
theorem d_Mo_bar_55 : decode c_Mo_bar 55 = .ok (.ifCond .le 5, 3) := by decide +kernel
theorem d_Mo_bar_58 : decode c_Mo_bar 58 = .ok (.iconst 0, 1) := by decide +kernel
theorem d_Mo_bar_59 : decode c_Mo_bar 59 = .ok (.ireturn, 1) := by decide +kernel
theorem d_Mo_bar_60 : decode c_Mo_bar 60 = .ok (.iconst 0, 1) := by decide +kernel
theorem d_Mo_bar_61 : decode c_Mo_bar 61 = .ok (.istore 6, 2) := by decide +kernel
theorem d_Mo_bar_63 : decode c_Mo_bar 63 = .ok (.lload_n 2, 1) := by decide +kernel
theorem d_Mo_bar_64 : decode c_Mo_bar 64 = .ok (.l2i, 1) := by decide +kernel
theorem d_Mo_bar_65 : decode c_Mo_bar 65 = .ok (.istore 7, 2) := by decide +kernel
theorem d_Mo_bar_67 : decode c_Mo_bar 67 = .ok (.iload 7, 2) := by decide +kernel
theorem d_Mo_bar_69 : decode c_Mo_bar 69 = .ok (.i2l, 1) := by decide +kernel
theorem d_Mo_bar_70 : decode c_Mo_bar 70 = .ok (.lload 4, 2) := by decide +kernel
theorem d_Mo_bar_72 : decode c_Mo_bar 72 = .ok (.lcmp, 1) := by decide +kernel
theorem d_Mo_bar_73 : decode c_Mo_bar 73 = .ok (.ifCond .ge 51, 3) := by decide +kernel
theorem d_Mo_bar_76 : decode c_Mo_bar 76 = .ok (.iload 6, 2) := by decide +kernel
theorem d_Mo_bar_78 : decode c_Mo_bar 78 = .ok (.ifCond .ne 19, 3) := by decide +kernel
theorem d_Mo_bar_81 : decode c_Mo_bar 81 = .ok (.aload_n 0, 1) := by decide +kernel
theorem d_Mo_bar_82 : decode c_Mo_bar 82 = .ok (.getfield 7, 3) := by decide +kernel
theorem d_Mo_bar_85 : decode c_Mo_bar 85 = .ok (.sipush 1000, 3) := by decide +kernel
theorem d_Mo_bar_88 : decode c_Mo_bar 88 = .ok (.iload_n 1, 1) := by decide +kernel
theorem d_Mo_bar_89 : decode c_Mo_bar 89 = .ok (.imul, 1) := by decide +kernel
theorem d_Mo_bar_90 : decode c_Mo_bar 90 = .ok (.iload 7, 2) := by decide +kernel
theorem d_Mo_bar_92 : decode c_Mo_bar 92 = .ok (.iadd, 1) := by decide +kernel
theorem d_Mo_bar_93 : decode c_Mo_bar 93 = .ok (.baload, 1) := by decide +kernel
theorem d_Mo_bar_94 : decode c_Mo_bar 94 = .ok (.ifCond .ne 7, 3) := by decide +kernel
theorem d_Mo_bar_97 : decode c_Mo_bar 97 = .ok (.iconst 1, 1) := by decide +kernel
theorem d_Mo_bar_98 : decode c_Mo_bar 98 = .ok (.goto 4, 3) := by decide +kernel
theorem d_Mo_bar_101 : decode c_Mo_bar 101 = .ok (.iconst 0, 1) := by decide +kernel
theorem d_Mo_bar_102 : decode c_Mo_bar 102 = .ok (.istore 6, 2) := by decide +kernel
theorem d_Mo_bar_104 : decode c_Mo_bar 104 = .ok (.aload_n 0, 1) := by decide +kernel
theorem d_Mo_bar_105 : decode c_Mo_bar 105 = .ok (.getfield 7, 3) := by decide +kernel
theorem d_Mo_bar_108 : decode c_Mo_bar 108 = .ok (.sipush 1000, 3) := by decide +kernel
theorem d_Mo_bar_111 : decode c_Mo_bar 111 = .ok (.iload_n 1, 1) := by decide +kernel
theorem d_Mo_bar_112 : decode c_Mo_bar 112 = .ok (.imul, 1) := by decide +kernel
theorem d_Mo_bar_113 : decode c_Mo_bar 113 = .ok (.iload 7, 2) := by decide +kernel
theorem d_Mo_bar_115 : decode c_Mo_bar 115 = .ok (.iadd, 1) := by decide +kernel
theorem d_Mo_bar_116 : decode c_Mo_bar 116 = .ok (.iconst 1, 1) := by decide +kernel
theorem d_Mo_bar_117 : decode c_Mo_bar 117 = .ok (.bastore, 1) := by decide +kernel
theorem d_Mo_bar_118 : decode c_Mo_bar 118 = .ok (.iinc 7 1, 3) := by decide +kernel
theorem d_Mo_bar_121 : decode c_Mo_bar 121 = .ok (.goto (-54), 3) := by decide +kernel
theorem d_Mo_bar_124 : decode c_Mo_bar 124 = .ok (.aload_n 0, 1) := by decide +kernel
theorem d_Mo_bar_125 : decode c_Mo_bar 125 = .ok (.aload_n 0, 1) := by decide +kernel
theorem d_Mo_bar_126 : decode c_Mo_bar 126 = .ok (.getfield 84, 3) := by decide +kernel
theorem d_Mo_bar_129 : decode c_Mo_bar 129 = .ok (.ifCond .eq 12, 3) := by decide +kernel
theorem d_Mo_bar_132 : decode c_Mo_bar 132 = .ok (.iload 6, 2) := by decide +kernel
theorem d_Mo_bar_134 : decode c_Mo_bar 134 = .ok (.ifCond .ne 7, 3) := by decide +kernel
theorem d_Mo_bar_137 : decode c_Mo_bar 137 = .ok (.iconst 1, 1) := by decide +kernel
theorem d_Mo_bar_138 : decode c_Mo_bar 138 = .ok (.goto 4, 3) := by decide +kernel
theorem d_Mo_bar_141 : decode c_Mo_bar 141 = .ok (.iconst 0, 1) := by decide +kernel
theorem d_Mo_bar_142 : decode c_Mo_bar 142 = .ok (.putfield 84, 3) := by decide +kernel
theorem d_Mo_bar_145 : decode c_Mo_bar 145 = .ok (.iload 6, 2) := by decide +kernel
theorem d_Mo_bar_147 : decode c_Mo_bar 147 = .ok (.ireturn, 1) := by decide +kernel
theorem d_Mo_kind_0 : decode c_Mo_kind 0 = .ok (.aload_n 0, 1) := by decide +kernel
theorem d_Mo_kind_1 : decode c_Mo_kind 1 = .ok (.aload_n 0, 1) := by decide +kernel
theorem d_Mo_kind_2 : decode c_Mo_kind 2 = .ok (.iload_n 1, 1) := by decide +kernel
theorem d_Mo_kind_3 : decode c_Mo_kind 3 = .ok (.invokevirtual 88, 3) := by decide +kernel
theorem d_Mo_kind_6 : decode c_Mo_kind 6 = .ok (.ifCond .ne 7, 3) := by decide +kernel
theorem d_Mo_kind_9 : decode c_Mo_kind 9 = .ok (.iconst 1, 1) := by decide +kernel
theorem d_Mo_kind_10 : decode c_Mo_kind 10 = .ok (.goto 22, 3) := by decide +kernel
theorem d_Mo_kind_13 : decode c_Mo_kind 13 = .ok (.iload_n 2, 1) := by decide +kernel
theorem d_Mo_kind_14 : decode c_Mo_kind 14 = .ok (.invokestatic 95, 3) := by decide +kernel
theorem d_Mo_kind_17 : decode c_Mo_kind 17 = .ok (.ifCond .eq 14, 3) := by decide +kernel
theorem d_Mo_kind_20 : decode c_Mo_kind 20 = .ok (.iload_n 3, 1) := by decide +kernel
theorem d_Mo_kind_21 : decode c_Mo_kind 21 = .ok (.invokestatic 95, 3) := by decide +kernel
theorem d_Mo_kind_24 : decode c_Mo_kind 24 = .ok (.ifCond .eq 7, 3) := by decide +kernel
theorem d_Mo_kind_27 : decode c_Mo_kind 27 = .ok (.iconst 0, 1) := by decide +kernel
theorem d_Mo_kind_28 : decode c_Mo_kind 28 = .ok (.goto 4, 3) := by decide +kernel
theorem d_Mo_kind_31 : decode c_Mo_kind 31 = .ok (.iconst 2, 1) := by decide +kernel
theorem d_Mo_kind_32 : decode c_Mo_kind 32 = .ok (.putfield 76, 3) := by decide +kernel
theorem d_Mo_kind_35 : decode c_Mo_kind 35 = .ok (.aload_n 0, 1) := by decide +kernel
theorem d_Mo_kind_36 : decode c_Mo_kind 36 = .ok (.getfield 76, 3) := by decide +kernel
theorem d_Mo_kind_39 : decode c_Mo_kind 39 = .ok (.ifCond .gt 23, 3) := by decide +kernel
theorem d_Mo_kind_42 : decode c_Mo_kind 42 = .ok (.aload_n 0, 1) := by decide +kernel
theorem d_Mo_kind_43 : decode c_Mo_kind 43 = .ok (.getfield 17, 3) := by decide +kernel
theorem d_Mo_kind_46 : decode c_Mo_kind 46 = .ok (.iload_n 1, 1) := by decide +kernel
theorem d_Mo_kind_47 : decode c_Mo_kind 47 = .ok (.iaload, 1) := by decide +kernel
theorem d_Mo_kind_48 : decode c_Mo_kind 48 = .ok (.iload_n 2, 1) := by decide +kernel
theorem d_Mo_kind_49 : decode c_Mo_kind 49 = .ok (.if_icmp .ne 15, 3) := by decide +kernel
theorem d_Mo_kind_52 : decode c_Mo_kind 52 = .ok (.aload_n 0, 1) := by decide +kernel
theorem d_Mo_kind_53 : decode c_Mo_kind 53 = .ok (.getfield 20, 3) := by decide +kernel
theorem d_Mo_kind_56 : decode c_Mo_kind 56 = .ok (.iload_n 1, 1) := by decide +kernel
theorem d_Mo_kind_57 : decode c_Mo_kind 57 = .ok (.iaload, 1) := by decide +kernel
theorem d_Mo_kind_58 : decode c_Mo_kind 58 = .ok (.iload_n 3, 1) := by decide +kernel
theorem d_Mo_kind_59 : decode c_Mo_kind 59 = .ok (.if_icmp .ne 5, 3) := by decide +kernel
theorem d_Mo_kind_62 : decode c_Mo_kind 62 = .ok (.iconst 0, 1) := by decide +kernel
theorem d_Mo_kind_63 : decode c_Mo_kind 63 = .ok (.ireturn, 1) := by decide +kernel
theorem d_Mo_kind_64 : decode c_Mo_kind 64 = .ok (.aload_n 0, 1) := by decide +kernel
theorem d_Mo_kind_65 : decode c_Mo_kind 65 = .ok (.getfield 17, 3) := by decide +kernel
theorem d_Mo_kind_68 : decode c_Mo_kind 68 = .ok (.iload_n 1, 1) := by decide +kernel
theorem d_Mo_kind_69 : decode c_Mo_kind 69 = .ok (.iload_n 2, 1) := by decide +kernel
theorem d_Mo_kind_70 : decode c_Mo_kind 70 = .ok (.iastore, 1) := by decide +kernel
theorem d_Mo_kind_71 : decode c_Mo_kind 71 = .ok (.aload_n 0, 1) := by decide +kernel
theorem d_Mo_kind_72 : decode c_Mo_kind 72 = .ok (.getfield 20, 3) := by decide +kernel
theorem d_Mo_kind_75 : decode c_Mo_kind 75 = .ok (.iload_n 1, 1) := by decide +kernel
theorem d_Mo_kind_76 : decode c_Mo_kind 76 = .ok (.iload_n 3, 1) := by decide +kernel
theorem d_Mo_kind_77 : decode c_Mo_kind 77 = .ok (.iastore, 1) := by decide +kernel
theorem d_Mo_kind_78 : decode c_Mo_kind 78 = .ok (.aload_n 0, 1) := by decide +kernel
theorem d_Mo_kind_79 : decode c_Mo_kind 79 = .ok (.iconst 0, 1) := by decide +kernel
theorem d_Mo_kind_80 : decode c_Mo_kind 80 = .ok (.putfield 84, 3) := by decide +kernel
theorem d_Mo_kind_83 : decode c_Mo_kind 83 = .ok (.iconst 1, 1) := by decide +kernel
theorem d_Mo_kind_84 : decode c_Mo_kind 84 = .ok (.ireturn, 1) := by decide +kernel
theorem d_Mo_space_0 : decode c_Mo_space 0 = .ok (.aload_n 0, 1) := by decide +kernel
theorem d_Mo_space_1 : decode c_Mo_space 1 = .ok (.iload_n 1, 1) := by decide +kernel
theorem d_Mo_space_2 : decode c_Mo_space 2 = .ok (.invokestatic 95, 3) := by decide +kernel
theorem d_Mo_space_5 : decode c_Mo_space 5 = .ok (.ifCond .eq 24, 3) := by decide +kernel
theorem d_Mo_space_8 : decode c_Mo_space 8 = .ok (.iload_n 2, 1) := by decide +kernel
theorem d_Mo_space_9 : decode c_Mo_space 9 = .ok (.invokestatic 95, 3) := by decide +kernel
theorem d_Mo_space_12 : decode c_Mo_space 12 = .ok (.ifCond .eq 17, 3) := by decide +kernel
theorem d_Mo_space_15 : decode c_Mo_space 15 = .ok (.lload_n 3, 1) := by decide +kernel
theorem d_Mo_space_16 : decode c_Mo_space 16 = .ok (.lconst 0, 1) := by decide +kernel
theorem d_Mo_space_17 : decode c_Mo_space 17 = .ok (.lcmp, 1) := by decide +kernel
theorem d_Mo_space_18 : decode c_Mo_space 18 = .ok (.ifCond .lt 11, 3) := by decide +kernel
theorem d_Mo_space_21 : decode c_Mo_space 21 = .ok (.lload_n 3, 1) := by decide +kernel
theorem d_Mo_space_22 : decode c_Mo_space 22 = .ok (.ldc2_w 98, 3) := by decide +kernel
theorem d_Mo_space_25 : decode c_Mo_space 25 = .ok (.lcmp, 1) := by decide +kernel
theorem d_Mo_space_26 : decode c_Mo_space 26 = .ok (.ifCond .le 7, 3) := by decide +kernel
theorem d_Mo_space_29 : decode c_Mo_space 29 = .ok (.iconst 1, 1) := by decide +kernel
theorem d_Mo_space_30 : decode c_Mo_space 30 = .ok (.goto 4, 3) := by decide +kernel
theorem d_Mo_space_33 : decode c_Mo_space 33 = .ok (.iconst 0, 1) := by decide +kernel
theorem d_Mo_space_34 : decode c_Mo_space 34 = .ok (.putfield 76, 3) := by decide +kernel
theorem d_Mo_space_37 : decode c_Mo_space 37 = .ok (.aload_n 0, 1) := by decide +kernel
theorem d_Mo_space_38 : decode c_Mo_space 38 = .ok (.getfield 76, 3) := by decide +kernel
theorem d_Mo_space_41 : decode c_Mo_space 41 = .ok (.ifCond .gt 19, 3) := by decide +kernel
theorem d_Mo_space_44 : decode c_Mo_space 44 = .ok (.aload_n 0, 1) := by decide +kernel
theorem d_Mo_space_45 : decode c_Mo_space 45 = .ok (.getfield 29, 3) := by decide +kernel
theorem d_Mo_space_48 : decode c_Mo_space 48 = .ok (.iconst 4, 1) := by decide +kernel
theorem d_Mo_space_49 : decode c_Mo_space 49 = .ok (.iload_n 1, 1) := by decide +kernel
theorem d_Mo_space_50 : decode c_Mo_space 50 = .ok (.imul, 1) := by decide +kernel
theorem d_Mo_space_51 : decode c_Mo_space 51 = .ok (.iload_n 2, 1) := by decide +kernel
theorem d_Mo_space_52 : decode c_Mo_space 52 = .ok (.iadd, 1) := by decide +kernel
theorem d_Mo_space_53 : decode c_Mo_space 53 = .ok (.iaload, 1) := by decide +kernel
theorem d_Mo_space_54 : decode c_Mo_space 54 = .ok (.i2l, 1) := by decide +kernel
theorem d_Mo_space_55 : decode c_Mo_space 55 = .ok (.lload_n 3, 1) := by decide +kernel
theorem d_Mo_space_56 : decode c_Mo_space 56 = .ok (.lcmp, 1) := by decide +kernel
theorem d_Mo_space_57 : decode c_Mo_space 57 = .ok (.ifCond .ne 5, 3) := by decide +kernel
theorem d_Mo_space_60 : decode c_Mo_space 60 = .ok (.iconst 0, 1) := by decide +kernel
theorem d_Mo_space_61 : decode c_Mo_space 61 = .ok (.ireturn, 1) := by decide +kernel
theorem d_Mo_space_62 : decode c_Mo_space 62 = .ok (.aload_n 0, 1) := by decide +kernel
theorem d_Mo_space_63 : decode c_Mo_space 63 = .ok (.getfield 29, 3) := by decide +kernel
theorem d_Mo_space_66 : decode c_Mo_space 66 = .ok (.iconst 4, 1) := by decide +kernel
theorem d_Mo_space_67 : decode c_Mo_space 67 = .ok (.iload_n 1, 1) := by decide +kernel
theorem d_Mo_space_68 : decode c_Mo_space 68 = .ok (.imul, 1) := by decide +kernel
theorem d_Mo_space_69 : decode c_Mo_space 69 = .ok (.iload_n 2, 1) := by decide +kernel
theorem d_Mo_space_70 : decode c_Mo_space 70 = .ok (.iadd, 1) := by decide +kernel
theorem d_Mo_space_71 : decode c_Mo_space 71 = .ok (.lload_n 3, 1) := by decide +kernel
theorem d_Mo_space_72 : decode c_Mo_space 72 = .ok (.l2i, 1) := by decide +kernel
theorem d_Mo_space_73 : decode c_Mo_space 73 = .ok (.iastore, 1) := by decide +kernel
theorem d_Mo_space_74 : decode c_Mo_space 74 = .ok (.aload_n 0, 1) := by decide +kernel
theorem d_Mo_space_75 : decode c_Mo_space 75 = .ok (.iconst 0, 1) := by decide +kernel
theorem d_Mo_space_76 : decode c_Mo_space 76 = .ok (.putfield 84, 3) := by decide +kernel
theorem d_Mo_space_79 : decode c_Mo_space 79 = .ok (.iconst 1, 1) := by decide +kernel
theorem d_Mo_space_80 : decode c_Mo_space 80 = .ok (.ireturn, 1) := by decide +kernel
theorem d_Mo_gather_0 : decode c_Mo_gather 0 = .ok (.aload_n 0, 1) := by decide +kernel
theorem d_Mo_gather_1 : decode c_Mo_gather 1 = .ok (.iconst 0, 1) := by decide +kernel
theorem d_Mo_gather_2 : decode c_Mo_gather 2 = .ok (.putfield 100, 3) := by decide +kernel
theorem d_Mo_gather_5 : decode c_Mo_gather 5 = .ok (.iconst 0, 1) := by decide +kernel
theorem d_Mo_gather_6 : decode c_Mo_gather 6 = .ok (.istore_n 3, 1) := by decide +kernel
theorem d_Mo_gather_7 : decode c_Mo_gather 7 = .ok (.iload_n 3, 1) := by decide +kernel
theorem d_Mo_gather_8 : decode c_Mo_gather 8 = .ok (.aload_n 0, 1) := by decide +kernel
theorem d_Mo_gather_9 : decode c_Mo_gather 9 = .ok (.getfield 103, 3) := by decide +kernel
theorem d_Mo_gather_12 : decode c_Mo_gather 12 = .ok (.if_icmp .ge 55, 3) := by decide +kernel
theorem d_Mo_gather_15 : decode c_Mo_gather 15 = .ok (.aload_n 0, 1) := by decide +kernel
theorem d_Mo_gather_16 : decode c_Mo_gather 16 = .ok (.getfield 55, 3) := by decide +kernel
theorem d_Mo_gather_19 : decode c_Mo_gather 19 = .ok (.iload_n 3, 1) := by decide +kernel
theorem d_Mo_gather_20 : decode c_Mo_gather 20 = .ok (.iaload, 1) := by decide +kernel
theorem d_Mo_gather_21 : decode c_Mo_gather 21 = .ok (.istore 4, 2) := by decide +kernel
theorem d_Mo_gather_23 : decode c_Mo_gather 23 = .ok (.aload_n 0, 1) := by decide +kernel
theorem d_Mo_gather_24 : decode c_Mo_gather 24 = .ok (.getfield 44, 3) := by decide +kernel
theorem d_Mo_gather_27 : decode c_Mo_gather 27 = .ok (.iload 4, 2) := by decide +kernel
theorem d_Mo_gather_29 : decode c_Mo_gather 29 = .ok (.iaload, 1) := by decide +kernel
theorem d_Mo_gather_30 : decode c_Mo_gather 30 = .ok (.sipush 1000, 3) := by decide +kernel
theorem d_Mo_gather_33 : decode c_Mo_gather 33 = .ok (.iload_n 1, 1) := by decide +kernel
theorem d_Mo_gather_34 : decode c_Mo_gather 34 = .ok (.imul, 1) := by decide +kernel
theorem d_Mo_gather_35 : decode c_Mo_gather 35 = .ok (.iload_n 2, 1) := by decide +kernel
theorem d_Mo_gather_36 : decode c_Mo_gather 36 = .ok (.iadd, 1) := by decide +kernel
theorem d_Mo_gather_37 : decode c_Mo_gather 37 = .ok (.if_icmp .ne 24, 3) := by decide +kernel
theorem d_Mo_gather_40 : decode c_Mo_gather 40 = .ok (.aload_n 0, 1) := by decide +kernel
theorem d_Mo_gather_41 : decode c_Mo_gather 41 = .ok (.getfield 47, 3) := by decide +kernel
theorem d_Mo_gather_44 : decode c_Mo_gather 44 = .ok (.aload_n 0, 1) := by decide +kernel
theorem d_Mo_gather_45 : decode c_Mo_gather 45 = .ok (.getfield 100, 3) := by decide +kernel
theorem d_Mo_gather_48 : decode c_Mo_gather 48 = .ok (.iload 4, 2) := by decide +kernel
theorem d_Mo_gather_50 : decode c_Mo_gather 50 = .ok (.iastore, 1) := by decide +kernel
theorem d_Mo_gather_51 : decode c_Mo_gather 51 = .ok (.aload_n 0, 1) := by decide +kernel
theorem d_Mo_gather_52 : decode c_Mo_gather 52 = .ok (.dup, 1) := by decide +kernel
theorem d_Mo_gather_53 : decode c_Mo_gather 53 = .ok (.getfield 100, 3) := by decide +kernel
theorem d_Mo_gather_56 : decode c_Mo_gather 56 = .ok (.iconst 1, 1) := by decide +kernel
theorem d_Mo_gather_57 : decode c_Mo_gather 57 = .ok (.iadd, 1) := by decide +kernel
theorem d_Mo_gather_58 : decode c_Mo_gather 58 = .ok (.putfield 100, 3) := by decide +kernel
theorem d_Mo_gather_61 : decode c_Mo_gather 61 = .ok (.iinc 3 1, 3) := by decide +kernel
theorem d_Mo_gather_64 : decode c_Mo_gather 64 = .ok (.goto (-57), 3) := by decide +kernel
theorem d_Mo_gather_67 : decode c_Mo_gather 67 = .ok (.return_, 1) := by decide +kernel
theorem d_Mo_far_0 : decode c_Mo_far 0 = .ok (.iload_n 0, 1) := by decide +kernel
theorem d_Mo_far_1 : decode c_Mo_far 1 = .ok (.iload_n 1, 1) := by decide +kernel
theorem d_Mo_far_2 : decode c_Mo_far 2 = .ok (.if_icmp .le 9, 3) := by decide +kernel
theorem d_Mo_far_5 : decode c_Mo_far 5 = .ok (.iload_n 0, 1) := by decide +kernel
theorem d_Mo_far_6 : decode c_Mo_far 6 = .ok (.iload_n 1, 1) := by decide +kernel
theorem d_Mo_far_7 : decode c_Mo_far 7 = .ok (.isub, 1) := by decide +kernel
theorem d_Mo_far_8 : decode c_Mo_far 8 = .ok (.goto 6, 3) := by decide +kernel
theorem d_Mo_far_11 : decode c_Mo_far 11 = .ok (.iload_n 1, 1) := by decide +kernel
theorem d_Mo_far_12 : decode c_Mo_far 12 = .ok (.iload_n 0, 1) := by decide +kernel
theorem d_Mo_far_13 : decode c_Mo_far 13 = .ok (.isub, 1) := by decide +kernel
theorem d_Mo_far_14 : decode c_Mo_far 14 = .ok (.ireturn, 1) := by decide +kernel
theorem d_Mo_behind_0 : decode c_Mo_behind 0 = .ok (.iload_n 1, 1) := by decide +kernel
theorem d_Mo_behind_1 : decode c_Mo_behind 1 = .ok (.iconst 1, 1) := by decide +kernel
theorem d_Mo_behind_2 : decode c_Mo_behind 2 = .ok (.iadd, 1) := by decide +kernel
theorem d_Mo_behind_3 : decode c_Mo_behind 3 = .ok (.aload_n 0, 1) := by decide +kernel
theorem d_Mo_behind_4 : decode c_Mo_behind 4 = .ok (.getfield 100, 3) := by decide +kernel
theorem d_Mo_behind_7 : decode c_Mo_behind 7 = .ok (.if_icmp .ge 38, 3) := by decide +kernel
theorem d_Mo_behind_10 : decode c_Mo_behind 10 = .ok (.aload_n 0, 1) := by decide +kernel
theorem d_Mo_behind_11 : decode c_Mo_behind 11 = .ok (.getfield 29, 3) := by decide +kernel
theorem d_Mo_behind_14 : decode c_Mo_behind 14 = .ok (.iconst 4, 1) := by decide +kernel
theorem d_Mo_behind_15 : decode c_Mo_behind 15 = .ok (.aload_n 0, 1) := by decide +kernel
theorem d_Mo_behind_16 : decode c_Mo_behind 16 = .ok (.getfield 20, 3) := by decide +kernel
theorem d_Mo_behind_19 : decode c_Mo_behind 19 = .ok (.aload_n 0, 1) := by decide +kernel
theorem d_Mo_behind_20 : decode c_Mo_behind 20 = .ok (.getfield 47, 3) := by decide +kernel
theorem d_Mo_behind_23 : decode c_Mo_behind 23 = .ok (.iload_n 1, 1) := by decide +kernel
theorem d_Mo_behind_24 : decode c_Mo_behind 24 = .ok (.iaload, 1) := by decide +kernel
theorem d_Mo_behind_25 : decode c_Mo_behind 25 = .ok (.iaload, 1) := by decide +kernel
theorem d_Mo_behind_26 : decode c_Mo_behind 26 = .ok (.imul, 1) := by decide +kernel
theorem d_Mo_behind_27 : decode c_Mo_behind 27 = .ok (.aload_n 0, 1) := by decide +kernel
theorem d_Mo_behind_28 : decode c_Mo_behind 28 = .ok (.getfield 17, 3) := by decide +kernel
theorem d_Mo_behind_31 : decode c_Mo_behind 31 = .ok (.aload_n 0, 1) := by decide +kernel
theorem d_Mo_behind_32 : decode c_Mo_behind 32 = .ok (.getfield 47, 3) := by decide +kernel
theorem d_Mo_behind_35 : decode c_Mo_behind 35 = .ok (.iload_n 1, 1) := by decide +kernel
theorem d_Mo_behind_36 : decode c_Mo_behind 36 = .ok (.iconst 1, 1) := by decide +kernel
theorem d_Mo_behind_37 : decode c_Mo_behind 37 = .ok (.iadd, 1) := by decide +kernel
theorem d_Mo_behind_38 : decode c_Mo_behind 38 = .ok (.iaload, 1) := by decide +kernel
theorem d_Mo_behind_39 : decode c_Mo_behind 39 = .ok (.iaload, 1) := by decide +kernel
theorem d_Mo_behind_40 : decode c_Mo_behind 40 = .ok (.iadd, 1) := by decide +kernel
theorem d_Mo_behind_41 : decode c_Mo_behind 41 = .ok (.iaload, 1) := by decide +kernel
theorem d_Mo_behind_42 : decode c_Mo_behind 42 = .ok (.goto 4, 3) := by decide +kernel
theorem d_Mo_behind_45 : decode c_Mo_behind 45 = .ok (.iconst 0, 1) := by decide +kernel
theorem d_Mo_behind_46 : decode c_Mo_behind 46 = .ok (.istore_n 3, 1) := by decide +kernel
theorem d_Mo_behind_47 : decode c_Mo_behind 47 = .ok (.iload_n 2, 1) := by decide +kernel
theorem d_Mo_behind_48 : decode c_Mo_behind 48 = .ok (.aload_n 0, 1) := by decide +kernel
theorem d_Mo_behind_49 : decode c_Mo_behind 49 = .ok (.getfield 13, 3) := by decide +kernel
theorem d_Mo_behind_52 : decode c_Mo_behind 52 = .ok (.aload_n 0, 1) := by decide +kernel
theorem d_Mo_behind_53 : decode c_Mo_behind 53 = .ok (.getfield 47, 3) := by decide +kernel
theorem d_Mo_behind_56 : decode c_Mo_behind 56 = .ok (.iload_n 1, 1) := by decide +kernel
theorem d_Mo_behind_57 : decode c_Mo_behind 57 = .ok (.iaload, 1) := by decide +kernel
theorem d_Mo_behind_58 : decode c_Mo_behind 58 = .ok (.iaload, 1) := by decide +kernel
theorem d_Mo_behind_59 : decode c_Mo_behind 59 = .ok (.iadd, 1) := by decide +kernel
theorem d_Mo_behind_60 : decode c_Mo_behind 60 = .ok (.iload_n 3, 1) := by decide +kernel
theorem d_Mo_behind_61 : decode c_Mo_behind 61 = .ok (.iadd, 1) := by decide +kernel
theorem d_Mo_behind_62 : decode c_Mo_behind 62 = .ok (.ireturn, 1) := by decide +kernel
theorem d_Mo_costAt_0 : decode c_Mo_costAt 0 = .ok (.iload_n 2, 1) := by decide +kernel
theorem d_Mo_costAt_1 : decode c_Mo_costAt 1 = .ok (.aload_n 0, 1) := by decide +kernel
theorem d_Mo_costAt_2 : decode c_Mo_costAt 2 = .ok (.getfield 13, 3) := by decide +kernel
theorem d_Mo_costAt_5 : decode c_Mo_costAt 5 = .ok (.aload_n 0, 1) := by decide +kernel
theorem d_Mo_costAt_6 : decode c_Mo_costAt 6 = .ok (.getfield 47, 3) := by decide +kernel
theorem d_Mo_costAt_9 : decode c_Mo_costAt 9 = .ok (.iload_n 1, 1) := by decide +kernel
theorem d_Mo_costAt_10 : decode c_Mo_costAt 10 = .ok (.iaload, 1) := by decide +kernel
theorem d_Mo_costAt_11 : decode c_Mo_costAt 11 = .ok (.iaload, 1) := by decide +kernel
theorem d_Mo_costAt_12 : decode c_Mo_costAt 12 = .ok (.iadd, 1) := by decide +kernel
theorem d_Mo_costAt_13 : decode c_Mo_costAt 13 = .ok (.aload_n 0, 1) := by decide +kernel
theorem d_Mo_costAt_14 : decode c_Mo_costAt 14 = .ok (.getfield 106, 3) := by decide +kernel
theorem d_Mo_costAt_17 : decode c_Mo_costAt 17 = .ok (.if_icmp .le 7, 3) := by decide +kernel
theorem d_Mo_costAt_20 : decode c_Mo_costAt 20 = .ok (.ldc2_w 109, 3) := by decide +kernel
theorem d_Mo_costAt_23 : decode c_Mo_costAt 23 = .ok (.lreturn, 1) := by decide +kernel
theorem d_Mo_costAt_24 : decode c_Mo_costAt 24 = .ok (.lconst 0, 1) := by decide +kernel
theorem d_Mo_costAt_25 : decode c_Mo_costAt 25 = .ok (.lstore_n 3, 1) := by decide +kernel
theorem d_Mo_costAt_26 : decode c_Mo_costAt 26 = .ok (.iload_n 1, 1) := by decide +kernel
theorem d_Mo_costAt_27 : decode c_Mo_costAt 27 = .ok (.iconst 1, 1) := by decide +kernel
theorem d_Mo_costAt_28 : decode c_Mo_costAt 28 = .ok (.iadd, 1) := by decide +kernel
theorem d_Mo_costAt_29 : decode c_Mo_costAt 29 = .ok (.aload_n 0, 1) := by decide +kernel
theorem d_Mo_costAt_30 : decode c_Mo_costAt 30 = .ok (.getfield 100, 3) := by decide +kernel
theorem d_Mo_costAt_33 : decode c_Mo_costAt 33 = .ok (.if_icmp .ge 42, 3) := by decide +kernel
theorem d_Mo_costAt_36 : decode c_Mo_costAt 36 = .ok (.aload_n 0, 1) := by decide +kernel
theorem d_Mo_costAt_37 : decode c_Mo_costAt 37 = .ok (.iload_n 1, 1) := by decide +kernel
theorem d_Mo_costAt_38 : decode c_Mo_costAt 38 = .ok (.iload_n 2, 1) := by decide +kernel
theorem d_Mo_costAt_39 : decode c_Mo_costAt 39 = .ok (.invokevirtual 111, 3) := by decide +kernel
theorem d_Mo_costAt_42 : decode c_Mo_costAt 42 = .ok (.istore 5, 2) := by decide +kernel
theorem d_Mo_costAt_44 : decode c_Mo_costAt 44 = .ok (.iload 5, 2) := by decide +kernel
theorem d_Mo_costAt_46 : decode c_Mo_costAt 46 = .ok (.aload_n 0, 1) := by decide +kernel
theorem d_Mo_costAt_47 : decode c_Mo_costAt 47 = .ok (.getfield 106, 3) := by decide +kernel
theorem d_Mo_costAt_50 : decode c_Mo_costAt 50 = .ok (.if_icmp .le 9, 3) := by decide +kernel
theorem d_Mo_costAt_53 : decode c_Mo_costAt 53 = .ok (.ldc2_w 109, 3) := by decide +kernel
theorem d_Mo_costAt_56 : decode c_Mo_costAt 56 = .ok (.goto 18, 3) := by decide +kernel
theorem d_Mo_costAt_59 : decode c_Mo_costAt 59 = .ok (.aload_n 0, 1) := by decide +kernel
theorem d_Mo_costAt_60 : decode c_Mo_costAt 60 = .ok (.getfield 51, 3) := by decide +kernel
theorem d_Mo_costAt_63 : decode c_Mo_costAt 63 = .ok (.sipush 1001, 3) := by decide +kernel
theorem d_Mo_costAt_66 : decode c_Mo_costAt 66 = .ok (.iload_n 1, 1) := by decide +kernel
theorem d_Mo_costAt_67 : decode c_Mo_costAt 67 = .ok (.iconst 1, 1) := by decide +kernel
theorem d_Mo_costAt_68 : decode c_Mo_costAt 68 = .ok (.iadd, 1) := by decide +kernel
theorem d_Mo_costAt_69 : decode c_Mo_costAt 69 = .ok (.imul, 1) := by decide +kernel
theorem d_Mo_costAt_70 : decode c_Mo_costAt 70 = .ok (.iload 5, 2) := by decide +kernel
theorem d_Mo_costAt_72 : decode c_Mo_costAt 72 = .ok (.iadd, 1) := by decide +kernel
theorem d_Mo_costAt_73 : decode c_Mo_costAt 73 = .ok (.laload, 1) := by decide +kernel
theorem d_Mo_costAt_74 : decode c_Mo_costAt 74 = .ok (.lstore_n 3, 1) := by decide +kernel
theorem d_Mo_costAt_75 : decode c_Mo_costAt 75 = .ok (.lload_n 3, 1) := by decide +kernel
theorem d_Mo_costAt_76 : decode c_Mo_costAt 76 = .ok (.ldc2_w 109, 3) := by decide +kernel
theorem d_Mo_costAt_79 : decode c_Mo_costAt 79 = .ok (.lcmp, 1) := by decide +kernel
theorem d_Mo_costAt_80 : decode c_Mo_costAt 80 = .ok (.ifCond .lt 9, 3) := by decide +kernel
theorem d_Mo_costAt_83 : decode c_Mo_costAt 83 = .ok (.ldc2_w 109, 3) := by decide +kernel
theorem d_Mo_costAt_86 : decode c_Mo_costAt 86 = .ok (.goto 21, 3) := by decide +kernel
theorem d_Mo_costAt_89 : decode c_Mo_costAt 89 = .ok (.lload_n 3, 1) := by decide +kernel
theorem d_Mo_costAt_90 : decode c_Mo_costAt 90 = .ok (.iload_n 2, 1) := by decide +kernel
theorem d_Mo_costAt_91 : decode c_Mo_costAt 91 = .ok (.aload_n 0, 1) := by decide +kernel
theorem d_Mo_costAt_92 : decode c_Mo_costAt 92 = .ok (.getfield 23, 3) := by decide +kernel
theorem d_Mo_costAt_95 : decode c_Mo_costAt 95 = .ok (.aload_n 0, 1) := by decide +kernel
theorem d_Mo_costAt_96 : decode c_Mo_costAt 96 = .ok (.getfield 47, 3) := by decide +kernel
theorem d_Mo_costAt_99 : decode c_Mo_costAt 99 = .ok (.iload_n 1, 1) := by decide +kernel
theorem d_Mo_costAt_100 : decode c_Mo_costAt 100 = .ok (.iaload, 1) := by decide +kernel
theorem d_Mo_costAt_101 : decode c_Mo_costAt 101 = .ok (.iaload, 1) := by decide +kernel
theorem d_Mo_costAt_102 : decode c_Mo_costAt 102 = .ok (.invokestatic 115, 3) := by decide +kernel
theorem d_Mo_costAt_105 : decode c_Mo_costAt 105 = .ok (.i2l, 1) := by decide +kernel
theorem d_Mo_costAt_106 : decode c_Mo_costAt 106 = .ok (.ladd, 1) := by decide +kernel
theorem d_Mo_costAt_107 : decode c_Mo_costAt 107 = .ok (.lreturn, 1) := by decide +kernel
theorem d_Mo_lay_0 : decode c_Mo_lay 0 = .ok (.aload_n 0, 1) := by decide +kernel
theorem d_Mo_lay_1 : decode c_Mo_lay 1 = .ok (.getfield 100, 3) := by decide +kernel
theorem d_Mo_lay_4 : decode c_Mo_lay 4 = .ok (.iconst 1, 1) := by decide +kernel
theorem d_Mo_lay_5 : decode c_Mo_lay 5 = .ok (.isub, 1) := by decide +kernel
theorem d_Mo_lay_6 : decode c_Mo_lay 6 = .ok (.istore_n 1, 1) := by decide +kernel
theorem d_Mo_lay_7 : decode c_Mo_lay 7 = .ok (.iload_n 1, 1) := by decide +kernel
theorem d_Mo_lay_8 : decode c_Mo_lay 8 = .ok (.ifCond .lt 71, 3) := by decide +kernel
theorem d_Mo_lay_11 : decode c_Mo_lay 11 = .ok (.ldc2_w 109, 3) := by decide +kernel
theorem d_Mo_lay_14 : decode c_Mo_lay 14 = .ok (.lstore_n 2, 1) := by decide +kernel
theorem d_Mo_lay_15 : decode c_Mo_lay 15 = .ok (.aload_n 0, 1) := by decide +kernel
theorem d_Mo_lay_16 : decode c_Mo_lay 16 = .ok (.getfield 106, 3) := by decide +kernel
theorem d_Mo_lay_19 : decode c_Mo_lay 19 = .ok (.istore 4, 2) := by decide +kernel
theorem d_Mo_lay_21 : decode c_Mo_lay 21 = .ok (.iload 4, 2) := by decide +kernel
theorem d_Mo_lay_23 : decode c_Mo_lay 23 = .ok (.aload_n 0, 1) := by decide +kernel
theorem d_Mo_lay_24 : decode c_Mo_lay 24 = .ok (.getfield 118, 3) := by decide +kernel
theorem d_Mo_lay_27 : decode c_Mo_lay 27 = .ok (.if_icmp .lt 46, 3) := by decide +kernel
theorem d_Mo_lay_30 : decode c_Mo_lay 30 = .ok (.aload_n 0, 1) := by decide +kernel
theorem d_Mo_lay_31 : decode c_Mo_lay 31 = .ok (.iload_n 1, 1) := by decide +kernel
theorem d_Mo_lay_32 : decode c_Mo_lay 32 = .ok (.iload 4, 2) := by decide +kernel
theorem d_Mo_lay_34 : decode c_Mo_lay 34 = .ok (.invokevirtual 121, 3) := by decide +kernel
theorem d_Mo_lay_37 : decode c_Mo_lay 37 = .ok (.lstore 5, 2) := by decide +kernel
theorem d_Mo_lay_39 : decode c_Mo_lay 39 = .ok (.lload 5, 2) := by decide +kernel
theorem d_Mo_lay_41 : decode c_Mo_lay 41 = .ok (.lload_n 2, 1) := by decide +kernel
theorem d_Mo_lay_42 : decode c_Mo_lay 42 = .ok (.lcmp, 1) := by decide +kernel
theorem d_Mo_lay_43 : decode c_Mo_lay 43 = .ok (.ifCond .ge 8, 3) := by decide +kernel
theorem d_Mo_lay_46 : decode c_Mo_lay 46 = .ok (.lload 5, 2) := by decide +kernel
theorem d_Mo_lay_48 : decode c_Mo_lay 48 = .ok (.goto 4, 3) := by decide +kernel
theorem d_Mo_lay_51 : decode c_Mo_lay 51 = .ok (.lload_n 2, 1) := by decide +kernel
theorem d_Mo_lay_52 : decode c_Mo_lay 52 = .ok (.lstore_n 2, 1) := by decide +kernel
theorem d_Mo_lay_53 : decode c_Mo_lay 53 = .ok (.aload_n 0, 1) := by decide +kernel
theorem d_Mo_lay_54 : decode c_Mo_lay 54 = .ok (.getfield 51, 3) := by decide +kernel
theorem d_Mo_lay_57 : decode c_Mo_lay 57 = .ok (.sipush 1001, 3) := by decide +kernel
theorem d_Mo_lay_60 : decode c_Mo_lay 60 = .ok (.iload_n 1, 1) := by decide +kernel
theorem d_Mo_lay_61 : decode c_Mo_lay 61 = .ok (.imul, 1) := by decide +kernel
theorem d_Mo_lay_62 : decode c_Mo_lay 62 = .ok (.iload 4, 2) := by decide +kernel
theorem d_Mo_lay_64 : decode c_Mo_lay 64 = .ok (.iadd, 1) := by decide +kernel
theorem d_Mo_lay_65 : decode c_Mo_lay 65 = .ok (.lload_n 2, 1) := by decide +kernel
theorem d_Mo_lay_66 : decode c_Mo_lay 66 = .ok (.lastore, 1) := by decide +kernel
theorem d_Mo_lay_67 : decode c_Mo_lay 67 = .ok (.iinc 4 (-1), 3) := by decide +kernel
theorem d_Mo_lay_70 : decode c_Mo_lay 70 = .ok (.goto (-49), 3) := by decide +kernel
theorem d_Mo_lay_73 : decode c_Mo_lay 73 = .ok (.iinc 1 (-1), 3) := by decide +kernel
theorem d_Mo_lay_76 : decode c_Mo_lay 76 = .ok (.goto (-69), 3) := by decide +kernel
theorem d_Mo_lay_79 : decode c_Mo_lay 79 = .ok (.aload_n 0, 1) := by decide +kernel
theorem d_Mo_lay_80 : decode c_Mo_lay 80 = .ok (.getfield 100, 3) := by decide +kernel
theorem d_Mo_lay_83 : decode c_Mo_lay 83 = .ok (.ifCond .ne 7, 3) := by decide +kernel
theorem d_Mo_lay_86 : decode c_Mo_lay 86 = .ok (.lconst 0, 1) := by decide +kernel
theorem d_Mo_lay_87 : decode c_Mo_lay 87 = .ok (.goto 12, 3) := by decide +kernel
theorem d_Mo_lay_90 : decode c_Mo_lay 90 = .ok (.aload_n 0, 1) := by decide +kernel
theorem d_Mo_lay_91 : decode c_Mo_lay 91 = .ok (.getfield 51, 3) := by decide +kernel
theorem d_Mo_lay_94 : decode c_Mo_lay 94 = .ok (.aload_n 0, 1) := by decide +kernel
theorem d_Mo_lay_95 : decode c_Mo_lay 95 = .ok (.getfield 118, 3) := by decide +kernel
theorem d_Mo_lay_98 : decode c_Mo_lay 98 = .ok (.laload, 1) := by decide +kernel
theorem d_Mo_lay_99 : decode c_Mo_lay 99 = .ok (.lreturn, 1) := by decide +kernel
theorem d_Mo_settle_0 : decode c_Mo_settle 0 = .ok (.aload_n 0, 1) := by decide +kernel
theorem d_Mo_settle_1 : decode c_Mo_settle 1 = .ok (.invokevirtual 125, 3) := by decide +kernel
theorem d_Mo_settle_4 : decode c_Mo_settle 4 = .ok (.pop2, 1) := by decide +kernel
theorem d_Mo_settle_5 : decode c_Mo_settle 5 = .ok (.aload_n 0, 1) := by decide +kernel
theorem d_Mo_settle_6 : decode c_Mo_settle 6 = .ok (.getfield 118, 3) := by decide +kernel
theorem d_Mo_settle_9 : decode c_Mo_settle 9 = .ok (.istore_n 2, 1) := by decide +kernel
theorem d_Mo_settle_10 : decode c_Mo_settle 10 = .ok (.iconst 0, 1) := by decide +kernel
theorem d_Mo_settle_11 : decode c_Mo_settle 11 = .ok (.istore_n 3, 1) := by decide +kernel
theorem d_Mo_settle_12 : decode c_Mo_settle 12 = .ok (.iload_n 3, 1) := by decide +kernel
theorem d_Mo_settle_13 : decode c_Mo_settle 13 = .ok (.aload_n 0, 1) := by decide +kernel
theorem d_Mo_settle_14 : decode c_Mo_settle 14 = .ok (.getfield 100, 3) := by decide +kernel
theorem d_Mo_settle_17 : decode c_Mo_settle 17 = .ok (.if_icmp .ge 72, 3) := by decide +kernel
theorem d_Mo_settle_20 : decode c_Mo_settle 20 = .ok (.aload_n 0, 1) := by decide +kernel
theorem d_Mo_settle_21 : decode c_Mo_settle 21 = .ok (.getfield 51, 3) := by decide +kernel
theorem d_Mo_settle_24 : decode c_Mo_settle 24 = .ok (.sipush 1001, 3) := by decide +kernel
theorem d_Mo_settle_27 : decode c_Mo_settle 27 = .ok (.iload_n 3, 1) := by decide +kernel
theorem d_Mo_settle_28 : decode c_Mo_settle 28 = .ok (.imul, 1) := by decide +kernel
theorem d_Mo_settle_29 : decode c_Mo_settle 29 = .ok (.iload_n 2, 1) := by decide +kernel
theorem d_Mo_settle_30 : decode c_Mo_settle 30 = .ok (.iadd, 1) := by decide +kernel
theorem d_Mo_settle_31 : decode c_Mo_settle 31 = .ok (.laload, 1) := by decide +kernel
theorem d_Mo_settle_32 : decode c_Mo_settle 32 = .ok (.lstore 4, 2) := by decide +kernel
theorem d_Mo_settle_34 : decode c_Mo_settle 34 = .ok (.aload_n 0, 1) := by decide +kernel
theorem d_Mo_settle_35 : decode c_Mo_settle 35 = .ok (.iload_n 3, 1) := by decide +kernel
theorem d_Mo_settle_36 : decode c_Mo_settle 36 = .ok (.iload_n 2, 1) := by decide +kernel
theorem d_Mo_settle_37 : decode c_Mo_settle 37 = .ok (.invokevirtual 121, 3) := by decide +kernel
theorem d_Mo_settle_40 : decode c_Mo_settle 40 = .ok (.lload 4, 2) := by decide +kernel
theorem d_Mo_settle_42 : decode c_Mo_settle 42 = .ok (.lcmp, 1) := by decide +kernel
theorem d_Mo_settle_43 : decode c_Mo_settle 43 = .ok (.ifCond .eq 9, 3) := by decide +kernel
theorem d_Mo_settle_46 : decode c_Mo_settle 46 = .ok (.iinc 2 1, 3) := by decide +kernel
theorem d_Mo_settle_49 : decode c_Mo_settle 49 = .ok (.goto (-15), 3) := by decide +kernel
theorem d_Mo_settle_52 : decode c_Mo_settle 52 = .ok (.aload_n 0, 1) := by decide +kernel
theorem d_Mo_settle_53 : decode c_Mo_settle 53 = .ok (.getfield 38, 3) := by decide +kernel
theorem d_Mo_settle_56 : decode c_Mo_settle 56 = .ok (.aload_n 0, 1) := by decide +kernel
theorem d_Mo_settle_57 : decode c_Mo_settle 57 = .ok (.getfield 47, 3) := by decide +kernel
theorem d_Mo_settle_60 : decode c_Mo_settle 60 = .ok (.iload_n 3, 1) := by decide +kernel
theorem d_Mo_settle_61 : decode c_Mo_settle 61 = .ok (.iaload, 1) := by decide +kernel
theorem d_Mo_settle_62 : decode c_Mo_settle 62 = .ok (.iload_n 2, 1) := by decide +kernel
theorem d_Mo_settle_63 : decode c_Mo_settle 63 = .ok (.iastore, 1) := by decide +kernel
theorem d_Mo_settle_64 : decode c_Mo_settle 64 = .ok (.aload_n 0, 1) := by decide +kernel
theorem d_Mo_settle_65 : decode c_Mo_settle 65 = .ok (.getfield 41, 3) := by decide +kernel
theorem d_Mo_settle_68 : decode c_Mo_settle 68 = .ok (.aload_n 0, 1) := by decide +kernel
theorem d_Mo_settle_69 : decode c_Mo_settle 69 = .ok (.getfield 47, 3) := by decide +kernel
theorem d_Mo_settle_72 : decode c_Mo_settle 72 = .ok (.iload_n 3, 1) := by decide +kernel
theorem d_Mo_settle_73 : decode c_Mo_settle 73 = .ok (.iaload, 1) := by decide +kernel
theorem d_Mo_settle_74 : decode c_Mo_settle 74 = .ok (.iload_n 1, 1) := by decide +kernel
theorem d_Mo_settle_75 : decode c_Mo_settle 75 = .ok (.iastore, 1) := by decide +kernel
theorem d_Mo_settle_76 : decode c_Mo_settle 76 = .ok (.aload_n 0, 1) := by decide +kernel
theorem d_Mo_settle_77 : decode c_Mo_settle 77 = .ok (.iload_n 3, 1) := by decide +kernel
theorem d_Mo_settle_78 : decode c_Mo_settle 78 = .ok (.iload_n 2, 1) := by decide +kernel
theorem d_Mo_settle_79 : decode c_Mo_settle 79 = .ok (.invokevirtual 111, 3) := by decide +kernel
theorem d_Mo_settle_82 : decode c_Mo_settle 82 = .ok (.istore_n 2, 1) := by decide +kernel
theorem d_Mo_settle_83 : decode c_Mo_settle 83 = .ok (.iinc 3 1, 3) := by decide +kernel
theorem d_Mo_settle_86 : decode c_Mo_settle 86 = .ok (.goto (-74), 3) := by decide +kernel
theorem d_Mo_settle_89 : decode c_Mo_settle 89 = .ok (.return_, 1) := by decide +kernel
theorem d_Mo_sort_0 : decode c_Mo_sort 0 = .ok (.iconst 0, 1) := by decide +kernel
theorem d_Mo_sort_1 : decode c_Mo_sort 1 = .ok (.istore_n 1, 1) := by decide +kernel
theorem d_Mo_sort_2 : decode c_Mo_sort 2 = .ok (.iload_n 1, 1) := by decide +kernel
theorem d_Mo_sort_3 : decode c_Mo_sort 3 = .ok (.aload_n 0, 1) := by decide +kernel
theorem d_Mo_sort_4 : decode c_Mo_sort 4 = .ok (.getfield 79, 3) := by decide +kernel
theorem d_Mo_sort_7 : decode c_Mo_sort 7 = .ok (.if_icmp .ge 71, 3) := by decide +kernel
theorem d_Mo_sort_10 : decode c_Mo_sort 10 = .ok (.iload_n 1, 1) := by decide +kernel
theorem d_Mo_sort_11 : decode c_Mo_sort 11 = .ok (.istore_n 2, 1) := by decide +kernel
theorem d_Mo_sort_12 : decode c_Mo_sort 12 = .ok (.iload_n 2, 1) := by decide +kernel
theorem d_Mo_sort_13 : decode c_Mo_sort 13 = .ok (.ifCond .le 45, 3) := by decide +kernel
theorem d_Mo_sort_16 : decode c_Mo_sort 16 = .ok (.aload_n 0, 1) := by decide +kernel
theorem d_Mo_sort_17 : decode c_Mo_sort 17 = .ok (.getfield 23, 3) := by decide +kernel
theorem d_Mo_sort_20 : decode c_Mo_sort 20 = .ok (.aload_n 0, 1) := by decide +kernel
theorem d_Mo_sort_21 : decode c_Mo_sort 21 = .ok (.getfield 55, 3) := by decide +kernel
theorem d_Mo_sort_24 : decode c_Mo_sort 24 = .ok (.iload_n 2, 1) := by decide +kernel
theorem d_Mo_sort_25 : decode c_Mo_sort 25 = .ok (.iconst 1, 1) := by decide +kernel
theorem d_Mo_sort_26 : decode c_Mo_sort 26 = .ok (.isub, 1) := by decide +kernel
theorem d_Mo_sort_27 : decode c_Mo_sort 27 = .ok (.iaload, 1) := by decide +kernel
theorem d_Mo_sort_28 : decode c_Mo_sort 28 = .ok (.iaload, 1) := by decide +kernel
theorem d_Mo_sort_29 : decode c_Mo_sort 29 = .ok (.aload_n 0, 1) := by decide +kernel
theorem d_Mo_sort_30 : decode c_Mo_sort 30 = .ok (.getfield 23, 3) := by decide +kernel
theorem d_Mo_sort_33 : decode c_Mo_sort 33 = .ok (.iload_n 1, 1) := by decide +kernel
theorem d_Mo_sort_34 : decode c_Mo_sort 34 = .ok (.iaload, 1) := by decide +kernel
theorem d_Mo_sort_35 : decode c_Mo_sort 35 = .ok (.if_icmp .le 23, 3) := by decide +kernel
theorem d_Mo_sort_38 : decode c_Mo_sort 38 = .ok (.aload_n 0, 1) := by decide +kernel
theorem d_Mo_sort_39 : decode c_Mo_sort 39 = .ok (.getfield 55, 3) := by decide +kernel
theorem d_Mo_sort_42 : decode c_Mo_sort 42 = .ok (.iload_n 2, 1) := by decide +kernel
theorem d_Mo_sort_43 : decode c_Mo_sort 43 = .ok (.aload_n 0, 1) := by decide +kernel
theorem d_Mo_sort_44 : decode c_Mo_sort 44 = .ok (.getfield 55, 3) := by decide +kernel
theorem d_Mo_sort_47 : decode c_Mo_sort 47 = .ok (.iload_n 2, 1) := by decide +kernel
theorem d_Mo_sort_48 : decode c_Mo_sort 48 = .ok (.iconst 1, 1) := by decide +kernel
theorem d_Mo_sort_49 : decode c_Mo_sort 49 = .ok (.isub, 1) := by decide +kernel
theorem d_Mo_sort_50 : decode c_Mo_sort 50 = .ok (.iaload, 1) := by decide +kernel
theorem d_Mo_sort_51 : decode c_Mo_sort 51 = .ok (.iastore, 1) := by decide +kernel
theorem d_Mo_sort_52 : decode c_Mo_sort 52 = .ok (.iinc 2 (-1), 3) := by decide +kernel
theorem d_Mo_sort_55 : decode c_Mo_sort 55 = .ok (.goto (-43), 3) := by decide +kernel
theorem d_Mo_sort_58 : decode c_Mo_sort 58 = .ok (.aload_n 0, 1) := by decide +kernel
theorem d_Mo_sort_59 : decode c_Mo_sort 59 = .ok (.getfield 55, 3) := by decide +kernel
theorem d_Mo_sort_62 : decode c_Mo_sort 62 = .ok (.iload_n 2, 1) := by decide +kernel
theorem d_Mo_sort_63 : decode c_Mo_sort 63 = .ok (.iload_n 1, 1) := by decide +kernel
theorem d_Mo_sort_64 : decode c_Mo_sort 64 = .ok (.iastore, 1) := by decide +kernel
theorem d_Mo_sort_65 : decode c_Mo_sort 65 = .ok (.aload_n 0, 1) := by decide +kernel
theorem d_Mo_sort_66 : decode c_Mo_sort 66 = .ok (.getfield 44, 3) := by decide +kernel
theorem d_Mo_sort_69 : decode c_Mo_sort 69 = .ok (.iload_n 1, 1) := by decide +kernel
theorem d_Mo_sort_70 : decode c_Mo_sort 70 = .ok (.iconst (-1), 1) := by decide +kernel
theorem d_Mo_sort_71 : decode c_Mo_sort 71 = .ok (.iastore, 1) := by decide +kernel
theorem d_Mo_sort_72 : decode c_Mo_sort 72 = .ok (.iinc 1 1, 3) := by decide +kernel
theorem d_Mo_sort_75 : decode c_Mo_sort 75 = .ok (.goto (-73), 3) := by decide +kernel
theorem d_Mo_sort_78 : decode c_Mo_sort 78 = .ok (.return_, 1) := by decide +kernel
theorem d_Mo_endOf_0 : decode c_Mo_endOf 0 = .ok (.iload_n 2, 1) := by decide +kernel
theorem d_Mo_endOf_1 : decode c_Mo_endOf 1 = .ok (.istore_n 3, 1) := by decide +kernel
theorem d_Mo_endOf_2 : decode c_Mo_endOf 2 = .ok (.iload_n 3, 1) := by decide +kernel
theorem d_Mo_endOf_3 : decode c_Mo_endOf 3 = .ok (.aload_n 0, 1) := by decide +kernel
theorem d_Mo_endOf_4 : decode c_Mo_endOf 4 = .ok (.getfield 73, 3) := by decide +kernel
theorem d_Mo_endOf_7 : decode c_Mo_endOf 7 = .ok (.if_icmp .ge 24, 3) := by decide +kernel
theorem d_Mo_endOf_10 : decode c_Mo_endOf 10 = .ok (.aload_n 0, 1) := by decide +kernel
theorem d_Mo_endOf_11 : decode c_Mo_endOf 11 = .ok (.getfield 7, 3) := by decide +kernel
theorem d_Mo_endOf_14 : decode c_Mo_endOf 14 = .ok (.sipush 1000, 3) := by decide +kernel
theorem d_Mo_endOf_17 : decode c_Mo_endOf 17 = .ok (.iload_n 1, 1) := by decide +kernel
theorem d_Mo_endOf_18 : decode c_Mo_endOf 18 = .ok (.imul, 1) := by decide +kernel
theorem d_Mo_endOf_19 : decode c_Mo_endOf 19 = .ok (.iload_n 3, 1) := by decide +kernel
theorem d_Mo_endOf_20 : decode c_Mo_endOf 20 = .ok (.iadd, 1) := by decide +kernel
theorem d_Mo_endOf_21 : decode c_Mo_endOf 21 = .ok (.baload, 1) := by decide +kernel
theorem d_Mo_endOf_22 : decode c_Mo_endOf 22 = .ok (.ifCond .ne 9, 3) := by decide +kernel
theorem d_Mo_endOf_25 : decode c_Mo_endOf 25 = .ok (.iinc 3 1, 3) := by decide +kernel
theorem d_Mo_endOf_28 : decode c_Mo_endOf 28 = .ok (.goto (-26), 3) := by decide +kernel
theorem d_Mo_endOf_31 : decode c_Mo_endOf 31 = .ok (.iload_n 3, 1) := by decide +kernel
theorem d_Mo_endOf_32 : decode c_Mo_endOf 32 = .ok (.ireturn, 1) := by decide +kernel
theorem d_Mo_isBegin_0 : decode c_Mo_isBegin 0 = .ok (.aload_n 0, 1) := by decide +kernel
theorem d_Mo_isBegin_1 : decode c_Mo_isBegin 1 = .ok (.getfield 7, 3) := by decide +kernel
theorem d_Mo_isBegin_4 : decode c_Mo_isBegin 4 = .ok (.sipush 1000, 3) := by decide +kernel
theorem d_Mo_isBegin_7 : decode c_Mo_isBegin 7 = .ok (.iload_n 1, 1) := by decide +kernel
theorem d_Mo_isBegin_8 : decode c_Mo_isBegin 8 = .ok (.imul, 1) := by decide +kernel
theorem d_Mo_isBegin_9 : decode c_Mo_isBegin 9 = .ok (.iload_n 2, 1) := by decide +kernel
theorem d_Mo_isBegin_10 : decode c_Mo_isBegin 10 = .ok (.iadd, 1) := by decide +kernel
theorem d_Mo_isBegin_11 : decode c_Mo_isBegin 11 = .ok (.baload, 1) := by decide +kernel
theorem d_Mo_isBegin_12 : decode c_Mo_isBegin 12 = .ok (.ifCond .ne 28, 3) := by decide +kernel
theorem d_Mo_isBegin_15 : decode c_Mo_isBegin 15 = .ok (.iload_n 2, 1) := by decide +kernel
theorem d_Mo_isBegin_16 : decode c_Mo_isBegin 16 = .ok (.ifCond .eq 20, 3) := by decide +kernel
theorem d_Mo_isBegin_19 : decode c_Mo_isBegin 19 = .ok (.aload_n 0, 1) := by decide +kernel
theorem d_Mo_isBegin_20 : decode c_Mo_isBegin 20 = .ok (.getfield 7, 3) := by decide +kernel
theorem d_Mo_isBegin_23 : decode c_Mo_isBegin 23 = .ok (.sipush 1000, 3) := by decide +kernel
theorem d_Mo_isBegin_26 : decode c_Mo_isBegin 26 = .ok (.iload_n 1, 1) := by decide +kernel
theorem d_Mo_isBegin_27 : decode c_Mo_isBegin 27 = .ok (.imul, 1) := by decide +kernel
theorem d_Mo_isBegin_28 : decode c_Mo_isBegin 28 = .ok (.iload_n 2, 1) := by decide +kernel
theorem d_Mo_isBegin_29 : decode c_Mo_isBegin 29 = .ok (.iadd, 1) := by decide +kernel
theorem d_Mo_isBegin_30 : decode c_Mo_isBegin 30 = .ok (.iconst 1, 1) := by decide +kernel
theorem d_Mo_isBegin_31 : decode c_Mo_isBegin 31 = .ok (.isub, 1) := by decide +kernel
theorem d_Mo_isBegin_32 : decode c_Mo_isBegin 32 = .ok (.baload, 1) := by decide +kernel
theorem d_Mo_isBegin_33 : decode c_Mo_isBegin 33 = .ok (.ifCond .eq 7, 3) := by decide +kernel
theorem d_Mo_isBegin_36 : decode c_Mo_isBegin 36 = .ok (.iconst 1, 1) := by decide +kernel
theorem d_Mo_isBegin_37 : decode c_Mo_isBegin 37 = .ok (.goto 4, 3) := by decide +kernel
theorem d_Mo_isBegin_40 : decode c_Mo_isBegin 40 = .ok (.iconst 0, 1) := by decide +kernel
theorem d_Mo_isBegin_41 : decode c_Mo_isBegin 41 = .ok (.ireturn, 1) := by decide +kernel
theorem d_Mo_with_0 : decode c_Mo_with 0 = .ok (.aload_n 0, 1) := by decide +kernel
theorem d_Mo_with_1 : decode c_Mo_with 1 = .ok (.getfield 61, 3) := by decide +kernel
theorem d_Mo_with_4 : decode c_Mo_with 4 = .ok (.sipush 1000, 3) := by decide +kernel
theorem d_Mo_with_7 : decode c_Mo_with 7 = .ok (.iload_n 1, 1) := by decide +kernel
theorem d_Mo_with_8 : decode c_Mo_with 8 = .ok (.imul, 1) := by decide +kernel
theorem d_Mo_with_9 : decode c_Mo_with 9 = .ok (.aload_n 0, 1) := by decide +kernel
theorem d_Mo_with_10 : decode c_Mo_with 10 = .ok (.getfield 118, 3) := by decide +kernel
theorem d_Mo_with_13 : decode c_Mo_with 13 = .ok (.iadd, 1) := by decide +kernel
theorem d_Mo_with_14 : decode c_Mo_with 14 = .ok (.iaload, 1) := by decide +kernel
theorem d_Mo_with_15 : decode c_Mo_with 15 = .ok (.istore_n 3, 1) := by decide +kernel
theorem d_Mo_with_16 : decode c_Mo_with 16 = .ok (.iload_n 3, 1) := by decide +kernel
theorem d_Mo_with_17 : decode c_Mo_with 17 = .ok (.iconst (-1), 1) := by decide +kernel
theorem d_Mo_with_18 : decode c_Mo_with 18 = .ok (.if_icmp .ne 7, 3) := by decide +kernel
theorem d_Mo_with_21 : decode c_Mo_with 21 = .ok (.iconst 0, 1) := by decide +kernel
theorem d_Mo_with_22 : decode c_Mo_with 22 = .ok (.goto 30, 3) := by decide +kernel
theorem d_Mo_with_25 : decode c_Mo_with 25 = .ok (.aload_n 0, 1) := by decide +kernel
theorem d_Mo_with_26 : decode c_Mo_with 26 = .ok (.getfield 13, 3) := by decide +kernel
theorem d_Mo_with_29 : decode c_Mo_with 29 = .ok (.iload_n 3, 1) := by decide +kernel
theorem d_Mo_with_30 : decode c_Mo_with 30 = .ok (.iaload, 1) := by decide +kernel
theorem d_Mo_with_31 : decode c_Mo_with 31 = .ok (.aload_n 0, 1) := by decide +kernel
theorem d_Mo_with_32 : decode c_Mo_with 32 = .ok (.getfield 29, 3) := by decide +kernel
theorem d_Mo_with_35 : decode c_Mo_with 35 = .ok (.iconst 4, 1) := by decide +kernel
theorem d_Mo_with_36 : decode c_Mo_with 36 = .ok (.aload_n 0, 1) := by decide +kernel
theorem d_Mo_with_37 : decode c_Mo_with 37 = .ok (.getfield 20, 3) := by decide +kernel
theorem d_Mo_with_40 : decode c_Mo_with 40 = .ok (.iload_n 3, 1) := by decide +kernel
theorem d_Mo_with_41 : decode c_Mo_with 41 = .ok (.iaload, 1) := by decide +kernel
theorem d_Mo_with_42 : decode c_Mo_with 42 = .ok (.imul, 1) := by decide +kernel
theorem d_Mo_with_43 : decode c_Mo_with 43 = .ok (.aload_n 0, 1) := by decide +kernel
theorem d_Mo_with_44 : decode c_Mo_with 44 = .ok (.getfield 17, 3) := by decide +kernel
theorem d_Mo_with_47 : decode c_Mo_with 47 = .ok (.iload_n 2, 1) := by decide +kernel
theorem d_Mo_with_48 : decode c_Mo_with 48 = .ok (.iaload, 1) := by decide +kernel
theorem d_Mo_with_49 : decode c_Mo_with 49 = .ok (.iadd, 1) := by decide +kernel
theorem d_Mo_with_50 : decode c_Mo_with 50 = .ok (.iaload, 1) := by decide +kernel
theorem d_Mo_with_51 : decode c_Mo_with 51 = .ok (.iadd, 1) := by decide +kernel
theorem d_Mo_with_52 : decode c_Mo_with 52 = .ok (.istore 4, 2) := by decide +kernel
theorem d_Mo_with_54 : decode c_Mo_with 54 = .ok (.ldc2_w 109, 3) := by decide +kernel
theorem d_Mo_with_57 : decode c_Mo_with 57 = .ok (.lstore 5, 2) := by decide +kernel
theorem d_Mo_with_59 : decode c_Mo_with 59 = .ok (.aload_n 0, 1) := by decide +kernel
theorem d_Mo_with_60 : decode c_Mo_with 60 = .ok (.getfield 118, 3) := by decide +kernel
theorem d_Mo_with_63 : decode c_Mo_with 63 = .ok (.istore 7, 2) := by decide +kernel
theorem d_Mo_with_65 : decode c_Mo_with 65 = .ok (.iload 7, 2) := by decide +kernel
theorem d_Mo_with_67 : decode c_Mo_with 67 = .ok (.aload_n 0, 1) := by decide +kernel
theorem d_Mo_with_68 : decode c_Mo_with 68 = .ok (.getfield 106, 3) := by decide +kernel
theorem d_Mo_with_71 : decode c_Mo_with 71 = .ok (.if_icmp .ge 133, 3) := by decide +kernel
theorem d_Mo_with_74 : decode c_Mo_with 74 = .ok (.iload_n 3, 1) := by decide +kernel
theorem d_Mo_with_75 : decode c_Mo_with 75 = .ok (.iconst (-1), 1) := by decide +kernel
theorem d_Mo_with_76 : decode c_Mo_with 76 = .ok (.if_icmp .ne 7, 3) := by decide +kernel
theorem d_Mo_with_79 : decode c_Mo_with 79 = .ok (.lconst 0, 1) := by decide +kernel
theorem d_Mo_with_80 : decode c_Mo_with 80 = .ok (.goto 37, 3) := by decide +kernel
theorem d_Mo_with_83 : decode c_Mo_with 83 = .ok (.iload 7, 2) := by decide +kernel
theorem d_Mo_with_85 : decode c_Mo_with 85 = .ok (.iload 4, 2) := by decide +kernel
theorem d_Mo_with_87 : decode c_Mo_with 87 = .ok (.isub, 1) := by decide +kernel
theorem d_Mo_with_88 : decode c_Mo_with 88 = .ok (.aload_n 0, 1) := by decide +kernel
theorem d_Mo_with_89 : decode c_Mo_with 89 = .ok (.getfield 118, 3) := by decide +kernel
theorem d_Mo_with_92 : decode c_Mo_with 92 = .ok (.if_icmp .ge 9, 3) := by decide +kernel
theorem d_Mo_with_95 : decode c_Mo_with 95 = .ok (.ldc2_w 109, 3) := by decide +kernel
theorem d_Mo_with_98 : decode c_Mo_with 98 = .ok (.goto 19, 3) := by decide +kernel
theorem d_Mo_with_101 : decode c_Mo_with 101 = .ok (.aload_n 0, 1) := by decide +kernel
theorem d_Mo_with_102 : decode c_Mo_with 102 = .ok (.getfield 58, 3) := by decide +kernel
theorem d_Mo_with_105 : decode c_Mo_with 105 = .ok (.sipush 1000, 3) := by decide +kernel
theorem d_Mo_with_108 : decode c_Mo_with 108 = .ok (.iload_n 1, 1) := by decide +kernel
theorem d_Mo_with_109 : decode c_Mo_with 109 = .ok (.imul, 1) := by decide +kernel
theorem d_Mo_with_110 : decode c_Mo_with 110 = .ok (.iload 7, 2) := by decide +kernel
theorem d_Mo_with_112 : decode c_Mo_with 112 = .ok (.iadd, 1) := by decide +kernel
theorem d_Mo_with_113 : decode c_Mo_with 113 = .ok (.iload 4, 2) := by decide +kernel
theorem d_Mo_with_115 : decode c_Mo_with 115 = .ok (.isub, 1) := by decide +kernel
theorem d_Mo_with_116 : decode c_Mo_with 116 = .ok (.laload, 1) := by decide +kernel
theorem d_Mo_with_117 : decode c_Mo_with 117 = .ok (.lstore 8, 2) := by decide +kernel
theorem d_Mo_with_119 : decode c_Mo_with 119 = .ok (.iload 7, 2) := by decide +kernel
theorem d_Mo_with_121 : decode c_Mo_with 121 = .ok (.aload_n 0, 1) := by decide +kernel
theorem d_Mo_with_122 : decode c_Mo_with 122 = .ok (.getfield 13, 3) := by decide +kernel
theorem d_Mo_with_125 : decode c_Mo_with 125 = .ok (.iload_n 2, 1) := by decide +kernel
theorem d_Mo_with_126 : decode c_Mo_with 126 = .ok (.iaload, 1) := by decide +kernel
theorem d_Mo_with_127 : decode c_Mo_with 127 = .ok (.iadd, 1) := by decide +kernel
theorem d_Mo_with_128 : decode c_Mo_with 128 = .ok (.aload_n 0, 1) := by decide +kernel
theorem d_Mo_with_129 : decode c_Mo_with 129 = .ok (.getfield 106, 3) := by decide +kernel
theorem d_Mo_with_132 : decode c_Mo_with 132 = .ok (.if_icmp .gt 12, 3) := by decide +kernel
theorem d_Mo_with_135 : decode c_Mo_with 135 = .ok (.lload 8, 2) := by decide +kernel
theorem d_Mo_with_137 : decode c_Mo_with 137 = .ok (.ldc2_w 109, 3) := by decide +kernel
theorem d_Mo_with_140 : decode c_Mo_with 140 = .ok (.lcmp, 1) := by decide +kernel
theorem d_Mo_with_141 : decode c_Mo_with 141 = .ok (.ifCond .lt 9, 3) := by decide +kernel
theorem d_Mo_with_144 : decode c_Mo_with 144 = .ok (.ldc2_w 109, 3) := by decide +kernel
theorem d_Mo_with_147 : decode c_Mo_with 147 = .ok (.goto 18, 3) := by decide +kernel
theorem d_Mo_with_150 : decode c_Mo_with 150 = .ok (.lload 8, 2) := by decide +kernel
theorem d_Mo_with_152 : decode c_Mo_with 152 = .ok (.iload 7, 2) := by decide +kernel
theorem d_Mo_with_154 : decode c_Mo_with 154 = .ok (.aload_n 0, 1) := by decide +kernel
theorem d_Mo_with_155 : decode c_Mo_with 155 = .ok (.getfield 23, 3) := by decide +kernel
theorem d_Mo_with_158 : decode c_Mo_with 158 = .ok (.iload_n 2, 1) := by decide +kernel
theorem d_Mo_with_159 : decode c_Mo_with 159 = .ok (.iaload, 1) := by decide +kernel
theorem d_Mo_with_160 : decode c_Mo_with 160 = .ok (.invokestatic 115, 3) := by decide +kernel
theorem d_Mo_with_163 : decode c_Mo_with 163 = .ok (.i2l, 1) := by decide +kernel
theorem d_Mo_with_164 : decode c_Mo_with 164 = .ok (.ladd, 1) := by decide +kernel
theorem d_Mo_with_165 : decode c_Mo_with 165 = .ok (.lstore 10, 2) := by decide +kernel
theorem d_Mo_with_167 : decode c_Mo_with 167 = .ok (.lload 10, 2) := by decide +kernel
theorem d_Mo_with_169 : decode c_Mo_with 169 = .ok (.lload 5, 2) := by decide +kernel
theorem d_Mo_with_171 : decode c_Mo_with 171 = .ok (.lcmp, 1) := by decide +kernel
theorem d_Mo_with_172 : decode c_Mo_with 172 = .ok (.ifCond .ge 8, 3) := by decide +kernel
theorem d_Mo_with_175 : decode c_Mo_with 175 = .ok (.lload 10, 2) := by decide +kernel
theorem d_Mo_with_177 : decode c_Mo_with 177 = .ok (.goto 5, 3) := by decide +kernel
theorem d_Mo_with_180 : decode c_Mo_with 180 = .ok (.lload 5, 2) := by decide +kernel
theorem d_Mo_with_182 : decode c_Mo_with 182 = .ok (.lstore 5, 2) := by decide +kernel
theorem d_Mo_with_184 : decode c_Mo_with 184 = .ok (.aload_n 0, 1) := by decide +kernel
theorem d_Mo_with_185 : decode c_Mo_with 185 = .ok (.getfield 64, 3) := by decide +kernel
theorem d_Mo_with_188 : decode c_Mo_with 188 = .ok (.iload 7, 2) := by decide +kernel
theorem d_Mo_with_190 : decode c_Mo_with 190 = .ok (.aload_n 0, 1) := by decide +kernel
theorem d_Mo_with_191 : decode c_Mo_with 191 = .ok (.getfield 118, 3) := by decide +kernel
theorem d_Mo_with_194 : decode c_Mo_with 194 = .ok (.isub, 1) := by decide +kernel
theorem d_Mo_with_195 : decode c_Mo_with 195 = .ok (.lload 5, 2) := by decide +kernel
theorem d_Mo_with_197 : decode c_Mo_with 197 = .ok (.lastore, 1) := by decide +kernel
theorem d_Mo_with_198 : decode c_Mo_with 198 = .ok (.iinc 7 1, 3) := by decide +kernel
theorem d_Mo_with_201 : decode c_Mo_with 201 = .ok (.goto (-136), 3) := by decide +kernel
theorem d_Mo_with_204 : decode c_Mo_with 204 = .ok (.lload 5, 2) := by decide +kernel
theorem d_Mo_with_206 : decode c_Mo_with 206 = .ok (.lreturn, 1) := by decide +kernel
theorem d_Mo_without_0 : decode c_Mo_without 0 = .ok (.aload_n 0, 1) := by decide +kernel
theorem d_Mo_without_1 : decode c_Mo_without 1 = .ok (.getfield 61, 3) := by decide +kernel
theorem d_Mo_without_4 : decode c_Mo_without 4 = .ok (.sipush 1000, 3) := by decide +kernel
theorem d_Mo_without_7 : decode c_Mo_without 7 = .ok (.iload_n 1, 1) := by decide +kernel
theorem d_Mo_without_8 : decode c_Mo_without 8 = .ok (.imul, 1) := by decide +kernel
theorem d_Mo_without_9 : decode c_Mo_without 9 = .ok (.aload_n 0, 1) := by decide +kernel
theorem d_Mo_without_10 : decode c_Mo_without 10 = .ok (.getfield 118, 3) := by decide +kernel
theorem d_Mo_without_13 : decode c_Mo_without 13 = .ok (.iadd, 1) := by decide +kernel
theorem d_Mo_without_14 : decode c_Mo_without 14 = .ok (.iaload, 1) := by decide +kernel
theorem d_Mo_without_15 : decode c_Mo_without 15 = .ok (.iconst (-1), 1) := by decide +kernel
theorem d_Mo_without_16 : decode c_Mo_without 16 = .ok (.if_icmp .ne 7, 3) := by decide +kernel
theorem d_Mo_without_19 : decode c_Mo_without 19 = .ok (.lconst 0, 1) := by decide +kernel
theorem d_Mo_without_20 : decode c_Mo_without 20 = .ok (.goto 20, 3) := by decide +kernel
theorem d_Mo_without_23 : decode c_Mo_without 23 = .ok (.aload_n 0, 1) := by decide +kernel
theorem d_Mo_without_24 : decode c_Mo_without 24 = .ok (.getfield 58, 3) := by decide +kernel
theorem d_Mo_without_27 : decode c_Mo_without 27 = .ok (.sipush 1000, 3) := by decide +kernel
theorem d_Mo_without_30 : decode c_Mo_without 30 = .ok (.iload_n 1, 1) := by decide +kernel
theorem d_Mo_without_31 : decode c_Mo_without 31 = .ok (.imul, 1) := by decide +kernel
theorem d_Mo_without_32 : decode c_Mo_without 32 = .ok (.aload_n 0, 1) := by decide +kernel
theorem d_Mo_without_33 : decode c_Mo_without 33 = .ok (.getfield 106, 3) := by decide +kernel
theorem d_Mo_without_36 : decode c_Mo_without 36 = .ok (.iadd, 1) := by decide +kernel
theorem d_Mo_without_37 : decode c_Mo_without 37 = .ok (.iconst 1, 1) := by decide +kernel
theorem d_Mo_without_38 : decode c_Mo_without 38 = .ok (.isub, 1) := by decide +kernel
theorem d_Mo_without_39 : decode c_Mo_without 39 = .ok (.laload, 1) := by decide +kernel
theorem d_Mo_without_40 : decode c_Mo_without 40 = .ok (.lreturn, 1) := by decide +kernel
theorem d_Mo_isTaken_0 : decode c_Mo_isTaken 0 = .ok (.ldc2_w 109, 3) := by decide +kernel
theorem d_Mo_isTaken_3 : decode c_Mo_isTaken 3 = .ok (.lstore_n 2, 1) := by decide +kernel
theorem d_Mo_isTaken_4 : decode c_Mo_isTaken 4 = .ok (.iconst (-1), 1) := by decide +kernel
theorem d_Mo_isTaken_5 : decode c_Mo_isTaken 5 = .ok (.istore 4, 2) := by decide +kernel
theorem d_Mo_isTaken_7 : decode c_Mo_isTaken 7 = .ok (.iconst 0, 1) := by decide +kernel
theorem d_Mo_isTaken_8 : decode c_Mo_isTaken 8 = .ok (.istore 5, 2) := by decide +kernel
theorem d_Mo_isTaken_10 : decode c_Mo_isTaken 10 = .ok (.iload 5, 2) := by decide +kernel
theorem d_Mo_isTaken_12 : decode c_Mo_isTaken 12 = .ok (.aload_n 0, 1) := by decide +kernel
theorem d_Mo_isTaken_13 : decode c_Mo_isTaken 13 = .ok (.getfield 67, 3) := by decide +kernel
theorem d_Mo_isTaken_16 : decode c_Mo_isTaken 16 = .ok (.if_icmp .ge 126, 3) := by decide +kernel
theorem d_Mo_isTaken_19 : decode c_Mo_isTaken 19 = .ok (.iconst 0, 1) := by decide +kernel
theorem d_Mo_isTaken_20 : decode c_Mo_isTaken 20 = .ok (.istore 6, 2) := by decide +kernel
theorem d_Mo_isTaken_22 : decode c_Mo_isTaken 22 = .ok (.iload 6, 2) := by decide +kernel
theorem d_Mo_isTaken_24 : decode c_Mo_isTaken 24 = .ok (.aload_n 0, 1) := by decide +kernel
theorem d_Mo_isTaken_25 : decode c_Mo_isTaken 25 = .ok (.getfield 73, 3) := by decide +kernel
theorem d_Mo_isTaken_28 : decode c_Mo_isTaken 28 = .ok (.if_icmp .ge 108, 3) := by decide +kernel
theorem d_Mo_isTaken_31 : decode c_Mo_isTaken 31 = .ok (.aload_n 0, 1) := by decide +kernel
theorem d_Mo_isTaken_32 : decode c_Mo_isTaken 32 = .ok (.iload 5, 2) := by decide +kernel
theorem d_Mo_isTaken_34 : decode c_Mo_isTaken 34 = .ok (.iload 6, 2) := by decide +kernel
theorem d_Mo_isTaken_36 : decode c_Mo_isTaken 36 = .ok (.invokevirtual 129, 3) := by decide +kernel
theorem d_Mo_isTaken_39 : decode c_Mo_isTaken 39 = .ok (.ifCond .ne 6, 3) := by decide +kernel
theorem d_Mo_isTaken_42 : decode c_Mo_isTaken 42 = .ok (.goto 88, 3) := by decide +kernel
theorem d_Mo_isTaken_45 : decode c_Mo_isTaken 45 = .ok (.aload_n 0, 1) := by decide +kernel
theorem d_Mo_isTaken_46 : decode c_Mo_isTaken 46 = .ok (.iload 6, 2) := by decide +kernel
theorem d_Mo_isTaken_48 : decode c_Mo_isTaken 48 = .ok (.putfield 118, 3) := by decide +kernel
theorem d_Mo_isTaken_51 : decode c_Mo_isTaken 51 = .ok (.aload_n 0, 1) := by decide +kernel
theorem d_Mo_isTaken_52 : decode c_Mo_isTaken 52 = .ok (.aload_n 0, 1) := by decide +kernel
theorem d_Mo_isTaken_53 : decode c_Mo_isTaken 53 = .ok (.iload 5, 2) := by decide +kernel
theorem d_Mo_isTaken_55 : decode c_Mo_isTaken 55 = .ok (.iload 6, 2) := by decide +kernel
theorem d_Mo_isTaken_57 : decode c_Mo_isTaken 57 = .ok (.invokevirtual 133, 3) := by decide +kernel
theorem d_Mo_isTaken_60 : decode c_Mo_isTaken 60 = .ok (.putfield 106, 3) := by decide +kernel
theorem d_Mo_isTaken_63 : decode c_Mo_isTaken 63 = .ok (.aload_n 0, 1) := by decide +kernel
theorem d_Mo_isTaken_64 : decode c_Mo_isTaken 64 = .ok (.iload 5, 2) := by decide +kernel
theorem d_Mo_isTaken_66 : decode c_Mo_isTaken 66 = .ok (.iload_n 1, 1) := by decide +kernel
theorem d_Mo_isTaken_67 : decode c_Mo_isTaken 67 = .ok (.invokevirtual 136, 3) := by decide +kernel
theorem d_Mo_isTaken_70 : decode c_Mo_isTaken 70 = .ok (.lstore 7, 2) := by decide +kernel
theorem d_Mo_isTaken_72 : decode c_Mo_isTaken 72 = .ok (.lload 7, 2) := by decide +kernel
theorem d_Mo_isTaken_74 : decode c_Mo_isTaken 74 = .ok (.aload_n 0, 1) := by decide +kernel
theorem d_Mo_isTaken_75 : decode c_Mo_isTaken 75 = .ok (.iload 5, 2) := by decide +kernel
theorem d_Mo_isTaken_77 : decode c_Mo_isTaken 77 = .ok (.invokevirtual 139, 3) := by decide +kernel
theorem d_Mo_isTaken_80 : decode c_Mo_isTaken 80 = .ok (.lsub, 1) := by decide +kernel
theorem d_Mo_isTaken_81 : decode c_Mo_isTaken 81 = .ok (.ldc2_w 98, 3) := by decide +kernel
theorem d_Mo_isTaken_84 : decode c_Mo_isTaken 84 = .ok (.iload 5, 2) := by decide +kernel
theorem d_Mo_isTaken_86 : decode c_Mo_isTaken 86 = .ok (.aload_n 0, 1) := by decide +kernel
theorem d_Mo_isTaken_87 : decode c_Mo_isTaken 87 = .ok (.getfield 26, 3) := by decide +kernel
theorem d_Mo_isTaken_90 : decode c_Mo_isTaken 90 = .ok (.iload_n 1, 1) := by decide +kernel
theorem d_Mo_isTaken_91 : decode c_Mo_isTaken 91 = .ok (.iaload, 1) := by decide +kernel
theorem d_Mo_isTaken_92 : decode c_Mo_isTaken 92 = .ok (.invokestatic 115, 3) := by decide +kernel
theorem d_Mo_isTaken_95 : decode c_Mo_isTaken 95 = .ok (.i2l, 1) := by decide +kernel
theorem d_Mo_isTaken_96 : decode c_Mo_isTaken 96 = .ok (.lmul, 1) := by decide +kernel
theorem d_Mo_isTaken_97 : decode c_Mo_isTaken 97 = .ok (.ladd, 1) := by decide +kernel
theorem d_Mo_isTaken_98 : decode c_Mo_isTaken 98 = .ok (.lstore 9, 2) := by decide +kernel
theorem d_Mo_isTaken_100 : decode c_Mo_isTaken 100 = .ok (.lload 7, 2) := by decide +kernel
theorem d_Mo_isTaken_102 : decode c_Mo_isTaken 102 = .ok (.ldc2_w 109, 3) := by decide +kernel
theorem d_Mo_isTaken_105 : decode c_Mo_isTaken 105 = .ok (.lcmp, 1) := by decide +kernel
theorem d_Mo_isTaken_106 : decode c_Mo_isTaken 106 = .ok (.ifCond .ge 24, 3) := by decide +kernel
theorem d_Mo_isTaken_109 : decode c_Mo_isTaken 109 = .ok (.lload 9, 2) := by decide +kernel
theorem d_Mo_isTaken_111 : decode c_Mo_isTaken 111 = .ok (.lload_n 2, 1) := by decide +kernel
theorem d_Mo_isTaken_112 : decode c_Mo_isTaken 112 = .ok (.lcmp, 1) := by decide +kernel
theorem d_Mo_isTaken_113 : decode c_Mo_isTaken 113 = .ok (.ifCond .ge 17, 3) := by decide +kernel
theorem d_Mo_isTaken_116 : decode c_Mo_isTaken 116 = .ok (.lload 9, 2) := by decide +kernel
theorem d_Mo_isTaken_118 : decode c_Mo_isTaken 118 = .ok (.lstore_n 2, 1) := by decide +kernel
theorem d_Mo_isTaken_119 : decode c_Mo_isTaken 119 = .ok (.sipush 1000, 3) := by decide +kernel
theorem d_Mo_isTaken_122 : decode c_Mo_isTaken 122 = .ok (.iload 5, 2) := by decide +kernel
theorem d_Mo_isTaken_124 : decode c_Mo_isTaken 124 = .ok (.imul, 1) := by decide +kernel
theorem d_Mo_isTaken_125 : decode c_Mo_isTaken 125 = .ok (.iload 6, 2) := by decide +kernel
theorem d_Mo_isTaken_127 : decode c_Mo_isTaken 127 = .ok (.iadd, 1) := by decide +kernel
theorem d_Mo_isTaken_128 : decode c_Mo_isTaken 128 = .ok (.istore 4, 2) := by decide +kernel
theorem d_Mo_isTaken_130 : decode c_Mo_isTaken 130 = .ok (.iinc 6 1, 3) := by decide +kernel
theorem d_Mo_isTaken_133 : decode c_Mo_isTaken 133 = .ok (.goto (-111), 3) := by decide +kernel
theorem d_Mo_isTaken_136 : decode c_Mo_isTaken 136 = .ok (.iinc 5 1, 3) := by decide +kernel
theorem d_Mo_isTaken_139 : decode c_Mo_isTaken 139 = .ok (.goto (-129), 3) := by decide +kernel
theorem d_Mo_isTaken_142 : decode c_Mo_isTaken 142 = .ok (.aload_n 0, 1) := by decide +kernel
theorem d_Mo_isTaken_143 : decode c_Mo_isTaken 143 = .ok (.getfield 44, 3) := by decide +kernel
theorem d_Mo_isTaken_146 : decode c_Mo_isTaken 146 = .ok (.iload_n 1, 1) := by decide +kernel
theorem d_Mo_isTaken_147 : decode c_Mo_isTaken 147 = .ok (.iload 4, 2) := by decide +kernel
theorem d_Mo_isTaken_149 : decode c_Mo_isTaken 149 = .ok (.iastore, 1) := by decide +kernel
theorem d_Mo_isTaken_150 : decode c_Mo_isTaken 150 = .ok (.iload 4, 2) := by decide +kernel
theorem d_Mo_isTaken_152 : decode c_Mo_isTaken 152 = .ok (.iconst (-1), 1) := by decide +kernel
theorem d_Mo_isTaken_153 : decode c_Mo_isTaken 153 = .ok (.if_icmp .ne 5, 3) := by decide +kernel
theorem d_Mo_isTaken_156 : decode c_Mo_isTaken 156 = .ok (.iconst 0, 1) := by decide +kernel
theorem d_Mo_isTaken_157 : decode c_Mo_isTaken 157 = .ok (.ireturn, 1) := by decide +kernel
theorem d_Mo_isTaken_158 : decode c_Mo_isTaken 158 = .ok (.aload_n 0, 1) := by decide +kernel
theorem d_Mo_isTaken_159 : decode c_Mo_isTaken 159 = .ok (.iload 4, 2) := by decide +kernel
theorem d_Mo_isTaken_161 : decode c_Mo_isTaken 161 = .ok (.sipush 1000, 3) := by decide +kernel
theorem d_Mo_isTaken_164 : decode c_Mo_isTaken 164 = .ok (.irem, 1) := by decide +kernel
theorem d_Mo_isTaken_165 : decode c_Mo_isTaken 165 = .ok (.putfield 118, 3) := by decide +kernel
theorem d_Mo_isTaken_168 : decode c_Mo_isTaken 168 = .ok (.aload_n 0, 1) := by decide +kernel
theorem d_Mo_isTaken_169 : decode c_Mo_isTaken 169 = .ok (.aload_n 0, 1) := by decide +kernel
theorem d_Mo_isTaken_170 : decode c_Mo_isTaken 170 = .ok (.iload 4, 2) := by decide +kernel
theorem d_Mo_isTaken_172 : decode c_Mo_isTaken 172 = .ok (.sipush 1000, 3) := by decide +kernel
theorem d_Mo_isTaken_175 : decode c_Mo_isTaken 175 = .ok (.idiv, 1) := by decide +kernel
theorem d_Mo_isTaken_176 : decode c_Mo_isTaken 176 = .ok (.aload_n 0, 1) := by decide +kernel
theorem d_Mo_isTaken_177 : decode c_Mo_isTaken 177 = .ok (.getfield 118, 3) := by decide +kernel
theorem d_Mo_isTaken_180 : decode c_Mo_isTaken 180 = .ok (.invokevirtual 133, 3) := by decide +kernel
theorem d_Mo_isTaken_183 : decode c_Mo_isTaken 183 = .ok (.putfield 106, 3) := by decide +kernel
theorem d_Mo_isTaken_186 : decode c_Mo_isTaken 186 = .ok (.aload_n 0, 1) := by decide +kernel
theorem d_Mo_isTaken_187 : decode c_Mo_isTaken 187 = .ok (.iload 4, 2) := by decide +kernel
theorem d_Mo_isTaken_189 : decode c_Mo_isTaken 189 = .ok (.sipush 1000, 3) := by decide +kernel
theorem d_Mo_isTaken_192 : decode c_Mo_isTaken 192 = .ok (.idiv, 1) := by decide +kernel
theorem d_Mo_isTaken_193 : decode c_Mo_isTaken 193 = .ok (.iload_n 1, 1) := by decide +kernel
theorem d_Mo_isTaken_194 : decode c_Mo_isTaken 194 = .ok (.invokevirtual 136, 3) := by decide +kernel
theorem d_Mo_isTaken_197 : decode c_Mo_isTaken 197 = .ok (.pop2, 1) := by decide +kernel
theorem d_Mo_isTaken_198 : decode c_Mo_isTaken 198 = .ok (.aload_n 0, 1) := by decide +kernel
theorem d_Mo_isTaken_199 : decode c_Mo_isTaken 199 = .ok (.getfield 118, 3) := by decide +kernel
theorem d_Mo_isTaken_202 : decode c_Mo_isTaken 202 = .ok (.istore 5, 2) := by decide +kernel
theorem d_Mo_isTaken_204 : decode c_Mo_isTaken 204 = .ok (.iload 5, 2) := by decide +kernel
theorem d_Mo_isTaken_206 : decode c_Mo_isTaken 206 = .ok (.aload_n 0, 1) := by decide +kernel
theorem d_Mo_isTaken_207 : decode c_Mo_isTaken 207 = .ok (.getfield 106, 3) := by decide +kernel
theorem d_Mo_isTaken_210 : decode c_Mo_isTaken 210 = .ok (.if_icmp .ge 39, 3) := by decide +kernel
theorem d_Mo_isTaken_213 : decode c_Mo_isTaken 213 = .ok (.aload_n 0, 1) := by decide +kernel
theorem d_Mo_isTaken_214 : decode c_Mo_isTaken 214 = .ok (.getfield 58, 3) := by decide +kernel
theorem d_Mo_isTaken_217 : decode c_Mo_isTaken 217 = .ok (.sipush 1000, 3) := by decide +kernel
theorem d_Mo_isTaken_220 : decode c_Mo_isTaken 220 = .ok (.iload 4, 2) := by decide +kernel
theorem d_Mo_isTaken_222 : decode c_Mo_isTaken 222 = .ok (.sipush 1000, 3) := by decide +kernel
theorem d_Mo_isTaken_225 : decode c_Mo_isTaken 225 = .ok (.idiv, 1) := by decide +kernel
theorem d_Mo_isTaken_226 : decode c_Mo_isTaken 226 = .ok (.imul, 1) := by decide +kernel
theorem d_Mo_isTaken_227 : decode c_Mo_isTaken 227 = .ok (.iload 5, 2) := by decide +kernel
theorem d_Mo_isTaken_229 : decode c_Mo_isTaken 229 = .ok (.iadd, 1) := by decide +kernel
theorem d_Mo_isTaken_230 : decode c_Mo_isTaken 230 = .ok (.aload_n 0, 1) := by decide +kernel
theorem d_Mo_isTaken_231 : decode c_Mo_isTaken 231 = .ok (.getfield 64, 3) := by decide +kernel
theorem d_Mo_isTaken_234 : decode c_Mo_isTaken 234 = .ok (.iload 5, 2) := by decide +kernel
theorem d_Mo_isTaken_236 : decode c_Mo_isTaken 236 = .ok (.aload_n 0, 1) := by decide +kernel
theorem d_Mo_isTaken_237 : decode c_Mo_isTaken 237 = .ok (.getfield 118, 3) := by decide +kernel
theorem d_Mo_isTaken_240 : decode c_Mo_isTaken 240 = .ok (.isub, 1) := by decide +kernel
theorem d_Mo_isTaken_241 : decode c_Mo_isTaken 241 = .ok (.laload, 1) := by decide +kernel
theorem d_Mo_isTaken_242 : decode c_Mo_isTaken 242 = .ok (.lastore, 1) := by decide +kernel
theorem d_Mo_isTaken_243 : decode c_Mo_isTaken 243 = .ok (.iinc 5 1, 3) := by decide +kernel
theorem d_Mo_isTaken_246 : decode c_Mo_isTaken 246 = .ok (.goto (-42), 3) := by decide +kernel
theorem d_Mo_isTaken_249 : decode c_Mo_isTaken 249 = .ok (.aload_n 0, 1) := by decide +kernel
theorem d_Mo_isTaken_250 : decode c_Mo_isTaken 250 = .ok (.getfield 61, 3) := by decide +kernel
theorem d_Mo_isTaken_253 : decode c_Mo_isTaken 253 = .ok (.iload 4, 2) := by decide +kernel
theorem d_Mo_isTaken_255 : decode c_Mo_isTaken 255 = .ok (.iload_n 1, 1) := by decide +kernel
theorem d_Mo_isTaken_256 : decode c_Mo_isTaken 256 = .ok (.iastore, 1) := by decide +kernel
theorem d_Mo_isTaken_257 : decode c_Mo_isTaken 257 = .ok (.iconst 1, 1) := by decide +kernel
theorem d_Mo_isTaken_258 : decode c_Mo_isTaken 258 = .ok (.ireturn, 1) := by decide +kernel
theorem d_Mo_run_0 : decode c_Mo_run 0 = .ok (.aload_n 0, 1) := by decide +kernel
theorem d_Mo_run_1 : decode c_Mo_run 1 = .ok (.iconst 0, 1) := by decide +kernel
theorem d_Mo_run_2 : decode c_Mo_run 2 = .ok (.putfield 76, 3) := by decide +kernel
theorem d_Mo_run_5 : decode c_Mo_run 5 = .ok (.aload_n 0, 1) := by decide +kernel
theorem d_Mo_run_6 : decode c_Mo_run 6 = .ok (.iconst 0, 1) := by decide +kernel
theorem d_Mo_run_7 : decode c_Mo_run 7 = .ok (.putfield 84, 3) := by decide +kernel
theorem d_Mo_run_10 : decode c_Mo_run 10 = .ok (.aload_n 0, 1) := by decide +kernel
theorem d_Mo_run_11 : decode c_Mo_run 11 = .ok (.invokevirtual 143, 3) := by decide +kernel
theorem d_Mo_run_14 : decode c_Mo_run 14 = .ok (.iconst 0, 1) := by decide +kernel
theorem d_Mo_run_15 : decode c_Mo_run 15 = .ok (.istore_n 1, 1) := by decide +kernel
theorem d_Mo_run_16 : decode c_Mo_run 16 = .ok (.iload_n 1, 1) := by decide +kernel
theorem d_Mo_run_17 : decode c_Mo_run 17 = .ok (.sipush 16000, 3) := by decide +kernel
theorem d_Mo_run_20 : decode c_Mo_run 20 = .ok (.if_icmp .ge 16, 3) := by decide +kernel
theorem d_Mo_run_23 : decode c_Mo_run 23 = .ok (.aload_n 0, 1) := by decide +kernel
theorem d_Mo_run_24 : decode c_Mo_run 24 = .ok (.getfield 61, 3) := by decide +kernel
theorem d_Mo_run_27 : decode c_Mo_run 27 = .ok (.iload_n 1, 1) := by decide +kernel
theorem d_Mo_run_28 : decode c_Mo_run 28 = .ok (.iconst (-1), 1) := by decide +kernel
theorem d_Mo_run_29 : decode c_Mo_run 29 = .ok (.iastore, 1) := by decide +kernel
theorem d_Mo_run_30 : decode c_Mo_run 30 = .ok (.iinc 1 1, 3) := by decide +kernel
theorem d_Mo_run_33 : decode c_Mo_run 33 = .ok (.goto (-17), 3) := by decide +kernel
theorem d_Mo_run_36 : decode c_Mo_run 36 = .ok (.aload_n 0, 1) := by decide +kernel
theorem d_Mo_run_37 : decode c_Mo_run 37 = .ok (.iconst 0, 1) := by decide +kernel
theorem d_Mo_run_38 : decode c_Mo_run 38 = .ok (.putfield 103, 3) := by decide +kernel
theorem d_Mo_run_41 : decode c_Mo_run 41 = .ok (.aload_n 0, 1) := by decide +kernel
theorem d_Mo_run_42 : decode c_Mo_run 42 = .ok (.getfield 103, 3) := by decide +kernel
theorem d_Mo_run_45 : decode c_Mo_run 45 = .ok (.aload_n 0, 1) := by decide +kernel
theorem d_Mo_run_46 : decode c_Mo_run 46 = .ok (.getfield 79, 3) := by decide +kernel
theorem d_Mo_run_49 : decode c_Mo_run 49 = .ok (.if_icmp .ge 44, 3) := by decide +kernel
theorem d_Mo_run_52 : decode c_Mo_run 52 = .ok (.aload_n 0, 1) := by decide +kernel
theorem d_Mo_run_53 : decode c_Mo_run 53 = .ok (.aload_n 0, 1) := by decide +kernel
theorem d_Mo_run_54 : decode c_Mo_run 54 = .ok (.getfield 55, 3) := by decide +kernel
theorem d_Mo_run_57 : decode c_Mo_run 57 = .ok (.aload_n 0, 1) := by decide +kernel
theorem d_Mo_run_58 : decode c_Mo_run 58 = .ok (.getfield 103, 3) := by decide +kernel
theorem d_Mo_run_61 : decode c_Mo_run 61 = .ok (.iaload, 1) := by decide +kernel
theorem d_Mo_run_62 : decode c_Mo_run 62 = .ok (.invokevirtual 146, 3) := by decide +kernel
theorem d_Mo_run_65 : decode c_Mo_run 65 = .ok (.ifCond .ne 15, 3) := by decide +kernel
theorem d_Mo_run_68 : decode c_Mo_run 68 = .ok (.iconst 1, 1) := by decide +kernel
theorem d_Mo_run_69 : decode c_Mo_run 69 = .ok (.aload_n 0, 1) := by decide +kernel
theorem d_Mo_run_70 : decode c_Mo_run 70 = .ok (.getfield 55, 3) := by decide +kernel
theorem d_Mo_run_73 : decode c_Mo_run 73 = .ok (.aload_n 0, 1) := by decide +kernel
theorem d_Mo_run_74 : decode c_Mo_run 74 = .ok (.getfield 103, 3) := by decide +kernel
theorem d_Mo_run_77 : decode c_Mo_run 77 = .ok (.iaload, 1) := by decide +kernel
theorem d_Mo_run_78 : decode c_Mo_run 78 = .ok (.iadd, 1) := by decide +kernel
theorem d_Mo_run_79 : decode c_Mo_run 79 = .ok (.ireturn, 1) := by decide +kernel
theorem d_Mo_run_80 : decode c_Mo_run 80 = .ok (.aload_n 0, 1) := by decide +kernel
theorem d_Mo_run_81 : decode c_Mo_run 81 = .ok (.dup, 1) := by decide +kernel
theorem d_Mo_run_82 : decode c_Mo_run 82 = .ok (.getfield 103, 3) := by decide +kernel
theorem d_Mo_run_85 : decode c_Mo_run 85 = .ok (.iconst 1, 1) := by decide +kernel
theorem d_Mo_run_86 : decode c_Mo_run 86 = .ok (.iadd, 1) := by decide +kernel
theorem d_Mo_run_87 : decode c_Mo_run 87 = .ok (.putfield 103, 3) := by decide +kernel
theorem d_Mo_run_90 : decode c_Mo_run 90 = .ok (.goto (-49), 3) := by decide +kernel
theorem d_Mo_run_93 : decode c_Mo_run 93 = .ok (.iconst 0, 1) := by decide +kernel
theorem d_Mo_run_94 : decode c_Mo_run 94 = .ok (.istore_n 1, 1) := by decide +kernel
theorem d_Mo_run_95 : decode c_Mo_run 95 = .ok (.iload_n 1, 1) := by decide +kernel
theorem d_Mo_run_96 : decode c_Mo_run 96 = .ok (.aload_n 0, 1) := by decide +kernel
theorem d_Mo_run_97 : decode c_Mo_run 97 = .ok (.getfield 67, 3) := by decide +kernel
theorem d_Mo_run_100 : decode c_Mo_run 100 = .ok (.if_icmp .ge 60, 3) := by decide +kernel
theorem d_Mo_run_103 : decode c_Mo_run 103 = .ok (.iconst 0, 1) := by decide +kernel
theorem d_Mo_run_104 : decode c_Mo_run 104 = .ok (.istore_n 2, 1) := by decide +kernel
theorem d_Mo_run_105 : decode c_Mo_run 105 = .ok (.iload_n 2, 1) := by decide +kernel
theorem d_Mo_run_106 : decode c_Mo_run 106 = .ok (.aload_n 0, 1) := by decide +kernel
theorem d_Mo_run_107 : decode c_Mo_run 107 = .ok (.getfield 73, 3) := by decide +kernel
theorem d_Mo_run_110 : decode c_Mo_run 110 = .ok (.if_icmp .ge 44, 3) := by decide +kernel
theorem d_Mo_run_113 : decode c_Mo_run 113 = .ok (.aload_n 0, 1) := by decide +kernel
theorem d_Mo_run_114 : decode c_Mo_run 114 = .ok (.iload_n 1, 1) := by decide +kernel
theorem d_Mo_run_115 : decode c_Mo_run 115 = .ok (.iload_n 2, 1) := by decide +kernel
theorem d_Mo_run_116 : decode c_Mo_run 116 = .ok (.invokevirtual 129, 3) := by decide +kernel
theorem d_Mo_run_119 : decode c_Mo_run 119 = .ok (.ifCond .eq 29, 3) := by decide +kernel
theorem d_Mo_run_122 : decode c_Mo_run 122 = .ok (.aload_n 0, 1) := by decide +kernel
theorem d_Mo_run_123 : decode c_Mo_run 123 = .ok (.iload_n 2, 1) := by decide +kernel
theorem d_Mo_run_124 : decode c_Mo_run 124 = .ok (.putfield 118, 3) := by decide +kernel
theorem d_Mo_run_127 : decode c_Mo_run 127 = .ok (.aload_n 0, 1) := by decide +kernel
theorem d_Mo_run_128 : decode c_Mo_run 128 = .ok (.aload_n 0, 1) := by decide +kernel
theorem d_Mo_run_129 : decode c_Mo_run 129 = .ok (.iload_n 1, 1) := by decide +kernel
theorem d_Mo_run_130 : decode c_Mo_run 130 = .ok (.iload_n 2, 1) := by decide +kernel
theorem d_Mo_run_131 : decode c_Mo_run 131 = .ok (.invokevirtual 133, 3) := by decide +kernel
theorem d_Mo_run_134 : decode c_Mo_run 134 = .ok (.putfield 106, 3) := by decide +kernel
theorem d_Mo_run_137 : decode c_Mo_run 137 = .ok (.aload_n 0, 1) := by decide +kernel
theorem d_Mo_run_138 : decode c_Mo_run 138 = .ok (.iload_n 1, 1) := by decide +kernel
theorem d_Mo_run_139 : decode c_Mo_run 139 = .ok (.iload_n 2, 1) := by decide +kernel
theorem d_Mo_run_140 : decode c_Mo_run 140 = .ok (.invokevirtual 149, 3) := by decide +kernel
theorem d_Mo_run_143 : decode c_Mo_run 143 = .ok (.aload_n 0, 1) := by decide +kernel
theorem d_Mo_run_144 : decode c_Mo_run 144 = .ok (.iload_n 1, 1) := by decide +kernel
theorem d_Mo_run_145 : decode c_Mo_run 145 = .ok (.invokevirtual 153, 3) := by decide +kernel
theorem d_Mo_run_148 : decode c_Mo_run 148 = .ok (.iinc 2 1, 3) := by decide +kernel
theorem d_Mo_run_151 : decode c_Mo_run 151 = .ok (.goto (-46), 3) := by decide +kernel
theorem d_Mo_run_154 : decode c_Mo_run 154 = .ok (.iinc 1 1, 3) := by decide +kernel
theorem d_Mo_run_157 : decode c_Mo_run 157 = .ok (.goto (-62), 3) := by decide +kernel
theorem d_Mo_run_160 : decode c_Mo_run 160 = .ok (.aload_n 0, 1) := by decide +kernel
theorem d_Mo_run_161 : decode c_Mo_run 161 = .ok (.iconst 1, 1) := by decide +kernel
theorem d_Mo_run_162 : decode c_Mo_run 162 = .ok (.putfield 84, 3) := by decide +kernel
theorem d_Mo_run_165 : decode c_Mo_run 165 = .ok (.iconst 0, 1) := by decide +kernel
theorem d_Mo_run_166 : decode c_Mo_run 166 = .ok (.ireturn, 1) := by decide +kernel
theorem d_Mo_faultOf_0 : decode c_Mo_faultOf 0 = .ok (.aload_n 0, 1) := by decide +kernel
theorem d_Mo_faultOf_1 : decode c_Mo_faultOf 1 = .ok (.iload_n 1, 1) := by decide +kernel
theorem d_Mo_faultOf_2 : decode c_Mo_faultOf 2 = .ok (.invokevirtual 88, 3) := by decide +kernel
theorem d_Mo_faultOf_5 : decode c_Mo_faultOf 5 = .ok (.ifCond .ne 7, 3) := by decide +kernel
theorem d_Mo_faultOf_8 : decode c_Mo_faultOf 8 = .ok (.iconst 1, 1) := by decide +kernel
theorem d_Mo_faultOf_9 : decode c_Mo_faultOf 9 = .ok (.goto 15, 3) := by decide +kernel
theorem d_Mo_faultOf_12 : decode c_Mo_faultOf 12 = .ok (.aload_n 0, 1) := by decide +kernel
theorem d_Mo_faultOf_13 : decode c_Mo_faultOf 13 = .ok (.getfield 84, 3) := by decide +kernel
theorem d_Mo_faultOf_16 : decode c_Mo_faultOf 16 = .ok (.ifCond .eq 7, 3) := by decide +kernel
theorem d_Mo_faultOf_19 : decode c_Mo_faultOf 19 = .ok (.iconst 0, 1) := by decide +kernel
theorem d_Mo_faultOf_20 : decode c_Mo_faultOf 20 = .ok (.goto 4, 3) := by decide +kernel
theorem d_Mo_faultOf_23 : decode c_Mo_faultOf 23 = .ok (.iconst 2, 1) := by decide +kernel
theorem d_Mo_faultOf_24 : decode c_Mo_faultOf 24 = .ok (.ireturn, 1) := by decide +kernel
theorem d_Mo_at_0 : decode c_Mo_at 0 = .ok (.aload_n 0, 1) := by decide +kernel
theorem d_Mo_at_1 : decode c_Mo_at 1 = .ok (.aload_n 0, 1) := by decide +kernel
theorem d_Mo_at_2 : decode c_Mo_at 2 = .ok (.iload_n 1, 1) := by decide +kernel
theorem d_Mo_at_3 : decode c_Mo_at 3 = .ok (.invokevirtual 157, 3) := by decide +kernel
theorem d_Mo_at_6 : decode c_Mo_at 6 = .ok (.putfield 76, 3) := by decide +kernel
theorem d_Mo_at_9 : decode c_Mo_at 9 = .ok (.aload_n 0, 1) := by decide +kernel
theorem d_Mo_at_10 : decode c_Mo_at 10 = .ok (.getfield 76, 3) := by decide +kernel
theorem d_Mo_at_13 : decode c_Mo_at 13 = .ok (.ifCond .le 7, 3) := by decide +kernel
theorem d_Mo_at_16 : decode c_Mo_at 16 = .ok (.lconst 0, 1) := by decide +kernel
theorem d_Mo_at_17 : decode c_Mo_at 17 = .ok (.goto 10, 3) := by decide +kernel
theorem d_Mo_at_20 : decode c_Mo_at 20 = .ok (.aload_n 0, 1) := by decide +kernel
theorem d_Mo_at_21 : decode c_Mo_at 21 = .ok (.getfield 38, 3) := by decide +kernel
theorem d_Mo_at_24 : decode c_Mo_at 24 = .ok (.iload_n 1, 1) := by decide +kernel
theorem d_Mo_at_25 : decode c_Mo_at 25 = .ok (.iaload, 1) := by decide +kernel
theorem d_Mo_at_26 : decode c_Mo_at 26 = .ok (.i2l, 1) := by decide +kernel
theorem d_Mo_at_27 : decode c_Mo_at 27 = .ok (.lreturn, 1) := by decide +kernel
theorem d_Mo_rowOf_0 : decode c_Mo_rowOf 0 = .ok (.aload_n 0, 1) := by decide +kernel
theorem d_Mo_rowOf_1 : decode c_Mo_rowOf 1 = .ok (.aload_n 0, 1) := by decide +kernel
theorem d_Mo_rowOf_2 : decode c_Mo_rowOf 2 = .ok (.iload_n 1, 1) := by decide +kernel
theorem d_Mo_rowOf_3 : decode c_Mo_rowOf 3 = .ok (.invokevirtual 157, 3) := by decide +kernel
theorem d_Mo_rowOf_6 : decode c_Mo_rowOf 6 = .ok (.putfield 76, 3) := by decide +kernel
theorem d_Mo_rowOf_9 : decode c_Mo_rowOf 9 = .ok (.aload_n 0, 1) := by decide +kernel
theorem d_Mo_rowOf_10 : decode c_Mo_rowOf 10 = .ok (.getfield 76, 3) := by decide +kernel
theorem d_Mo_rowOf_13 : decode c_Mo_rowOf 13 = .ok (.ifCond .le 7, 3) := by decide +kernel
theorem d_Mo_rowOf_16 : decode c_Mo_rowOf 16 = .ok (.iconst 0, 1) := by decide +kernel
theorem d_Mo_rowOf_17 : decode c_Mo_rowOf 17 = .ok (.goto 9, 3) := by decide +kernel
theorem d_Mo_rowOf_20 : decode c_Mo_rowOf 20 = .ok (.aload_n 0, 1) := by decide +kernel
theorem d_Mo_rowOf_21 : decode c_Mo_rowOf 21 = .ok (.getfield 41, 3) := by decide +kernel
theorem d_Mo_rowOf_24 : decode c_Mo_rowOf 24 = .ok (.iload_n 1, 1) := by decide +kernel
theorem d_Mo_rowOf_25 : decode c_Mo_rowOf 25 = .ok (.iaload, 1) := by decide +kernel
theorem d_Mo_rowOf_26 : decode c_Mo_rowOf 26 = .ok (.ireturn, 1) := by decide +kernel
theorem d_Mo_mirrored_0 : decode c_Mo_mirrored 0 = .ok (.aload_n 0, 1) := by decide +kernel
theorem d_Mo_mirrored_1 : decode c_Mo_mirrored 1 = .ok (.aload_n 0, 1) := by decide +kernel
theorem d_Mo_mirrored_2 : decode c_Mo_mirrored 2 = .ok (.iload_n 1, 1) := by decide +kernel
theorem d_Mo_mirrored_3 : decode c_Mo_mirrored 3 = .ok (.invokevirtual 157, 3) := by decide +kernel
theorem d_Mo_mirrored_6 : decode c_Mo_mirrored 6 = .ok (.putfield 76, 3) := by decide +kernel
theorem d_Mo_mirrored_9 : decode c_Mo_mirrored 9 = .ok (.aload_n 0, 1) := by decide +kernel
theorem d_Mo_mirrored_10 : decode c_Mo_mirrored 10 = .ok (.getfield 76, 3) := by decide +kernel
theorem d_Mo_mirrored_13 : decode c_Mo_mirrored 13 = .ok (.ifCond .ne 19, 3) := by decide +kernel
theorem d_Mo_mirrored_16 : decode c_Mo_mirrored 16 = .ok (.aload_n 0, 1) := by decide +kernel
theorem d_Mo_mirrored_17 : decode c_Mo_mirrored 17 = .ok (.getfield 41, 3) := by decide +kernel
theorem d_Mo_mirrored_20 : decode c_Mo_mirrored 20 = .ok (.iload_n 1, 1) := by decide +kernel
theorem d_Mo_mirrored_21 : decode c_Mo_mirrored 21 = .ok (.iaload, 1) := by decide +kernel
theorem d_Mo_mirrored_22 : decode c_Mo_mirrored 22 = .ok (.iconst 2, 1) := by decide +kernel
theorem d_Mo_mirrored_23 : decode c_Mo_mirrored 23 = .ok (.irem, 1) := by decide +kernel
theorem d_Mo_mirrored_24 : decode c_Mo_mirrored 24 = .ok (.iconst 1, 1) := by decide +kernel
theorem d_Mo_mirrored_25 : decode c_Mo_mirrored 25 = .ok (.if_icmp .ne 7, 3) := by decide +kernel
theorem d_Mo_mirrored_28 : decode c_Mo_mirrored 28 = .ok (.iconst 1, 1) := by decide +kernel
theorem d_Mo_mirrored_29 : decode c_Mo_mirrored 29 = .ok (.goto 4, 3) := by decide +kernel
theorem d_Mo_mirrored_32 : decode c_Mo_mirrored 32 = .ok (.iconst 0, 1) := by decide +kernel
theorem d_Mo_mirrored_33 : decode c_Mo_mirrored 33 = .ok (.ireturn, 1) := by decide +kernel
theorem d_Mo_moved_0 : decode c_Mo_moved 0 = .ok (.aload_n 0, 1) := by decide +kernel
theorem d_Mo_moved_1 : decode c_Mo_moved 1 = .ok (.aload_n 0, 1) := by decide +kernel
theorem d_Mo_moved_2 : decode c_Mo_moved 2 = .ok (.getfield 84, 3) := by decide +kernel
theorem d_Mo_moved_5 : decode c_Mo_moved 5 = .ok (.ifCond .eq 7, 3) := by decide +kernel
theorem d_Mo_moved_8 : decode c_Mo_moved 8 = .ok (.iconst 0, 1) := by decide +kernel
theorem d_Mo_moved_9 : decode c_Mo_moved 9 = .ok (.goto 4, 3) := by decide +kernel
theorem d_Mo_moved_12 : decode c_Mo_moved 12 = .ok (.iconst 1, 1) := by decide +kernel
theorem d_Mo_moved_13 : decode c_Mo_moved 13 = .ok (.putfield 76, 3) := by decide +kernel
theorem d_Mo_moved_16 : decode c_Mo_moved 16 = .ok (.lconst 0, 1) := by decide +kernel
theorem d_Mo_moved_17 : decode c_Mo_moved 17 = .ok (.lstore_n 1, 1) := by decide +kernel
theorem d_Mo_moved_18 : decode c_Mo_moved 18 = .ok (.iconst 0, 1) := by decide +kernel
theorem d_Mo_moved_19 : decode c_Mo_moved 19 = .ok (.istore_n 3, 1) := by decide +kernel
theorem d_Mo_moved_20 : decode c_Mo_moved 20 = .ok (.iload_n 3, 1) := by decide +kernel
theorem d_Mo_moved_21 : decode c_Mo_moved 21 = .ok (.aload_n 0, 1) := by decide +kernel
theorem d_Mo_moved_22 : decode c_Mo_moved 22 = .ok (.getfield 79, 3) := by decide +kernel
theorem d_Mo_moved_25 : decode c_Mo_moved 25 = .ok (.if_icmp .ge 56, 3) := by decide +kernel
theorem d_Mo_moved_28 : decode c_Mo_moved 28 = .ok (.aload_n 0, 1) := by decide +kernel
theorem d_Mo_moved_29 : decode c_Mo_moved 29 = .ok (.getfield 76, 3) := by decide +kernel
theorem d_Mo_moved_32 : decode c_Mo_moved 32 = .ok (.ifCond .ne 49, 3) := by decide +kernel
theorem d_Mo_moved_35 : decode c_Mo_moved 35 = .ok (.lload_n 1, 1) := by decide +kernel
theorem d_Mo_moved_36 : decode c_Mo_moved 36 = .ok (.aload_n 0, 1) := by decide +kernel
theorem d_Mo_moved_37 : decode c_Mo_moved 37 = .ok (.getfield 38, 3) := by decide +kernel
theorem d_Mo_moved_40 : decode c_Mo_moved 40 = .ok (.iload_n 3, 1) := by decide +kernel
theorem d_Mo_moved_41 : decode c_Mo_moved 41 = .ok (.iaload, 1) := by decide +kernel
theorem d_Mo_moved_42 : decode c_Mo_moved 42 = .ok (.aload_n 0, 1) := by decide +kernel
theorem d_Mo_moved_43 : decode c_Mo_moved 43 = .ok (.getfield 23, 3) := by decide +kernel
theorem d_Mo_moved_46 : decode c_Mo_moved 46 = .ok (.iload_n 3, 1) := by decide +kernel
theorem d_Mo_moved_47 : decode c_Mo_moved 47 = .ok (.iaload, 1) := by decide +kernel
theorem d_Mo_moved_48 : decode c_Mo_moved 48 = .ok (.invokestatic 115, 3) := by decide +kernel
theorem d_Mo_moved_51 : decode c_Mo_moved 51 = .ok (.i2l, 1) := by decide +kernel
theorem d_Mo_moved_52 : decode c_Mo_moved 52 = .ok (.ldc2_w 98, 3) := by decide +kernel
theorem d_Mo_moved_55 : decode c_Mo_moved 55 = .ok (.aload_n 0, 1) := by decide +kernel
theorem d_Mo_moved_56 : decode c_Mo_moved 56 = .ok (.getfield 41, 3) := by decide +kernel
theorem d_Mo_moved_59 : decode c_Mo_moved 59 = .ok (.iload_n 3, 1) := by decide +kernel
theorem d_Mo_moved_60 : decode c_Mo_moved 60 = .ok (.iaload, 1) := by decide +kernel
theorem d_Mo_moved_61 : decode c_Mo_moved 61 = .ok (.aload_n 0, 1) := by decide +kernel
theorem d_Mo_moved_62 : decode c_Mo_moved 62 = .ok (.getfield 26, 3) := by decide +kernel
theorem d_Mo_moved_65 : decode c_Mo_moved 65 = .ok (.iload_n 3, 1) := by decide +kernel
theorem d_Mo_moved_66 : decode c_Mo_moved 66 = .ok (.iaload, 1) := by decide +kernel
theorem d_Mo_moved_67 : decode c_Mo_moved 67 = .ok (.invokestatic 115, 3) := by decide +kernel
theorem d_Mo_moved_70 : decode c_Mo_moved 70 = .ok (.i2l, 1) := by decide +kernel
theorem d_Mo_moved_71 : decode c_Mo_moved 71 = .ok (.lmul, 1) := by decide +kernel
theorem d_Mo_moved_72 : decode c_Mo_moved 72 = .ok (.ladd, 1) := by decide +kernel
theorem d_Mo_moved_73 : decode c_Mo_moved 73 = .ok (.ladd, 1) := by decide +kernel
theorem d_Mo_moved_74 : decode c_Mo_moved 74 = .ok (.lstore_n 1, 1) := by decide +kernel
theorem d_Mo_moved_75 : decode c_Mo_moved 75 = .ok (.iinc 3 1, 3) := by decide +kernel
theorem d_Mo_moved_78 : decode c_Mo_moved 78 = .ok (.goto (-58), 3) := by decide +kernel
theorem d_Mo_moved_81 : decode c_Mo_moved 81 = .ok (.lload_n 1, 1) := by decide +kernel
theorem d_Mo_moved_82 : decode c_Mo_moved 82 = .ok (.lreturn, 1) := by decide +kernel
theorem d_Mo_wireOf_0 : decode c_Mo_wireOf 0 = .ok (.lconst 0, 1) := by decide +kernel
theorem d_Mo_wireOf_1 : decode c_Mo_wireOf 1 = .ok (.lstore_n 1, 1) := by decide +kernel
theorem d_Mo_wireOf_2 : decode c_Mo_wireOf 2 = .ok (.iconst 0, 1) := by decide +kernel
theorem d_Mo_wireOf_3 : decode c_Mo_wireOf 3 = .ok (.istore_n 3, 1) := by decide +kernel
theorem d_Mo_wireOf_4 : decode c_Mo_wireOf 4 = .ok (.iload_n 3, 1) := by decide +kernel
theorem d_Mo_wireOf_5 : decode c_Mo_wireOf 5 = .ok (.aload_n 0, 1) := by decide +kernel
theorem d_Mo_wireOf_6 : decode c_Mo_wireOf 6 = .ok (.getfield 161, 3) := by decide +kernel
theorem d_Mo_wireOf_9 : decode c_Mo_wireOf 9 = .ok (.if_icmp .ge 89, 3) := by decide +kernel
theorem d_Mo_wireOf_12 : decode c_Mo_wireOf 12 = .ok (.aload_n 0, 1) := by decide +kernel
theorem d_Mo_wireOf_13 : decode c_Mo_wireOf 13 = .ok (.getfield 32, 3) := by decide +kernel
theorem d_Mo_wireOf_16 : decode c_Mo_wireOf 16 = .ok (.iload_n 3, 1) := by decide +kernel
theorem d_Mo_wireOf_17 : decode c_Mo_wireOf 17 = .ok (.iaload, 1) := by decide +kernel
theorem d_Mo_wireOf_18 : decode c_Mo_wireOf 18 = .ok (.istore 4, 2) := by decide +kernel
theorem d_Mo_wireOf_20 : decode c_Mo_wireOf 20 = .ok (.aload_n 0, 1) := by decide +kernel
theorem d_Mo_wireOf_21 : decode c_Mo_wireOf 21 = .ok (.getfield 35, 3) := by decide +kernel
theorem d_Mo_wireOf_24 : decode c_Mo_wireOf 24 = .ok (.iload_n 3, 1) := by decide +kernel
theorem d_Mo_wireOf_25 : decode c_Mo_wireOf 25 = .ok (.iaload, 1) := by decide +kernel
theorem d_Mo_wireOf_26 : decode c_Mo_wireOf 26 = .ok (.istore 5, 2) := by decide +kernel
theorem d_Mo_wireOf_28 : decode c_Mo_wireOf 28 = .ok (.lload_n 1, 1) := by decide +kernel
theorem d_Mo_wireOf_29 : decode c_Mo_wireOf 29 = .ok (.iconst 2, 1) := by decide +kernel
theorem d_Mo_wireOf_30 : decode c_Mo_wireOf 30 = .ok (.aload_n 0, 1) := by decide +kernel
theorem d_Mo_wireOf_31 : decode c_Mo_wireOf 31 = .ok (.getfield 38, 3) := by decide +kernel
theorem d_Mo_wireOf_34 : decode c_Mo_wireOf 34 = .ok (.iload 4, 2) := by decide +kernel
theorem d_Mo_wireOf_36 : decode c_Mo_wireOf 36 = .ok (.iaload, 1) := by decide +kernel
theorem d_Mo_wireOf_37 : decode c_Mo_wireOf 37 = .ok (.imul, 1) := by decide +kernel
theorem d_Mo_wireOf_38 : decode c_Mo_wireOf 38 = .ok (.aload_n 0, 1) := by decide +kernel
theorem d_Mo_wireOf_39 : decode c_Mo_wireOf 39 = .ok (.getfield 13, 3) := by decide +kernel
theorem d_Mo_wireOf_42 : decode c_Mo_wireOf 42 = .ok (.iload 4, 2) := by decide +kernel
theorem d_Mo_wireOf_44 : decode c_Mo_wireOf 44 = .ok (.iaload, 1) := by decide +kernel
theorem d_Mo_wireOf_45 : decode c_Mo_wireOf 45 = .ok (.iadd, 1) := by decide +kernel
theorem d_Mo_wireOf_46 : decode c_Mo_wireOf 46 = .ok (.iconst 2, 1) := by decide +kernel
theorem d_Mo_wireOf_47 : decode c_Mo_wireOf 47 = .ok (.aload_n 0, 1) := by decide +kernel
theorem d_Mo_wireOf_48 : decode c_Mo_wireOf 48 = .ok (.getfield 38, 3) := by decide +kernel
theorem d_Mo_wireOf_51 : decode c_Mo_wireOf 51 = .ok (.iload 5, 2) := by decide +kernel
theorem d_Mo_wireOf_53 : decode c_Mo_wireOf 53 = .ok (.iaload, 1) := by decide +kernel
theorem d_Mo_wireOf_54 : decode c_Mo_wireOf 54 = .ok (.imul, 1) := by decide +kernel
theorem d_Mo_wireOf_55 : decode c_Mo_wireOf 55 = .ok (.aload_n 0, 1) := by decide +kernel
theorem d_Mo_wireOf_56 : decode c_Mo_wireOf 56 = .ok (.getfield 13, 3) := by decide +kernel
theorem d_Mo_wireOf_59 : decode c_Mo_wireOf 59 = .ok (.iload 5, 2) := by decide +kernel
theorem d_Mo_wireOf_61 : decode c_Mo_wireOf 61 = .ok (.iaload, 1) := by decide +kernel
theorem d_Mo_wireOf_62 : decode c_Mo_wireOf 62 = .ok (.iadd, 1) := by decide +kernel
theorem d_Mo_wireOf_63 : decode c_Mo_wireOf 63 = .ok (.invokestatic 115, 3) := by decide +kernel
theorem d_Mo_wireOf_66 : decode c_Mo_wireOf 66 = .ok (.i2l, 1) := by decide +kernel
theorem d_Mo_wireOf_67 : decode c_Mo_wireOf 67 = .ok (.ldc2_w 82, 3) := by decide +kernel
theorem d_Mo_wireOf_70 : decode c_Mo_wireOf 70 = .ok (.aload_n 0, 1) := by decide +kernel
theorem d_Mo_wireOf_71 : decode c_Mo_wireOf 71 = .ok (.getfield 41, 3) := by decide +kernel
theorem d_Mo_wireOf_74 : decode c_Mo_wireOf 74 = .ok (.iload 4, 2) := by decide +kernel
theorem d_Mo_wireOf_76 : decode c_Mo_wireOf 76 = .ok (.iaload, 1) := by decide +kernel
theorem d_Mo_wireOf_77 : decode c_Mo_wireOf 77 = .ok (.aload_n 0, 1) := by decide +kernel
theorem d_Mo_wireOf_78 : decode c_Mo_wireOf 78 = .ok (.getfield 41, 3) := by decide +kernel
theorem d_Mo_wireOf_81 : decode c_Mo_wireOf 81 = .ok (.iload 5, 2) := by decide +kernel
theorem d_Mo_wireOf_83 : decode c_Mo_wireOf 83 = .ok (.iaload, 1) := by decide +kernel
theorem d_Mo_wireOf_84 : decode c_Mo_wireOf 84 = .ok (.invokestatic 115, 3) := by decide +kernel
theorem d_Mo_wireOf_87 : decode c_Mo_wireOf 87 = .ok (.i2l, 1) := by decide +kernel
theorem d_Mo_wireOf_88 : decode c_Mo_wireOf 88 = .ok (.lmul, 1) := by decide +kernel
theorem d_Mo_wireOf_89 : decode c_Mo_wireOf 89 = .ok (.ladd, 1) := by decide +kernel
theorem d_Mo_wireOf_90 : decode c_Mo_wireOf 90 = .ok (.ladd, 1) := by decide +kernel
theorem d_Mo_wireOf_91 : decode c_Mo_wireOf 91 = .ok (.lstore_n 1, 1) := by decide +kernel
theorem d_Mo_wireOf_92 : decode c_Mo_wireOf 92 = .ok (.iinc 3 1, 3) := by decide +kernel
theorem d_Mo_wireOf_95 : decode c_Mo_wireOf 95 = .ok (.goto (-91), 3) := by decide +kernel
theorem d_Mo_wireOf_98 : decode c_Mo_wireOf 98 = .ok (.lload_n 1, 1) := by decide +kernel
theorem d_Mo_wireOf_99 : decode c_Mo_wireOf 99 = .ok (.lreturn, 1) := by decide +kernel
theorem d_Mo_exchange_0 : decode c_Mo_exchange 0 = .ok (.aload_n 0, 1) := by decide +kernel
theorem d_Mo_exchange_1 : decode c_Mo_exchange 1 = .ok (.getfield 38, 3) := by decide +kernel
theorem d_Mo_exchange_4 : decode c_Mo_exchange 4 = .ok (.iload_n 1, 1) := by decide +kernel
theorem d_Mo_exchange_5 : decode c_Mo_exchange 5 = .ok (.iaload, 1) := by decide +kernel
theorem d_Mo_exchange_6 : decode c_Mo_exchange 6 = .ok (.istore_n 3, 1) := by decide +kernel
theorem d_Mo_exchange_7 : decode c_Mo_exchange 7 = .ok (.aload_n 0, 1) := by decide +kernel
theorem d_Mo_exchange_8 : decode c_Mo_exchange 8 = .ok (.getfield 41, 3) := by decide +kernel
theorem d_Mo_exchange_11 : decode c_Mo_exchange 11 = .ok (.iload_n 1, 1) := by decide +kernel
theorem d_Mo_exchange_12 : decode c_Mo_exchange 12 = .ok (.iaload, 1) := by decide +kernel
theorem d_Mo_exchange_13 : decode c_Mo_exchange 13 = .ok (.istore 4, 2) := by decide +kernel
theorem d_Mo_exchange_15 : decode c_Mo_exchange 15 = .ok (.aload_n 0, 1) := by decide +kernel
theorem d_Mo_exchange_16 : decode c_Mo_exchange 16 = .ok (.getfield 38, 3) := by decide +kernel
theorem d_Mo_exchange_19 : decode c_Mo_exchange 19 = .ok (.iload_n 1, 1) := by decide +kernel
theorem d_Mo_exchange_20 : decode c_Mo_exchange 20 = .ok (.aload_n 0, 1) := by decide +kernel
theorem d_Mo_exchange_21 : decode c_Mo_exchange 21 = .ok (.getfield 38, 3) := by decide +kernel
theorem d_Mo_exchange_24 : decode c_Mo_exchange 24 = .ok (.iload_n 2, 1) := by decide +kernel
theorem d_Mo_exchange_25 : decode c_Mo_exchange 25 = .ok (.iaload, 1) := by decide +kernel
theorem d_Mo_exchange_26 : decode c_Mo_exchange 26 = .ok (.iastore, 1) := by decide +kernel
theorem d_Mo_exchange_27 : decode c_Mo_exchange 27 = .ok (.aload_n 0, 1) := by decide +kernel
theorem d_Mo_exchange_28 : decode c_Mo_exchange 28 = .ok (.getfield 41, 3) := by decide +kernel
theorem d_Mo_exchange_31 : decode c_Mo_exchange 31 = .ok (.iload_n 1, 1) := by decide +kernel
theorem d_Mo_exchange_32 : decode c_Mo_exchange 32 = .ok (.aload_n 0, 1) := by decide +kernel
theorem d_Mo_exchange_33 : decode c_Mo_exchange 33 = .ok (.getfield 41, 3) := by decide +kernel
theorem d_Mo_exchange_36 : decode c_Mo_exchange 36 = .ok (.iload_n 2, 1) := by decide +kernel
theorem d_Mo_exchange_37 : decode c_Mo_exchange 37 = .ok (.iaload, 1) := by decide +kernel
theorem d_Mo_exchange_38 : decode c_Mo_exchange 38 = .ok (.iastore, 1) := by decide +kernel
theorem d_Mo_exchange_39 : decode c_Mo_exchange 39 = .ok (.aload_n 0, 1) := by decide +kernel
theorem d_Mo_exchange_40 : decode c_Mo_exchange 40 = .ok (.getfield 38, 3) := by decide +kernel
theorem d_Mo_exchange_43 : decode c_Mo_exchange 43 = .ok (.iload_n 2, 1) := by decide +kernel
theorem d_Mo_exchange_44 : decode c_Mo_exchange 44 = .ok (.iload_n 3, 1) := by decide +kernel
theorem d_Mo_exchange_45 : decode c_Mo_exchange 45 = .ok (.iastore, 1) := by decide +kernel
theorem d_Mo_exchange_46 : decode c_Mo_exchange 46 = .ok (.aload_n 0, 1) := by decide +kernel
theorem d_Mo_exchange_47 : decode c_Mo_exchange 47 = .ok (.getfield 41, 3) := by decide +kernel
theorem d_Mo_exchange_50 : decode c_Mo_exchange 50 = .ok (.iload_n 2, 1) := by decide +kernel
theorem d_Mo_exchange_51 : decode c_Mo_exchange 51 = .ok (.iload 4, 2) := by decide +kernel
theorem d_Mo_exchange_53 : decode c_Mo_exchange 53 = .ok (.iastore, 1) := by decide +kernel
theorem d_Mo_exchange_54 : decode c_Mo_exchange 54 = .ok (.return_, 1) := by decide +kernel
theorem d_Mo_isExchanged_0 : decode c_Mo_isExchanged 0 = .ok (.aload_n 0, 1) := by decide +kernel
theorem d_Mo_isExchanged_1 : decode c_Mo_isExchanged 1 = .ok (.invokevirtual 164, 3) := by decide +kernel
theorem d_Mo_isExchanged_4 : decode c_Mo_isExchanged 4 = .ok (.lstore_n 1, 1) := by decide +kernel
theorem d_Mo_isExchanged_5 : decode c_Mo_isExchanged 5 = .ok (.iconst 0, 1) := by decide +kernel
theorem d_Mo_isExchanged_6 : decode c_Mo_isExchanged 6 = .ok (.istore_n 3, 1) := by decide +kernel
theorem d_Mo_isExchanged_7 : decode c_Mo_isExchanged 7 = .ok (.iload_n 3, 1) := by decide +kernel
theorem d_Mo_isExchanged_8 : decode c_Mo_isExchanged 8 = .ok (.aload_n 0, 1) := by decide +kernel
theorem d_Mo_isExchanged_9 : decode c_Mo_isExchanged 9 = .ok (.getfield 79, 3) := by decide +kernel
theorem d_Mo_isExchanged_12 : decode c_Mo_isExchanged 12 = .ok (.if_icmp .ge 105, 3) := by decide +kernel
theorem d_Mo_isExchanged_15 : decode c_Mo_isExchanged 15 = .ok (.iload_n 3, 1) := by decide +kernel
theorem d_Mo_isExchanged_16 : decode c_Mo_isExchanged 16 = .ok (.iconst 1, 1) := by decide +kernel
theorem d_Mo_isExchanged_17 : decode c_Mo_isExchanged 17 = .ok (.iadd, 1) := by decide +kernel
theorem d_Mo_isExchanged_18 : decode c_Mo_isExchanged 18 = .ok (.istore 4, 2) := by decide +kernel
theorem d_Mo_isExchanged_20 : decode c_Mo_isExchanged 20 = .ok (.iload 4, 2) := by decide +kernel
theorem d_Mo_isExchanged_22 : decode c_Mo_isExchanged 22 = .ok (.aload_n 0, 1) := by decide +kernel
theorem d_Mo_isExchanged_23 : decode c_Mo_isExchanged 23 = .ok (.getfield 79, 3) := by decide +kernel
theorem d_Mo_isExchanged_26 : decode c_Mo_isExchanged 26 = .ok (.if_icmp .ge 85, 3) := by decide +kernel
theorem d_Mo_isExchanged_29 : decode c_Mo_isExchanged 29 = .ok (.aload_n 0, 1) := by decide +kernel
theorem d_Mo_isExchanged_30 : decode c_Mo_isExchanged 30 = .ok (.getfield 13, 3) := by decide +kernel
theorem d_Mo_isExchanged_33 : decode c_Mo_isExchanged 33 = .ok (.iload_n 3, 1) := by decide +kernel
theorem d_Mo_isExchanged_34 : decode c_Mo_isExchanged 34 = .ok (.iaload, 1) := by decide +kernel
theorem d_Mo_isExchanged_35 : decode c_Mo_isExchanged 35 = .ok (.aload_n 0, 1) := by decide +kernel
theorem d_Mo_isExchanged_36 : decode c_Mo_isExchanged 36 = .ok (.getfield 13, 3) := by decide +kernel
theorem d_Mo_isExchanged_39 : decode c_Mo_isExchanged 39 = .ok (.iload 4, 2) := by decide +kernel
theorem d_Mo_isExchanged_41 : decode c_Mo_isExchanged 41 = .ok (.iaload, 1) := by decide +kernel
theorem d_Mo_isExchanged_42 : decode c_Mo_isExchanged 42 = .ok (.if_icmp .ne 63, 3) := by decide +kernel
theorem d_Mo_isExchanged_45 : decode c_Mo_isExchanged 45 = .ok (.aload_n 0, 1) := by decide +kernel
theorem d_Mo_isExchanged_46 : decode c_Mo_isExchanged 46 = .ok (.getfield 17, 3) := by decide +kernel
theorem d_Mo_isExchanged_49 : decode c_Mo_isExchanged 49 = .ok (.iload_n 3, 1) := by decide +kernel
theorem d_Mo_isExchanged_50 : decode c_Mo_isExchanged 50 = .ok (.iaload, 1) := by decide +kernel
theorem d_Mo_isExchanged_51 : decode c_Mo_isExchanged 51 = .ok (.aload_n 0, 1) := by decide +kernel
theorem d_Mo_isExchanged_52 : decode c_Mo_isExchanged 52 = .ok (.getfield 17, 3) := by decide +kernel
theorem d_Mo_isExchanged_55 : decode c_Mo_isExchanged 55 = .ok (.iload 4, 2) := by decide +kernel
theorem d_Mo_isExchanged_57 : decode c_Mo_isExchanged 57 = .ok (.iaload, 1) := by decide +kernel
theorem d_Mo_isExchanged_58 : decode c_Mo_isExchanged 58 = .ok (.if_icmp .ne 47, 3) := by decide +kernel
theorem d_Mo_isExchanged_61 : decode c_Mo_isExchanged 61 = .ok (.aload_n 0, 1) := by decide +kernel
theorem d_Mo_isExchanged_62 : decode c_Mo_isExchanged 62 = .ok (.getfield 20, 3) := by decide +kernel
theorem d_Mo_isExchanged_65 : decode c_Mo_isExchanged 65 = .ok (.iload_n 3, 1) := by decide +kernel
theorem d_Mo_isExchanged_66 : decode c_Mo_isExchanged 66 = .ok (.iaload, 1) := by decide +kernel
theorem d_Mo_isExchanged_67 : decode c_Mo_isExchanged 67 = .ok (.aload_n 0, 1) := by decide +kernel
theorem d_Mo_isExchanged_68 : decode c_Mo_isExchanged 68 = .ok (.getfield 20, 3) := by decide +kernel
theorem d_Mo_isExchanged_71 : decode c_Mo_isExchanged 71 = .ok (.iload 4, 2) := by decide +kernel
theorem d_Mo_isExchanged_73 : decode c_Mo_isExchanged 73 = .ok (.iaload, 1) := by decide +kernel
theorem d_Mo_isExchanged_74 : decode c_Mo_isExchanged 74 = .ok (.if_icmp .eq 6, 3) := by decide +kernel
theorem d_Mo_isExchanged_77 : decode c_Mo_isExchanged 77 = .ok (.goto 28, 3) := by decide +kernel
theorem d_Mo_isExchanged_80 : decode c_Mo_isExchanged 80 = .ok (.aload_n 0, 1) := by decide +kernel
theorem d_Mo_isExchanged_81 : decode c_Mo_isExchanged 81 = .ok (.iload_n 3, 1) := by decide +kernel
theorem d_Mo_isExchanged_82 : decode c_Mo_isExchanged 82 = .ok (.iload 4, 2) := by decide +kernel
theorem d_Mo_isExchanged_84 : decode c_Mo_isExchanged 84 = .ok (.invokevirtual 167, 3) := by decide +kernel
theorem d_Mo_isExchanged_87 : decode c_Mo_isExchanged 87 = .ok (.aload_n 0, 1) := by decide +kernel
theorem d_Mo_isExchanged_88 : decode c_Mo_isExchanged 88 = .ok (.invokevirtual 164, 3) := by decide +kernel
theorem d_Mo_isExchanged_91 : decode c_Mo_isExchanged 91 = .ok (.lload_n 1, 1) := by decide +kernel
theorem d_Mo_isExchanged_92 : decode c_Mo_isExchanged 92 = .ok (.lcmp, 1) := by decide +kernel
theorem d_Mo_isExchanged_93 : decode c_Mo_isExchanged 93 = .ok (.ifCond .ge 5, 3) := by decide +kernel
theorem d_Mo_isExchanged_96 : decode c_Mo_isExchanged 96 = .ok (.iconst 1, 1) := by decide +kernel
theorem d_Mo_isExchanged_97 : decode c_Mo_isExchanged 97 = .ok (.ireturn, 1) := by decide +kernel
theorem d_Mo_isExchanged_98 : decode c_Mo_isExchanged 98 = .ok (.aload_n 0, 1) := by decide +kernel
theorem d_Mo_isExchanged_99 : decode c_Mo_isExchanged 99 = .ok (.iload_n 3, 1) := by decide +kernel
theorem d_Mo_isExchanged_100 : decode c_Mo_isExchanged 100 = .ok (.iload 4, 2) := by decide +kernel
theorem d_Mo_isExchanged_102 : decode c_Mo_isExchanged 102 = .ok (.invokevirtual 167, 3) := by decide +kernel
theorem d_Mo_isExchanged_105 : decode c_Mo_isExchanged 105 = .ok (.iinc 4 1, 3) := by decide +kernel
theorem d_Mo_isExchanged_108 : decode c_Mo_isExchanged 108 = .ok (.goto (-88), 3) := by decide +kernel
theorem d_Mo_isExchanged_111 : decode c_Mo_isExchanged 111 = .ok (.iinc 3 1, 3) := by decide +kernel
theorem d_Mo_isExchanged_114 : decode c_Mo_isExchanged 114 = .ok (.goto (-107), 3) := by decide +kernel
theorem d_Mo_isExchanged_117 : decode c_Mo_isExchanged 117 = .ok (.iconst 0, 1) := by decide +kernel
theorem d_Mo_isExchanged_118 : decode c_Mo_isExchanged 118 = .ok (.ireturn, 1) := by decide +kernel
theorem d_Mo_improve_0 : decode c_Mo_improve 0 = .ok (.aload_n 0, 1) := by decide +kernel
theorem d_Mo_improve_1 : decode c_Mo_improve 1 = .ok (.aload_n 0, 1) := by decide +kernel
theorem d_Mo_improve_2 : decode c_Mo_improve 2 = .ok (.getfield 84, 3) := by decide +kernel
theorem d_Mo_improve_5 : decode c_Mo_improve 5 = .ok (.ifCond .ne 7, 3) := by decide +kernel
theorem d_Mo_improve_8 : decode c_Mo_improve 8 = .ok (.iconst 1, 1) := by decide +kernel
theorem d_Mo_improve_9 : decode c_Mo_improve 9 = .ok (.goto 12, 3) := by decide +kernel
theorem d_Mo_improve_12 : decode c_Mo_improve 12 = .ok (.iload_n 1, 1) := by decide +kernel
theorem d_Mo_improve_13 : decode c_Mo_improve 13 = .ok (.ifCond .ge 7, 3) := by decide +kernel
theorem d_Mo_improve_16 : decode c_Mo_improve 16 = .ok (.iconst 2, 1) := by decide +kernel
theorem d_Mo_improve_17 : decode c_Mo_improve 17 = .ok (.goto 4, 3) := by decide +kernel
theorem d_Mo_improve_20 : decode c_Mo_improve 20 = .ok (.iconst 0, 1) := by decide +kernel
theorem d_Mo_improve_21 : decode c_Mo_improve 21 = .ok (.putfield 76, 3) := by decide +kernel
theorem d_Mo_improve_24 : decode c_Mo_improve 24 = .ok (.iconst 0, 1) := by decide +kernel
theorem d_Mo_improve_25 : decode c_Mo_improve 25 = .ok (.istore_n 2, 1) := by decide +kernel
theorem d_Mo_improve_26 : decode c_Mo_improve 26 = .ok (.aload_n 0, 1) := by decide +kernel
theorem d_Mo_improve_27 : decode c_Mo_improve 27 = .ok (.getfield 76, 3) := by decide +kernel
theorem d_Mo_improve_30 : decode c_Mo_improve 30 = .ok (.ifCond .ne 21, 3) := by decide +kernel
theorem d_Mo_improve_33 : decode c_Mo_improve 33 = .ok (.iload_n 2, 1) := by decide +kernel
theorem d_Mo_improve_34 : decode c_Mo_improve 34 = .ok (.iload_n 1, 1) := by decide +kernel
theorem d_Mo_improve_35 : decode c_Mo_improve 35 = .ok (.if_icmp .ge 16, 3) := by decide +kernel
theorem d_Mo_improve_38 : decode c_Mo_improve 38 = .ok (.aload_n 0, 1) := by decide +kernel
theorem d_Mo_improve_39 : decode c_Mo_improve 39 = .ok (.invokevirtual 170, 3) := by decide +kernel
theorem d_Mo_improve_42 : decode c_Mo_improve 42 = .ok (.ifCond .eq 9, 3) := by decide +kernel
theorem d_Mo_improve_45 : decode c_Mo_improve 45 = .ok (.iinc 2 1, 3) := by decide +kernel
theorem d_Mo_improve_48 : decode c_Mo_improve 48 = .ok (.goto (-22), 3) := by decide +kernel
theorem d_Mo_improve_51 : decode c_Mo_improve 51 = .ok (.iload_n 2, 1) := by decide +kernel
theorem d_Mo_improve_52 : decode c_Mo_improve 52 = .ok (.ireturn, 1) := by decide +kernel
theorem d_Mo_net_0 : decode c_Mo_net 0 = .ok (.aload_n 0, 1) := by decide +kernel
theorem d_Mo_net_1 : decode c_Mo_net 1 = .ok (.aload_n 0, 1) := by decide +kernel
theorem d_Mo_net_2 : decode c_Mo_net 2 = .ok (.iload_n 1, 1) := by decide +kernel
theorem d_Mo_net_3 : decode c_Mo_net 3 = .ok (.invokevirtual 88, 3) := by decide +kernel
theorem d_Mo_net_6 : decode c_Mo_net 6 = .ok (.ifCond .eq 11, 3) := by decide +kernel
theorem d_Mo_net_9 : decode c_Mo_net 9 = .ok (.aload_n 0, 1) := by decide +kernel
theorem d_Mo_net_10 : decode c_Mo_net 10 = .ok (.iload_n 2, 1) := by decide +kernel
theorem d_Mo_net_11 : decode c_Mo_net 11 = .ok (.invokevirtual 88, 3) := by decide +kernel
theorem d_Mo_net_14 : decode c_Mo_net 14 = .ok (.ifCond .ne 7, 3) := by decide +kernel
theorem d_Mo_net_17 : decode c_Mo_net 17 = .ok (.iconst 1, 1) := by decide +kernel
theorem d_Mo_net_18 : decode c_Mo_net 18 = .ok (.goto 26, 3) := by decide +kernel
theorem d_Mo_net_21 : decode c_Mo_net 21 = .ok (.aload_n 0, 1) := by decide +kernel
theorem d_Mo_net_22 : decode c_Mo_net 22 = .ok (.getfield 161, 3) := by decide +kernel
theorem d_Mo_net_25 : decode c_Mo_net 25 = .ok (.bipush 80, 2) := by decide +kernel
theorem d_Mo_net_27 : decode c_Mo_net 27 = .ok (.if_icmp .ne 7, 3) := by decide +kernel
theorem d_Mo_net_30 : decode c_Mo_net 30 = .ok (.iconst 2, 1) := by decide +kernel
theorem d_Mo_net_31 : decode c_Mo_net 31 = .ok (.goto 13, 3) := by decide +kernel
theorem d_Mo_net_34 : decode c_Mo_net 34 = .ok (.iload_n 1, 1) := by decide +kernel
theorem d_Mo_net_35 : decode c_Mo_net 35 = .ok (.iload_n 2, 1) := by decide +kernel
theorem d_Mo_net_36 : decode c_Mo_net 36 = .ok (.if_icmp .ne 7, 3) := by decide +kernel
theorem d_Mo_net_39 : decode c_Mo_net 39 = .ok (.iconst 3, 1) := by decide +kernel
theorem d_Mo_net_40 : decode c_Mo_net 40 = .ok (.goto 4, 3) := by decide +kernel
theorem d_Mo_net_43 : decode c_Mo_net 43 = .ok (.iconst 0, 1) := by decide +kernel
theorem d_Mo_net_44 : decode c_Mo_net 44 = .ok (.putfield 76, 3) := by decide +kernel
theorem d_Mo_net_47 : decode c_Mo_net 47 = .ok (.aload_n 0, 1) := by decide +kernel
theorem d_Mo_net_48 : decode c_Mo_net 48 = .ok (.getfield 76, 3) := by decide +kernel
theorem d_Mo_net_51 : decode c_Mo_net 51 = .ok (.ifCond .le 5, 3) := by decide +kernel
theorem d_Mo_net_54 : decode c_Mo_net 54 = .ok (.iconst 0, 1) := by decide +kernel
theorem d_Mo_net_55 : decode c_Mo_net 55 = .ok (.ireturn, 1) := by decide +kernel
theorem d_Mo_net_56 : decode c_Mo_net 56 = .ok (.aload_n 0, 1) := by decide +kernel
theorem d_Mo_net_57 : decode c_Mo_net 57 = .ok (.getfield 32, 3) := by decide +kernel
theorem d_Mo_net_60 : decode c_Mo_net 60 = .ok (.aload_n 0, 1) := by decide +kernel
theorem d_Mo_net_61 : decode c_Mo_net 61 = .ok (.getfield 161, 3) := by decide +kernel
theorem d_Mo_net_64 : decode c_Mo_net 64 = .ok (.iload_n 1, 1) := by decide +kernel
theorem d_Mo_net_65 : decode c_Mo_net 65 = .ok (.iastore, 1) := by decide +kernel
theorem d_Mo_net_66 : decode c_Mo_net 66 = .ok (.aload_n 0, 1) := by decide +kernel
theorem d_Mo_net_67 : decode c_Mo_net 67 = .ok (.getfield 35, 3) := by decide +kernel
theorem d_Mo_net_70 : decode c_Mo_net 70 = .ok (.aload_n 0, 1) := by decide +kernel
theorem d_Mo_net_71 : decode c_Mo_net 71 = .ok (.getfield 161, 3) := by decide +kernel
theorem d_Mo_net_74 : decode c_Mo_net 74 = .ok (.iload_n 2, 1) := by decide +kernel
theorem d_Mo_net_75 : decode c_Mo_net 75 = .ok (.iastore, 1) := by decide +kernel
theorem d_Mo_net_76 : decode c_Mo_net 76 = .ok (.aload_n 0, 1) := by decide +kernel
theorem d_Mo_net_77 : decode c_Mo_net 77 = .ok (.dup, 1) := by decide +kernel
theorem d_Mo_net_78 : decode c_Mo_net 78 = .ok (.getfield 161, 3) := by decide +kernel
theorem d_Mo_net_81 : decode c_Mo_net 81 = .ok (.iconst 1, 1) := by decide +kernel
theorem d_Mo_net_82 : decode c_Mo_net 82 = .ok (.iadd, 1) := by decide +kernel
theorem d_Mo_net_83 : decode c_Mo_net 83 = .ok (.putfield 161, 3) := by decide +kernel
theorem d_Mo_net_86 : decode c_Mo_net 86 = .ok (.aload_n 0, 1) := by decide +kernel
theorem d_Mo_net_87 : decode c_Mo_net 87 = .ok (.getfield 161, 3) := by decide +kernel
theorem d_Mo_net_90 : decode c_Mo_net 90 = .ok (.iconst 1, 1) := by decide +kernel
theorem d_Mo_net_91 : decode c_Mo_net 91 = .ok (.isub, 1) := by decide +kernel
theorem d_Mo_net_92 : decode c_Mo_net 92 = .ok (.ireturn, 1) := by decide +kernel
theorem d_Mo_wire_0 : decode c_Mo_wire 0 = .ok (.aload_n 0, 1) := by decide +kernel
theorem d_Mo_wire_1 : decode c_Mo_wire 1 = .ok (.aload_n 0, 1) := by decide +kernel
theorem d_Mo_wire_2 : decode c_Mo_wire 2 = .ok (.getfield 84, 3) := by decide +kernel
theorem d_Mo_wire_5 : decode c_Mo_wire 5 = .ok (.ifCond .eq 7, 3) := by decide +kernel
theorem d_Mo_wire_8 : decode c_Mo_wire 8 = .ok (.iconst 0, 1) := by decide +kernel
theorem d_Mo_wire_9 : decode c_Mo_wire 9 = .ok (.goto 4, 3) := by decide +kernel
theorem d_Mo_wire_12 : decode c_Mo_wire 12 = .ok (.iconst 1, 1) := by decide +kernel
theorem d_Mo_wire_13 : decode c_Mo_wire 13 = .ok (.putfield 76, 3) := by decide +kernel
theorem d_Mo_wire_16 : decode c_Mo_wire 16 = .ok (.aload_n 0, 1) := by decide +kernel
theorem d_Mo_wire_17 : decode c_Mo_wire 17 = .ok (.getfield 76, 3) := by decide +kernel
theorem d_Mo_wire_20 : decode c_Mo_wire 20 = .ok (.ifCond .le 7, 3) := by decide +kernel
theorem d_Mo_wire_23 : decode c_Mo_wire 23 = .ok (.lconst 0, 1) := by decide +kernel
theorem d_Mo_wire_24 : decode c_Mo_wire 24 = .ok (.goto 7, 3) := by decide +kernel
theorem d_Mo_wire_27 : decode c_Mo_wire 27 = .ok (.aload_n 0, 1) := by decide +kernel
theorem d_Mo_wire_28 : decode c_Mo_wire 28 = .ok (.invokevirtual 164, 3) := by decide +kernel
theorem d_Mo_wire_31 : decode c_Mo_wire 31 = .ok (.lreturn, 1) := by decide +kernel
theorem d_Mo_overlap_0 : decode c_Mo_overlap 0 = .ok (.aload_n 0, 1) := by decide +kernel
theorem d_Mo_overlap_1 : decode c_Mo_overlap 1 = .ok (.aload_n 0, 1) := by decide +kernel
theorem d_Mo_overlap_2 : decode c_Mo_overlap 2 = .ok (.getfield 84, 3) := by decide +kernel
theorem d_Mo_overlap_5 : decode c_Mo_overlap 5 = .ok (.ifCond .eq 7, 3) := by decide +kernel
theorem d_Mo_overlap_8 : decode c_Mo_overlap 8 = .ok (.iconst 0, 1) := by decide +kernel
theorem d_Mo_overlap_9 : decode c_Mo_overlap 9 = .ok (.goto 4, 3) := by decide +kernel
theorem d_Mo_overlap_12 : decode c_Mo_overlap 12 = .ok (.iconst 1, 1) := by decide +kernel
theorem d_Mo_overlap_13 : decode c_Mo_overlap 13 = .ok (.putfield 76, 3) := by decide +kernel
theorem d_Mo_overlap_16 : decode c_Mo_overlap 16 = .ok (.iconst 0, 1) := by decide +kernel
theorem d_Mo_overlap_17 : decode c_Mo_overlap 17 = .ok (.istore_n 1, 1) := by decide +kernel
theorem d_Mo_overlap_18 : decode c_Mo_overlap 18 = .ok (.iconst 0, 1) := by decide +kernel
theorem d_Mo_overlap_19 : decode c_Mo_overlap 19 = .ok (.istore_n 2, 1) := by decide +kernel
theorem d_Mo_overlap_20 : decode c_Mo_overlap 20 = .ok (.iload_n 2, 1) := by decide +kernel
theorem d_Mo_overlap_21 : decode c_Mo_overlap 21 = .ok (.aload_n 0, 1) := by decide +kernel
theorem d_Mo_overlap_22 : decode c_Mo_overlap 22 = .ok (.getfield 79, 3) := by decide +kernel
theorem d_Mo_overlap_25 : decode c_Mo_overlap 25 = .ok (.if_icmp .ge 158, 3) := by decide +kernel
theorem d_Mo_overlap_28 : decode c_Mo_overlap 28 = .ok (.aload_n 0, 1) := by decide +kernel
theorem d_Mo_overlap_29 : decode c_Mo_overlap 29 = .ok (.getfield 76, 3) := by decide +kernel
theorem d_Mo_overlap_32 : decode c_Mo_overlap 32 = .ok (.ifCond .ne 151, 3) := by decide +kernel
theorem d_Mo_overlap_35 : decode c_Mo_overlap 35 = .ok (.aload_n 0, 1) := by decide +kernel
theorem d_Mo_overlap_36 : decode c_Mo_overlap 36 = .ok (.getfield 38, 3) := by decide +kernel
theorem d_Mo_overlap_39 : decode c_Mo_overlap 39 = .ok (.iload_n 2, 1) := by decide +kernel
theorem d_Mo_overlap_40 : decode c_Mo_overlap 40 = .ok (.iaload, 1) := by decide +kernel
theorem d_Mo_overlap_41 : decode c_Mo_overlap 41 = .ok (.istore_n 3, 1) := by decide +kernel
theorem d_Mo_overlap_42 : decode c_Mo_overlap 42 = .ok (.iload_n 3, 1) := by decide +kernel
theorem d_Mo_overlap_43 : decode c_Mo_overlap 43 = .ok (.aload_n 0, 1) := by decide +kernel
theorem d_Mo_overlap_44 : decode c_Mo_overlap 44 = .ok (.getfield 38, 3) := by decide +kernel
theorem d_Mo_overlap_47 : decode c_Mo_overlap 47 = .ok (.iload_n 2, 1) := by decide +kernel
theorem d_Mo_overlap_48 : decode c_Mo_overlap 48 = .ok (.iaload, 1) := by decide +kernel
theorem d_Mo_overlap_49 : decode c_Mo_overlap 49 = .ok (.aload_n 0, 1) := by decide +kernel
theorem d_Mo_overlap_50 : decode c_Mo_overlap 50 = .ok (.getfield 13, 3) := by decide +kernel
theorem d_Mo_overlap_53 : decode c_Mo_overlap 53 = .ok (.iload_n 2, 1) := by decide +kernel
theorem d_Mo_overlap_54 : decode c_Mo_overlap 54 = .ok (.iaload, 1) := by decide +kernel
theorem d_Mo_overlap_55 : decode c_Mo_overlap 55 = .ok (.iadd, 1) := by decide +kernel
theorem d_Mo_overlap_56 : decode c_Mo_overlap 56 = .ok (.if_icmp .ge 39, 3) := by decide +kernel
theorem d_Mo_overlap_59 : decode c_Mo_overlap 59 = .ok (.iload_n 1, 1) := by decide +kernel
theorem d_Mo_overlap_60 : decode c_Mo_overlap 60 = .ok (.ifCond .ne 23, 3) := by decide +kernel
theorem d_Mo_overlap_63 : decode c_Mo_overlap 63 = .ok (.aload_n 0, 1) := by decide +kernel
theorem d_Mo_overlap_64 : decode c_Mo_overlap 64 = .ok (.getfield 7, 3) := by decide +kernel
theorem d_Mo_overlap_67 : decode c_Mo_overlap 67 = .ok (.sipush 1000, 3) := by decide +kernel
theorem d_Mo_overlap_70 : decode c_Mo_overlap 70 = .ok (.aload_n 0, 1) := by decide +kernel
theorem d_Mo_overlap_71 : decode c_Mo_overlap 71 = .ok (.getfield 41, 3) := by decide +kernel
theorem d_Mo_overlap_74 : decode c_Mo_overlap 74 = .ok (.iload_n 2, 1) := by decide +kernel
theorem d_Mo_overlap_75 : decode c_Mo_overlap 75 = .ok (.iaload, 1) := by decide +kernel
theorem d_Mo_overlap_76 : decode c_Mo_overlap 76 = .ok (.imul, 1) := by decide +kernel
theorem d_Mo_overlap_77 : decode c_Mo_overlap 77 = .ok (.iload_n 3, 1) := by decide +kernel
theorem d_Mo_overlap_78 : decode c_Mo_overlap 78 = .ok (.iadd, 1) := by decide +kernel
theorem d_Mo_overlap_79 : decode c_Mo_overlap 79 = .ok (.baload, 1) := by decide +kernel
theorem d_Mo_overlap_80 : decode c_Mo_overlap 80 = .ok (.ifCond .eq 7, 3) := by decide +kernel
theorem d_Mo_overlap_83 : decode c_Mo_overlap 83 = .ok (.iconst 1, 1) := by decide +kernel
theorem d_Mo_overlap_84 : decode c_Mo_overlap 84 = .ok (.goto 4, 3) := by decide +kernel
theorem d_Mo_overlap_87 : decode c_Mo_overlap 87 = .ok (.iconst 0, 1) := by decide +kernel
theorem d_Mo_overlap_88 : decode c_Mo_overlap 88 = .ok (.istore_n 1, 1) := by decide +kernel
theorem d_Mo_overlap_89 : decode c_Mo_overlap 89 = .ok (.iinc 3 1, 3) := by decide +kernel
theorem d_Mo_overlap_92 : decode c_Mo_overlap 92 = .ok (.goto (-50), 3) := by decide +kernel
theorem d_Mo_overlap_95 : decode c_Mo_overlap 95 = .ok (.iconst 0, 1) := by decide +kernel
theorem d_Mo_overlap_96 : decode c_Mo_overlap 96 = .ok (.istore_n 3, 1) := by decide +kernel
theorem d_Mo_overlap_97 : decode c_Mo_overlap 97 = .ok (.iload_n 3, 1) := by decide +kernel
theorem d_Mo_overlap_98 : decode c_Mo_overlap 98 = .ok (.iload_n 2, 1) := by decide +kernel
theorem d_Mo_overlap_99 : decode c_Mo_overlap 99 = .ok (.if_icmp .ge 78, 3) := by decide +kernel
theorem d_Mo_overlap_102 : decode c_Mo_overlap 102 = .ok (.iload_n 1, 1) := by decide +kernel
theorem d_Mo_overlap_103 : decode c_Mo_overlap 103 = .ok (.ifCond .ne 62, 3) := by decide +kernel
theorem d_Mo_overlap_106 : decode c_Mo_overlap 106 = .ok (.aload_n 0, 1) := by decide +kernel
theorem d_Mo_overlap_107 : decode c_Mo_overlap 107 = .ok (.getfield 41, 3) := by decide +kernel
theorem d_Mo_overlap_110 : decode c_Mo_overlap 110 = .ok (.iload_n 2, 1) := by decide +kernel
theorem d_Mo_overlap_111 : decode c_Mo_overlap 111 = .ok (.iaload, 1) := by decide +kernel
theorem d_Mo_overlap_112 : decode c_Mo_overlap 112 = .ok (.aload_n 0, 1) := by decide +kernel
theorem d_Mo_overlap_113 : decode c_Mo_overlap 113 = .ok (.getfield 41, 3) := by decide +kernel
theorem d_Mo_overlap_116 : decode c_Mo_overlap 116 = .ok (.iload_n 3, 1) := by decide +kernel
theorem d_Mo_overlap_117 : decode c_Mo_overlap 117 = .ok (.iaload, 1) := by decide +kernel
theorem d_Mo_overlap_118 : decode c_Mo_overlap 118 = .ok (.if_icmp .ne 51, 3) := by decide +kernel
theorem d_Mo_overlap_121 : decode c_Mo_overlap 121 = .ok (.aload_n 0, 1) := by decide +kernel
theorem d_Mo_overlap_122 : decode c_Mo_overlap 122 = .ok (.getfield 38, 3) := by decide +kernel
theorem d_Mo_overlap_125 : decode c_Mo_overlap 125 = .ok (.iload_n 2, 1) := by decide +kernel
theorem d_Mo_overlap_126 : decode c_Mo_overlap 126 = .ok (.iaload, 1) := by decide +kernel
theorem d_Mo_overlap_127 : decode c_Mo_overlap 127 = .ok (.aload_n 0, 1) := by decide +kernel
theorem d_Mo_overlap_128 : decode c_Mo_overlap 128 = .ok (.getfield 38, 3) := by decide +kernel
theorem d_Mo_overlap_131 : decode c_Mo_overlap 131 = .ok (.iload_n 3, 1) := by decide +kernel
theorem d_Mo_overlap_132 : decode c_Mo_overlap 132 = .ok (.iaload, 1) := by decide +kernel
theorem d_Mo_overlap_133 : decode c_Mo_overlap 133 = .ok (.aload_n 0, 1) := by decide +kernel
theorem d_Mo_overlap_134 : decode c_Mo_overlap 134 = .ok (.getfield 13, 3) := by decide +kernel
theorem d_Mo_overlap_137 : decode c_Mo_overlap 137 = .ok (.iload_n 3, 1) := by decide +kernel
theorem d_Mo_overlap_138 : decode c_Mo_overlap 138 = .ok (.iaload, 1) := by decide +kernel
theorem d_Mo_overlap_139 : decode c_Mo_overlap 139 = .ok (.iadd, 1) := by decide +kernel
theorem d_Mo_overlap_140 : decode c_Mo_overlap 140 = .ok (.if_icmp .ge 29, 3) := by decide +kernel
theorem d_Mo_overlap_143 : decode c_Mo_overlap 143 = .ok (.aload_n 0, 1) := by decide +kernel
theorem d_Mo_overlap_144 : decode c_Mo_overlap 144 = .ok (.getfield 38, 3) := by decide +kernel
theorem d_Mo_overlap_147 : decode c_Mo_overlap 147 = .ok (.iload_n 3, 1) := by decide +kernel
theorem d_Mo_overlap_148 : decode c_Mo_overlap 148 = .ok (.iaload, 1) := by decide +kernel
theorem d_Mo_overlap_149 : decode c_Mo_overlap 149 = .ok (.aload_n 0, 1) := by decide +kernel
theorem d_Mo_overlap_150 : decode c_Mo_overlap 150 = .ok (.getfield 38, 3) := by decide +kernel
theorem d_Mo_overlap_153 : decode c_Mo_overlap 153 = .ok (.iload_n 2, 1) := by decide +kernel
theorem d_Mo_overlap_154 : decode c_Mo_overlap 154 = .ok (.iaload, 1) := by decide +kernel
theorem d_Mo_overlap_155 : decode c_Mo_overlap 155 = .ok (.aload_n 0, 1) := by decide +kernel
theorem d_Mo_overlap_156 : decode c_Mo_overlap 156 = .ok (.getfield 13, 3) := by decide +kernel
theorem d_Mo_overlap_159 : decode c_Mo_overlap 159 = .ok (.iload_n 2, 1) := by decide +kernel
theorem d_Mo_overlap_160 : decode c_Mo_overlap 160 = .ok (.iaload, 1) := by decide +kernel
theorem d_Mo_overlap_161 : decode c_Mo_overlap 161 = .ok (.iadd, 1) := by decide +kernel
theorem d_Mo_overlap_162 : decode c_Mo_overlap 162 = .ok (.if_icmp .ge 7, 3) := by decide +kernel
theorem d_Mo_overlap_165 : decode c_Mo_overlap 165 = .ok (.iconst 1, 1) := by decide +kernel
theorem d_Mo_overlap_166 : decode c_Mo_overlap 166 = .ok (.goto 4, 3) := by decide +kernel
theorem d_Mo_overlap_169 : decode c_Mo_overlap 169 = .ok (.iconst 0, 1) := by decide +kernel
theorem d_Mo_overlap_170 : decode c_Mo_overlap 170 = .ok (.istore_n 1, 1) := by decide +kernel
theorem d_Mo_overlap_171 : decode c_Mo_overlap 171 = .ok (.iinc 3 1, 3) := by decide +kernel
theorem d_Mo_overlap_174 : decode c_Mo_overlap 174 = .ok (.goto (-77), 3) := by decide +kernel
theorem d_Mo_overlap_177 : decode c_Mo_overlap 177 = .ok (.iinc 2 1, 3) := by decide +kernel
theorem d_Mo_overlap_180 : decode c_Mo_overlap 180 = .ok (.goto (-160), 3) := by decide +kernel
theorem d_Mo_overlap_183 : decode c_Mo_overlap 183 = .ok (.iload_n 1, 1) := by decide +kernel
theorem d_Mo_overlap_184 : decode c_Mo_overlap 184 = .ok (.ireturn, 1) := by decide +kernel
end
section
/-! METHODS THAT MAY THROW. What ends in a throw has changed nothing before it: one new cell, the exception, and that is all. -/
/-- an end: a return (nothing made), or the throw of a new object of a class E with XE E (one cell of six slots made, nothing written) -/
def y_Q (Qc : Array Value → State → Outcome → State → Prop) (free : Addr → Prop) (XE : String → Prop) : Array Value → State → Outcome → State → Prop := fun a st o t =>
  (Qc a st o t ∧ ∃ L, FrameEnd st o t L 0 0 ∧ ∀ q ∈ L, free q.base) ∨
  ∃ (q : Addr) (E : String) (ce : Cell), o = .threw q ∧ XE E ∧ t.heap[q]? = some ce ∧ ce.vm = .none ∧ st.vm.findClass E = some ce.cls ∧ st.WarmedH t.vm ∧ st.sameButNew ({ t with vm := st.vm } : State) [] 1 6
def y_Met (l : Launch) (y : MethodName) (ws : List Cond) (rm : Room) (Pc : Array Value → State → Prop) (Qc : Array Value → State → Outcome → State → Prop) (free : Addr → Prop) (XE : String → Prop) : Prop :=
  MetFree l y (headSpec ws rm) Pc (fun _ _ _ _ _ => True) (y_Q Qc free XE)
def y_MQ (below : List Frame) (Qc : Array Value → State → Outcome → State → Prop) (free : Addr → Prop) (XE : String → Prop) (a : Array Value) (s : State) : State → Prop := fun t =>
  ∃ o, t.status = .running ∧ Ended t below o ∧ y_Q Qc free XE a s o t
section YA
variable {p : Program} {l : Launch} {e : Env} {R : Room} {s : State} {m : MethodId} {args : Array Value} {below : List Frame} {meth : Method} {c : Code} {H : Heap} {locs : List Loc}
variable {Qc : Array Value → State → Outcome → State → Prop} {free : Addr → Prop} {XE : String → Prop}
theorem y_ofW {y : MethodName} {ws ws' : List Cond} {rm : Room} {Pc : Array Value → State → Prop} {cc : ByteArray} {maxL : Nat} {ret : Option FieldType}
    (hy : plainName y.cls = true) (hw : ws = Cond.code y cc maxL ret :: ws')
    (body : ∀ p e s m args below meth c s₁, BodyLoose p l y (headSpec ws rm) cc maxL ret e s m args below meth c s₁ → c.maxLocals = maxL → c.exceptionTable.isEmpty = true → Pc args s →
      W p l e (headSpec ws rm).room s m args below meth c s.heap [] 0 0 (y_MQ below Qc free XE args s) (entryFrame m args maxL)) : y_Met l y ws rm Pc Qc free XE := by
  refine MetFree.of_bodyS (code := cc) (maxLocals := maxL) (ret := ret) hy ?_ ?_
  · intro args s m h hn
    obtain ⟨meth, c, h1, h2, h3, h4, h5, h6, -, -⟩ := Cond.code_spec hn (atoms_spec (ws := ws) h _ (by rw [hw]; exact List.mem_cons_self))
    exact ⟨meth, c, h1, h2, h3, h4, h5, h6⟩
  · intro p e s m args below meth c s₁ B hml hP _
    have hh0 : s₁.heap = s.heap := by rw [B.state]; rfl
    have hne : c.exceptionTable.isEmpty = true := B.noHandlers (atoms_spec (ws := ws) B.pre _ (by rw [hw]; exact List.mem_cons_self))
    obtain ⟨t, a1, o, b1, b2, b3⟩ := body p e s m args below meth c s₁ B hml hne hP s₁ hh0 (Stand.of_body B)
    exact ⟨t, o, a1, b1, b2, b3⟩
/-- a return, in a method that may throw -/
theorem y_ret {g : JFrame} (k : W p l e R s m args below meth c H locs 0 0 (MQ below Qc args s 0 0 free) g) : W p l e R s m args below meth c H locs 0 0 (y_MQ below Qc free XE args s) g := by
  intro T hT X
  obtain ⟨t, a1, o, b1, b2, b3⟩ := k T hT X
  exact ⟨t, a1, o, b1, b2, Or.inl b3⟩
/-- 'throw new E("..")' where nothing has been changed yet: new, dup, ldc, invokespecial, athrow -/
theorem y_throw {cc : ByteArray} {pc : Nat} {ls : Array Slot} {rest : List Value} (hx : p.tables.exec = Jvm.exec) (hb : c.code = cc) (hl : l.stackTraces = false) {own cls text : String} {names : List String} {ik is ic : Nat}
    (hown : s.vm.findClass own = some m.cls) (hcls : Bundle.fit cls = true) (hnames : ∀ n ∈ names, Bundle.fit n = true)
    (hk : (Cond.classLink own ik cls).before args s = true) (hini : (Cond.initialized cls).before args s = true) (hstr : (Cond.stringRef own is text).before args s = true) (hat : ∀ w ∈ Bundle.ownAtoms own ic cls names, w.before args s = true)
    (hsize : ls.size = c.maxLocals)
    (d0 : decode cc pc = .ok (.new ik, 3)) (d3 : decode cc (pc + 3) = .ok (.dup, 1)) (d4 : decode cc (pc + 4) = .ok (.ldc is, 2)) (d6 : decode cc (pc + 6) = .ok (.invokespecial ic, 3)) (d9 : decode cc (pc + 9) = .ok (.athrow, 1))
    (hne : c.exceptionTable.isEmpty = true)
    (hRf : names.length + 3 < R.frames) (hRl : (rest.map fun v => v.category).sum + (13 * (names.length + 1) + 43) ≤ R.locals) (hRc : 1 ≤ R.cells) (hRs : 6 ≤ R.slots) (hlocks : meth.locks = false) (hXE : XE cls) :
    W p l e R s m args below meth c s.heap [] 0 0 (y_MQ below Qc free XE args s) (F0 m pc ls rest) := by
  intro T hT X
  have htr : e.platform.stackTraces = false := (show e.platform.stackTraces = l.stackTraces by rw [X.admits.platform]).trans hl
  have hout : ∀ x ∈ c.exceptionTable.toList, covers x (pc + 9) = false := by
    have h0 : c.exceptionTable = #[] := Array.isEmpty_iff.mp hne
    rw [h0]
    intro x hx
    cases hx
  subst hb
  have hins : (Cond.instantiable cls 6).before args s = true := hat _ (by simp [Bundle.ownAtoms])
  obtain ⟨vm₁, cX, kX, hfX, hkX, -, -, X₁, st1⟩ := X.newCold hx (own := own) (C := cls) (index := ik) (n := 6) hown hk hins hini (g := F0 m pc ls rest) rfl d0 (by omega) (by omega)
  generalize hT1 : (T.setVm vm₁).pushCell { cls := cX, slots := kX.instanceTypes.map defaultValue, vm := .none } = T1 at X₁ st1
  have hcat : (Value.ref T.heap.size).category = 1 := rfl
  have hcellA : T1.heap[T.heap.size]? = some (freshCell cX kX) := by rw [← hT1]; exact State.heap_pushCell_size _ _
  obtain ⟨-, -, -, sa, -, -, -, -, -, hev⟩ := Cond.stringRef_spec hown hstr
  obtain ⟨U, hsteps, hrun, hend, hW, hsame, ce, hce, hO⟩ := X₁.ctorThrowS hx htr (own := own) (cls := cls) (names := names) (ic := ic) hown hcls hnames hat (fun x hx => nomatch hx) hfX hkX hcellA (by rw [hT]; exact Nat.le_refl _) (msg := .ref sa) rfl
    (g := { method := m, pc := pc + 6, locals := ls, stack := .ref sa :: .ref T.heap.size :: .ref T.heap.size :: rest, locked := none }) rfl hsize rfl rfl (rest := rest) rfl
    d6 d9 hout hRf (by simp only [List.map_cons, List.sum_cons, hcat]; omega) hlocks
  refine ⟨U, ?_, .threw T.heap.size, hrun, hend, Or.inr ⟨T.heap.size, cls, ce, rfl, hXE, hce, hO.vm, hO.cls, hW, hsame⟩⟩
  refine st1 _ ?_
  show Steps p.tables e below (T1.setTop { method := m, pc := pc + 3, locals := ls, stack := .ref T.heap.size :: rest, locked := none }) _
  jvm_step X₁.here [X₁.here.top, hx, d3, Value.category]
  exact X₁.ldcString hx (own := own) (text := text) (index := is) (a := sa) hown hstr hev
    (g := { method := m, pc := pc + 4, locals := ls, stack := .ref T.heap.size :: .ref T.heap.size :: rest, locked := none }) rfl d4 _ hsteps
end YA
section YB
variable {p : Program} {l : Launch} {e : Env} {R : Room} {s : State} {m : MethodId} {args : Array Value} {below : List Frame} {meth : Method} {c : Code} {Ls : List Loc} {c0 s0 : Nat}
/-- the walk's own place behind a callee's end: the heap and the book as the callee left them -/
theorem y_stand {U s₂ : State} (X : Stand p l e R s m args below meth c U Ls c0 s0) {g : JFrame} {mk : MethodId} {a : Array Value} {L : List Loc} {k n : Nat} (hW : (U.calling g mk a).WarmedH s₂.vm)
    (hs : (U.calling g mk a).sameButNew ({ s₂ with vm := (U.calling g mk a).vm } : State) L k n) :
    Stand p l e R s m args below meth c (({ U with heap := s₂.heap, slotsUsed := s₂.slotsUsed } : State).setVm s₂.vm) (Ls ++ L) (c0 + k) (s0 + n) ∧
      s₂ = (({ U with heap := s₂.heap, slotsUsed := s₂.slotsUsed } : State).setVm s₂.vm).setFrames s₂.frames := by
  obtain ⟨e2, q2, q3, q4, q5, q6⟩ := hs
  have h := X.here
  have hW' : U.WarmedH s₂.vm := hW
  have e3 : s₂ = ({ (U.calling g mk a).setFrames s₂.frames with heap := s₂.heap, slotsUsed := s₂.slotsUsed } : State).setVm s₂.vm := by
    have e4 : s₂ = ({ s₂ with vm := (U.calling g mk a).vm } : State).setVm s₂.vm := rfl
    rw [e2] at e4
    exact e4
  obtain ⟨g₀, hg0⟩ := Option.isSome_iff_exists.mp h.top
  obtain ⟨r, hr⟩ := State.topJava?_eq_some.mp hg0
  have hsame : U.sameButNew ({ U with heap := s₂.heap, slotsUsed := s₂.slotsUsed } : State) L k n := by
    refine ⟨?_, q2, q3, q4, q5, q6⟩
    obtain ⟨t, ht, -⟩ := State.frames_cons hr
    show ({ U with heap := s₂.heap, slotsUsed := s₂.slotsUsed } : State) = { U.setFrames U.frames with heap := s₂.heap, slotsUsed := s₂.slotsUsed }
    rw [State.setFrames_self ht]
  refine ⟨⟨X.admits, X.cas, X.clock, X.frames, X.room, X.hears, X.method, X.code, (X.here.setHeapUsed s₂.heap s₂.slotsUsed).setVm hW'.alike, X.tail, State.WarmedH.trans X.warmed hW', X.limits, X.bytes, X.same.trans (hsame.setVm s.vm)⟩, ?_⟩
  refine e3.trans ?_
  rw [State.calling_eq h.top, State.setFrames_setFrames]
  rfl
/-- a call of a method that may throw: it comes back, or the exception stands above the caller's frame -/
theorem y_ends {U : State} (X : Stand p l e R s m args below meth c U Ls c0 s0) {g : JFrame} (hg : g.method = m) (hsize : g.locals.size = c.maxLocals) {ig : Instr} {len : Nat} (hdg : decode c.code g.pc = .ok (ig, len)) {W9 : Nat} (hW9 : 2 * g.monitorRoom + (g.stack.map fun v => v.category).sum ≤ W9)
    {y : MethodName} {mk : MethodId} {a : Array Value} (hn : U.methodNamed? y = some mk) {ws : List Cond} {rm : Room} {Pc : Array Value → State → Prop} {Qc : Array Value → State → Outcome → State → Prop} {free : Addr → Prop} {XE : String → Prop} (hM : y_Met l y ws rm Pc Qc free XE) {bytes : ByteArray} {maxL : Nat} {ret : Option FieldType}
    (hframes : rm.frames + 1 ≤ R.frames) (hlocals : W9 + (maxL + 11) + rm.locals ≤ R.locals) (hws : ∀ w ∈ ws, w.before a U = true) (hcode : (Cond.code y bytes maxL ret).before a U = true) (hinit : (Cond.initialized y.cls).before a U = true)
    (hrc : c0 + rm.cells ≤ R.cells) (hrs : s0 + rm.slots ≤ R.slots) (hP : Pc a (U.calling g mk a)) :
    (∃ (v : Option Value) (t T' : State) (L : List Loc), Stand p l e R s m args below meth c T' (Ls ++ L) c0 s0 ∧ (∀ q ∈ L, free q.base) ∧ T'.heap = t.heap ∧ T'.vm = t.vm ∧ Qc a (U.calling g mk a) (.returned v) t ∧
      Steps p.tables e below (doInvoke e (U.setTop g) [] mk a).1 (T'.setTop { g with pc := g.pc + len, stack := v.toList ++ g.stack })) ∨
    (∃ (q : Addr) (T' : State) (E : String) (ce : Cell), Stand p l e R s m args below meth c T' Ls (c0 + 1) (s0 + 6) ∧ XE E ∧ T'.heap[q]? = some ce ∧ ce.vm = .none ∧ U.vm.findClass E = some ce.cls ∧ (∀ b : Nat, b < U.heap.size → T'.heap[b]? = U.heap[b]?) ∧
      Steps p.tables e below (doInvoke e (U.setTop g) [] mk a).1 ((T'.setTop g).pushFrame (.throwing q))) := by
  obtain ⟨methY, cY, hmY, hcY, -, hlY, -, -, -, -⟩ := Cond.code_spec hn hcode
  obtain ⟨kY, hkY, -⟩ := className_of_methodNamed hn
  have hinitY : kY.init = .initialized := Cond.initialized_spec (findClass_of_methodNamed hn) hkY hinit
  have h : At U g.method c below := by rw [hg]; exact X.here
  have happ : (headSpec ws rm).appliesLoose y e.platform (U.calling g mk a) = true :=
    Spec.appliesLoose_calling (g := g) h hdg hn hkY hinitY (X.room_calling (g := g) (R' := rm) hsize hmY hcY hframes (by rw [hlY]; omega) hrc hrs) (atoms_intro hws)
  obtain ⟨mid, hmid⟩ := h.above
  have hfr : (U.setTop g).frames = (.java g :: mid) ++ below := by rw [State.frames_setTop' g h.top, hmid]; rfl
  obtain ⟨o, s₂, hsteps, -, hend, hq⟩ := Steps.callFree hM p X.admits X.cas X.clock (acts := []) hfr happ hP trivial
  have hq' : y_Q Qc free XE a (U.calling g mk a) o s₂ := hq
  rw [State.frames_setTop' g h.top] at hend
  obtain ⟨g₀, hg0⟩ := Option.isSome_iff_exists.mp h.top
  obtain ⟨r, hr⟩ := State.topJava?_eq_some.mp hg0
  rcases hq' with ⟨hQ, L, ⟨⟨v, rfl⟩, hW₂, hsm⟩, hL⟩ | ⟨q, E, ce, rfl, hXE, hce, hcv, hcl, hW₂, hsm⟩
  · obtain ⟨X', hs₂⟩ := y_stand X hW₂ hsm
    obtain ⟨c₂, i₂, len₂, hc₂, hd₂, hf₂⟩ := hend
    have hW' : U.WarmedH s₂.vm := hW₂
    have hcc : c₂ = c := by
      have h1 : s₂.code? g.method = U.code? g.method := by
        rw [State.code?_eq, State.code?_eq, hW'.alike.method?]
      exact Option.some.inj (hc₂.symm.trans (h1.trans h.code))
    subst hcc
    have hlen : len₂ = len := by rw [hdg] at hd₂; cases hd₂; rfl
    subst hlen
    refine Or.inl ⟨v, s₂, _, L, X', hL, rfl, rfl, hQ, ?_⟩
    have hr' : (({ U with heap := s₂.heap, slotsUsed := s₂.slotsUsed } : State).setVm s₂.vm).frames = .java g₀ :: r := hr
    rw [State.setTop_of_frames _ hr']
    have e9 : s₂.frames = .java { g with pc := g.pc + len₂, stack := v.toList ++ g.stack } :: r := by
      rw [hf₂, hr]; rfl
    rw [← e9, ← hs₂]
    exact hsteps
  · obtain ⟨X', hs₂⟩ := y_stand X hW₂ hsm
    rw [List.append_nil] at X'
    have hf₂ : s₂.frames = .throwing q :: .java g :: U.frames.tail := hend
    refine Or.inr ⟨q, _, E, ce, X', hXE, hce, hcv, hcl, fun b hb => ?_, ?_⟩
    · have hc : (U.calling g mk a).heap[b]? = some (U.heap[b]) := Array.getElem?_eq_getElem hb
      exact (hsm.old_cell hc).trans (Array.getElem?_eq_getElem hb).symm
    · have hr' : (({ U with heap := s₂.heap, slotsUsed := s₂.slotsUsed } : State).setVm s₂.vm).frames = .java g₀ :: r := hr
      rw [State.pushFrame, State.frames_setTop _ hr', State.setTop_of_frames _ hr', State.setFrames_setFrames]
      have e9 : s₂.frames = .throwing q :: .java g :: r := by rw [hf₂, hr]; rfl
      rw [← e9, ← hs₂]
      exact hsteps
end YB
section YC
variable {p : Program} {l : Launch} {e : Env} {R : Room} {s : State} {m : MethodId} {args : Array Value} {below : List Frame} {meth : Method} {c : Code} {H : Heap} {locs : List Loc} {cells slots : Nat} {Q : State → Prop}
variable {y : MethodName} {bytes cc : ByteArray} {maxL nL n index : Nat} {ret : Option FieldType} {ws : List Cond} {rm : Room} {Pc : Array Value → State → Prop} {Qc : Array Value → State → Outcome → State → Prop} {free : Addr → Prop} {XE : String → Prop} {Ts : List Cond} {own C : String} {b : Addr} {As rest : List Value} {g : JFrame}
/-- a call of a method that may throw, at W's level -/
def y_Run (p : Program) (l : Launch) (e : Env) (R : Room) (s : State) (m : MethodId) (args : Array Value) (below : List Frame) (meth : Method) (c : Code) (H : Heap) (locs : List Loc) (cells slots : Nat) (g : JFrame) (rest : List Value) (Qa : State → Outcome → State → Prop) (free : Addr → Prop) (XE : String → Prop) : Prop :=
  ∀ T : State, T.heap = H → Stand p l e R s m args below meth c T locs cells slots →
    (∃ (v : Option Value) (st₀ t T' : State) (L : List Loc), st₀.heap = H ∧ Stand p l e R s m args below meth c T' (locs ++ L) cells slots ∧ (∀ q ∈ L, free q.base) ∧ T'.heap = t.heap ∧ T'.vm = t.vm ∧ Qa st₀ (.returned v) t ∧
      ∀ tg, Steps p.tables e below (T'.setTop { g with pc := g.pc + 3, stack := v.toList ++ rest }) tg → Steps p.tables e below (T.setTop g) tg) ∨
    (∃ (q : Addr) (T' : State) (E : String) (ce : Cell), Stand p l e R s m args below meth c T' locs (cells + 1) (slots + 6) ∧ XE E ∧ T'.heap[q]? = some ce ∧ ce.vm = .none ∧ s.vm.findClass E = some ce.cls ∧ (∀ b : Nat, b < H.size → T'.heap[b]? = H[b]?) ∧
      ∀ tg, Steps p.tables e below ((T'.setTop { g with stack := rest }).pushFrame (.throwing q)) tg → Steps p.tables e below (T.setTop g) tg)
theorem y_runV (S : CallFix p m c cc nL s args Ts own) (hM : y_Met l y ws rm Pc Qc free XE) (cw : CallW R s args own C index y bytes maxL ret ws rm 1 6 n) (hp : PreV s H C b Pc As)
    (hg : g.method = m) (hn : As.length = n) (hsize : g.locals.size = nL) (hstack : g.stack = As.reverse ++ .ref b :: rest) (hW : 2 * g.monitorRoom + (rest.map fun v => v.category).sum ≤ 8) (hdg : decode cc g.pc = .ok (.invokevirtual index, 3)) (hf : cells + 1 ≤ R.cells ∧ slots + 6 ≤ R.slots) :
    y_Run p l e R s m args below meth c H locs cells slots g rest (Qc (Value.ref b :: As).toArray) free XE := by
  obtain ⟨⟨hrc, hrs, hfr, hlo, hws, -, hcode, hini, hy, hlen, hl⟩, hinst, hsel⟩ := cw
  obtain ⟨hx, hb, hml, ho, -⟩ := S
  obtain ⟨hbl, ⟨cellB, hcB, hoB, hclB⟩, hPc⟩ := hp
  intro T hT X
  obtain ⟨mk, methM, hnamed, hmethM, hstM, habM⟩ := Cond.instanceMethod_spec hinst
  obtain ⟨methM', cM, hmethM', -, -, -, -, -, -, hsigM⟩ := Cond.code_spec hnamed hcode
  cases hmethM.symm.trans hmethM'
  obtain ⟨c2, r2, m2, q1, q2, q3, q4, kP, hkP, hkPi⟩ := Cond.selects_spec hsel
  cases hclB.symm.trans q1
  cases (State.methodFound?_of_named hnamed hy).symm.trans q2
  cases hnamed.symm.trans q3
  have hselP : selectMethod e.platform s.vm cellB.cls mk = .method mk := by rw [Launch.admits_selectMethod X.admits]; exact q4
  subst hb
  obtain ⟨vm₁, X₁, hstep₁⟩ := X.invokevirtual hx ho hl hnamed hmethM hstM hkP hkPi hy (a := b) (cell := cellB) (by rw [hT]; exact hcB)
    (fun z h => by rw [h] at hoB; cases hoB) hselP hmethM habM hkP hkPi (g := g) hg (argsL := As) (rest := rest) (hn.trans (hlen _ hsigM)) hstack hdg
  have hPU : Pc (Value.ref b :: As).toArray (T.setVm vm₁) := hPc (T.setVm vm₁) hT X₁.warmed
  have key := y_ends X₁ (g := { g with stack := rest }) hg (hsize.trans hml.symm) hdg hW (X₁.named hnamed) hM (a := (Value.ref b :: As).toArray) hfr hlo (fun w hw => hws w hw _ _ X₁.warmed)
    (word_at X₁.warmed (Or.inl (by first | rfl | simp [Cond.onTables, Cond.keeps, Cond.steady])) hcode) (word_at X₁.warmed (Or.inl (by first | rfl | simp [Cond.onTables, Cond.keeps, Cond.steady])) hini) (by omega) (by omega) (hbl _ _ _ _ hPU)
  rcases key with ⟨v, t, T', L, X', hL, e1, e2, hq, st⟩ | ⟨q, T', E, ce, X', hXE, hce, hcv, hcl, hold, st⟩
  · exact Or.inl ⟨v, (T.setVm vm₁).calling { g with stack := rest } mk (Value.ref b :: As).toArray, t, T', L, hT, X', hL, e1, e2, hq, fun tg h => hstep₁ _ fun acts => by rw [doInvoke_state]; exact st.trans h⟩
  · refine Or.inr ⟨q, T', E, ce, X', hXE, hce, hcv, ?_, fun b hb => ?_, fun tg h => hstep₁ _ fun acts => by rw [doInvoke_state]; exact st.trans h⟩
    · exact (X₁.warmed.alike.findClass E _).symm.trans hcl
    · rw [← hT]; exact hold b (by show b < T.heap.size; rw [hT]; exact hb)
theorem y_runS (S : CallFix p m c cc nL s args Ts own) (hM : y_Met l y ws rm Pc Qc free XE) (cw : CallB R s args own index y bytes maxL ret ws rm 1 6 n ∧ (Cond.static y).before args s = true) (hp : PreS s H Pc As)
    (hg : g.method = m) (hn : As.length = n) (hsize : g.locals.size = nL) (hstack : g.stack = As.reverse ++ rest) (hW : 2 * g.monitorRoom + (rest.map fun v => v.category).sum ≤ 8) (hdg : decode cc g.pc = .ok (.invokestatic index, 3)) (hf : cells + 1 ≤ R.cells ∧ slots + 6 ≤ R.slots) :
    y_Run p l e R s m args below meth c H locs cells slots g rest (Qc As.toArray) free XE := by
  obtain ⟨⟨hrc, hrs, hfr, hlo, hws, -, hcode, hini, hy, hlen, hl⟩, hstat⟩ := cw
  obtain ⟨hx, hb, hml, ho, -⟩ := S
  obtain ⟨hbl, hPc⟩ := hp
  intro T hT X
  obtain ⟨mk, hnamed⟩ := Cond.code_named hcode
  obtain ⟨methM, cM, hmethM, -, -, -, -, -, -, hsigM⟩ := Cond.code_spec hnamed hcode
  have hstatic : methM.isStatic = true := Cond.static_spec hnamed hmethM hstat
  obtain ⟨kP, hkP, -⟩ := className_of_methodNamed hnamed
  have hinitP : kP.init = .initialized := Cond.initialized_spec (findClass_of_methodNamed hnamed) hkP hini
  subst hb
  obtain ⟨vm₁, X₁, hstep₁⟩ := X.invokestatic hx ho hl hnamed hmethM hstatic hkP hinitP hy (g := g) hg (argsL := As) (rest := rest) (hn.trans (hlen _ hsigM)) hstack hdg
  have hPU : Pc As.toArray (T.setVm vm₁) := hPc (T.setVm vm₁) hT X₁.warmed
  have key := y_ends X₁ (g := { g with stack := rest }) hg (hsize.trans hml.symm) hdg hW (X₁.named hnamed) hM (a := As.toArray) hfr hlo (fun w hw => hws w hw _ _ X₁.warmed)
    (word_at X₁.warmed (Or.inl (by first | rfl | simp [Cond.onTables, Cond.keeps, Cond.steady])) hcode) (word_at X₁.warmed (Or.inl (by first | rfl | simp [Cond.onTables, Cond.keeps, Cond.steady])) hini) (by omega) (by omega) (hbl _ _ _ _ hPU)
  rcases key with ⟨v, t, T', L, X', hL, e1, e2, hq, st⟩ | ⟨q, T', E, ce, X', hXE, hce, hcv, hcl, hold, st⟩
  · exact Or.inl ⟨v, (T.setVm vm₁).calling { g with stack := rest } mk As.toArray, t, T', L, hT, X', hL, e1, e2, hq, fun tg h => hstep₁ _ fun acts => by rw [doInvoke_state]; exact st.trans h⟩
  · refine Or.inr ⟨q, T', E, ce, X', hXE, hce, hcv, ?_, fun b hb => ?_, fun tg h => hstep₁ _ fun acts => by rw [doInvoke_state]; exact st.trans h⟩
    · exact (X₁.warmed.alike.findClass E _).symm.trans hcl
    · rw [← hT]; exact hold b (by show b < T.heap.size; rw [hT]; exact hb)
/-- a callee that reads alone, and may throw: its own end -/
def y_Qp (K : Prop) : Array Value → State → Outcome → State → Prop := fun _ st o t => o = .returned none ∧ K ∧ t.heap = st.heap
/-- where nothing is changed yet: such a callee, its throw handed on -/
theorem y_cp {pc : Nat} {ls : Array Slot} {st0 : List Value} {K : Prop} {va : Array Value} (hr : y_Run p l e R s m args below meth c s.heap [] 0 0 (F0 m pc ls st0) rest (y_Qp K va) (fun _ => False) XE) (hne : c.exceptionTable.isEmpty = true) (hlocks : meth.locks = false)
    (kk : K → W p l e R s m args below meth c s.heap [] 0 0 (y_MQ below Qc free XE args s) (F0 m (pc + 3) ls rest)) : W p l e R s m args below meth c s.heap [] 0 0 (y_MQ below Qc free XE args s) (F0 m pc ls st0) := by
  intro T hT X
  rcases hr T hT X with ⟨v, st₀, t, T', L, h0, X', hL, e1, e2, ⟨hv, hK, hh⟩, st⟩ | ⟨q, T', E, ce, X', hXE, hce, hcv, hcl, hold, st⟩
  · cases hv
    have hL0 : L = [] := List.eq_nil_iff_forall_not_mem.mpr (fun q hq => hL q hq)
    subst hL0
    obtain ⟨t2, a1, b1⟩ := kk hK T' (by rw [e1, hh, h0]) X'
    exact ⟨t2, st t2 a1, b1⟩
  · have hout : ∀ x ∈ c.exceptionTable.toList, covers x pc = false := by
      have h0 : c.exceptionTable = #[] := Array.isEmpty_iff.mp hne
      rw [h0]
      intro x hx
      cases hx
    obtain ⟨st1, hrun, hend, hW, hsm⟩ := X'.leaveThrown q (g := F0 m pc ls rest) rfl rfl rfl hout hlocks
    exact ⟨_, st _ st1, .threw q, hrun, hend, Or.inr ⟨q, E, ce, rfl, hXE, hce, hcv, hcl, hW, hsm⟩⟩
end YC
end
section
/-! CATCHING: the search over the handlers, whose classes may be linked by it -/
section YD
variable {e : Env} {f : JFrame} {a : Addr}
theorem y_hop {Q : Handler → Pre} {E : CtlPost} {d : Bool} {acts : List Action} {s : State} {x : ExceptionTableEntry} {t : List ExceptionTableEntry} {c : ClassId} {cell : Cell} (hx : covers x f.pc = true) (h0 : x.catchType ≠ 0)
    (hl : s.vm.ClassLinks e.platform f.method.cls x.catchType c) (hcell : s.heap[a]? = some cell) (hobj : ∀ k, cell.vm ≠ .statics k)
    (hk : ∃ k, s.vm.classes[cell.cls]? = some k) (hc : ∃ k, s.vm.classes[c]? = some k) :
    wp (findHandler.go f a (x :: t)) Q E e d acts s ↔
      if s.vm.assignable cell.cls c = true then Q (.found x.handlerPc) d acts (s.setVm (s.vm.noted f.method.cls x.catchType (.cls c))) else wp (findHandler.go f a t) Q E e d acts (s.setVm (s.vm.noted f.method.cls x.catchType (.cls c))) := by
  simp only [covers] at hx
  obtain ⟨ha, ht⟩ := (resolveClass_links e.toSetting hl).op (op := VmOp.resolveClass f.method.cls x.catchType) rfl
  have hal : s.vm.Alike (s.vm.noted f.method.cls x.catchType (.cls c)) := (Vm.Alike.refl s.vm).noted _ _ _
  obtain ⟨k1, hk1⟩ := hk
  obtain ⟨k2, hk2⟩ := hc
  obtain ⟨k1', hk1', -⟩ := hal.2.2 _ _ hk1
  obtain ⟨k2', hk2', -⟩ := hal.2.2 _ _ hk2
  cases hfit : s.vm.assignable cell.cls c <;>
  · have hno' : (s.vm.noted f.method.cls x.catchType (.cls c)).assignable cell.cls c = _ := (hal.assignable _ _).trans hfit
    simp [findHandler.go, hx, h0, ha, ht, hcell, hobj, hk1', hk2', hno', VmOp.dirties, VmOp.acts]
theorem y_search {s₀ : State} {cell : Cell} (hobj : ∀ k, cell.vm ≠ .statics k) (hk0 : ∃ k, s₀.vm.classes[cell.cls]? = some k) (x : ExceptionTableEntry) (rest : List ExceptionTableEntry) (hx : covers x f.pc = true) (h0 : x.catchType ≠ 0)
    {cx : ClassId} (hlx : s₀.vm.ClassLinks e.platform f.method.cls x.catchType cx) (hfit : s₀.vm.assignable cell.cls cx = true) :
    ∀ (pre : List ExceptionTableEntry) (S : State), s₀.WarmedH S.vm → S.heap[a]? = some cell →
      (∀ z ∈ pre, covers z f.pc = true ∧ z.catchType ≠ 0 ∧ ∃ cz, s₀.vm.ClassLinks e.platform f.method.cls z.catchType cz ∧ s₀.vm.assignable cell.cls cz = false) →
      ∃ vm', s₀.WarmedH vm' ∧ ∀ (Q : Handler → Pre) (E : CtlPost) (d : Bool) (acts : List Action), wp (findHandler.go f a (pre ++ x :: rest)) Q E e d acts S ↔ Q (.found x.handlerPc) d acts (S.setVm vm') := by
  obtain ⟨k0, hk0⟩ := hk0
  intro pre
  induction pre with
  | nil =>
    intro S hW hcell _
    obtain ⟨k0', hk0', -⟩ := hW.alike.2.2 _ _ hk0
    obtain ⟨dk, _, _, kt, hd, _, _, _, _, hkt, _, hopen⟩ := hlx.here
    obtain ⟨kt', hkt', -⟩ := hW.alike.2.2 _ _ hkt
    refine ⟨_, hW.noted hd hopen (State.rightAt_cls hlx), fun Q E d acts => ?_⟩
    rw [List.nil_append, y_hop hx h0 (hW.classLinks hlx) hcell hobj ⟨k0', hk0'⟩ ⟨kt', hkt'⟩, if_pos ((hW.alike.assignable _ _).trans hfit)]
  | cons z zs ih =>
    intro S hW hcell hpass
    obtain ⟨k0', hk0', -⟩ := hW.alike.2.2 _ _ hk0
    obtain ⟨hz, hz0, cz, hl, hno⟩ := hpass z List.mem_cons_self
    obtain ⟨dk, _, _, kt, hd, _, _, _, _, hkt, _, hopen⟩ := hl.here
    obtain ⟨kt', hkt', -⟩ := hW.alike.2.2 _ _ hkt
    obtain ⟨vm', hW', hq⟩ := ih (S.setVm (S.vm.noted f.method.cls z.catchType (.cls cz))) (hW.noted hd hopen (State.rightAt_cls hl)) hcell (fun w hw => hpass w (List.mem_cons_of_mem _ hw))
    refine ⟨vm', hW', fun Q E d acts => ?_⟩
    rw [List.cons_append, y_hop hz hz0 (hW.classLinks hl) hcell hobj ⟨k0', hk0'⟩ ⟨kt', hkt'⟩, if_neg (by rw [(hW.alike.assignable _ _).trans hno]; decide)]
    exact hq Q E d acts
theorem y_caught {tb : Tables} {s target : State} {g : JFrame} {c : Code} {below : List Frame} (h : At s g.method c below) {pc : Nat} {vm' : Vm}
    (hfind : ∀ (Q : Handler → Pre) (E : CtlPost) (d : Bool) (acts : List Action), wp (findHandler g a) Q E e d acts ((s.setTop g).pushFrame (.throwing a)) ↔ Q (.found pc) d acts (((s.setTop g).pushFrame (.throwing a)).setVm vm'))
    (hrest : Steps tb e below ((s.setVm vm').setTop { g with pc := pc, stack := [.ref a] }) target) :
    Steps tb e below ((s.setTop g).pushFrame (.throwing a)) target := by
  obtain ⟨hgo, hw⟩ := h.throwing a
  have key : ∀ r, (stepThrowing e ((s.setTop g).pushFrame (.throwing a)) a (.java g :: r)).Is ((((s.setTop g).pushFrame (.throwing a)).setVm vm').setFrames (.java { g with pc := pc, stack := [.ref a] } :: r)) [] := by
    intro r
    simp only [stepThrowing, searchFrame, vmDo]
    generalize hr : Sem.go _ e false [] ((s.setTop g).pushFrame (.throwing a)) = res
    obtain ⟨as, rfl, ha⟩ := Sem.eq_ok_of hr (a := Handler.found pc) (s' := ((s.setTop g).pushFrame (.throwing a)).setVm vm') (acts' := []) (by simp [hfind _ _ _ _])
    exact ⟨rfl, ha⟩
  refine Steps.head hgo hw ?_
  rw [stepThread_throwing (frames_entered h.top _), (key _).1]
  obtain ⟨g₀, hg⟩ := Option.isSome_iff_exists.mp h.top
  obtain ⟨r, hr⟩ := State.topJava?_eq_some.mp hg
  have hr' : (s.setVm vm').frames = .java g₀ :: r := hr
  rw [State.setTop_of_frames _ hr'] at hrest
  rw [State.pushFrame, State.setTop_of_frames _ hr, State.setFrames_setFrames]
  rw [hr]
  have e1 : (s.setFrames (.throwing a :: (s.setFrames (.java g :: r)).frames)).setVm vm' = (s.setVm vm').setFrames (.throwing a :: (s.setFrames (.java g :: r)).frames) := rfl
  rw [e1, State.setFrames_setFrames]
  exact hrest
end YD
end
section
/-! ROWS for walks that may throw, over the shaped world -/
abbrev eS : String := "java/lang/IllegalStateException"
abbrev eA : String := "java/lang/IllegalArgumentException"
abbrev eB : String := "java/lang/IndexOutOfBoundsException"
def y_nms : List String := ["java/lang/RuntimeException", "java/lang/Exception"]
/-- the words of a throw that speak of the heap -/
def y_zw : List Cond := [.laysStatic "java/lang/Throwable" "UNASSIGNED_STACK" "[Ljava/lang/StackTraceElement;", .laysStatic "java/lang/Throwable" "SUPPRESSED_SENTINEL" "Ljava/util/List;", .isRef (.static "java/lang/Throwable" "UNASSIGNED_STACK" "[Ljava/lang/StackTraceElement;"), .isRef (.static "java/lang/Throwable" "SUPPRESSED_SENTINEL" "Ljava/util/List;")]
/-- they hold now and as long as nothing outside A is written -/
def y_Z (A : Nat → Prop) (U : State) : Prop := ∀ (a : Array Value) (t : State), U.vm.Alike t.vm → (∀ q : Nat, q < U.heap.size → ¬ A q → t.heap[q]? = U.heap[q]?) → ∀ w ∈ y_zw, w.before a t = true
/-- which of the three exceptions is none of another's kind -/
def y_N (U : State) : Prop := va_Nc eA eS U ∧ va_Nc eA eB U ∧ va_Nc eS eB U
theorem y_N.moved {u U : State} (hvm : u.vm.Alike U.vm) (h : y_N u) : y_N U := ⟨h.1.moved hvm, h.2.1.moved hvm, h.2.2.moved hvm⟩
theorem y_Z.call {A A' : Nat → Prop} {s U : State} {H : Heap} {locs : List Loc} (h : y_Z A s) (hvm : s.vm.Alike U.vm) (hH : U.heap = H) (hS : va_S A s.heap H locs) (hA : ∀ q, q < s.heap.size → A' q → A q) : y_Z A' U := fun a t ht hq =>
  h a t (Vm.Alike.trans hvm ht) (fun q h1 h2 => by
    rw [hq q (by rw [hH]; exact Nat.lt_of_lt_of_le h1 hS.1) (fun g => h2 (hA q h1 g)), hH]
    exact hS.2.1 q h1 h2)
section YE
variable {p : Program} {l : Launch} {e : Env} {R : Room} {s : State} {m : MethodId} {args : Array Value} {below : List Frame} {meth : Method} {c : Code} {H : Heap} {locs : List Loc} {cells slots : Nat} {Q : State → Prop}
variable {cc : ByteArray} {pc : Nat} {ls : Array Slot} {rest : List Value}
variable {D : va_G} {cl : List vw_C} {sh : List x_D} {ad : Nat → Nat} {cA : Nat → ClassId} {N : Nat → Nat} {A0 : Nat → Prop} {F : Nat → Int} {A : Nat → Int → Int}
/-- a contract's start, of a method that may throw -/
def y_P (D : va_G) (cl : List vw_C) (sh : List x_D) (ad : Nat → Nat) (cA : Nat → ClassId) (N : Nat → Nat) (sz : Nat) (F : Nat → Int) (A : Nat → Int → Int) (U : State) : Prop :=
  x_P D cl sh ad cA N sz F A U ∧ y_Z (va_A (x_w sh ad cA N F A) sz) U ∧ y_N U
theorem y_blind {vs : List Value} {sz : Nat} : FrameBlind (va_Pc vs (y_P D cl sh ad cA N sz F A)) := fun a U g mk q => by
  obtain ⟨q0, ⟨q1, qP, qK, qD⟩, qZ, qN⟩ := q
  exact ⟨q0, ⟨q1, qP, va_K.moved (u := U) (U := U.calling g mk a) (Vm.Alike.refl U.vm) qK, qD⟩, qZ, qN⟩
theorem y_pre (hS : x_S D cl sh ad cA N A0 s F A H locs) (hZ : y_Z A0 s) (hN : y_N s) (U : State) (hU : U.heap = H) (hW : s.WarmedH U.vm) : y_P D cl sh ad cA N H.size F A U :=
  ⟨⟨by rw [hU], by rw [hU]; exact hS.2.1, va_K.moved hW.alike hS.1, hS.2.2.1.weaken (fun _ _ _ _ => trivial), hS.2.2.2.2⟩,
    hZ.call hW.alike hU hS.2.2.2.1 (fun q hq h => by
      rcases h with ⟨k, e, h⟩ | h
      · exact hS.2.2.1.2 k _ h
      · exact absurd (Nat.lt_of_lt_of_le hq hS.2.2.2.1.1) (Nat.not_lt.mpr h)), hN.moved hW.alike⟩
theorem y_preS (hS : x_S D cl sh ad cA N A0 s F A H locs) (hZ : y_Z A0 s) (hN : y_N s) (As : List Value) : PreS s H (va_Pc As (y_P D cl sh ad cA N H.size F A)) As :=
  ⟨y_blind, fun U hU hW => ⟨rfl, y_pre hS hZ hN U hU hW⟩⟩
theorem y_preV (hS : x_S D cl sh ad cA N A0 s F A H locs) (hZ : y_Z A0 s) (hN : y_N s) (q : Nat) {C : String} {T : u_T} {t ci n : Nat} {fs : List x_F} (hq : sh[q]? = some (t, .inl (ci, fs))) (hc : cl[ci]? = some (C, T, n)) (As : List Value) : PreV s H C (ad t) (va_Pc (.ref (ad t) :: As) (y_P D cl sh ad cA N H.size F A)) As :=
  ⟨y_blind, va_recv hS.1 hS.2.1 hc (x_wq hq), fun U hU hW => ⟨rfl, y_pre hS hZ hN U hU hW⟩⟩
/-- the return of a method that reads alone -/
theorem y_rp {K : Prop} {XE : String → Prop} (hx : p.tables.exec = Jvm.exec) (hb : c.code = cc) (hr : meth.sig.returnType = none) (hlocks : meth.locks = false) (hK : K) (hdg : decode cc pc = .ok (.return_, 1)) :
    W p l e R s m args below meth c s.heap [] 0 0 (y_MQ below (y_Qp K) (fun _ => False) XE args s) (F0 m pc ls []) :=
  y_ret (W.vret hx hb hr (fun t ht _ => ⟨rfl, hK, ht⟩) (fun _ h => by cases h) hdg hlocks)
/-- a throw's words at the start of a walk -/
theorem y_words {own cls : String} {ic : Nat} {names : List String} (hts : ∀ w ∈ gT, w.before args s = true) (hZ : y_Z A0 s) (h : ∀ w ∈ Bundle.ownAtoms own ic cls names, w ∈ gT ∨ w ∈ y_zw) : ∀ w ∈ Bundle.ownAtoms own ic cls names, w.before args s = true := fun w hw => by
  rcases h w hw with g | g
  · exact hts w g
  · exact hZ args s (Vm.Alike.refl s.vm) (fun _ _ _ => rfl) w g
/-- the exception caught: from above the frame to the handler's first instruction -/
theorem y_catch {T : State} (X : Stand p l e R s m args below meth c T locs cells slots) {own E nm : String} {q : Addr} {ce : Cell} (hown : s.vm.findClass own = some m.cls) (pre : List ExceptionTableEntry) (x : ExceptionTableEntry) (suf : List ExceptionTableEntry) (hsplit : c.exceptionTable.toList = pre ++ x :: suf)
    (hpass : ∀ z ∈ pre, covers z pc = true ∧ z.catchType ≠ 0 ∧ ∃ nz : String, (Cond.classLink own z.catchType nz).before args s = true ∧ va_Nc E nz s) (hx : covers x pc = true) (h0 : x.catchType ≠ 0)
    (hlink : (Cond.classLink own x.catchType nm).before args s = true) (hcast : (Cond.castable E nm).before args s = true) (hce : T.heap[q]? = some ce) (hv : ce.vm = .none) (hcl : s.vm.findClass E = some ce.cls) :
    ∃ vm', Stand p l e R s m args below meth c (T.setVm vm') locs cells slots ∧ ∀ tg, Steps p.tables e below ((T.setVm vm').setTop (F0 m x.handlerPc ls [.ref q])) tg → Steps p.tables e below ((T.setTop (F0 m pc ls rest)).pushFrame (.throwing q)) tg := by
  have hpl : e.platform.magicAccessors = ({} : Platform).magicAccessors := by rw [X.admits.platform]
  obtain ⟨c3, c4, hc3, hc4, hasg⟩ := Cond.castable_spec hcast
  cases Option.some.inj (hc3.symm.trans hcl)
  obtain ⟨c5, hc5, hcl5⟩ := Cond.classLink_spec hown hlink e.platform hpl
  cases Option.some.inj (hc4.symm.trans hc5)
  obtain ⟨k9, h9, -⟩ := Vm.findClass_spec hcl
  obtain ⟨vm', hW', hq⟩ := y_search (e := e) (f := F0 m pc ls rest) (a := q) (s₀ := s) (cell := ce) (VmData.ne_statics_of (by rw [hv]; rfl)) ⟨k9, h9⟩ x suf hx h0 hcl5 hasg pre ((T.setTop (F0 m pc ls rest)).pushFrame (.throwing q)) X.warmed hce
    (fun z hz => by
      obtain ⟨z1, z2, nz, hl1, a8, b8, g1, g2, g3⟩ := hpass z hz
      obtain ⟨c6, hc6, hcl6⟩ := Cond.classLink_spec hown hl1 e.platform hpl
      cases Option.some.inj (g1.symm.trans hcl)
      cases Option.some.inj (g2.symm.trans hc6)
      exact ⟨z1, z2, _, hcl6, g3⟩)
  refine ⟨vm', X.noted hW', fun tg h => ?_⟩
  refine y_caught (g := F0 m pc ls rest) X.here (vm' := vm') (pc := x.handlerPc) (fun Q E d acts => ?_) h
  rw [W.findHandler_eq (meth := meth) (code := c) X.method' X.code, hsplit]
  exact hq Q E d acts
end YE
end
