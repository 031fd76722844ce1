section
-- ===== PART A: goes FIRST, ahead of the names: the tables' words, and 'selects' of the private methods out of them =====
/-- a private method of a class that the tables say can be made, by its rows of tables_1 -/
def lw_okq (q : MethodName × Nat) : Prop := (q.1.cls ≠ "java/lang/invoke/MethodHandle" ∧ q.1.cls ≠ "java/lang/invoke/VarHandle") ∧ Cond.instantiable q.1.cls q.2 ∈ tables_1 ∧ Cond.privateMethod q.1 ∈ tables_1 ∧ Cond.instanceMethod q.1 ∈ tables_1
theorem lw_p0 : lw_okq (⟨"LegalRows$Filling", "emptyParts", "()V"⟩, 8) := ⟨⟨by decide +kernel, by decide +kernel⟩, List.mem_of_getElem? (i := 136) (by decide +kernel), List.mem_of_getElem? (i := 229) (by decide +kernel), List.mem_of_getElem? (i := 230) (by decide +kernel)⟩
theorem lw_p1 : lw_okq (⟨"LegalRows$Filling", "orderCells", "()V"⟩, 8) := ⟨⟨by decide +kernel, by decide +kernel⟩, List.mem_of_getElem? (i := 136) (by decide +kernel), List.mem_of_getElem? (i := 233) (by decide +kernel), List.mem_of_getElem? (i := 234) (by decide +kernel)⟩
theorem lw_p2 : lw_okq (⟨"LegalRows$Filling", "cheapestPart", "(I)I"⟩, 8) := ⟨⟨by decide +kernel, by decide +kernel⟩, List.mem_of_getElem? (i := 136) (by decide +kernel), List.mem_of_getElem? (i := 237) (by decide +kernel), List.mem_of_getElem? (i := 238) (by decide +kernel)⟩
theorem lw_p3 : lw_okq (⟨"LegalRows$Filling", "costAtLeast", "(II)I"⟩, 8) := ⟨⟨by decide +kernel, by decide +kernel⟩, List.mem_of_getElem? (i := 136) (by decide +kernel), List.mem_of_getElem? (i := 241) (by decide +kernel), List.mem_of_getElem? (i := 242) (by decide +kernel)⟩
theorem lw_p4 : lw_okq (⟨"LegalRows$Filling", "layWith", "(II)Z"⟩, 8) := ⟨⟨by decide +kernel, by decide +kernel⟩, List.mem_of_getElem? (i := 136) (by decide +kernel), List.mem_of_getElem? (i := 253) (by decide +kernel), List.mem_of_getElem? (i := 254) (by decide +kernel)⟩
theorem lw_p5 : lw_okq (⟨"LegalRows$Filling", "gather", "(I)V"⟩, 8) := ⟨⟨by decide +kernel, by decide +kernel⟩, List.mem_of_getElem? (i := 136) (by decide +kernel), List.mem_of_getElem? (i := 257) (by decide +kernel), List.mem_of_getElem? (i := 258) (by decide +kernel)⟩
theorem lw_p6 : lw_okq (⟨"LegalRows$Line", "findBestShifts", "(II)V"⟩, 10) := ⟨⟨by decide +kernel, by decide +kernel⟩, List.mem_of_getElem? (i := 142) (by decide +kernel), List.mem_of_getElem? (i := 277) (by decide +kernel), List.mem_of_getElem? (i := 278) (by decide +kernel)⟩
theorem lw_p7 : lw_okq (⟨"LegalRows$Line", "insertBend", "(I)V"⟩, 10) := ⟨⟨by decide +kernel, by decide +kernel⟩, List.mem_of_getElem? (i := 142) (by decide +kernel), List.mem_of_getElem? (i := 283) (by decide +kernel), List.mem_of_getElem? (i := 284) (by decide +kernel)⟩
theorem lw_p8 : lw_okq (⟨"LegalRows$Line", "setSites", "(II)V"⟩, 10) := ⟨⟨by decide +kernel, by decide +kernel⟩, List.mem_of_getElem? (i := 142) (by decide +kernel), List.mem_of_getElem? (i := 287) (by decide +kernel), List.mem_of_getElem? (i := 288) (by decide +kernel)⟩
theorem lw_p9 : lw_okq (⟨"LegalRows$Filling", "append", "(II)V"⟩, 8) := ⟨⟨by decide +kernel, by decide +kernel⟩, List.mem_of_getElem? (i := 136) (by decide +kernel), List.mem_of_getElem? (i := 292) (by decide +kernel), List.mem_of_getElem? (i := 293) (by decide +kernel)⟩
theorem lw_p10 : lw_okq (⟨"LegalRows$Filling", "settle", "(I)V"⟩, 8) := ⟨⟨by decide +kernel, by decide +kernel⟩, List.mem_of_getElem? (i := 136) (by decide +kernel), List.mem_of_getElem? (i := 296) (by decide +kernel), List.mem_of_getElem? (i := 297) (by decide +kernel)⟩
theorem lw_p11 : lw_okq (⟨"java/lang/Throwable", "fillInStackTrace", "(I)Ljava/lang/Throwable;"⟩, 6) := ⟨⟨by decide +kernel, by decide +kernel⟩, List.mem_of_getElem? (i := 358) (by decide +kernel), List.mem_of_getElem? (i := 356) (by decide +kernel), List.mem_of_getElem? (i := 357) (by decide +kernel)⟩
theorem lw_p12 : lw_okq (⟨"LegalRows", "requireCell", "(I)V"⟩, 5) := ⟨⟨by decide +kernel, by decide +kernel⟩, List.mem_of_getElem? (i := 17) (by decide +kernel), List.mem_of_getElem? (i := 417) (by decide +kernel), List.mem_of_getElem? (i := 418) (by decide +kernel)⟩
theorem lw_p13 : lw_okq (⟨"LegalRows", "requireRow", "(I)V"⟩, 5) := ⟨⟨by decide +kernel, by decide +kernel⟩, List.mem_of_getElem? (i := 17) (by decide +kernel), List.mem_of_getElem? (i := 437) (by decide +kernel), List.mem_of_getElem? (i := 438) (by decide +kernel)⟩
theorem lw_p14 : lw_okq (⟨"LegalRows", "noteChange", "(Z)Z"⟩, 5) := ⟨⟨by decide +kernel, by decide +kernel⟩, List.mem_of_getElem? (i := 17) (by decide +kernel), List.mem_of_getElem? (i := 447) (by decide +kernel), List.mem_of_getElem? (i := 448) (by decide +kernel)⟩
theorem lw_p15 : lw_okq (⟨"LegalRows$Ground", "cutPart", "(III)V"⟩, 6) := ⟨⟨by decide +kernel, by decide +kernel⟩, List.mem_of_getElem? (i := 38) (by decide +kernel), List.mem_of_getElem? (i := 465) (by decide +kernel), List.mem_of_getElem? (i := 466) (by decide +kernel)⟩
def lw_privs_1 : List (MethodName × Nat) := [(⟨"LegalRows$Filling", "emptyParts", "()V"⟩, 8), (⟨"LegalRows$Filling", "orderCells", "()V"⟩, 8), (⟨"LegalRows$Filling", "cheapestPart", "(I)I"⟩, 8), (⟨"LegalRows$Filling", "costAtLeast", "(II)I"⟩, 8), (⟨"LegalRows$Filling", "layWith", "(II)Z"⟩, 8), (⟨"LegalRows$Filling", "gather", "(I)V"⟩, 8), (⟨"LegalRows$Line", "findBestShifts", "(II)V"⟩, 10), (⟨"LegalRows$Line", "insertBend", "(I)V"⟩, 10), (⟨"LegalRows$Line", "setSites", "(II)V"⟩, 10), (⟨"LegalRows$Filling", "append", "(II)V"⟩, 8), (⟨"LegalRows$Filling", "settle", "(I)V"⟩, 8), (⟨"java/lang/Throwable", "fillInStackTrace", "(I)Ljava/lang/Throwable;"⟩, 6), (⟨"LegalRows", "requireCell", "(I)V"⟩, 5), (⟨"LegalRows", "requireRow", "(I)V"⟩, 5), (⟨"LegalRows", "noteChange", "(Z)Z"⟩, 5), (⟨"LegalRows$Ground", "cutPart", "(III)V"⟩, 6)]
theorem lw_r1 : ∀ q ∈ lw_privs_1, lw_okq q := List.forall_mem_cons.mpr ⟨lw_p0, List.forall_mem_cons.mpr ⟨lw_p1, List.forall_mem_cons.mpr ⟨lw_p2, List.forall_mem_cons.mpr ⟨lw_p3, List.forall_mem_cons.mpr ⟨lw_p4, List.forall_mem_cons.mpr ⟨lw_p5, List.forall_mem_cons.mpr ⟨lw_p6, List.forall_mem_cons.mpr ⟨lw_p7, List.forall_mem_cons.mpr ⟨lw_p8, List.forall_mem_cons.mpr ⟨lw_p9, List.forall_mem_cons.mpr ⟨lw_p10, List.forall_mem_cons.mpr ⟨lw_p11, List.forall_mem_cons.mpr ⟨lw_p12, List.forall_mem_cons.mpr ⟨lw_p13, List.forall_mem_cons.mpr ⟨lw_p14, List.forall_mem_cons.mpr ⟨lw_p15, fun _ h => absurd h List.not_mem_nil⟩⟩⟩⟩⟩⟩⟩⟩⟩⟩⟩⟩⟩⟩⟩⟩
theorem lw_p16 : lw_okq (⟨"LegalRows$Ground", "insertBehind", "(III)V"⟩, 6) := ⟨⟨by decide +kernel, by decide +kernel⟩, List.mem_of_getElem? (i := 38) (by decide +kernel), List.mem_of_getElem? (i := 469) (by decide +kernel), List.mem_of_getElem? (i := 470) (by decide +kernel)⟩
theorem lw_p17 : lw_okq (⟨"LegalRows$Ground", "shiftParts", "(II)V"⟩, 6) := ⟨⟨by decide +kernel, by decide +kernel⟩, List.mem_of_getElem? (i := 38) (by decide +kernel), List.mem_of_getElem? (i := 473) (by decide +kernel), List.mem_of_getElem? (i := 474) (by decide +kernel)⟩
theorem lw_p18 : lw_okq (⟨"LegalRows$Ground", "remove", "(I)V"⟩, 6) := ⟨⟨by decide +kernel, by decide +kernel⟩, List.mem_of_getElem? (i := 38) (by decide +kernel), List.mem_of_getElem? (i := 480) (by decide +kernel), List.mem_of_getElem? (i := 481) (by decide +kernel)⟩
theorem lw_p19 : lw_okq (⟨"LegalRows", "requirePlaces", "()V"⟩, 5) := ⟨⟨by decide +kernel, by decide +kernel⟩, List.mem_of_getElem? (i := 17) (by decide +kernel), List.mem_of_getElem? (i := 519) (by decide +kernel), List.mem_of_getElem? (i := 520) (by decide +kernel)⟩
theorem lw_p20 : lw_okq (⟨"LegalRows$Nets", "gainOfCellAt", "(II)I"⟩, 5) := ⟨⟨by decide +kernel, by decide +kernel⟩, List.mem_of_getElem? (i := 113) (by decide +kernel), List.mem_of_getElem? (i := 566) (by decide +kernel), List.mem_of_getElem? (i := 567) (by decide +kernel)⟩
theorem lw_p21 : lw_okq (⟨"LegalRows$Nets", "chain", "(II)V"⟩, 5) := ⟨⟨by decide +kernel, by decide +kernel⟩, List.mem_of_getElem? (i := 113) (by decide +kernel), List.mem_of_getElem? (i := 596) (by decide +kernel), List.mem_of_getElem? (i := 597) (by decide +kernel)⟩
theorem lw_p22 : lw_okq (⟨"LegalRowsModel", "isCell", "(I)Z"⟩, 28) := ⟨⟨by decide +kernel, by decide +kernel⟩, List.mem_of_getElem? (i := 627) (by decide +kernel), List.mem_of_getElem? (i := 735) (by decide +kernel), List.mem_of_getElem? (i := 736) (by decide +kernel)⟩
theorem lw_p23 : lw_okq (⟨"LegalRowsModel", "isRow", "(I)Z"⟩, 28) := ⟨⟨by decide +kernel, by decide +kernel⟩, List.mem_of_getElem? (i := 627) (by decide +kernel), List.mem_of_getElem? (i := 739) (by decide +kernel), List.mem_of_getElem? (i := 740) (by decide +kernel)⟩
theorem lw_p24 : lw_okq (⟨"LegalRowsModel", "sort", "()V"⟩, 28) := ⟨⟨by decide +kernel, by decide +kernel⟩, List.mem_of_getElem? (i := 627) (by decide +kernel), List.mem_of_getElem? (i := 763) (by decide +kernel), List.mem_of_getElem? (i := 764) (by decide +kernel)⟩
theorem lw_p25 : lw_okq (⟨"LegalRowsModel", "isTaken", "(I)Z"⟩, 28) := ⟨⟨by decide +kernel, by decide +kernel⟩, List.mem_of_getElem? (i := 627) (by decide +kernel), List.mem_of_getElem? (i := 767) (by decide +kernel), List.mem_of_getElem? (i := 768) (by decide +kernel)⟩
theorem lw_p26 : lw_okq (⟨"LegalRowsModel", "isBegin", "(II)Z"⟩, 28) := ⟨⟨by decide +kernel, by decide +kernel⟩, List.mem_of_getElem? (i := 627) (by decide +kernel), List.mem_of_getElem? (i := 772) (by decide +kernel), List.mem_of_getElem? (i := 773) (by decide +kernel)⟩
theorem lw_p27 : lw_okq (⟨"LegalRowsModel", "endOf", "(II)I"⟩, 28) := ⟨⟨by decide +kernel, by decide +kernel⟩, List.mem_of_getElem? (i := 627) (by decide +kernel), List.mem_of_getElem? (i := 776) (by decide +kernel), List.mem_of_getElem? (i := 777) (by decide +kernel)⟩
theorem lw_p28 : lw_okq (⟨"LegalRowsModel", "with", "(II)J"⟩, 28) := ⟨⟨by decide +kernel, by decide +kernel⟩, List.mem_of_getElem? (i := 627) (by decide +kernel), List.mem_of_getElem? (i := 780) (by decide +kernel), List.mem_of_getElem? (i := 781) (by decide +kernel)⟩
theorem lw_p29 : lw_okq (⟨"LegalRowsModel", "without", "(I)J"⟩, 28) := ⟨⟨by decide +kernel, by decide +kernel⟩, List.mem_of_getElem? (i := 627) (by decide +kernel), List.mem_of_getElem? (i := 787) (by decide +kernel), List.mem_of_getElem? (i := 788) (by decide +kernel)⟩
theorem lw_p30 : lw_okq (⟨"LegalRowsModel", "gather", "(II)V"⟩, 28) := ⟨⟨by decide +kernel, by decide +kernel⟩, List.mem_of_getElem? (i := 627) (by decide +kernel), List.mem_of_getElem? (i := 791) (by decide +kernel), List.mem_of_getElem? (i := 792) (by decide +kernel)⟩
theorem lw_p31 : lw_okq (⟨"LegalRowsModel", "settle", "(I)V"⟩, 28) := ⟨⟨by decide +kernel, by decide +kernel⟩, List.mem_of_getElem? (i := 627) (by decide +kernel), List.mem_of_getElem? (i := 795) (by decide +kernel), List.mem_of_getElem? (i := 796) (by decide +kernel)⟩
def lw_privs_2 : List (MethodName × Nat) := [(⟨"LegalRows$Ground", "insertBehind", "(III)V"⟩, 6), (⟨"LegalRows$Ground", "shiftParts", "(II)V"⟩, 6), (⟨"LegalRows$Ground", "remove", "(I)V"⟩, 6), (⟨"LegalRows", "requirePlaces", "()V"⟩, 5), (⟨"LegalRows$Nets", "gainOfCellAt", "(II)I"⟩, 5), (⟨"LegalRows$Nets", "chain", "(II)V"⟩, 5), (⟨"LegalRowsModel", "isCell", "(I)Z"⟩, 28), (⟨"LegalRowsModel", "isRow", "(I)Z"⟩, 28), (⟨"LegalRowsModel", "sort", "()V"⟩, 28), (⟨"LegalRowsModel", "isTaken", "(I)Z"⟩, 28), (⟨"LegalRowsModel", "isBegin", "(II)Z"⟩, 28), (⟨"LegalRowsModel", "endOf", "(II)I"⟩, 28), (⟨"LegalRowsModel", "with", "(II)J"⟩, 28), (⟨"LegalRowsModel", "without", "(I)J"⟩, 28), (⟨"LegalRowsModel", "gather", "(II)V"⟩, 28), (⟨"LegalRowsModel", "settle", "(I)V"⟩, 28)]
theorem lw_r2 : ∀ q ∈ lw_privs_2, lw_okq q := List.forall_mem_cons.mpr ⟨lw_p16, List.forall_mem_cons.mpr ⟨lw_p17, List.forall_mem_cons.mpr ⟨lw_p18, List.forall_mem_cons.mpr ⟨lw_p19, List.forall_mem_cons.mpr ⟨lw_p20, List.forall_mem_cons.mpr ⟨lw_p21, List.forall_mem_cons.mpr ⟨lw_p22, List.forall_mem_cons.mpr ⟨lw_p23, List.forall_mem_cons.mpr ⟨lw_p24, List.forall_mem_cons.mpr ⟨lw_p25, List.forall_mem_cons.mpr ⟨lw_p26, List.forall_mem_cons.mpr ⟨lw_p27, List.forall_mem_cons.mpr ⟨lw_p28, List.forall_mem_cons.mpr ⟨lw_p29, List.forall_mem_cons.mpr ⟨lw_p30, List.forall_mem_cons.mpr ⟨lw_p31, fun _ h => absurd h List.not_mem_nil⟩⟩⟩⟩⟩⟩⟩⟩⟩⟩⟩⟩⟩⟩⟩⟩
theorem lw_p32 : lw_okq (⟨"LegalRowsModel", "lay", "()J"⟩, 28) := ⟨⟨by decide +kernel, by decide +kernel⟩, List.mem_of_getElem? (i := 627) (by decide +kernel), List.mem_of_getElem? (i := 799) (by decide +kernel), List.mem_of_getElem? (i := 800) (by decide +kernel)⟩
theorem lw_p33 : lw_okq (⟨"LegalRowsModel", "costAt", "(II)J"⟩, 28) := ⟨⟨by decide +kernel, by decide +kernel⟩, List.mem_of_getElem? (i := 627) (by decide +kernel), List.mem_of_getElem? (i := 803) (by decide +kernel), List.mem_of_getElem? (i := 804) (by decide +kernel)⟩
theorem lw_p34 : lw_okq (⟨"LegalRowsModel", "behind", "(II)I"⟩, 28) := ⟨⟨by decide +kernel, by decide +kernel⟩, List.mem_of_getElem? (i := 627) (by decide +kernel), List.mem_of_getElem? (i := 807) (by decide +kernel), List.mem_of_getElem? (i := 808) (by decide +kernel)⟩
theorem lw_p35 : lw_okq (⟨"LegalRowsModel", "faultOf", "(I)I"⟩, 28) := ⟨⟨by decide +kernel, by decide +kernel⟩, List.mem_of_getElem? (i := 627) (by decide +kernel), List.mem_of_getElem? (i := 815) (by decide +kernel), List.mem_of_getElem? (i := 816) (by decide +kernel)⟩
theorem lw_p36 : lw_okq (⟨"LegalRowsModel", "isExchanged", "()Z"⟩, 28) := ⟨⟨by decide +kernel, by decide +kernel⟩, List.mem_of_getElem? (i := 627) (by decide +kernel), List.mem_of_getElem? (i := 835) (by decide +kernel), List.mem_of_getElem? (i := 836) (by decide +kernel)⟩
theorem lw_p37 : lw_okq (⟨"LegalRowsModel", "wireOf", "()J"⟩, 28) := ⟨⟨by decide +kernel, by decide +kernel⟩, List.mem_of_getElem? (i := 627) (by decide +kernel), List.mem_of_getElem? (i := 839) (by decide +kernel), List.mem_of_getElem? (i := 840) (by decide +kernel)⟩
theorem lw_p38 : lw_okq (⟨"LegalRowsModel", "exchange", "(II)V"⟩, 28) := ⟨⟨by decide +kernel, by decide +kernel⟩, List.mem_of_getElem? (i := 627) (by decide +kernel), List.mem_of_getElem? (i := 843) (by decide +kernel), List.mem_of_getElem? (i := 844) (by decide +kernel)⟩
def lw_privs_3 : List (MethodName × Nat) := [(⟨"LegalRowsModel", "lay", "()J"⟩, 28), (⟨"LegalRowsModel", "costAt", "(II)J"⟩, 28), (⟨"LegalRowsModel", "behind", "(II)I"⟩, 28), (⟨"LegalRowsModel", "faultOf", "(I)I"⟩, 28), (⟨"LegalRowsModel", "isExchanged", "()Z"⟩, 28), (⟨"LegalRowsModel", "wireOf", "()J"⟩, 28), (⟨"LegalRowsModel", "exchange", "(II)V"⟩, 28)]
theorem lw_r3 : ∀ q ∈ lw_privs_3, lw_okq q := List.forall_mem_cons.mpr ⟨lw_p32, List.forall_mem_cons.mpr ⟨lw_p33, List.forall_mem_cons.mpr ⟨lw_p34, List.forall_mem_cons.mpr ⟨lw_p35, List.forall_mem_cons.mpr ⟨lw_p36, List.forall_mem_cons.mpr ⟨lw_p37, List.forall_mem_cons.mpr ⟨lw_p38, fun _ h => absurd h List.not_mem_nil⟩⟩⟩⟩⟩⟩⟩
def lw_privs : List (MethodName × Nat) := lw_privs_1 ++ (lw_privs_2 ++ (lw_privs_3))
def lw_tbl : List Cond := k2_sels lw_privs ++ tables_1
theorem lw_privs_ok : ∀ q ∈ lw_privs, lw_okq q := by
  show ∀ q ∈ lw_privs_1 ++ (lw_privs_2 ++ (lw_privs_3)), lw_okq q
  exact List.forall_mem_append.mpr ⟨lw_r1, List.forall_mem_append.mpr ⟨lw_r2, lw_r3⟩⟩
-- ===== end of PART A; then your names; then what follows =====
end
section
/-! NAMES (by names.py out of the program): classes, fields in the order of the slots, methods -/
def R_Lr : String := "LegalRows"
def T_Lr : u_T := fun k => match k with
  | 0 => ("LegalRows", "ground", "LLegalRows$Ground;", true)
  | 1 => ("LegalRows", "cells", "LLegalRows$Cells;", true)
  | 2 => ("LegalRows", "nets", "LLegalRows$Nets;", true)
  | 3 => ("LegalRows", "filling", "LLegalRows$Filling;", true)
  | _ => ("LegalRows", "placed", "Z", false)
def t_Lr : Nat → FieldType := fun k => match k with
  | 0 => .object "LegalRows$Ground"
  | 1 => .object "LegalRows$Cells"
  | 2 => .object "LegalRows$Nets"
  | 3 => .object "LegalRows$Filling"
  | _ => .boolean
theorem nm_Lr : ∀ a, a < 5 → ∀ b, b < 5 → a ≠ b → (T_Lr a).2.1 ≠ (T_Lr b).2.1 := by decide +kernel
theorem to_Lr : ∀ k, k < 5 → parseFieldDescriptor (T_Lr k).2.2.1 = some (t_Lr k) := by decide +kernel
def R_Gr : String := "LegalRows$Ground"
def T_Gr : u_T := fun k => match k with
  | 0 => ("LegalRows$Ground", "rows", "I", true)
  | 1 => ("LegalRows$Ground", "sites", "I", true)
  | 2 => ("LegalRows$Ground", "partRow", "[I", true)
  | 3 => ("LegalRows$Ground", "partFrom", "[I", true)
  | 4 => ("LegalRows$Ground", "partTo", "[I", true)
  | _ => ("LegalRows$Ground", "parts", "I", false)
def t_Gr : Nat → FieldType := fun k => match k with
  | 0 => .int
  | 1 => .int
  | 2 => .array .int
  | 3 => .array .int
  | 4 => .array .int
  | _ => .int
theorem nm_Gr : ∀ a, a < 6 → ∀ b, b < 6 → a ≠ b → (T_Gr a).2.1 ≠ (T_Gr b).2.1 := by decide +kernel
theorem to_Gr : ∀ k, k < 6 → parseFieldDescriptor (T_Gr k).2.2.1 = some (t_Gr k) := by decide +kernel
def R_Ce : String := "LegalRows$Cells"
def T_Ce : u_T := fun k => match k with
  | 0 => ("LegalRows$Cells", "width", "[I", true)
  | 1 => ("LegalRows$Cells", "left", "[I", true)
  | 2 => ("LegalRows$Cells", "right", "[I", true)
  | 3 => ("LegalRows$Cells", "wantedSite", "[I", true)
  | 4 => ("LegalRows$Cells", "wantedRow", "[I", true)
  | 5 => ("LegalRows$Cells", "site", "[I", true)
  | 6 => ("LegalRows$Cells", "row", "[I", true)
  | 7 => ("LegalRows$Cells", "spaces", "[I", true)
  | _ => ("LegalRows$Cells", "count", "I", false)
def t_Ce : Nat → FieldType := fun k => match k with
  | 0 => .array .int
  | 1 => .array .int
  | 2 => .array .int
  | 3 => .array .int
  | 4 => .array .int
  | 5 => .array .int
  | 6 => .array .int
  | 7 => .array .int
  | _ => .int
theorem nm_Ce : ∀ a, a < 9 → ∀ b, b < 9 → a ≠ b → (T_Ce a).2.1 ≠ (T_Ce b).2.1 := by decide +kernel
theorem to_Ce : ∀ k, k < 9 → parseFieldDescriptor (T_Ce k).2.2.1 = some (t_Ce k) := by decide +kernel
def R_Ne : String := "LegalRows$Nets"
def T_Ne : u_T := fun k => match k with
  | 0 => ("LegalRows$Nets", "cells", "LLegalRows$Cells;", true)
  | 1 => ("LegalRows$Nets", "cellOf", "[I", true)
  | 2 => ("LegalRows$Nets", "nextEnd", "[I", true)
  | 3 => ("LegalRows$Nets", "firstEnd", "[I", true)
  | _ => ("LegalRows$Nets", "count", "I", false)
def t_Ne : Nat → FieldType := fun k => match k with
  | 0 => .object "LegalRows$Cells"
  | 1 => .array .int
  | 2 => .array .int
  | 3 => .array .int
  | _ => .int
theorem nm_Ne : ∀ a, a < 5 → ∀ b, b < 5 → a ≠ b → (T_Ne a).2.1 ≠ (T_Ne b).2.1 := by decide +kernel
theorem to_Ne : ∀ k, k < 5 → parseFieldDescriptor (T_Ne k).2.2.1 = some (t_Ne k) := by decide +kernel
def R_Fi : String := "LegalRows$Filling"
def T_Fi : u_T := fun k => match k with
  | 0 => ("LegalRows$Filling", "ground", "LLegalRows$Ground;", true)
  | 1 => ("LegalRows$Filling", "cells", "LLegalRows$Cells;", true)
  | 2 => ("LegalRows$Filling", "line", "LLegalRows$Line;", true)
  | 3 => ("LegalRows$Filling", "order", "[I", true)
  | 4 => ("LegalRows$Filling", "nextCell", "[I", true)
  | 5 => ("LegalRows$Filling", "firstCell", "[I", true)
  | 6 => ("LegalRows$Filling", "lastCell", "[I", true)
  | _ => ("LegalRows$Filling", "sum", "[I", true)
def t_Fi : Nat → FieldType := fun k => match k with
  | 0 => .object "LegalRows$Ground"
  | 1 => .object "LegalRows$Cells"
  | 2 => .object "LegalRows$Line"
  | 3 => .array .int
  | 4 => .array .int
  | 5 => .array .int
  | 6 => .array .int
  | _ => .array .int
theorem nm_Fi : ∀ a, a < 8 → ∀ b, b < 8 → a ≠ b → (T_Fi a).2.1 ≠ (T_Fi b).2.1 := by decide +kernel
theorem to_Fi : ∀ k, k < 8 → parseFieldDescriptor (T_Fi k).2.2.1 = some (t_Fi k) := by decide +kernel
def R_Li : String := "LegalRows$Line"
def T_Li : u_T := fun k => match k with
  | 0 => ("LegalRows$Line", "cells", "LLegalRows$Cells;", true)
  | 1 => ("LegalRows$Line", "cell", "[I", true)
  | 2 => ("LegalRows$Line", "offset", "[I", true)
  | 3 => ("LegalRows$Line", "bestShift", "[I", true)
  | 4 => ("LegalRows$Line", "site", "[I", true)
  | 5 => ("LegalRows$Line", "bend", "[I", true)
  | 6 => ("LegalRows$Line", "bends", "I", false)
  | 7 => ("LegalRows$Line", "count", "I", false)
  | 8 => ("LegalRows$Line", "length", "I", false)
  | _ => ("LegalRows$Line", "sum", "I", false)
def t_Li : Nat → FieldType := fun k => match k with
  | 0 => .object "LegalRows$Cells"
  | 1 => .array .int
  | 2 => .array .int
  | 3 => .array .int
  | 4 => .array .int
  | 5 => .array .int
  | 6 => .int
  | 7 => .int
  | 8 => .int
  | _ => .int
theorem nm_Li : ∀ a, a < 10 → ∀ b, b < 10 → a ≠ b → (T_Li a).2.1 ≠ (T_Li b).2.1 := by decide +kernel
theorem to_Li : ∀ k, k < 10 → parseFieldDescriptor (T_Li k).2.2.1 = some (t_Li k) := by decide +kernel
def R_Mo : String := "LegalRowsModel"
def T_Mo : u_T := fun k => match k with
  | 0 => ("LegalRowsModel", "code", "I", false)
  | 1 => ("LegalRowsModel", "rows", "I", true)
  | 2 => ("LegalRowsModel", "sites", "I", true)
  | 3 => ("LegalRowsModel", "barred", "[Z", true)
  | 4 => ("LegalRowsModel", "cells", "I", false)
  | 5 => ("LegalRowsModel", "widths", "[I", true)
  | 6 => ("LegalRowsModel", "lefts", "[I", true)
  | 7 => ("LegalRowsModel", "rights", "[I", true)
  | 8 => ("LegalRowsModel", "wantedX", "[I", true)
  | 9 => ("LegalRowsModel", "wantedRow", "[I", true)
  | 10 => ("LegalRowsModel", "spaces", "[I", true)
  | 11 => ("LegalRowsModel", "netA", "[I", true)
  | 12 => ("LegalRowsModel", "netB", "[I", true)
  | 13 => ("LegalRowsModel", "nets", "I", false)
  | 14 => ("LegalRowsModel", "atX", "[I", true)
  | 15 => ("LegalRowsModel", "atRow", "[I", true)
  | 16 => ("LegalRowsModel", "partOf", "[I", true)
  | 17 => ("LegalRowsModel", "placed", "Z", false)
  | 18 => ("LegalRowsModel", "line", "[I", true)
  | 19 => ("LegalRowsModel", "many", "I", false)
  | 20 => ("LegalRowsModel", "first", "I", false)
  | 21 => ("LegalRowsModel", "end", "I", false)
  | 22 => ("LegalRowsModel", "table", "[J", true)
  | 23 => ("LegalRowsModel", "order", "[I", true)
  | 24 => ("LegalRowsModel", "turns", "I", false)
  | 25 => ("LegalRowsModel", "fronts", "[J", true)
  | 26 => ("LegalRowsModel", "lasts", "[I", true)
  | _ => ("LegalRowsModel", "trial", "[J", true)
def t_Mo : Nat → FieldType := fun k => match k with
  | 0 => .int
  | 1 => .int
  | 2 => .int
  | 3 => .array .boolean
  | 4 => .int
  | 5 => .array .int
  | 6 => .array .int
  | 7 => .array .int
  | 8 => .array .int
  | 9 => .array .int
  | 10 => .array .int
  | 11 => .array .int
  | 12 => .array .int
  | 13 => .int
  | 14 => .array .int
  | 15 => .array .int
  | 16 => .array .int
  | 17 => .boolean
  | 18 => .array .int
  | 19 => .int
  | 20 => .int
  | 21 => .int
  | 22 => .array .long
  | 23 => .array .int
  | 24 => .int
  | 25 => .array .long
  | 26 => .array .int
  | _ => .array .long
theorem nm_Mo : ∀ a, a < 28 → ∀ b, b < 28 → a ≠ b → (T_Mo a).2.1 ≠ (T_Mo b).2.1 := by decide +kernel
theorem to_Mo : ∀ k, k < 28 → parseFieldDescriptor (T_Mo k).2.2.1 = some (t_Mo k) := by decide +kernel
def R_La : String := "LegalRowsLaw"
abbrev vCl : List vw_C := [(R_Lr, T_Lr, 5), (R_Gr, T_Gr, 6), (R_Ce, T_Ce, 9), (R_Ne, T_Ne, 5), (R_Fi, T_Fi, 8), (R_Li, T_Li, 10), (R_Mo, T_Mo, 28)]
abbrev c_Lr_init : ByteArray := prog_1_method_1_code
def y_Lr_init : MethodName := ⟨R_Lr, "<init>", "(IJ)V"⟩
abbrev c_Lr_cell : ByteArray := prog_1_method_2_code
def y_Lr_cell : MethodName := ⟨R_Lr, "cell", "(JI)I"⟩
abbrev c_Lr_want : ByteArray := prog_1_method_3_code
def y_Lr_want : MethodName := ⟨R_Lr, "want", "(IJI)Z"⟩
abbrev c_Lr_bar : ByteArray := prog_1_method_4_code
def y_Lr_bar : MethodName := ⟨R_Lr, "bar", "(IJJ)Z"⟩
abbrev c_Lr_kind : ByteArray := prog_1_method_5_code
def y_Lr_kind : MethodName := ⟨R_Lr, "kind", "(III)Z"⟩
abbrev c_Lr_space : ByteArray := prog_1_method_6_code
def y_Lr_space : MethodName := ⟨R_Lr, "space", "(IIJ)Z"⟩
abbrev c_Lr_run : ByteArray := prog_1_method_7_code
def y_Lr_run : MethodName := ⟨R_Lr, "run", "()I"⟩
abbrev c_Lr_at : ByteArray := prog_1_method_8_code
def y_Lr_at : MethodName := ⟨R_Lr, "at", "(I)J"⟩
abbrev c_Lr_rowOf : ByteArray := prog_1_method_9_code
def y_Lr_rowOf : MethodName := ⟨R_Lr, "rowOf", "(I)I"⟩
abbrev c_Lr_moved : ByteArray := prog_1_method_10_code
def y_Lr_moved : MethodName := ⟨R_Lr, "moved", "()J"⟩
abbrev c_Lr_mirrored : ByteArray := prog_1_method_11_code
def y_Lr_mirrored : MethodName := ⟨R_Lr, "mirrored", "(I)Z"⟩
abbrev c_Lr_improve : ByteArray := prog_1_method_12_code
def y_Lr_improve : MethodName := ⟨R_Lr, "improve", "(I)I"⟩
abbrev c_Lr_net : ByteArray := prog_1_method_13_code
def y_Lr_net : MethodName := ⟨R_Lr, "net", "(II)I"⟩
abbrev c_Lr_wire : ByteArray := prog_1_method_14_code
def y_Lr_wire : MethodName := ⟨R_Lr, "wire", "()J"⟩
abbrev c_Lr_overlap : ByteArray := prog_1_method_15_code
def y_Lr_overlap : MethodName := ⟨R_Lr, "overlap", "()Z"⟩
abbrev c_Lr_noteChange : ByteArray := prog_1_method_16_code
def y_Lr_noteChange : MethodName := ⟨R_Lr, "noteChange", "(Z)Z"⟩
abbrev c_Lr_requireCell : ByteArray := prog_1_method_17_code
def y_Lr_requireCell : MethodName := ⟨R_Lr, "requireCell", "(I)V"⟩
abbrev c_Lr_requireRow : ByteArray := prog_1_method_18_code
def y_Lr_requireRow : MethodName := ⟨R_Lr, "requireRow", "(I)V"⟩
abbrev c_Lr_requirePlaces : ByteArray := prog_1_method_19_code
def y_Lr_requirePlaces : MethodName := ⟨R_Lr, "requirePlaces", "()V"⟩
abbrev c_Lr_requireKinds : ByteArray := prog_1_method_20_code
def y_Lr_requireKinds : MethodName := ⟨R_Lr, "requireKinds", "(II)V"⟩
abbrev c_Mo_init : ByteArray := prog_8_method_1_code
def y_Mo_init : MethodName := ⟨R_Mo, "<init>", "(IJ)V"⟩
abbrev c_Mo_thrown : ByteArray := prog_8_method_2_code
def y_Mo_thrown : MethodName := ⟨R_Mo, "thrown", "()I"⟩
abbrev c_Mo_isCell : ByteArray := prog_8_method_3_code
def y_Mo_isCell : MethodName := ⟨R_Mo, "isCell", "(I)Z"⟩
abbrev c_Mo_isRow : ByteArray := prog_8_method_4_code
def y_Mo_isRow : MethodName := ⟨R_Mo, "isRow", "(I)Z"⟩
abbrev c_Mo_isKind : ByteArray := prog_8_method_5_code
def y_Mo_isKind : MethodName := ⟨R_Mo, "isKind", "(I)Z"⟩
abbrev c_Mo_cell : ByteArray := prog_8_method_6_code
def y_Mo_cell : MethodName := ⟨R_Mo, "cell", "(JI)I"⟩
abbrev c_Mo_want : ByteArray := prog_8_method_7_code
def y_Mo_want : MethodName := ⟨R_Mo, "want", "(IJI)Z"⟩
abbrev c_Mo_bar : ByteArray := prog_8_method_8_code
def y_Mo_bar : MethodName := ⟨R_Mo, "bar", "(IJJ)Z"⟩
abbrev c_Mo_kind : ByteArray := prog_8_method_9_code
def y_Mo_kind : MethodName := ⟨R_Mo, "kind", "(III)Z"⟩
abbrev c_Mo_space : ByteArray := prog_8_method_10_code
def y_Mo_space : MethodName := ⟨R_Mo, "space", "(IIJ)Z"⟩
abbrev c_Mo_gather : ByteArray := prog_8_method_11_code
def y_Mo_gather : MethodName := ⟨R_Mo, "gather", "(II)V"⟩
abbrev c_Mo_far : ByteArray := prog_8_method_12_code
def y_Mo_far : MethodName := ⟨R_Mo, "far", "(II)I"⟩
abbrev c_Mo_behind : ByteArray := prog_8_method_13_code
def y_Mo_behind : MethodName := ⟨R_Mo, "behind", "(II)I"⟩
abbrev c_Mo_costAt : ByteArray := prog_8_method_14_code
def y_Mo_costAt : MethodName := ⟨R_Mo, "costAt", "(II)J"⟩
abbrev c_Mo_lay : ByteArray := prog_8_method_15_code
def y_Mo_lay : MethodName := ⟨R_Mo, "lay", "()J"⟩
abbrev c_Mo_settle : ByteArray := prog_8_method_16_code
def y_Mo_settle : MethodName := ⟨R_Mo, "settle", "(I)V"⟩
abbrev c_Mo_sort : ByteArray := prog_8_method_17_code
def y_Mo_sort : MethodName := ⟨R_Mo, "sort", "()V"⟩
abbrev c_Mo_endOf : ByteArray := prog_8_method_18_code
def y_Mo_endOf : MethodName := ⟨R_Mo, "endOf", "(II)I"⟩
abbrev c_Mo_isBegin : ByteArray := prog_8_method_19_code
def y_Mo_isBegin : MethodName := ⟨R_Mo, "isBegin", "(II)Z"⟩
abbrev c_Mo_with : ByteArray := prog_8_method_20_code
def y_Mo_with : MethodName := ⟨R_Mo, "with", "(II)J"⟩
abbrev c_Mo_without : ByteArray := prog_8_method_21_code
def y_Mo_without : MethodName := ⟨R_Mo, "without", "(I)J"⟩
abbrev c_Mo_isTaken : ByteArray := prog_8_method_22_code
def y_Mo_isTaken : MethodName := ⟨R_Mo, "isTaken", "(I)Z"⟩
abbrev c_Mo_run : ByteArray := prog_8_method_23_code
def y_Mo_run : MethodName := ⟨R_Mo, "run", "()I"⟩
abbrev c_Mo_faultOf : ByteArray := prog_8_method_24_code
def y_Mo_faultOf : MethodName := ⟨R_Mo, "faultOf", "(I)I"⟩
abbrev c_Mo_at : ByteArray := prog_8_method_25_code
def y_Mo_at : MethodName := ⟨R_Mo, "at", "(I)J"⟩
abbrev c_Mo_rowOf : ByteArray := prog_8_method_26_code
def y_Mo_rowOf : MethodName := ⟨R_Mo, "rowOf", "(I)I"⟩
abbrev c_Mo_mirrored : ByteArray := prog_8_method_27_code
def y_Mo_mirrored : MethodName := ⟨R_Mo, "mirrored", "(I)Z"⟩
abbrev c_Mo_moved : ByteArray := prog_8_method_28_code
def y_Mo_moved : MethodName := ⟨R_Mo, "moved", "()J"⟩
abbrev c_Mo_wireOf : ByteArray := prog_8_method_29_code
def y_Mo_wireOf : MethodName := ⟨R_Mo, "wireOf", "()J"⟩
abbrev c_Mo_exchange : ByteArray := prog_8_method_30_code
def y_Mo_exchange : MethodName := ⟨R_Mo, "exchange", "(II)V"⟩
abbrev c_Mo_isExchanged : ByteArray := prog_8_method_31_code
def y_Mo_isExchanged : MethodName := ⟨R_Mo, "isExchanged", "()Z"⟩
abbrev c_Mo_improve : ByteArray := prog_8_method_32_code
def y_Mo_improve : MethodName := ⟨R_Mo, "improve", "(I)I"⟩
abbrev c_Mo_net : ByteArray := prog_8_method_33_code
def y_Mo_net : MethodName := ⟨R_Mo, "net", "(II)I"⟩
abbrev c_Mo_wire : ByteArray := prog_8_method_34_code
def y_Mo_wire : MethodName := ⟨R_Mo, "wire", "()J"⟩
abbrev c_Mo_overlap : ByteArray := prog_8_method_35_code
def y_Mo_overlap : MethodName := ⟨R_Mo, "overlap", "()Z"⟩
abbrev c_Ce_init : ByteArray := prog_2_method_1_code
def y_Ce_init : MethodName := ⟨R_Ce, "<init>", "()V"⟩
abbrev c_Ce_add : ByteArray := prog_2_method_2_code
def y_Ce_add : MethodName := ⟨R_Ce, "add", "(I)I"⟩
abbrev c_Ce_setWanted : ByteArray := prog_2_method_3_code
def y_Ce_setWanted : MethodName := ⟨R_Ce, "setWanted", "(III)Z"⟩
abbrev c_Ce_setKinds : ByteArray := prog_2_method_4_code
def y_Ce_setKinds : MethodName := ⟨R_Ce, "setKinds", "(III)Z"⟩
abbrev c_Ce_setSpace : ByteArray := prog_2_method_5_code
def y_Ce_setSpace : MethodName := ⟨R_Ce, "setSpace", "(III)Z"⟩
abbrev c_Ce_spaceBetween : ByteArray := prog_2_method_6_code
def y_Ce_spaceBetween : MethodName := ⟨R_Ce, "spaceBetween", "(II)I"⟩
abbrev c_Ce_put : ByteArray := prog_2_method_7_code
def y_Ce_put : MethodName := ⟨R_Ce, "put", "(III)V"⟩
abbrev c_Ce_exchange : ByteArray := prog_2_method_8_code
def y_Ce_exchange : MethodName := ⟨R_Ce, "exchange", "(II)V"⟩
abbrev c_Ce_alike : ByteArray := prog_2_method_9_code
def y_Ce_alike : MethodName := ⟨R_Ce, "alike", "(II)Z"⟩
abbrev c_Ce_end : ByteArray := prog_2_method_10_code
def y_Ce_end : MethodName := ⟨R_Ce, "end", "(I)I"⟩
abbrev c_Ce_shareSite : ByteArray := prog_2_method_11_code
def y_Ce_shareSite : MethodName := ⟨R_Ce, "shareSite", "(II)Z"⟩
abbrev c_Ce_rowCost : ByteArray := prog_2_method_12_code
def y_Ce_rowCost : MethodName := ⟨R_Ce, "rowCost", "(II)I"⟩
abbrev c_Ce_wayFromWanted : ByteArray := prog_2_method_13_code
def y_Ce_wayFromWanted : MethodName := ⟨R_Ce, "wayFromWanted", "()J"⟩
abbrev c_Ce_distance : ByteArray := prog_2_method_14_code
def y_Ce_distance : MethodName := ⟨R_Ce, "distance", "(II)I"⟩
abbrev c_Fi_init : ByteArray := prog_3_method_1_code
def y_Fi_init : MethodName := ⟨R_Fi, "<init>", "(LLegalRows$Ground;LLegalRows$Cells;)V"⟩
abbrev c_Fi_placeAll : ByteArray := prog_3_method_2_code
def y_Fi_placeAll : MethodName := ⟨R_Fi, "placeAll", "()I"⟩
abbrev c_Fi_emptyParts : ByteArray := prog_3_method_3_code
def y_Fi_emptyParts : MethodName := ⟨R_Fi, "emptyParts", "()V"⟩
abbrev c_Fi_orderCells : ByteArray := prog_3_method_4_code
def y_Fi_orderCells : MethodName := ⟨R_Fi, "orderCells", "()V"⟩
abbrev c_Fi_cheapestPart : ByteArray := prog_3_method_5_code
def y_Fi_cheapestPart : MethodName := ⟨R_Fi, "cheapestPart", "(I)I"⟩
abbrev c_Fi_costAtLeast : ByteArray := prog_3_method_6_code
def y_Fi_costAtLeast : MethodName := ⟨R_Fi, "costAtLeast", "(II)I"⟩
abbrev c_Fi_append : ByteArray := prog_3_method_7_code
def y_Fi_append : MethodName := ⟨R_Fi, "append", "(II)V"⟩
abbrev c_Fi_layWith : ByteArray := prog_3_method_8_code
def y_Fi_layWith : MethodName := ⟨R_Fi, "layWith", "(II)Z"⟩
abbrev c_Fi_gather : ByteArray := prog_3_method_9_code
def y_Fi_gather : MethodName := ⟨R_Fi, "gather", "(I)V"⟩
abbrev c_Fi_settle : ByteArray := prog_3_method_10_code
def y_Fi_settle : MethodName := ⟨R_Fi, "settle", "(I)V"⟩
abbrev c_Gr_init : ByteArray := prog_4_method_1_code
def y_Gr_init : MethodName := ⟨R_Gr, "<init>", "(II)V"⟩
abbrev c_Gr_cut : ByteArray := prog_4_method_2_code
def y_Gr_cut : MethodName := ⟨R_Gr, "cut", "(III)Z"⟩
abbrev c_Gr_cutPart : ByteArray := prog_4_method_3_code
def y_Gr_cutPart : MethodName := ⟨R_Gr, "cutPart", "(III)V"⟩
abbrev c_Gr_insertBehind : ByteArray := prog_4_method_4_code
def y_Gr_insertBehind : MethodName := ⟨R_Gr, "insertBehind", "(III)V"⟩
abbrev c_Gr_remove : ByteArray := prog_4_method_5_code
def y_Gr_remove : MethodName := ⟨R_Gr, "remove", "(I)V"⟩
abbrev c_Gr_shiftParts : ByteArray := prog_4_method_6_code
def y_Gr_shiftParts : MethodName := ⟨R_Gr, "shiftParts", "(II)V"⟩
abbrev c_Gr_isFree : ByteArray := prog_4_method_7_code
def y_Gr_isFree : MethodName := ⟨R_Gr, "isFree", "(III)Z"⟩
abbrev c_Li_init : ByteArray := prog_5_method_1_code
def y_Li_init : MethodName := ⟨R_Li, "<init>", "(LLegalRows$Cells;)V"⟩
abbrev c_Li_clear : ByteArray := prog_5_method_2_code
def y_Li_clear : MethodName := ⟨R_Li, "clear", "()V"⟩
abbrev c_Li_add : ByteArray := prog_5_method_3_code
def y_Li_add : MethodName := ⟨R_Li, "add", "(I)V"⟩
abbrev c_Li_layIn : ByteArray := prog_5_method_4_code
def y_Li_layIn : MethodName := ⟨R_Li, "layIn", "(II)Z"⟩
abbrev c_Li_findBestShifts : ByteArray := prog_5_method_5_code
def y_Li_findBestShifts : MethodName := ⟨R_Li, "findBestShifts", "(II)V"⟩
abbrev c_Li_insertBend : ByteArray := prog_5_method_6_code
def y_Li_insertBend : MethodName := ⟨R_Li, "insertBend", "(I)V"⟩
abbrev c_Li_setSites : ByteArray := prog_5_method_7_code
def y_Li_setSites : MethodName := ⟨R_Li, "setSites", "(II)V"⟩
abbrev c_Li_putCells : ByteArray := prog_5_method_8_code
def y_Li_putCells : MethodName := ⟨R_Li, "putCells", "(I)V"⟩
abbrev c_Ne_init : ByteArray := prog_6_method_1_code
def y_Ne_init : MethodName := ⟨R_Ne, "<init>", "(LLegalRows$Cells;)V"⟩
abbrev c_Ne_add : ByteArray := prog_6_method_2_code
def y_Ne_add : MethodName := ⟨R_Ne, "add", "(II)I"⟩
abbrev c_Ne_chain : ByteArray := prog_6_method_3_code
def y_Ne_chain : MethodName := ⟨R_Ne, "chain", "(II)V"⟩
abbrev c_Ne_length : ByteArray := prog_6_method_4_code
def y_Ne_length : MethodName := ⟨R_Ne, "length", "()J"⟩
abbrev c_Ne_exchangeFirstPair : ByteArray := prog_6_method_5_code
def y_Ne_exchangeFirstPair : MethodName := ⟨R_Ne, "exchangeFirstPair", "()Z"⟩
abbrev c_Ne_gainOfCellAt : ByteArray := prog_6_method_6_code
def y_Ne_gainOfCellAt : MethodName := ⟨R_Ne, "gainOfCellAt", "(II)I"⟩
abbrev c_La_cell1 : ByteArray := method_2_code
def y_La_cell1 : MethodName := ⟨R_La, "cell", "([II)I"⟩
abbrev c_La_cell2 : ByteArray := method_3_code
def y_La_cell2 : MethodName := ⟨R_La, "cell", "(LLegalRows;JI[J)I"⟩
abbrev c_La_want : ByteArray := method_4_code
def y_La_want : MethodName := ⟨R_La, "want", "(LLegalRows;IJI[J)I"⟩
abbrev c_La_bar : ByteArray := method_5_code
def y_La_bar : MethodName := ⟨R_La, "bar", "(LLegalRows;IJJ[J)I"⟩
abbrev c_La_kind : ByteArray := method_6_code
def y_La_kind : MethodName := ⟨R_La, "kind", "(LLegalRows;III[J)I"⟩
abbrev c_La_space : ByteArray := method_7_code
def y_La_space : MethodName := ⟨R_La, "space", "(LLegalRows;IIJ[J)I"⟩
abbrev c_La_at : ByteArray := method_8_code
def y_La_at : MethodName := ⟨R_La, "at", "(LLegalRows;I[J)I"⟩
abbrev c_La_rowOf : ByteArray := method_9_code
def y_La_rowOf : MethodName := ⟨R_La, "rowOf", "(LLegalRows;I[J)I"⟩
abbrev c_La_moved : ByteArray := method_10_code
def y_La_moved : MethodName := ⟨R_La, "moved", "(LLegalRows;[J)I"⟩
abbrev c_La_mirrored : ByteArray := method_11_code
def y_La_mirrored : MethodName := ⟨R_La, "mirrored", "(LLegalRows;I[J)I"⟩
abbrev c_La_improve : ByteArray := method_12_code
def y_La_improve : MethodName := ⟨R_La, "improve", "(LLegalRows;I[J)I"⟩
abbrev c_La_net : ByteArray := method_13_code
def y_La_net : MethodName := ⟨R_La, "net", "(LLegalRows;II[J)I"⟩
abbrev c_La_wire : ByteArray := method_14_code
def y_La_wire : MethodName := ⟨R_La, "wire", "(LLegalRows;[J)I"⟩
abbrev c_La_overlap : ByteArray := method_15_code
def y_La_overlap : MethodName := ⟨R_La, "overlap", "(LLegalRows;[J)I"⟩
def y_La_law : MethodName := ⟨R_La, "law", "([I)Z"⟩
end
section
/-! NUMBERS: the machine's ints and longs by whole numbers. Sums, differences and products need no bound; comparisons, places and i2l do. -/
def iI (z : Int) : Int32 := Int32.ofInt z
def lI (z : Int) : Int64 := Int64.ofInt z
def rg (z : Int) : Prop := -2147483648 ≤ z ∧ z ≤ 2147483647
def rL (z : Int) : Prop := -9223372036854775808 ≤ z ∧ z ≤ 9223372036854775807
theorem iI_t {z : Int} (h : rg z) : (iI z).toInt = z := Int32.toInt_ofInt_of_le (by have := h.1; omega) (by have := h.2; omega)
theorem lI_t {z : Int} (h : rL z) : (lI z).toInt = z := Int64.toInt_ofInt_of_le (by have := h.1; omega) (by have := h.2; omega)
theorem iI_lt {a b : Int} (ha : rg a) (hb : rg b) : iI a < iI b ↔ a < b := by rw [Int32.lt_iff_toInt_lt, iI_t ha, iI_t hb]
theorem iI_le {a b : Int} (ha : rg a) (hb : rg b) : iI a ≤ iI b ↔ a ≤ b := by rw [Int32.le_iff_toInt_le, iI_t ha, iI_t hb]
theorem iI_eq {a b : Int} (ha : rg a) (hb : rg b) : iI a = iI b ↔ a = b := ⟨fun h => by rw [← iI_t ha, ← iI_t hb, h], fun h => by rw [h]⟩
theorem lI_lt {a b : Int} (ha : rL a) (hb : rL b) : lI a < lI b ↔ a < b := by rw [Int64.lt_iff_toInt_lt, lI_t ha, lI_t hb]
theorem lI_le {a b : Int} (ha : rL a) (hb : rL b) : lI a ≤ lI b ↔ a ≤ b := by rw [Int64.le_iff_toInt_le, lI_t ha, lI_t hb]
theorem lI_eq {a b : Int} (ha : rL a) (hb : rL b) : lI a = lI b ↔ a = b := ⟨fun h => by rw [← lI_t ha, ← lI_t hb, h], fun h => by rw [h]⟩
theorem iI_add (a b : Int) : iI a + iI b = iI (a + b) := (Int32.ofInt_add a b).symm
theorem iI_sub (a b : Int) : iI a - iI b = iI (a - b) := (Int32.ofInt_sub a b).symm
theorem iI_mul (a b : Int) : iI a * iI b = iI (a * b) := (Int32.ofInt_mul a b).symm
theorem lI_add (a b : Int) : lI a + lI b = lI (a + b) := (Int64.ofInt_add a b).symm
theorem lI_sub (a b : Int) : lI a - lI b = lI (a - b) := (Int64.ofInt_sub a b).symm
theorem lI_mul (a b : Int) : lI a * lI b = lI (a * b) := (Int64.ofInt_mul a b).symm
theorem iI_0 : iI 0 = 0 := rfl
theorem lI_0 : lI 0 = 0 := rfl
theorem rg_0 : rg 0 := ⟨by omega, by omega⟩
theorem iI_self (x : Int32) : iI x.toInt = x := Int32.ofInt_toInt x
theorem lI_self (x : Int64) : lI x.toInt = x := Int64.ofInt_toInt x
theorem rg_toInt (x : Int32) : rg x.toInt := ⟨by have := x.le_toInt; omega, by have := x.toInt_lt; omega⟩
theorem rL_toInt (x : Int64) : rL x.toInt := ⟨by have := x.le_toInt; omega, by have := x.toInt_lt; omega⟩
theorem iI_c {z : Int} (h0 : 0 ≤ z) (h1 : z < 2147483648) : (iI z).toNatClampNeg = z.toNat := by
  show (iI z).toInt.toNat = z.toNat
  rw [iI_t ⟨by omega, by omega⟩]
theorem iI_in {z : Int} {n : Nat} (h0 : 0 ≤ z) (h1 : z < n) (hn : n < 2147483648) : vp_in (iI z) n := vp_in_iff.mpr (by
  rw [iI_t ⟨by omega, by omega⟩]; exact ⟨h0, h1⟩)
theorem iI_l {z : Int} (h : rg z) : (iI z).toInt64 = lI z := by
  apply Int64.toInt.inj
  rw [Int32.toInt_toInt64, iI_t h, lI_t ⟨by have := h.1; omega, by have := h.2; omega⟩]
theorem lI_i (z : Int) : (lI z).toInt32 = iI z := Int64.toInt32_ofInt
theorem nI_iI (n : Nat) : nI n = iI n := Int32.ofInt_eq_ofNat.symm
theorem iI_ofNat (n : Nat) : Int32.ofNat n = iI n := Int32.ofInt_eq_ofNat.symm
theorem iI_div {a : Int} (d : Nat) (h0 : 0 ≤ a) (h1 : a < 2147483648) (hd : 0 < d) (hd2 : d < 2147483648) : iI a / iI d = iI (a / d) := by
  obtain ⟨n, rfl⟩ := Int.eq_ofNat_of_zero_le h0
  rw [← nI_iI, ← nI_iI, pk_div (by omega) hd (by omega), nI_iI]
  rfl
theorem iI_rem {a : Int} (d : Nat) (h0 : 0 ≤ a) (h1 : a < 2147483648) (hd : 0 < d) (hd2 : d < 2147483648) : iI a - iI a / iI d * iI d = iI (a % d) := by
  obtain ⟨n, rfl⟩ := Int.eq_ofNat_of_zero_le h0
  rw [← nI_iI, ← nI_iI, pk_rem (by omega) hd (by omega), nI_iI]
  rfl
/-! THE WORLD: a shape (which cells, which fields), addresses, and two functions: the number fields F and the arrays A. -/
abbrev x_F : Type := Nat ⊕ Nat
abbrev x_D : Type := Nat × ((Nat × List x_F) ⊕ (Nat × Nat))
abbrev x_St : Type := (Nat → Int) × (Nat → Int → Int)
def x_fv (ad : Nat → Nat) (F : Nat → Int) (f : x_F) : Value := match f with
  | .inl k => .ref (ad k)
  | .inr j => .int (iI (F j))
def x_ar (kd : Nat) (f : Int → Int) : (Nat → Int32) ⊕ (Nat → Int64) ⊕ (Nat → UInt32) ⊕ (Nat → UInt64) ⊕ (Nat → Option Nat) := match kd with
  | 2 => .inr (.inl (fun j => lI (f j)))
  | _ => .inl (fun j => iI (f j))
def x_e (ad : Nat → Nat) (cA : Nat → ClassId) (N : Nat → Nat) (F : Nat → Int) (A : Nat → Int → Int) (d : x_D) : Nat × va_E := (ad d.1, match d.2 with
  | .inl q => .inr (q.1, q.2.map (x_fv ad F))
  | .inr q => .inl (cA q.2, N q.2, x_ar q.1 (A q.2)))
def x_w (sh : List x_D) (ad : Nat → Nat) (cA : Nat → ClassId) (N : Nat → Nat) (F : Nat → Int) (A : Nat → Int → Int) : va_W := sh.map (x_e ad cA N F A)
def x_ty (kd : Nat) : FieldType := match kd with
  | 2 => .long
  | 1 => .boolean
  | _ => .int
def x_tys (sh : List x_D) (cA : Nat → ClassId) : List (ClassId × FieldType) := sh.filterMap (fun d => match d.2 with
  | .inl _ => none
  | .inr q => some (cA q.2, x_ty q.1))
def x_S (D : va_G) (cl : List vw_C) (sh : List x_D) (ad : Nat → Nat) (cA : Nat → ClassId) (N : Nat → Nat) (A0 : Nat → Prop) (s : State) (F : Nat → Int) (A : Nat → Int → Int) (H : Heap) (locs : List Loc) : Prop :=
  va_K D cl (x_tys sh cA) s ∧ va_P D cl (x_w sh ad cA N F A) H ∧ va_D A0 (x_w sh ad cA N F A) ∧ va_S A0 s.heap H locs ∧ ∀ k, N k < 2147483648
def ua (A : Nat → Int → Int) (k : Nat) (i v : Int) : Nat → Int → Int := fun a j => if a = k then (if j = i then v else A k j) else A a j
def uf (F : Nat → Int) (k : Nat) (v : Int) : Nat → Int := fun j => if j = k then v else F j
theorem x_wq {sh : List x_D} {ad : Nat → Nat} {cA : Nat → ClassId} {N : Nat → Nat} {F : Nat → Int} {A : Nat → Int → Int} {q : Nat} {d : x_D} (h : sh[q]? = some d) : (x_w sh ad cA N F A)[q]? = some (x_e ad cA N F A d) := by
  unfold x_w
  rw [List.getElem?_map, h]
  rfl
theorem x_tq {sh : List x_D} {cA : Nat → ClassId} {q t kd id : Nat} (h : sh[q]? = some (t, .inr (kd, id))) : ∃ t0 : Nat, (x_tys sh cA)[t0]? = some (cA id, x_ty kd) := by
  have hm : (cA id, x_ty kd) ∈ x_tys sh cA := List.mem_filterMap.mpr ⟨_, List.mem_of_getElem? h, rfl⟩
  obtain ⟨t0, h0, h1⟩ := List.getElem_of_mem hm
  exact ⟨t0, by rw [List.getElem?_eq_getElem h0, h1]⟩
theorem x_wl {sh : List x_D} {ad : Nat → Nat} {cA : Nat → ClassId} {N : Nat → Nat} {F F' : Nat → Int} {A A' : Nat → Int → Int} {k : Nat} {q : Nat × va_E} (h : (x_w sh ad cA N F' A')[k]? = some q) : ∃ e, (x_w sh ad cA N F A)[k]? = some (q.1, e) := by
  unfold x_w at h ⊢
  rw [List.getElem?_map] at h ⊢
  cases hd : sh[k]? with
  | none => rw [hd] at h; cases h
  | some d => rw [hd] at h; cases h; exact ⟨_, rfl⟩
theorem x_Dm {sh : List x_D} {ad : Nat → Nat} {cA : Nat → ClassId} {N : Nat → Nat} {F F' : Nat → Int} {A A' : Nat → Int → Int} {A0 : Nat → Prop} (h : va_D A0 (x_w sh ad cA N F A)) : va_D A0 (x_w sh ad cA N F' A') := by
  refine ⟨fun i j p q hp hq e => ?_, fun k q hq => ?_⟩
  · obtain ⟨e1, h1⟩ := x_wl (F := F) (A := A) hp
    obtain ⟨e2, h2⟩ := x_wl (F := F) (A := A) hq
    exact h.1 i j _ _ h1 h2 e
  · obtain ⟨e1, h1⟩ := x_wl (F := F) (A := A) hq
    exact h.2 k (q.1, e1) h1
theorem x_Am {sh : List x_D} {ad : Nat → Nat} {cA : Nat → ClassId} {N : Nat → Nat} {F F' : Nat → Int} {A A' : Nat → Int → Int} {sz : Nat} : va_A (x_w sh ad cA N F A) sz = va_A (x_w sh ad cA N F' A') sz := by
  funext q
  apply propext
  constructor
  · rintro (⟨k, e, h⟩ | h)
    · obtain ⟨e1, h1⟩ := x_wl (F := F') (A := A') h
      exact Or.inl ⟨k, e1, h1⟩
    · exact Or.inr h
  · rintro (⟨k, e, h⟩ | h)
    · obtain ⟨e1, h1⟩ := x_wl (F := F) (A := A) h
      exact Or.inl ⟨k, e1, h1⟩
    · exact Or.inr h
/-! LOOPS: the least predicate that a body closes; no fuel. -/
def Lp1 {A1 : Type} (B : (A1 → Prop) → A1 → Prop) (a1 : A1) : Prop := ∀ I : A1 → Prop, (∀ (a1 : A1), B I a1 → I a1) → I a1
theorem Lp1_by {A1 : Type} {B : (A1 → Prop) → A1 → Prop} (Inv : A1 → Prop) (μ : A1 → Nat) (hs : ∀ (a1 : A1), Inv a1 → ∀ P : A1 → Prop, (∀ (b1 : A1), Inv b1 → μ b1 < μ a1 → P b1) → B P a1) (a1 : A1) (h : Inv a1) : Lp1 B a1 := by
  intro I hI
  have key : ∀ (n : Nat) (a1 : A1), Inv a1 → μ a1 < n → I a1 := by
    intro n
    induction n with
    | zero => intro a1 _ h2; exact absurd h2 (Nat.not_lt_zero _)
    | succ n ih => intro a1 h1 h2; exact hI a1 (hs a1 h1 I (fun b1 h3 h4 => ih b1 h3 (by omega)))
  exact key (μ a1 + 1) a1 h (Nat.lt_succ_self _)
def Lp2 {A1 A2 : Type} (B : (A1 → A2 → Prop) → A1 → A2 → Prop) (a1 : A1) (a2 : A2) : Prop := ∀ I : A1 → A2 → Prop, (∀ (a1 : A1) (a2 : A2), B I a1 a2 → I a1 a2) → I a1 a2
theorem Lp2_by {A1 A2 : Type} {B : (A1 → A2 → Prop) → A1 → A2 → Prop} (Inv : A1 → A2 → Prop) (μ : A1 → A2 → Nat) (hs : ∀ (a1 : A1) (a2 : A2), Inv a1 a2 → ∀ P : A1 → A2 → Prop, (∀ (b1 : A1) (b2 : A2), Inv b1 b2 → μ b1 b2 < μ a1 a2 → P b1 b2) → B P a1 a2) (a1 : A1) (a2 : A2) (h : Inv a1 a2) : Lp2 B a1 a2 := by
  intro I hI
  have key : ∀ (n : Nat) (a1 : A1) (a2 : A2), Inv a1 a2 → μ a1 a2 < n → I a1 a2 := by
    intro n
    induction n with
    | zero => intro a1 a2 _ h2; exact absurd h2 (Nat.not_lt_zero _)
    | succ n ih => intro a1 a2 h1 h2; exact hI a1 a2 (hs a1 a2 h1 I (fun b1 b2 h3 h4 => ih b1 b2 h3 (by omega)))
  exact key (μ a1 a2 + 1) a1 a2 h (Nat.lt_succ_self _)
def Lp3 {A1 A2 A3 : Type} (B : (A1 → A2 → A3 → Prop) → A1 → A2 → A3 → Prop) (a1 : A1) (a2 : A2) (a3 : A3) : Prop := ∀ I : A1 → A2 → A3 → Prop, (∀ (a1 : A1) (a2 : A2) (a3 : A3), B I a1 a2 a3 → I a1 a2 a3) → I a1 a2 a3
theorem Lp3_by {A1 A2 A3 : Type} {B : (A1 → A2 → A3 → Prop) → A1 → A2 → A3 → Prop} (Inv : A1 → A2 → A3 → Prop) (μ : A1 → A2 → A3 → Nat) (hs : ∀ (a1 : A1) (a2 : A2) (a3 : A3), Inv a1 a2 a3 → ∀ P : A1 → A2 → A3 → Prop, (∀ (b1 : A1) (b2 : A2) (b3 : A3), Inv b1 b2 b3 → μ b1 b2 b3 < μ a1 a2 a3 → P b1 b2 b3) → B P a1 a2 a3) (a1 : A1) (a2 : A2) (a3 : A3) (h : Inv a1 a2 a3) : Lp3 B a1 a2 a3 := by
  intro I hI
  have key : ∀ (n : Nat) (a1 : A1) (a2 : A2) (a3 : A3), Inv a1 a2 a3 → μ a1 a2 a3 < n → I a1 a2 a3 := by
    intro n
    induction n with
    | zero => intro a1 a2 a3 _ h2; exact absurd h2 (Nat.not_lt_zero _)
    | succ n ih => intro a1 a2 a3 h1 h2; exact hI a1 a2 a3 (hs a1 a2 a3 h1 I (fun b1 b2 b3 h3 h4 => ih b1 b2 b3 h3 (by omega)))
  exact key (μ a1 a2 a3 + 1) a1 a2 a3 h (Nat.lt_succ_self _)
def Lp4 {A1 A2 A3 A4 : Type} (B : (A1 → A2 → A3 → A4 → Prop) → A1 → A2 → A3 → A4 → Prop) (a1 : A1) (a2 : A2) (a3 : A3) (a4 : A4) : Prop := ∀ I : A1 → A2 → A3 → A4 → Prop, (∀ (a1 : A1) (a2 : A2) (a3 : A3) (a4 : A4), B I a1 a2 a3 a4 → I a1 a2 a3 a4) → I a1 a2 a3 a4
theorem Lp4_by {A1 A2 A3 A4 : Type} {B : (A1 → A2 → A3 → A4 → Prop) → A1 → A2 → A3 → A4 → Prop} (Inv : A1 → A2 → A3 → A4 → Prop) (μ : A1 → A2 → A3 → A4 → Nat) (hs : ∀ (a1 : A1) (a2 : A2) (a3 : A3) (a4 : A4), Inv a1 a2 a3 a4 → ∀ P : A1 → A2 → A3 → A4 → Prop, (∀ (b1 : A1) (b2 : A2) (b3 : A3) (b4 : A4), Inv b1 b2 b3 b4 → μ b1 b2 b3 b4 < μ a1 a2 a3 a4 → P b1 b2 b3 b4) → B P a1 a2 a3 a4) (a1 : A1) (a2 : A2) (a3 : A3) (a4 : A4) (h : Inv a1 a2 a3 a4) : Lp4 B a1 a2 a3 a4 := by
  intro I hI
  have key : ∀ (n : Nat) (a1 : A1) (a2 : A2) (a3 : A3) (a4 : A4), Inv a1 a2 a3 a4 → μ a1 a2 a3 a4 < n → I a1 a2 a3 a4 := by
    intro n
    induction n with
    | zero => intro a1 a2 a3 a4 _ h2; exact absurd h2 (Nat.not_lt_zero _)
    | succ n ih => intro a1 a2 a3 a4 h1 h2; exact hI a1 a2 a3 a4 (hs a1 a2 a3 a4 h1 I (fun b1 b2 b3 b4 h3 h4 => ih b1 b2 b3 b4 h3 (by omega)))
  exact key (μ a1 a2 a3 a4 + 1) a1 a2 a3 a4 h (Nat.lt_succ_self _)
def Lp5 {A1 A2 A3 A4 A5 : Type} (B : (A1 → A2 → A3 → A4 → A5 → Prop) → A1 → A2 → A3 → A4 → A5 → Prop) (a1 : A1) (a2 : A2) (a3 : A3) (a4 : A4) (a5 : A5) : Prop := ∀ I : A1 → A2 → A3 → A4 → A5 → Prop, (∀ (a1 : A1) (a2 : A2) (a3 : A3) (a4 : A4) (a5 : A5), B I a1 a2 a3 a4 a5 → I a1 a2 a3 a4 a5) → I a1 a2 a3 a4 a5
theorem Lp5_by {A1 A2 A3 A4 A5 : Type} {B : (A1 → A2 → A3 → A4 → A5 → Prop) → A1 → A2 → A3 → A4 → A5 → Prop} (Inv : A1 → A2 → A3 → A4 → A5 → Prop) (μ : A1 → A2 → A3 → A4 → A5 → Nat) (hs : ∀ (a1 : A1) (a2 : A2) (a3 : A3) (a4 : A4) (a5 : A5), Inv a1 a2 a3 a4 a5 → ∀ P : A1 → A2 → A3 → A4 → A5 → Prop, (∀ (b1 : A1) (b2 : A2) (b3 : A3) (b4 : A4) (b5 : A5), Inv b1 b2 b3 b4 b5 → μ b1 b2 b3 b4 b5 < μ a1 a2 a3 a4 a5 → P b1 b2 b3 b4 b5) → B P a1 a2 a3 a4 a5) (a1 : A1) (a2 : A2) (a3 : A3) (a4 : A4) (a5 : A5) (h : Inv a1 a2 a3 a4 a5) : Lp5 B a1 a2 a3 a4 a5 := by
  intro I hI
  have key : ∀ (n : Nat) (a1 : A1) (a2 : A2) (a3 : A3) (a4 : A4) (a5 : A5), Inv a1 a2 a3 a4 a5 → μ a1 a2 a3 a4 a5 < n → I a1 a2 a3 a4 a5 := by
    intro n
    induction n with
    | zero => intro a1 a2 a3 a4 a5 _ h2; exact absurd h2 (Nat.not_lt_zero _)
    | succ n ih => intro a1 a2 a3 a4 a5 h1 h2; exact hI a1 a2 a3 a4 a5 (hs a1 a2 a3 a4 a5 h1 I (fun b1 b2 b3 b4 b5 h3 h4 => ih b1 b2 b3 b4 b5 h3 (by omega)))
  exact key (μ a1 a2 a3 a4 a5 + 1) a1 a2 a3 a4 a5 h (Nat.lt_succ_self _)
def Lp6 {A1 A2 A3 A4 A5 A6 : Type} (B : (A1 → A2 → A3 → A4 → A5 → A6 → Prop) → A1 → A2 → A3 → A4 → A5 → A6 → Prop) (a1 : A1) (a2 : A2) (a3 : A3) (a4 : A4) (a5 : A5) (a6 : A6) : Prop := ∀ I : A1 → A2 → A3 → A4 → A5 → A6 → Prop, (∀ (a1 : A1) (a2 : A2) (a3 : A3) (a4 : A4) (a5 : A5) (a6 : A6), B I a1 a2 a3 a4 a5 a6 → I a1 a2 a3 a4 a5 a6) → I a1 a2 a3 a4 a5 a6
theorem Lp6_by {A1 A2 A3 A4 A5 A6 : Type} {B : (A1 → A2 → A3 → A4 → A5 → A6 → Prop) → A1 → A2 → A3 → A4 → A5 → A6 → Prop} (Inv : A1 → A2 → A3 → A4 → A5 → A6 → Prop) (μ : A1 → A2 → A3 → A4 → A5 → A6 → Nat) (hs : ∀ (a1 : A1) (a2 : A2) (a3 : A3) (a4 : A4) (a5 : A5) (a6 : A6), Inv a1 a2 a3 a4 a5 a6 → ∀ P : A1 → A2 → A3 → A4 → A5 → A6 → Prop, (∀ (b1 : A1) (b2 : A2) (b3 : A3) (b4 : A4) (b5 : A5) (b6 : A6), Inv b1 b2 b3 b4 b5 b6 → μ b1 b2 b3 b4 b5 b6 < μ a1 a2 a3 a4 a5 a6 → P b1 b2 b3 b4 b5 b6) → B P a1 a2 a3 a4 a5 a6) (a1 : A1) (a2 : A2) (a3 : A3) (a4 : A4) (a5 : A5) (a6 : A6) (h : Inv a1 a2 a3 a4 a5 a6) : Lp6 B a1 a2 a3 a4 a5 a6 := by
  intro I hI
  have key : ∀ (n : Nat) (a1 : A1) (a2 : A2) (a3 : A3) (a4 : A4) (a5 : A5) (a6 : A6), Inv a1 a2 a3 a4 a5 a6 → μ a1 a2 a3 a4 a5 a6 < n → I a1 a2 a3 a4 a5 a6 := by
    intro n
    induction n with
    | zero => intro a1 a2 a3 a4 a5 a6 _ h2; exact absurd h2 (Nat.not_lt_zero _)
    | succ n ih => intro a1 a2 a3 a4 a5 a6 h1 h2; exact hI a1 a2 a3 a4 a5 a6 (hs a1 a2 a3 a4 a5 a6 h1 I (fun b1 b2 b3 b4 b5 b6 h3 h4 => ih b1 b2 b3 b4 b5 b6 h3 (by omega)))
  exact key (μ a1 a2 a3 a4 a5 a6 + 1) a1 a2 a3 a4 a5 a6 h (Nat.lt_succ_self _)
def Lp7 {A1 A2 A3 A4 A5 A6 A7 : Type} (B : (A1 → A2 → A3 → A4 → A5 → A6 → A7 → Prop) → A1 → A2 → A3 → A4 → A5 → A6 → A7 → Prop) (a1 : A1) (a2 : A2) (a3 : A3) (a4 : A4) (a5 : A5) (a6 : A6) (a7 : A7) : Prop := ∀ I : A1 → A2 → A3 → A4 → A5 → A6 → A7 → Prop, (∀ (a1 : A1) (a2 : A2) (a3 : A3) (a4 : A4) (a5 : A5) (a6 : A6) (a7 : A7), B I a1 a2 a3 a4 a5 a6 a7 → I a1 a2 a3 a4 a5 a6 a7) → I a1 a2 a3 a4 a5 a6 a7
theorem Lp7_by {A1 A2 A3 A4 A5 A6 A7 : Type} {B : (A1 → A2 → A3 → A4 → A5 → A6 → A7 → Prop) → A1 → A2 → A3 → A4 → A5 → A6 → A7 → Prop} (Inv : A1 → A2 → A3 → A4 → A5 → A6 → A7 → Prop) (μ : A1 → A2 → A3 → A4 → A5 → A6 → A7 → Nat) (hs : ∀ (a1 : A1) (a2 : A2) (a3 : A3) (a4 : A4) (a5 : A5) (a6 : A6) (a7 : A7), Inv a1 a2 a3 a4 a5 a6 a7 → ∀ P : A1 → A2 → A3 → A4 → A5 → A6 → A7 → Prop, (∀ (b1 : A1) (b2 : A2) (b3 : A3) (b4 : A4) (b5 : A5) (b6 : A6) (b7 : A7), Inv b1 b2 b3 b4 b5 b6 b7 → μ b1 b2 b3 b4 b5 b6 b7 < μ a1 a2 a3 a4 a5 a6 a7 → P b1 b2 b3 b4 b5 b6 b7) → B P a1 a2 a3 a4 a5 a6 a7) (a1 : A1) (a2 : A2) (a3 : A3) (a4 : A4) (a5 : A5) (a6 : A6) (a7 : A7) (h : Inv a1 a2 a3 a4 a5 a6 a7) : Lp7 B a1 a2 a3 a4 a5 a6 a7 := by
  intro I hI
  have key : ∀ (n : Nat) (a1 : A1) (a2 : A2) (a3 : A3) (a4 : A4) (a5 : A5) (a6 : A6) (a7 : A7), Inv a1 a2 a3 a4 a5 a6 a7 → μ a1 a2 a3 a4 a5 a6 a7 < n → I a1 a2 a3 a4 a5 a6 a7 := by
    intro n
    induction n with
    | zero => intro a1 a2 a3 a4 a5 a6 a7 _ h2; exact absurd h2 (Nat.not_lt_zero _)
    | succ n ih => intro a1 a2 a3 a4 a5 a6 a7 h1 h2; exact hI a1 a2 a3 a4 a5 a6 a7 (hs a1 a2 a3 a4 a5 a6 a7 h1 I (fun b1 b2 b3 b4 b5 b6 b7 h3 h4 => ih b1 b2 b3 b4 b5 b6 b7 h3 (by omega)))
  exact key (μ a1 a2 a3 a4 a5 a6 a7 + 1) a1 a2 a3 a4 a5 a6 a7 h (Nat.lt_succ_self _)
def Lp8 {A1 A2 A3 A4 A5 A6 A7 A8 : Type} (B : (A1 → A2 → A3 → A4 → A5 → A6 → A7 → A8 → Prop) → A1 → A2 → A3 → A4 → A5 → A6 → A7 → A8 → Prop) (a1 : A1) (a2 : A2) (a3 : A3) (a4 : A4) (a5 : A5) (a6 : A6) (a7 : A7) (a8 : A8) : Prop := ∀ I : A1 → A2 → A3 → A4 → A5 → A6 → A7 → A8 → Prop, (∀ (a1 : A1) (a2 : A2) (a3 : A3) (a4 : A4) (a5 : A5) (a6 : A6) (a7 : A7) (a8 : A8), B I a1 a2 a3 a4 a5 a6 a7 a8 → I a1 a2 a3 a4 a5 a6 a7 a8) → I a1 a2 a3 a4 a5 a6 a7 a8
theorem Lp8_by {A1 A2 A3 A4 A5 A6 A7 A8 : Type} {B : (A1 → A2 → A3 → A4 → A5 → A6 → A7 → A8 → Prop) → A1 → A2 → A3 → A4 → A5 → A6 → A7 → A8 → Prop} (Inv : A1 → A2 → A3 → A4 → A5 → A6 → A7 → A8 → Prop) (μ : A1 → A2 → A3 → A4 → A5 → A6 → A7 → A8 → Nat) (hs : ∀ (a1 : A1) (a2 : A2) (a3 : A3) (a4 : A4) (a5 : A5) (a6 : A6) (a7 : A7) (a8 : A8), Inv a1 a2 a3 a4 a5 a6 a7 a8 → ∀ P : A1 → A2 → A3 → A4 → A5 → A6 → A7 → A8 → Prop, (∀ (b1 : A1) (b2 : A2) (b3 : A3) (b4 : A4) (b5 : A5) (b6 : A6) (b7 : A7) (b8 : A8), Inv b1 b2 b3 b4 b5 b6 b7 b8 → μ b1 b2 b3 b4 b5 b6 b7 b8 < μ a1 a2 a3 a4 a5 a6 a7 a8 → P b1 b2 b3 b4 b5 b6 b7 b8) → B P a1 a2 a3 a4 a5 a6 a7 a8) (a1 : A1) (a2 : A2) (a3 : A3) (a4 : A4) (a5 : A5) (a6 : A6) (a7 : A7) (a8 : A8) (h : Inv a1 a2 a3 a4 a5 a6 a7 a8) : Lp8 B a1 a2 a3 a4 a5 a6 a7 a8 := by
  intro I hI
  have key : ∀ (n : Nat) (a1 : A1) (a2 : A2) (a3 : A3) (a4 : A4) (a5 : A5) (a6 : A6) (a7 : A7) (a8 : A8), Inv a1 a2 a3 a4 a5 a6 a7 a8 → μ a1 a2 a3 a4 a5 a6 a7 a8 < n → I a1 a2 a3 a4 a5 a6 a7 a8 := by
    intro n
    induction n with
    | zero => intro a1 a2 a3 a4 a5 a6 a7 a8 _ h2; exact absurd h2 (Nat.not_lt_zero _)
    | succ n ih => intro a1 a2 a3 a4 a5 a6 a7 a8 h1 h2; exact hI a1 a2 a3 a4 a5 a6 a7 a8 (hs a1 a2 a3 a4 a5 a6 a7 a8 h1 I (fun b1 b2 b3 b4 b5 b6 b7 b8 h3 h4 => ih b1 b2 b3 b4 b5 b6 b7 b8 h3 (by omega)))
  exact key (μ a1 a2 a3 a4 a5 a6 a7 a8 + 1) a1 a2 a3 a4 a5 a6 a7 a8 h (Nat.lt_succ_self _)
def Lp9 {A1 A2 A3 A4 A5 A6 A7 A8 A9 : Type} (B : (A1 → A2 → A3 → A4 → A5 → A6 → A7 → A8 → A9 → Prop) → A1 → A2 → A3 → A4 → A5 → A6 → A7 → A8 → A9 → Prop) (a1 : A1) (a2 : A2) (a3 : A3) (a4 : A4) (a5 : A5) (a6 : A6) (a7 : A7) (a8 : A8) (a9 : A9) : Prop := ∀ I : A1 → A2 → A3 → A4 → A5 → A6 → A7 → A8 → A9 → Prop, (∀ (a1 : A1) (a2 : A2) (a3 : A3) (a4 : A4) (a5 : A5) (a6 : A6) (a7 : A7) (a8 : A8) (a9 : A9), B I a1 a2 a3 a4 a5 a6 a7 a8 a9 → I a1 a2 a3 a4 a5 a6 a7 a8 a9) → I a1 a2 a3 a4 a5 a6 a7 a8 a9
theorem Lp9_by {A1 A2 A3 A4 A5 A6 A7 A8 A9 : Type} {B : (A1 → A2 → A3 → A4 → A5 → A6 → A7 → A8 → A9 → Prop) → A1 → A2 → A3 → A4 → A5 → A6 → A7 → A8 → A9 → Prop} (Inv : A1 → A2 → A3 → A4 → A5 → A6 → A7 → A8 → A9 → Prop) (μ : A1 → A2 → A3 → A4 → A5 → A6 → A7 → A8 → A9 → Nat) (hs : ∀ (a1 : A1) (a2 : A2) (a3 : A3) (a4 : A4) (a5 : A5) (a6 : A6) (a7 : A7) (a8 : A8) (a9 : A9), Inv a1 a2 a3 a4 a5 a6 a7 a8 a9 → ∀ P : A1 → A2 → A3 → A4 → A5 → A6 → A7 → A8 → A9 → Prop, (∀ (b1 : A1) (b2 : A2) (b3 : A3) (b4 : A4) (b5 : A5) (b6 : A6) (b7 : A7) (b8 : A8) (b9 : A9), Inv b1 b2 b3 b4 b5 b6 b7 b8 b9 → μ b1 b2 b3 b4 b5 b6 b7 b8 b9 < μ a1 a2 a3 a4 a5 a6 a7 a8 a9 → P b1 b2 b3 b4 b5 b6 b7 b8 b9) → B P a1 a2 a3 a4 a5 a6 a7 a8 a9) (a1 : A1) (a2 : A2) (a3 : A3) (a4 : A4) (a5 : A5) (a6 : A6) (a7 : A7) (a8 : A8) (a9 : A9) (h : Inv a1 a2 a3 a4 a5 a6 a7 a8 a9) : Lp9 B a1 a2 a3 a4 a5 a6 a7 a8 a9 := by
  intro I hI
  have key : ∀ (n : Nat) (a1 : A1) (a2 : A2) (a3 : A3) (a4 : A4) (a5 : A5) (a6 : A6) (a7 : A7) (a8 : A8) (a9 : A9), Inv a1 a2 a3 a4 a5 a6 a7 a8 a9 → μ a1 a2 a3 a4 a5 a6 a7 a8 a9 < n → I a1 a2 a3 a4 a5 a6 a7 a8 a9 := by
    intro n
    induction n with
    | zero => intro a1 a2 a3 a4 a5 a6 a7 a8 a9 _ h2; exact absurd h2 (Nat.not_lt_zero _)
    | succ n ih => intro a1 a2 a3 a4 a5 a6 a7 a8 a9 h1 h2; exact hI a1 a2 a3 a4 a5 a6 a7 a8 a9 (hs a1 a2 a3 a4 a5 a6 a7 a8 a9 h1 I (fun b1 b2 b3 b4 b5 b6 b7 b8 b9 h3 h4 => ih b1 b2 b3 b4 b5 b6 b7 b8 b9 h3 (by omega)))
  exact key (μ a1 a2 a3 a4 a5 a6 a7 a8 a9 + 1) a1 a2 a3 a4 a5 a6 a7 a8 a9 h (Nat.lt_succ_self _)
def Lp10 {A1 A2 A3 A4 A5 A6 A7 A8 A9 A10 : Type} (B : (A1 → A2 → A3 → A4 → A5 → A6 → A7 → A8 → A9 → A10 → Prop) → A1 → A2 → A3 → A4 → A5 → A6 → A7 → A8 → A9 → A10 → Prop) (a1 : A1) (a2 : A2) (a3 : A3) (a4 : A4) (a5 : A5) (a6 : A6) (a7 : A7) (a8 : A8) (a9 : A9) (a10 : A10) : Prop := ∀ I : A1 → A2 → A3 → A4 → A5 → A6 → A7 → A8 → A9 → A10 → Prop, (∀ (a1 : A1) (a2 : A2) (a3 : A3) (a4 : A4) (a5 : A5) (a6 : A6) (a7 : A7) (a8 : A8) (a9 : A9) (a10 : A10), B I a1 a2 a3 a4 a5 a6 a7 a8 a9 a10 → I a1 a2 a3 a4 a5 a6 a7 a8 a9 a10) → I a1 a2 a3 a4 a5 a6 a7 a8 a9 a10
theorem Lp10_by {A1 A2 A3 A4 A5 A6 A7 A8 A9 A10 : Type} {B : (A1 → A2 → A3 → A4 → A5 → A6 → A7 → A8 → A9 → A10 → Prop) → A1 → A2 → A3 → A4 → A5 → A6 → A7 → A8 → A9 → A10 → Prop} (Inv : A1 → A2 → A3 → A4 → A5 → A6 → A7 → A8 → A9 → A10 → Prop) (μ : A1 → A2 → A3 → A4 → A5 → A6 → A7 → A8 → A9 → A10 → Nat) (hs : ∀ (a1 : A1) (a2 : A2) (a3 : A3) (a4 : A4) (a5 : A5) (a6 : A6) (a7 : A7) (a8 : A8) (a9 : A9) (a10 : A10), Inv a1 a2 a3 a4 a5 a6 a7 a8 a9 a10 → ∀ P : A1 → A2 → A3 → A4 → A5 → A6 → A7 → A8 → A9 → A10 → Prop, (∀ (b1 : A1) (b2 : A2) (b3 : A3) (b4 : A4) (b5 : A5) (b6 : A6) (b7 : A7) (b8 : A8) (b9 : A9) (b10 : A10), Inv b1 b2 b3 b4 b5 b6 b7 b8 b9 b10 → μ b1 b2 b3 b4 b5 b6 b7 b8 b9 b10 < μ a1 a2 a3 a4 a5 a6 a7 a8 a9 a10 → P b1 b2 b3 b4 b5 b6 b7 b8 b9 b10) → B P a1 a2 a3 a4 a5 a6 a7 a8 a9 a10) (a1 : A1) (a2 : A2) (a3 : A3) (a4 : A4) (a5 : A5) (a6 : A6) (a7 : A7) (a8 : A8) (a9 : A9) (a10 : A10) (h : Inv a1 a2 a3 a4 a5 a6 a7 a8 a9 a10) : Lp10 B a1 a2 a3 a4 a5 a6 a7 a8 a9 a10 := by
  intro I hI
  have key : ∀ (n : Nat) (a1 : A1) (a2 : A2) (a3 : A3) (a4 : A4) (a5 : A5) (a6 : A6) (a7 : A7) (a8 : A8) (a9 : A9) (a10 : A10), Inv a1 a2 a3 a4 a5 a6 a7 a8 a9 a10 → μ a1 a2 a3 a4 a5 a6 a7 a8 a9 a10 < n → I a1 a2 a3 a4 a5 a6 a7 a8 a9 a10 := by
    intro n
    induction n with
    | zero => intro a1 a2 a3 a4 a5 a6 a7 a8 a9 a10 _ h2; exact absurd h2 (Nat.not_lt_zero _)
    | succ n ih => intro a1 a2 a3 a4 a5 a6 a7 a8 a9 a10 h1 h2; exact hI a1 a2 a3 a4 a5 a6 a7 a8 a9 a10 (hs a1 a2 a3 a4 a5 a6 a7 a8 a9 a10 h1 I (fun b1 b2 b3 b4 b5 b6 b7 b8 b9 b10 h3 h4 => ih b1 b2 b3 b4 b5 b6 b7 b8 b9 b10 h3 (by omega)))
  exact key (μ a1 a2 a3 a4 a5 a6 a7 a8 a9 a10 + 1) a1 a2 a3 a4 a5 a6 a7 a8 a9 a10 h (Nat.lt_succ_self _)
end
section
/-! ROWS over whole numbers (printed by mkrows.py): the kit's rows, with iI and lI -/
def xo (a : Int) : Int := if a % 2 = 0 then a + 1 else a - 1
theorem xo_nat (n : Nat) : ((n ^^^ 1 : Nat) : Int) = xo n := by
  have e : n ^^^ 1 = if n % 2 = 0 then n + 1 else n - 1 := by
    apply Nat.eq_of_testBit_eq
    intro i
    rw [Nat.testBit_xor]
    cases i with
    | zero =>
      rw [Nat.testBit_zero, Nat.testBit_zero, Nat.testBit_zero]
      rcases Nat.mod_two_eq_zero_or_one n with h | h
      · rw [if_pos h, h, show (n + 1) % 2 = 1 by omega]; rfl
      · rw [if_neg (by omega), h, show (n - 1) % 2 = 0 by omega]; rfl
    | succ i =>
      rw [Nat.testBit_succ, Nat.testBit_succ, Nat.testBit_succ]
      rw [show (1 : Nat) / 2 = 0 from rfl, Nat.zero_testBit, Bool.xor_false]
      congr 1
      split <;> omega
  rw [e]
  unfold xo
  split <;> split <;> omega
theorem iI_xo {a : Int} (h0 : 0 ≤ a) (h1 : a < 2147483648) : iI a ^^^ iI 1 = iI (xo a) := by
  obtain ⟨n, rfl⟩ := Int.eq_ofNat_of_zero_le h0
  rw [← xo_nat, ← nI_iI, ← nI_iI, show iI 1 = nI 1 from rfl]
  apply Int32.toBitVec_inj.1
  show BitVec.ofNat 32 n ^^^ BitVec.ofNat 32 1 = BitVec.ofNat 32 (n ^^^ 1)
  apply BitVec.eq_of_getLsbD_eq
  intro i hi
  simp [hi]
section XR
variable {p : Program} {l : Launch} {e : Env} {R : Room} {s : State} {m : MethodId} {args : Array Value} {below : List Frame} {meth : Method} {c : Code} {H : Heap} {locs : List Loc} {cells slots : Nat} {Q : State → Prop}
variable {cc : ByteArray} {pc : Nat} {ls : Array Slot} {rest : List Value}
theorem r_iconst (hx : p.tables.exec = Jvm.exec) (hb : c.code = cc) {n : Int} (hdg : decode cc pc = .ok (.iconst n, 1))
    (k : W p l e R s m args below meth c H locs cells slots Q (F0 m (pc + 1) ls (.int (iI n) :: rest))) : W p l e R s m args below meth c H locs cells slots Q (F0 m pc ls (rest)) := lv_iconst hx hb hdg rfl k
theorem r_bipush (hx : p.tables.exec = Jvm.exec) (hb : c.code = cc) {n : Int} (hdg : decode cc pc = .ok (.bipush n, 2)) (hv : (Int8.ofInt n).toInt32 = iI n)
    (k : W p l e R s m args below meth c H locs cells slots Q (F0 m (pc + 2) ls (.int (iI n) :: rest))) : W p l e R s m args below meth c H locs cells slots Q (F0 m pc ls (rest)) := lv_bipush hx hb hdg hv k
theorem r_sipush (hx : p.tables.exec = Jvm.exec) (hb : c.code = cc) {n : Int} (hdg : decode cc pc = .ok (.sipush n, 3)) (hv : (Int16.ofInt n).toInt32 = iI n)
    (k : W p l e R s m args below meth c H locs cells slots Q (F0 m (pc + 3) ls (.int (iI n) :: rest))) : W p l e R s m args below meth c H locs cells slots Q (F0 m pc ls (rest)) := lv_sipush hx hb hdg hv k
theorem r_lconst (hx : p.tables.exec = Jvm.exec) (hb : c.code = cc) {n : Fin 2} (z : Int) (hdg : decode cc pc = .ok (.lconst n, 1)) (hv : Int64.ofNat (n : Nat) = lI z)
    (k : W p l e R s m args below meth c H locs cells slots Q (F0 m (pc + 1) ls (.long (lI z) :: rest))) : W p l e R s m args below meth c H locs cells slots Q (F0 m pc ls (rest)) := lv_lconst hx hb hdg hv k
theorem r_iadd (hx : p.tables.exec = Jvm.exec) (hb : c.code = cc) {a b : Int} (hdg : decode cc pc = .ok (.iadd, 1))
    (k : W p l e R s m args below meth c H locs cells slots Q (F0 m (pc + 1) ls (.int (iI (a + b)) :: rest))) : W p l e R s m args below meth c H locs cells slots Q (F0 m pc ls (.int (iI b) :: .int (iI a) :: rest)) := lv_iadd hx hb hdg (by rw [iI_add]; exact k)
theorem r_isub (hx : p.tables.exec = Jvm.exec) (hb : c.code = cc) {a b : Int} (hdg : decode cc pc = .ok (.isub, 1))
    (k : W p l e R s m args below meth c H locs cells slots Q (F0 m (pc + 1) ls (.int (iI (a - b)) :: rest))) : W p l e R s m args below meth c H locs cells slots Q (F0 m pc ls (.int (iI b) :: .int (iI a) :: rest)) := lv_isub hx hb hdg (by rw [iI_sub]; exact k)
theorem r_imul (hx : p.tables.exec = Jvm.exec) (hb : c.code = cc) {a b : Int} (hdg : decode cc pc = .ok (.imul, 1))
    (k : W p l e R s m args below meth c H locs cells slots Q (F0 m (pc + 1) ls (.int (iI (a * b)) :: rest))) : W p l e R s m args below meth c H locs cells slots Q (F0 m pc ls (.int (iI b) :: .int (iI a) :: rest)) := lv_imul hx hb hdg (by rw [iI_mul]; exact k)
theorem r_ladd (hx : p.tables.exec = Jvm.exec) (hb : c.code = cc) {a b : Int} (hdg : decode cc pc = .ok (.ladd, 1))
    (k : W p l e R s m args below meth c H locs cells slots Q (F0 m (pc + 1) ls (.long (lI (a + b)) :: rest))) : W p l e R s m args below meth c H locs cells slots Q (F0 m pc ls (.long (lI b) :: .long (lI a) :: rest)) := lv_ladd hx hb hdg (by rw [lI_add]; exact k)
theorem r_lsub (hx : p.tables.exec = Jvm.exec) (hb : c.code = cc) {a b : Int} (hdg : decode cc pc = .ok (.lsub, 1))
    (k : W p l e R s m args below meth c H locs cells slots Q (F0 m (pc + 1) ls (.long (lI (a - b)) :: rest))) : W p l e R s m args below meth c H locs cells slots Q (F0 m pc ls (.long (lI b) :: .long (lI a) :: rest)) := lv_lsub hx hb hdg (by rw [lI_sub]; exact k)
theorem r_lmul (hx : p.tables.exec = Jvm.exec) (hb : c.code = cc) {a b : Int} (hdg : decode cc pc = .ok (.lmul, 1))
    (k : W p l e R s m args below meth c H locs cells slots Q (F0 m (pc + 1) ls (.long (lI (a * b)) :: rest))) : W p l e R s m args below meth c H locs cells slots Q (F0 m pc ls (.long (lI b) :: .long (lI a) :: rest)) := lv_lmul hx hb hdg (by rw [lI_mul]; exact k)
theorem r_i2l (hx : p.tables.exec = Jvm.exec) (hb : c.code = cc) {a : Int} (ha : rg a) (hdg : decode cc pc = .ok (.i2l, 1))
    (k : W p l e R s m args below meth c H locs cells slots Q (F0 m (pc + 1) ls (.long (lI a) :: rest))) : W p l e R s m args below meth c H locs cells slots Q (F0 m pc ls (.int (iI a) :: rest)) := lv_i2l hx hb hdg (iI_l ha) k
theorem r_l2i (hx : p.tables.exec = Jvm.exec) (hb : c.code = cc) {a : Int} (hdg : decode cc pc = .ok (.l2i, 1))
    (k : W p l e R s m args below meth c H locs cells slots Q (F0 m (pc + 1) ls (.int (iI a) :: rest))) : W p l e R s m args below meth c H locs cells slots Q (F0 m pc ls (.long (lI a) :: rest)) := lv_l2i hx hb hdg (lI_i a) k
theorem r_idiv (hx : p.tables.exec = Jvm.exec) (hb : c.code = cc) {a : Int} (d : Nat) (h0 : 0 ≤ a) (h1 : a < 2147483648) (hd : 0 < d) (hd2 : d < 2147483648) (hdg : decode cc pc = .ok (.idiv, 1))
    (k : W p l e R s m args below meth c H locs cells slots Q (F0 m (pc + 1) ls (.int (iI (a / d)) :: rest))) : W p l e R s m args below meth c H locs cells slots Q (F0 m pc ls (.int (iI d) :: .int (iI a) :: rest)) := lv_idiv hx hb hdg (by rw [← nI_iI]; exact nI_ne0 hd (by omega)) (by rw [iI_div d h0 h1 hd hd2]; exact k)
theorem r_irem (hx : p.tables.exec = Jvm.exec) (hb : c.code = cc) {a : Int} (d : Nat) (h0 : 0 ≤ a) (h1 : a < 2147483648) (hd : 0 < d) (hd2 : d < 2147483648) (hdg : decode cc pc = .ok (.irem, 1))
    (k : W p l e R s m args below meth c H locs cells slots Q (F0 m (pc + 1) ls (.int (iI (a % d)) :: rest))) : W p l e R s m args below meth c H locs cells slots Q (F0 m pc ls (.int (iI d) :: .int (iI a) :: rest)) := lv_irem hx hb hdg (by rw [← nI_iI]; exact nI_ne0 hd (by omega)) (by rw [iI_rem d h0 h1 hd hd2]; exact k)
theorem r_icmp_lt (hx : p.tables.exec = Jvm.exec) (hb : c.code = cc) {a b : Int} {off : Int} {tgt : Nat} (ha : rg a) (hb2 : rg b) (hdg : decode cc pc = .ok (.if_icmp .lt off, 3)) (ht : (pc : Int) + off = (tgt : Int))
    (kt : a < b → W p l e R s m args below meth c H locs cells slots Q (F0 m tgt ls rest)) (kf : ¬ a < b → W p l e R s m args below meth c H locs cells slots Q (F0 m (pc + 3) ls rest)) : W p l e R s m args below meth c H locs cells slots Q (F0 m pc ls (.int (iI b) :: .int (iI a) :: rest)) := lv_icmp_lt hx hb hdg ht (fun h => kt ((iI_lt ha hb2).mp h)) (fun h => kf (fun g => h ((iI_lt ha hb2).mpr g)))
theorem r_icmp_ge (hx : p.tables.exec = Jvm.exec) (hb : c.code = cc) {a b : Int} {off : Int} {tgt : Nat} (ha : rg a) (hb2 : rg b) (hdg : decode cc pc = .ok (.if_icmp .ge off, 3)) (ht : (pc : Int) + off = (tgt : Int))
    (kt : b ≤ a → W p l e R s m args below meth c H locs cells slots Q (F0 m tgt ls rest)) (kf : ¬ b ≤ a → W p l e R s m args below meth c H locs cells slots Q (F0 m (pc + 3) ls rest)) : W p l e R s m args below meth c H locs cells slots Q (F0 m pc ls (.int (iI b) :: .int (iI a) :: rest)) := lv_icmp_ge hx hb hdg ht (fun h => kt ((iI_le hb2 ha).mp h)) (fun h => kf (fun g => h ((iI_le hb2 ha).mpr g)))
theorem r_icmp_gt (hx : p.tables.exec = Jvm.exec) (hb : c.code = cc) {a b : Int} {off : Int} {tgt : Nat} (ha : rg a) (hb2 : rg b) (hdg : decode cc pc = .ok (.if_icmp .gt off, 3)) (ht : (pc : Int) + off = (tgt : Int))
    (kt : b < a → W p l e R s m args below meth c H locs cells slots Q (F0 m tgt ls rest)) (kf : ¬ b < a → W p l e R s m args below meth c H locs cells slots Q (F0 m (pc + 3) ls rest)) : W p l e R s m args below meth c H locs cells slots Q (F0 m pc ls (.int (iI b) :: .int (iI a) :: rest)) := lv_icmp_gt hx hb hdg ht (fun h => kt ((iI_lt hb2 ha).mp h)) (fun h => kf (fun g => h ((iI_lt hb2 ha).mpr g)))
theorem r_icmp_le (hx : p.tables.exec = Jvm.exec) (hb : c.code = cc) {a b : Int} {off : Int} {tgt : Nat} (ha : rg a) (hb2 : rg b) (hdg : decode cc pc = .ok (.if_icmp .le off, 3)) (ht : (pc : Int) + off = (tgt : Int))
    (kt : a ≤ b → W p l e R s m args below meth c H locs cells slots Q (F0 m tgt ls rest)) (kf : ¬ a ≤ b → W p l e R s m args below meth c H locs cells slots Q (F0 m (pc + 3) ls rest)) : W p l e R s m args below meth c H locs cells slots Q (F0 m pc ls (.int (iI b) :: .int (iI a) :: rest)) := lv_icmp_le hx hb hdg ht (fun h => kt ((iI_le ha hb2).mp h)) (fun h => kf (fun g => h ((iI_le ha hb2).mpr g)))
theorem r_icmp_eq (hx : p.tables.exec = Jvm.exec) (hb : c.code = cc) {a b : Int} {off : Int} {tgt : Nat} (ha : rg a) (hb2 : rg b) (hdg : decode cc pc = .ok (.if_icmp .eq off, 3)) (ht : (pc : Int) + off = (tgt : Int))
    (kt : a = b → W p l e R s m args below meth c H locs cells slots Q (F0 m tgt ls rest)) (kf : ¬ a = b → W p l e R s m args below meth c H locs cells slots Q (F0 m (pc + 3) ls rest)) : W p l e R s m args below meth c H locs cells slots Q (F0 m pc ls (.int (iI b) :: .int (iI a) :: rest)) := lv_icmp_eq hx hb hdg ht (fun h => kt ((iI_eq ha hb2).mp h)) (fun h => kf (fun g => h ((iI_eq ha hb2).mpr g)))
theorem r_icmp_ne (hx : p.tables.exec = Jvm.exec) (hb : c.code = cc) {a b : Int} {off : Int} {tgt : Nat} (ha : rg a) (hb2 : rg b) (hdg : decode cc pc = .ok (.if_icmp .ne off, 3)) (ht : (pc : Int) + off = (tgt : Int))
    (kt : ¬ a = b → W p l e R s m args below meth c H locs cells slots Q (F0 m tgt ls rest)) (kf : a = b → W p l e R s m args below meth c H locs cells slots Q (F0 m (pc + 3) ls rest)) : W p l e R s m args below meth c H locs cells slots Q (F0 m pc ls (.int (iI b) :: .int (iI a) :: rest)) := lv_icmp_ne hx hb hdg ht (fun h => kt (fun g => h ((iI_eq ha hb2).mpr g))) (fun h => kf ((iI_eq ha hb2).mp h))
theorem r_if_lt (hx : p.tables.exec = Jvm.exec) (hb : c.code = cc) {a : Int} {off : Int} {tgt : Nat} (ha : rg a) (hdg : decode cc pc = .ok (.ifCond .lt off, 3)) (ht : (pc : Int) + off = (tgt : Int))
    (kt : a < 0 → W p l e R s m args below meth c H locs cells slots Q (F0 m tgt ls rest)) (kf : ¬ a < 0 → W p l e R s m args below meth c H locs cells slots Q (F0 m (pc + 3) ls rest)) : W p l e R s m args below meth c H locs cells slots Q (F0 m pc ls (.int (iI a) :: rest)) := lv_if_lt hx hb hdg ht (fun h => kt ((iI_lt ha rg_0).mp h)) (fun h => kf (fun g => h ((iI_lt ha rg_0).mpr g)))
theorem r_if_ge (hx : p.tables.exec = Jvm.exec) (hb : c.code = cc) {a : Int} {off : Int} {tgt : Nat} (ha : rg a) (hdg : decode cc pc = .ok (.ifCond .ge off, 3)) (ht : (pc : Int) + off = (tgt : Int))
    (kt : 0 ≤ a → W p l e R s m args below meth c H locs cells slots Q (F0 m tgt ls rest)) (kf : ¬ 0 ≤ a → W p l e R s m args below meth c H locs cells slots Q (F0 m (pc + 3) ls rest)) : W p l e R s m args below meth c H locs cells slots Q (F0 m pc ls (.int (iI a) :: rest)) := lv_if_ge hx hb hdg ht (fun h => kt ((iI_le rg_0 ha).mp h)) (fun h => kf (fun g => h ((iI_le rg_0 ha).mpr g)))
theorem r_if_gt (hx : p.tables.exec = Jvm.exec) (hb : c.code = cc) {a : Int} {off : Int} {tgt : Nat} (ha : rg a) (hdg : decode cc pc = .ok (.ifCond .gt off, 3)) (ht : (pc : Int) + off = (tgt : Int))
    (kt : 0 < a → W p l e R s m args below meth c H locs cells slots Q (F0 m tgt ls rest)) (kf : ¬ 0 < a → W p l e R s m args below meth c H locs cells slots Q (F0 m (pc + 3) ls rest)) : W p l e R s m args below meth c H locs cells slots Q (F0 m pc ls (.int (iI a) :: rest)) := lv_if_gt hx hb hdg ht (fun h => kt ((iI_lt rg_0 ha).mp h)) (fun h => kf (fun g => h ((iI_lt rg_0 ha).mpr g)))
theorem r_if_le (hx : p.tables.exec = Jvm.exec) (hb : c.code = cc) {a : Int} {off : Int} {tgt : Nat} (ha : rg a) (hdg : decode cc pc = .ok (.ifCond .le off, 3)) (ht : (pc : Int) + off = (tgt : Int))
    (kt : a ≤ 0 → W p l e R s m args below meth c H locs cells slots Q (F0 m tgt ls rest)) (kf : ¬ a ≤ 0 → W p l e R s m args below meth c H locs cells slots Q (F0 m (pc + 3) ls rest)) : W p l e R s m args below meth c H locs cells slots Q (F0 m pc ls (.int (iI a) :: rest)) := lv_if_le hx hb hdg ht (fun h => kt ((iI_le ha rg_0).mp h)) (fun h => kf (fun g => h ((iI_le ha rg_0).mpr g)))
theorem r_if_eq (hx : p.tables.exec = Jvm.exec) (hb : c.code = cc) {a : Int} {off : Int} {tgt : Nat} (ha : rg a) (hdg : decode cc pc = .ok (.ifCond .eq off, 3)) (ht : (pc : Int) + off = (tgt : Int))
    (kt : a = 0 → W p l e R s m args below meth c H locs cells slots Q (F0 m tgt ls rest)) (kf : ¬ a = 0 → W p l e R s m args below meth c H locs cells slots Q (F0 m (pc + 3) ls rest)) : W p l e R s m args below meth c H locs cells slots Q (F0 m pc ls (.int (iI a) :: rest)) := lv_if_eq hx hb hdg ht (fun h => kt ((iI_eq ha rg_0).mp h)) (fun h => kf (fun g => h ((iI_eq ha rg_0).mpr g)))
theorem r_if_ne (hx : p.tables.exec = Jvm.exec) (hb : c.code = cc) {a : Int} {off : Int} {tgt : Nat} (ha : rg a) (hdg : decode cc pc = .ok (.ifCond .ne off, 3)) (ht : (pc : Int) + off = (tgt : Int))
    (kt : ¬ a = 0 → W p l e R s m args below meth c H locs cells slots Q (F0 m tgt ls rest)) (kf : a = 0 → W p l e R s m args below meth c H locs cells slots Q (F0 m (pc + 3) ls rest)) : W p l e R s m args below meth c H locs cells slots Q (F0 m pc ls (.int (iI a) :: rest)) := lv_if_ne hx hb hdg ht (fun h => kt (fun g => h ((iI_eq ha rg_0).mpr g))) (fun h => kf ((iI_eq ha rg_0).mp h))
theorem r_lcmp_lt (hx : p.tables.exec = Jvm.exec) (hb : c.code = cc) {a b : Int} {off : Int} {tgt : Nat} (ha : rL a) (hb2 : rL b) (hd0 : decode cc pc = .ok (.lcmp, 1)) (hdg : decode cc (pc + 1) = .ok (.ifCond .lt off, 3)) (ht : ((pc + 1 : Nat) : Int) + off = (tgt : Int))
    (kt : a < b → W p l e R s m args below meth c H locs cells slots Q (F0 m tgt ls rest)) (kf : ¬ a < b → W p l e R s m args below meth c H locs cells slots Q (F0 m (pc + 4) ls rest)) : W p l e R s m args below meth c H locs cells slots Q (F0 m pc ls (.long (lI b) :: .long (lI a) :: rest)) := by
  have key := (lg_cmp_lt (lI a) (lI b)).trans (lI_lt ha hb2)
  exact W.lcmp hx hb hd0 (lv_if_lt hx hb hdg ht (fun h => kt (key.mp h)) (fun h => kf (fun g => h (key.mpr g))))
theorem r_lcmp_ge (hx : p.tables.exec = Jvm.exec) (hb : c.code = cc) {a b : Int} {off : Int} {tgt : Nat} (ha : rL a) (hb2 : rL b) (hd0 : decode cc pc = .ok (.lcmp, 1)) (hdg : decode cc (pc + 1) = .ok (.ifCond .ge off, 3)) (ht : ((pc + 1 : Nat) : Int) + off = (tgt : Int))
    (kt : b ≤ a → W p l e R s m args below meth c H locs cells slots Q (F0 m tgt ls rest)) (kf : ¬ b ≤ a → W p l e R s m args below meth c H locs cells slots Q (F0 m (pc + 4) ls rest)) : W p l e R s m args below meth c H locs cells slots Q (F0 m pc ls (.long (lI b) :: .long (lI a) :: rest)) := by
  have key := (lg_cmp_ge (lI a) (lI b)).trans (lI_le hb2 ha)
  exact W.lcmp hx hb hd0 (lv_if_ge hx hb hdg ht (fun h => kt (key.mp h)) (fun h => kf (fun g => h (key.mpr g))))
theorem r_lcmp_gt (hx : p.tables.exec = Jvm.exec) (hb : c.code = cc) {a b : Int} {off : Int} {tgt : Nat} (ha : rL a) (hb2 : rL b) (hd0 : decode cc pc = .ok (.lcmp, 1)) (hdg : decode cc (pc + 1) = .ok (.ifCond .gt off, 3)) (ht : ((pc + 1 : Nat) : Int) + off = (tgt : Int))
    (kt : b < a → W p l e R s m args below meth c H locs cells slots Q (F0 m tgt ls rest)) (kf : ¬ b < a → W p l e R s m args below meth c H locs cells slots Q (F0 m (pc + 4) ls rest)) : W p l e R s m args below meth c H locs cells slots Q (F0 m pc ls (.long (lI b) :: .long (lI a) :: rest)) := by
  have key := (lg_cmp_gt (lI a) (lI b)).trans (lI_lt hb2 ha)
  exact W.lcmp hx hb hd0 (lv_if_gt hx hb hdg ht (fun h => kt (key.mp h)) (fun h => kf (fun g => h (key.mpr g))))
theorem r_lcmp_le (hx : p.tables.exec = Jvm.exec) (hb : c.code = cc) {a b : Int} {off : Int} {tgt : Nat} (ha : rL a) (hb2 : rL b) (hd0 : decode cc pc = .ok (.lcmp, 1)) (hdg : decode cc (pc + 1) = .ok (.ifCond .le off, 3)) (ht : ((pc + 1 : Nat) : Int) + off = (tgt : Int))
    (kt : a ≤ b → W p l e R s m args below meth c H locs cells slots Q (F0 m tgt ls rest)) (kf : ¬ a ≤ b → W p l e R s m args below meth c H locs cells slots Q (F0 m (pc + 4) ls rest)) : W p l e R s m args below meth c H locs cells slots Q (F0 m pc ls (.long (lI b) :: .long (lI a) :: rest)) := by
  have key := (lg_cmp_le (lI a) (lI b)).trans (lI_le ha hb2)
  exact W.lcmp hx hb hd0 (lv_if_le hx hb hdg ht (fun h => kt (key.mp h)) (fun h => kf (fun g => h (key.mpr g))))
theorem r_lcmp_eq (hx : p.tables.exec = Jvm.exec) (hb : c.code = cc) {a b : Int} {off : Int} {tgt : Nat} (ha : rL a) (hb2 : rL b) (hd0 : decode cc pc = .ok (.lcmp, 1)) (hdg : decode cc (pc + 1) = .ok (.ifCond .eq off, 3)) (ht : ((pc + 1 : Nat) : Int) + off = (tgt : Int))
    (kt : a = b → W p l e R s m args below meth c H locs cells slots Q (F0 m tgt ls rest)) (kf : ¬ a = b → W p l e R s m args below meth c H locs cells slots Q (F0 m (pc + 4) ls rest)) : W p l e R s m args below meth c H locs cells slots Q (F0 m pc ls (.long (lI b) :: .long (lI a) :: rest)) := by
  have key := (lg_cmp_eq (lI a) (lI b)).trans (lI_eq ha hb2)
  exact W.lcmp hx hb hd0 (lv_if_eq hx hb hdg ht (fun h => kt (key.mp h)) (fun h => kf (fun g => h (key.mpr g))))
theorem r_lcmp_ne (hx : p.tables.exec = Jvm.exec) (hb : c.code = cc) {a b : Int} {off : Int} {tgt : Nat} (ha : rL a) (hb2 : rL b) (hd0 : decode cc pc = .ok (.lcmp, 1)) (hdg : decode cc (pc + 1) = .ok (.ifCond .ne off, 3)) (ht : ((pc + 1 : Nat) : Int) + off = (tgt : Int))
    (kt : ¬ a = b → W p l e R s m args below meth c H locs cells slots Q (F0 m tgt ls rest)) (kf : a = b → W p l e R s m args below meth c H locs cells slots Q (F0 m (pc + 4) ls rest)) : W p l e R s m args below meth c H locs cells slots Q (F0 m pc ls (.long (lI b) :: .long (lI a) :: rest)) := by
  have key := (lg_cmp_eq (lI a) (lI b)).trans (lI_eq ha hb2)
  exact W.lcmp hx hb hd0 (lv_if_ne hx hb hdg ht (fun h => kt (fun g => h (key.mpr g))) (fun h => kf (key.mp h)))
theorem r_ixor1 (hx : p.tables.exec = Jvm.exec) (hb : c.code = cc) {a : Int} (h0 : 0 ≤ a) (h1 : a < 2147483648) (hdg : decode cc pc = .ok (.ixor, 1))
    (k : W p l e R s m args below meth c H locs cells slots Q (F0 m (pc + 1) ls (.int (iI (xo a)) :: rest))) : W p l e R s m args below meth c H locs cells slots Q (F0 m pc ls (.int (iI 1) :: .int (iI a) :: rest)) := lv_ixor hx hb hdg (by rw [iI_xo h0 h1]; exact k)
theorem r_ldc2 (z : Int) (hx : p.tables.exec = Jvm.exec) (hb : c.code = cc) {own : String} {index : Nat} (hown : s.vm.findClass own = some m.cls) {v : Int64} (hconst : (Jvm.Cond.constantLong own index v).before args s = true) (hv : v = lI z) (hdg : decode cc pc = .ok (.ldc2_w index, 3)) (k : W p l e R s m args below meth c H locs cells slots Q (F0 m (pc + 3) ls (.long (lI z) :: rest))) : W p l e R s m args below meth c H locs cells slots Q (F0 m pc ls rest) := lv_ldc2 hx hb hown hconst hdg (by rw [hv]; exact k)
theorem r_iinc (hx : p.tables.exec = Jvm.exec) (hb : c.code = cc) {i nL k : Nat} {n z : Int} {lv lv' : List (Nat × Value)} (hdg : decode cc pc = .ok (.iinc i n, 3)) (h : lv_has ls nL lv) (hk : lv[k]? = some (i, .int (iI z))) (hn : i < nL) (hl : (i, Value.int (iI (z + n))) :: lv.filter (fun q => !(q.1 == i) && !(q.1 + 1 == i && q.2.category == 2)) = lv')
    (kk : ∀ ls' : Array Slot, lv_has ls' nL lv' → W p l e R s m args below meth c H locs cells slots Q (F0 m (pc + 3) ls' rest)) : W p l e R s m args below meth c H locs cells slots Q (F0 m pc ls rest) := lv_iinc hx hb hdg h hk (iI_add z n) hn hl kk
end XR
end
section
/-! ROWS over the shaped world (printed by mkworld.py) -/
theorem x_upd {f : Int → Int} {g : Int → Int} {i v : Int} (h0 : 0 ≤ i) (hg : ∀ j : Int, g j = if j = i then v else f j) : upd (fun j : Nat => iI (f j)) i.toNat (iI v) = fun j : Nat => iI (g j) := by
  funext j
  unfold upd
  dsimp only
  rw [hg]
  by_cases h : j = i.toNat
  · rw [if_pos h, if_pos (by omega)]
  · rw [if_neg h, if_neg (by omega)]
theorem x_updL {f : Int → Int} {g : Int → Int} {i v : Int} (h0 : 0 ≤ i) (hg : ∀ j : Int, g j = if j = i then v else f j) : vp_updL (fun j : Nat => lI (f j)) i.toNat (lI v) = fun j : Nat => lI (g j) := by
  funext j
  unfold vp_updL
  dsimp only
  rw [hg]
  by_cases h : j = i.toNat
  · rw [if_pos h, if_pos (by omega)]
  · rw [if_neg h, if_neg (by omega)]
theorem ua_self (A : Nat → Int → Int) (k : Nat) (i v j : Int) : ua A k i v k j = if j = i then v else A k j := by unfold ua; rw [if_pos rfl]
theorem iI_max {a b : Int} (ha : rg a) (hb : rg b) : (if iI a < iI b then iI b else iI a) = iI (max a b) := by
  by_cases h : a < b
  · rw [if_pos ((iI_lt ha hb).mpr h)]; congr 1; omega
  · rw [if_neg (fun g => h ((iI_lt ha hb).mp g))]; congr 1; omega
theorem iI_min {a b : Int} (ha : rg a) (hb : rg b) : (if iI b < iI a then iI b else iI a) = iI (min a b) := by
  by_cases h : b < a
  · rw [if_pos ((iI_lt hb ha).mpr h)]; congr 1; omega
  · rw [if_neg (fun g => h ((iI_lt hb ha).mp g))]; congr 1; omega
theorem iI_abs {a : Int} (ha : rg a) : (if 0 ≤ iI a then iI a else 0 - iI a) = iI (a.natAbs : Int) := by
  have e : (0 ≤ iI a) ↔ 0 ≤ a := iI_le rg_0 ha
  by_cases h : 0 ≤ a
  · rw [if_pos (e.mpr h)]; congr 1; omega
  · rw [if_neg (fun g => h (e.mp g)), show (0 : Int32) - iI a = iI (0 - a) from iI_sub 0 a]; congr 1; omega
theorem x_bool {v : Int} (h : v = 0 ∨ v = 1) : narrow .boolean (.int (iI v)) = .int (iI v) ∧ fits .boolean (.int (iI v)) = true ∧ vp_nar .boolean (iI v) = iI v := by
  rcases h with rfl | rfl <;> decide +kernel
def uc (A : Nat → Int → Int) (k : Nat) (sp dp n : Int) : Nat → Int → Int := fun a j => if a = k then (if dp ≤ j ∧ j < dp + n then A k (sp + (j - dp)) else A k j) else A a j
def x_P (D : va_G) (cl : List vw_C) (sh : List x_D) (ad : Nat → Nat) (cA : Nat → ClassId) (N : Nat → Nat) (sz : Nat) (F : Nat → Int) (A : Nat → Int → Int) (U : State) : Prop :=
  U.heap.size = sz ∧ va_P D cl (x_w sh ad cA N F A) U.heap ∧ va_K D cl (x_tys sh cA) U ∧ va_D (fun _ => True) (x_w sh ad cA N F A) ∧ ∀ k, N k < 2147483648
def x_B (D : va_G) (cl : List vw_C) (sh : List x_D) (ad : Nat → Nat) (cA : Nat → ClassId) (N : Nat → Nat) (A0 : Nat → Prop) (u : x_St) (t : State) : Prop :=
  va_P D cl (x_w sh ad cA N u.1 u.2) t.heap ∧ va_K D cl (x_tys sh cA) t ∧ va_D A0 (x_w sh ad cA N u.1 u.2)
abbrev x_QI (D : va_G) (cl : List vw_C) (sh : List x_D) (ad : Nat → Nat) (cA : Nat → ClassId) (N : Nat → Nat) (A0 : Nat → Prop) (K : Int → (Nat → Int) → (Nat → Int → Int) → Prop) : Array Value → State → Outcome → State → Prop :=
  va_Qi (fun r (u : x_St) => ∃ z, r = iI z ∧ K z u.1 u.2) (x_B D cl sh ad cA N A0) A0
abbrev x_QL (D : va_G) (cl : List vw_C) (sh : List x_D) (ad : Nat → Nat) (cA : Nat → ClassId) (N : Nat → Nat) (A0 : Nat → Prop) (K : Int → (Nat → Int) → (Nat → Int → Int) → Prop) : Array Value → State → Outcome → State → Prop :=
  va_Ql (fun r (u : x_St) => ∃ z, r = lI z ∧ K z u.1 u.2) (x_B D cl sh ad cA N A0) A0
abbrev x_QV (D : va_G) (cl : List vw_C) (sh : List x_D) (ad : Nat → Nat) (cA : Nat → ClassId) (N : Nat → Nat) (A0 : Nat → Prop) (K : (Nat → Int) → (Nat → Int → Int) → Prop) : Array Value → State → Outcome → State → Prop :=
  va_Qv (fun (u : x_St) => K u.1 u.2) (x_B D cl sh ad cA N A0) A0
/-- what a walk of a method's body knows of its place -/
def x_C (p : Program) (s : State) (m : MethodId) (args : Array Value) (meth : Method) (c : Code) (cc : ByteArray) (nL : Nat) (ret : Option FieldType) (Ts : List Cond) (own : String) : Prop :=
  p.tables.exec = Jvm.exec ∧ c.code = cc ∧ meth.sig.returnType = ret ∧ c.maxLocals = nL ∧ s.vm.findClass own = some m.cls ∧ (∀ w ∈ Ts, w.before args s = true) ∧ meth.locks = false
section XW
variable {p : Program} {l : Launch} {e : Env} {R : Room} {s : State} {m : MethodId} {args : Array Value} {below : List Frame} {meth : Method} {c : Code} {H : Heap} {locs : List Loc} {cells slots : Nat} {Q : State → Prop}
variable {cc : ByteArray} {pc : Nat} {ls : Array Slot} {rest : List Value}
variable {D : va_G} {cl : List vw_C} {sh : List x_D} {ad : Nat → Nat} {cA : Nat → ClassId} {N : Nat → Nat} {A0 : Nat → Prop} {F : Nat → Int} {A : Nat → Int → Int}
theorem r_getr (hx : p.tables.exec = Jvm.exec) (hb : c.code = cc) {own C : String} {T : u_T} {n ci index : Nat} {Ts : List Cond} (hts : ∀ w ∈ Ts, w.before args s = true) (hin : ∀ w ∈ u_ws C T n, w ∈ Ts) (hown : s.vm.findClass own = some m.cls) (hS : x_S D cl sh ad cA N A0 s F A H locs) (q : Nat) {t : Nat} {fs : List x_F} (hq : sh[q]? = some (t, .inl (ci, fs))) (hc : cl[ci]? = some (C, T, n)) (k : Nat) (hk : k < n) {t2 : Nat} (hf : fs[k]? = some (.inl t2)) (hlink : (Cond.fieldLink own index (T k).1 (T k).2.1 (T k).2.2.1).before args s = true) (hdg : decode cc pc = .ok (.getfield index, 3)) 
    (kk : W p l e R s m args below meth c H locs cells slots Q (F0 m (pc + 3) ls (.ref (ad t2) :: rest))) : W p l e R s m args below meth c H locs cells slots Q (F0 m pc ls (.ref (ad t) :: rest)) :=
  va_get hx hb hts hin hown hS.1 hS.2.1 q (x_wq hq) hc k hk hlink (fun _ h => h) (by rw [List.getElem?_map, hf]; rfl) hdg kk
theorem r_geti (hx : p.tables.exec = Jvm.exec) (hb : c.code = cc) {own C : String} {T : u_T} {n ci index : Nat} {Ts : List Cond} (hts : ∀ w ∈ Ts, w.before args s = true) (hin : ∀ w ∈ u_ws C T n, w ∈ Ts) (hown : s.vm.findClass own = some m.cls) (hS : x_S D cl sh ad cA N A0 s F A H locs) (q : Nat) {t : Nat} {fs : List x_F} (hq : sh[q]? = some (t, .inl (ci, fs))) (hc : cl[ci]? = some (C, T, n)) (k : Nat) (hk : k < n) {j : Nat} {z : Int} (hf : fs[k]? = some (.inr j)) (hlink : (Cond.fieldLink own index (T k).1 (T k).2.1 (T k).2.2.1).before args s = true) (hdg : decode cc pc = .ok (.getfield index, 3)) (hz : F j = z)
    (kk : W p l e R s m args below meth c H locs cells slots Q (F0 m (pc + 3) ls (.int (iI z) :: rest))) : W p l e R s m args below meth c H locs cells slots Q (F0 m pc ls (.ref (ad t) :: rest)) :=
  va_get hx hb hts hin hown hS.1 hS.2.1 q (x_wq hq) hc k hk hlink (fun _ h => h) (by subst hz; rw [List.getElem?_map, hf]; rfl) hdg kk
theorem r_puti (hx : p.tables.exec = Jvm.exec) (hb : c.code = cc) {own C : String} {T : u_T} {n ci index : Nat} {Ts : List Cond} (hts : ∀ w ∈ Ts, w.before args s = true) (hin : ∀ w ∈ u_ws C T n, w ∈ Ts) (ty0 : Nat → FieldType) (hty : ∀ k, k < n → parseFieldDescriptor (T k).2.2.1 = some (ty0 k)) (hnm : ∀ a, a < n → ∀ b, b < n → a ≠ b → (T a).2.1 ≠ (T b).2.1) (hown : s.vm.findClass own = some m.cls) (hS : x_S D cl sh ad cA N A0 s F A H locs) (q : Nat) {t : Nat} {fs : List x_F} (hq : sh[q]? = some (t, .inl (ci, fs))) (hc : cl[ci]? = some (C, T, n)) (k : Nat) (hk : k < n) {j : Nat} (hlink : (Cond.fieldLink own index (T k).1 (T k).2.1 (T k).2.2.1).before args s = true) (hfin : (T k).2.2.2 = false) (hd : parseFieldDescriptor (T k).2.2.1 = some .int) {v : Int}  (hset : (x_w sh ad cA N F A).set q (ad t, .inr (ci, (fs.map (x_fv ad F)).set k (.int (iI v)))) = x_w sh ad cA N (uf F j v) A) (hl : k < fs.length) (hdg : decode cc pc = .ok (.putfield index, 3))
    (kk : ∀ (H1 : Heap) (locs1 : List Loc), x_S D cl sh ad cA N A0 s (uf F j v) A H1 locs1 → W p l e R s m args below meth c H1 locs1 cells slots Q (F0 m (pc + 3) ls rest)) : W p l e R s m args below meth c H locs cells slots Q (F0 m pc ls (.int (iI v) :: .ref (ad t) :: rest)) :=
  va_put hx hb hts hin ty0 hty hnm hown hS.1 hS.2.1 hS.2.2.1 hS.2.2.2.1 q (x_wq hq) hc k hk hlink (fun _ h => h) hfin (ty := .int) hd rfl rfl (by rw [List.length_map]; exact hl) hdg
    (fun H1 locs1 hP hD hS1 => kk H1 locs1 ⟨hS.1, by rw [← hset]; exact hP, by rw [← hset]; exact hD, hS1, hS.2.2.2.2⟩)
theorem r_putz (hx : p.tables.exec = Jvm.exec) (hb : c.code = cc) {own C : String} {T : u_T} {n ci index : Nat} {Ts : List Cond} (hts : ∀ w ∈ Ts, w.before args s = true) (hin : ∀ w ∈ u_ws C T n, w ∈ Ts) (ty0 : Nat → FieldType) (hty : ∀ k, k < n → parseFieldDescriptor (T k).2.2.1 = some (ty0 k)) (hnm : ∀ a, a < n → ∀ b, b < n → a ≠ b → (T a).2.1 ≠ (T b).2.1) (hown : s.vm.findClass own = some m.cls) (hS : x_S D cl sh ad cA N A0 s F A H locs) (q : Nat) {t : Nat} {fs : List x_F} (hq : sh[q]? = some (t, .inl (ci, fs))) (hc : cl[ci]? = some (C, T, n)) (k : Nat) (hk : k < n) {j : Nat} (hlink : (Cond.fieldLink own index (T k).1 (T k).2.1 (T k).2.2.1).before args s = true) (hfin : (T k).2.2.2 = false) (hd : parseFieldDescriptor (T k).2.2.1 = some .boolean) {v : Int} (hz : v = 0 ∨ v = 1) (hset : (x_w sh ad cA N F A).set q (ad t, .inr (ci, (fs.map (x_fv ad F)).set k (.int (iI v)))) = x_w sh ad cA N (uf F j v) A) (hl : k < fs.length) (hdg : decode cc pc = .ok (.putfield index, 3))
    (kk : ∀ (H1 : Heap) (locs1 : List Loc), x_S D cl sh ad cA N A0 s (uf F j v) A H1 locs1 → W p l e R s m args below meth c H1 locs1 cells slots Q (F0 m (pc + 3) ls rest)) : W p l e R s m args below meth c H locs cells slots Q (F0 m pc ls (.int (iI v) :: .ref (ad t) :: rest)) :=
  va_put hx hb hts hin ty0 hty hnm hown hS.1 hS.2.1 hS.2.2.1 hS.2.2.2.1 q (x_wq hq) hc k hk hlink (fun _ h => h) hfin (ty := .boolean) hd (x_bool hz).1 (x_bool hz).2.1 (by rw [List.length_map]; exact hl) hdg
    (fun H1 locs1 hP hD hS1 => kk H1 locs1 ⟨hS.1, by rw [← hset]; exact hP, by rw [← hset]; exact hD, hS1, hS.2.2.2.2⟩)
theorem r_iald (hx : p.tables.exec = Jvm.exec) (hb : c.code = cc) (hS : x_S D cl sh ad cA N A0 s F A H locs) (q : Nat) {t id : Nat} (hq : sh[q]? = some (t, .inr (0, id))) {i z : Int} (h0 : 0 ≤ i) (h1 : i < N id) (hdg : decode cc pc = .ok (.iaload, 1)) (hz : A id i = z)
    (kk : W p l e R s m args below meth c H locs cells slots Q (F0 m (pc + 1) ls (.int (iI z) :: rest))) : W p l e R s m args below meth c H locs cells slots Q (F0 m pc ls (.int (iI i) :: .ref (ad t) :: rest)) := by
  obtain ⟨t0, ht⟩ := x_tq (cA := cA) hq
  have hn := hS.2.2.2.2 id
  have e2 : (((iI i).toNatClampNeg : Nat) : Int) = i := by rw [iI_c h0 (by omega)]; exact Int.toNat_of_nonneg h0
  have kk2 : W p l e R s m args below meth c H locs cells slots Q (F0 m (pc + 1) ls (.int (iI (A id (((iI i).toNatClampNeg : Nat) : Int))) :: rest)) := by rw [e2, hz]; exact kk
  exact va_iald hx hb hS.1 hS.2.1 q t0 (x_wq hq) ht (iI_in h0 h1 hn) hdg kk2
theorem r_zald (hx : p.tables.exec = Jvm.exec) (hb : c.code = cc) (hS : x_S D cl sh ad cA N A0 s F A H locs) (q : Nat) {t id : Nat} (hq : sh[q]? = some (t, .inr (1, id))) {i z : Int} (h0 : 0 ≤ i) (h1 : i < N id) (hdg : decode cc pc = .ok (.baload, 1)) (hz : A id i = z)
    (kk : W p l e R s m args below meth c H locs cells slots Q (F0 m (pc + 1) ls (.int (iI z) :: rest))) : W p l e R s m args below meth c H locs cells slots Q (F0 m pc ls (.int (iI i) :: .ref (ad t) :: rest)) := by
  obtain ⟨t0, ht⟩ := x_tq (cA := cA) hq
  have hn := hS.2.2.2.2 id
  have e2 : (((iI i).toNatClampNeg : Nat) : Int) = i := by rw [iI_c h0 (by omega)]; exact Int.toNat_of_nonneg h0
  have kk2 : W p l e R s m args below meth c H locs cells slots Q (F0 m (pc + 1) ls (.int (iI (A id (((iI i).toNatClampNeg : Nat) : Int))) :: rest)) := by rw [e2, hz]; exact kk
  exact va_zald hx hb hS.1 hS.2.1 q t0 (x_wq hq) ht (iI_in h0 h1 hn) hdg kk2
theorem r_lald (hx : p.tables.exec = Jvm.exec) (hb : c.code = cc) (hS : x_S D cl sh ad cA N A0 s F A H locs) (q : Nat) {t id : Nat} (hq : sh[q]? = some (t, .inr (2, id))) {i z : Int} (h0 : 0 ≤ i) (h1 : i < N id) (hdg : decode cc pc = .ok (.laload, 1)) (hz : A id i = z)
    (kk : W p l e R s m args below meth c H locs cells slots Q (F0 m (pc + 1) ls (.long (lI z) :: rest))) : W p l e R s m args below meth c H locs cells slots Q (F0 m pc ls (.int (iI i) :: .ref (ad t) :: rest)) := by
  obtain ⟨t0, ht⟩ := x_tq (cA := cA) hq
  have hn := hS.2.2.2.2 id
  have e2 : (((iI i).toNatClampNeg : Nat) : Int) = i := by rw [iI_c h0 (by omega)]; exact Int.toNat_of_nonneg h0
  have kk2 : W p l e R s m args below meth c H locs cells slots Q (F0 m (pc + 1) ls (.long (lI (A id (((iI i).toNatClampNeg : Nat) : Int))) :: rest)) := by rw [e2, hz]; exact kk
  exact va_lald hx hb hS.1 hS.2.1 q t0 (x_wq hq) ht (iI_in h0 h1 hn) hdg kk2
theorem r_iast (hx : p.tables.exec = Jvm.exec) (hb : c.code = cc) (hS : x_S D cl sh ad cA N A0 s F A H locs) (q : Nat) {t id : Nat} (hq : sh[q]? = some (t, .inr (0, id))) {i v : Int} (h0 : 0 ≤ i) (h1 : i < N id)  (hset : (x_w sh ad cA N F A).set q (ad t, .inl (cA id, N id, x_ar 0 (ua A id i v id))) = x_w sh ad cA N F (ua A id i v)) (hdg : decode cc pc = .ok (.iastore, 1))
    (kk : ∀ (H1 : Heap) (locs1 : List Loc), x_S D cl sh ad cA N A0 s F (ua A id i v) H1 locs1 → W p l e R s m args below meth c H1 locs1 cells slots Q (F0 m (pc + 1) ls rest)) : W p l e R s m args below meth c H locs cells slots Q (F0 m pc ls (.int (iI v) :: .int (iI i) :: .ref (ad t) :: rest)) := by
  obtain ⟨t0, ht⟩ := x_tq (cA := cA) hq
  have hn := hS.2.2.2.2 id
  refine va_iast hx hb hS.1 hS.2.1 hS.2.2.1 hS.2.2.2.1 q t0 (x_wq hq) ht (iI_in h0 h1 hn) hdg (fun H1 locs1 hP hD hS1 => kk H1 locs1 ?_)
  rw [iI_c h0 (by omega), x_upd (g := ua A id i v id) h0 (fun j => ua_self A id i v j)] at hP hD
  exact ⟨hS.1, by rw [← hset]; exact hP, by rw [← hset]; exact hD, hS1, hS.2.2.2.2⟩
theorem r_zast (hx : p.tables.exec = Jvm.exec) (hb : c.code = cc) (hS : x_S D cl sh ad cA N A0 s F A H locs) (q : Nat) {t id : Nat} (hq : sh[q]? = some (t, .inr (1, id))) {i v : Int} (h0 : 0 ≤ i) (h1 : i < N id) (hz : v = 0 ∨ v = 1) (hset : (x_w sh ad cA N F A).set q (ad t, .inl (cA id, N id, x_ar 1 (ua A id i v id))) = x_w sh ad cA N F (ua A id i v)) (hdg : decode cc pc = .ok (.bastore, 1))
    (kk : ∀ (H1 : Heap) (locs1 : List Loc), x_S D cl sh ad cA N A0 s F (ua A id i v) H1 locs1 → W p l e R s m args below meth c H1 locs1 cells slots Q (F0 m (pc + 1) ls rest)) : W p l e R s m args below meth c H locs cells slots Q (F0 m pc ls (.int (iI v) :: .int (iI i) :: .ref (ad t) :: rest)) := by
  obtain ⟨t0, ht⟩ := x_tq (cA := cA) hq
  have hn := hS.2.2.2.2 id
  refine va_zast hx hb hS.1 hS.2.1 hS.2.2.1 hS.2.2.2.1 q t0 (x_wq hq) ht (iI_in h0 h1 hn) hdg (fun H1 locs1 hP hD hS1 => kk H1 locs1 ?_)
  rw [(x_bool hz).2.2] at hP hD
  rw [iI_c h0 (by omega), x_upd (g := ua A id i v id) h0 (fun j => ua_self A id i v j)] at hP hD
  exact ⟨hS.1, by rw [← hset]; exact hP, by rw [← hset]; exact hD, hS1, hS.2.2.2.2⟩
theorem r_last (hx : p.tables.exec = Jvm.exec) (hb : c.code = cc) (hS : x_S D cl sh ad cA N A0 s F A H locs) (q : Nat) {t id : Nat} (hq : sh[q]? = some (t, .inr (2, id))) {i v : Int} (h0 : 0 ≤ i) (h1 : i < N id)  (hset : (x_w sh ad cA N F A).set q (ad t, .inl (cA id, N id, x_ar 2 (ua A id i v id))) = x_w sh ad cA N F (ua A id i v)) (hdg : decode cc pc = .ok (.lastore, 1))
    (kk : ∀ (H1 : Heap) (locs1 : List Loc), x_S D cl sh ad cA N A0 s F (ua A id i v) H1 locs1 → W p l e R s m args below meth c H1 locs1 cells slots Q (F0 m (pc + 1) ls rest)) : W p l e R s m args below meth c H locs cells slots Q (F0 m pc ls (.long (lI v) :: .int (iI i) :: .ref (ad t) :: rest)) := by
  obtain ⟨t0, ht⟩ := x_tq (cA := cA) hq
  have hn := hS.2.2.2.2 id
  refine va_last hx hb hS.1 hS.2.1 hS.2.2.1 hS.2.2.2.1 q t0 (x_wq hq) ht (iI_in h0 h1 hn) hdg (fun H1 locs1 hP hD hS1 => kk H1 locs1 ?_)
  rw [iI_c h0 (by omega), x_updL (g := ua A id i v id) h0 (fun j => ua_self A id i v j)] at hP hD
  exact ⟨hS.1, by rw [← hset]; exact hP, by rw [← hset]; exact hD, hS1, hS.2.2.2.2⟩
theorem r_alen (hx : p.tables.exec = Jvm.exec) (hb : c.code = cc) (hS : x_S D cl sh ad cA N A0 s F A H locs) (q : Nat) {t kd id : Nat} (hq : sh[q]? = some (t, .inr (kd, id))) {z : Int} (hdg : decode cc pc = .ok (.arraylength, 1)) (hz : ((N id : Nat) : Int) = z)
    (kk : W p l e R s m args below meth c H locs cells slots Q (F0 m (pc + 1) ls (.int (iI z) :: rest))) : W p l e R s m args below meth c H locs cells slots Q (F0 m pc ls (.ref (ad t) :: rest)) := by
  obtain ⟨t0, ht⟩ := x_tq (cA := cA) hq
  exact va_alen hx hb hS.1 hS.2.1 q t0 (x_wq hq) ht (by rw [← hz]; exact iI_ofNat _) hdg kk
theorem r_ci {st0 : List Value} {vs : Array Value} {K : Int → (Nat → Int) → (Nat → Int → Int) → Prop} (hr : va_Run p l e R s m args below meth c H locs cells slots 0 0 (F0 m pc ls st0) rest (x_QI D cl sh ad cA N (va_A (x_w sh ad cA N F A) H.size) K vs) (va_A (x_w sh ad cA N F A) H.size)) (hS : x_S D cl sh ad cA N A0 s F A H locs) (hA : ∀ q : Nat, s.heap.size ≤ q → A0 q)
    (kk : ∀ (z : Int) (F1 : Nat → Int) (A1 : Nat → Int → Int) (H1 : Heap) (locs1 : List Loc), x_S D cl sh ad cA N A0 s F1 A1 H1 locs1 → K z F1 A1 → W p l e R s m args below meth c H1 locs1 cells slots Q (F0 m (pc + 3) ls (.int (iI z) :: rest))) : W p l e R s m args below meth c H locs cells slots Q (F0 m pc ls st0) := by
  have hF : ∀ q, va_A (x_w sh ad cA N F A) H.size q → A0 q := by
    rintro q (⟨k, e, h⟩ | h)
    · exact hS.2.2.1.2 k _ h
    · exact hA q (Nat.le_trans hS.2.2.2.1.1 h)
  refine va_calli hr hS.2.2.2.1 (fun q _ h => hF q h) hF (fun r u t H1 locs1 ht hvm hw hB hz1 hk1 hS1 => ?_)
  obtain ⟨z, rfl, hw⟩ := hw
  obtain ⟨hP1, hK1, hD1⟩ := hB
  rw [ht] at hP1
  exact kk z u.1 u.2 H1 locs1 ⟨hS.1, hP1, x_Dm hS.2.2.1, hS1, hS.2.2.2.2⟩ hw
theorem r_cl {st0 : List Value} {vs : Array Value} {K : Int → (Nat → Int) → (Nat → Int → Int) → Prop} (hr : va_Run p l e R s m args below meth c H locs cells slots 0 0 (F0 m pc ls st0) rest (x_QL D cl sh ad cA N (va_A (x_w sh ad cA N F A) H.size) K vs) (va_A (x_w sh ad cA N F A) H.size)) (hS : x_S D cl sh ad cA N A0 s F A H locs) (hA : ∀ q : Nat, s.heap.size ≤ q → A0 q)
    (kk : ∀ (z : Int) (F1 : Nat → Int) (A1 : Nat → Int → Int) (H1 : Heap) (locs1 : List Loc), x_S D cl sh ad cA N A0 s F1 A1 H1 locs1 → K z F1 A1 → W p l e R s m args below meth c H1 locs1 cells slots Q (F0 m (pc + 3) ls (.long (lI z) :: rest))) : W p l e R s m args below meth c H locs cells slots Q (F0 m pc ls st0) := by
  have hF : ∀ q, va_A (x_w sh ad cA N F A) H.size q → A0 q := by
    rintro q (⟨k, e, h⟩ | h)
    · exact hS.2.2.1.2 k _ h
    · exact hA q (Nat.le_trans hS.2.2.2.1.1 h)
  refine va_calll hr hS.2.2.2.1 (fun q _ h => hF q h) hF (fun r u t H1 locs1 ht hvm hw hB hz1 hk1 hS1 => ?_)
  obtain ⟨z, rfl, hw⟩ := hw
  obtain ⟨hP1, hK1, hD1⟩ := hB
  rw [ht] at hP1
  exact kk z u.1 u.2 H1 locs1 ⟨hS.1, hP1, x_Dm hS.2.2.1, hS1, hS.2.2.2.2⟩ hw
theorem r_cv {st0 : List Value} {vs : Array Value} {K : (Nat → Int) → (Nat → Int → Int) → Prop} (hr : va_Run p l e R s m args below meth c H locs cells slots 0 0 (F0 m pc ls st0) rest (x_QV D cl sh ad cA N (va_A (x_w sh ad cA N F A) H.size) K vs) (va_A (x_w sh ad cA N F A) H.size)) (hS : x_S D cl sh ad cA N A0 s F A H locs) (hA : ∀ q : Nat, s.heap.size ≤ q → A0 q)
    (kk : ∀ (F1 : Nat → Int) (A1 : Nat → Int → Int) (H1 : Heap) (locs1 : List Loc), x_S D cl sh ad cA N A0 s F1 A1 H1 locs1 → K F1 A1 → W p l e R s m args below meth c H1 locs1 cells slots Q (F0 m (pc + 3) ls (rest))) : W p l e R s m args below meth c H locs cells slots Q (F0 m pc ls st0) := by
  have hF : ∀ q, va_A (x_w sh ad cA N F A) H.size q → A0 q := by
    rintro q (⟨k, e, h⟩ | h)
    · exact hS.2.2.1.2 k _ h
    · exact hA q (Nat.le_trans hS.2.2.2.1.1 h)
  refine va_callv hr hS.2.2.2.1 (fun q _ h => hF q h) hF (fun u t H1 locs1 ht hvm hw hB hz1 hk1 hS1 => ?_)
  obtain ⟨hP1, hK1, hD1⟩ := hB
  rw [ht] at hP1
  exact kk u.1 u.2 H1 locs1 ⟨hS.1, hP1, x_Dm hS.2.2.1, hS1, hS.2.2.2.2⟩ hw
theorem x_blind {vs : List Value} {sz : Nat} : FrameBlind (va_Pc vs (x_P D cl sh ad cA N sz F A)) := fun a U g mk q => by
  obtain ⟨q0, q1, qP, qK, qD⟩ := q
  exact ⟨q0, q1, qP, va_K.moved (u := U) (U := U.calling g mk a) (Vm.Alike.refl U.vm) qK, qD⟩
theorem x_preS (hS : x_S D cl sh ad cA N A0 s F A H locs) (As : List Value) : PreS s H (va_Pc As (x_P D cl sh ad cA N H.size F A)) As :=
  ⟨x_blind, fun U hU hW => ⟨rfl, by rw [hU], by rw [hU]; exact hS.2.1, va_K.moved hW.alike hS.1, hS.2.2.1.weaken (fun _ _ _ _ => trivial), hS.2.2.2.2⟩⟩
theorem x_preV (hS : x_S D cl sh ad cA N A0 s F A H locs) (q : Nat) {C : String} {T : u_T} {t ci n : Nat} {fs : List x_F} (hq : sh[q]? = some (t, .inl (ci, fs))) (hc : cl[ci]? = some (C, T, n)) (As : List Value) : PreV s H C (ad t) (va_Pc (.ref (ad t) :: As) (x_P D cl sh ad cA N H.size F A)) As :=
  ⟨x_blind, va_recv hS.1 hS.2.1 hc (x_wq hq), fun U hU hW => ⟨rfl, by rw [hU], by rw [hU]; exact hS.2.1, va_K.moved hW.alike hS.1, hS.2.2.1.weaken (fun _ _ _ _ => trivial), hS.2.2.2.2⟩⟩
theorem r_iret (hx : p.tables.exec = Jvm.exec) (hb : c.code = cc) (hr : meth.sig.returnType = some .int) (hlocks : meth.locks = false) {K : Int → (Nat → Int) → (Nat → Int → Int) → Prop} {z : Int} (hS : x_S D cl sh ad cA N A0 s F A H locs) (hK : K z F A) (hdg : decode cc pc = .ok (.ireturn, 1)) : W p l e R s m args below meth c H locs cells slots (MQ below (x_QI D cl sh ad cA N A0 K) args s cells slots A0) (F0 m pc ls [.int (iI z)]) :=
  W.iret hx hb hr (fun t ht hW => ⟨⟨_, (F, A), rfl, ⟨z, rfl, hK⟩, by rw [ht]; exact hS.2.1, va_K.moved hW.alike hS.1, hS.2.2.1⟩, hS.2.2.2.1.F ht⟩) hS.2.2.2.1.2.2 hdg hlocks
theorem r_lret (hx : p.tables.exec = Jvm.exec) (hb : c.code = cc) (hr : meth.sig.returnType = some .long) (hlocks : meth.locks = false) {K : Int → (Nat → Int) → (Nat → Int → Int) → Prop} {z : Int} (hS : x_S D cl sh ad cA N A0 s F A H locs) (hK : K z F A) (hdg : decode cc pc = .ok (.lreturn, 1)) : W p l e R s m args below meth c H locs cells slots (MQ below (x_QL D cl sh ad cA N A0 K) args s cells slots A0) (F0 m pc ls [.long (lI z)]) :=
  W.lret hx hb hr (fun t ht hW => ⟨⟨_, (F, A), rfl, ⟨z, rfl, hK⟩, by rw [ht]; exact hS.2.1, va_K.moved hW.alike hS.1, hS.2.2.1⟩, hS.2.2.2.1.F ht⟩) hS.2.2.2.1.2.2 hdg hlocks
theorem r_vret (hx : p.tables.exec = Jvm.exec) (hb : c.code = cc) (hr : meth.sig.returnType = none) (hlocks : meth.locks = false) {K : (Nat → Int) → (Nat → Int → Int) → Prop} (hS : x_S D cl sh ad cA N A0 s F A H locs) (hK : K F A) (hdg : decode cc pc = .ok (.return_, 1)) : W p l e R s m args below meth c H locs cells slots (MQ below (x_QV D cl sh ad cA N A0 K) args s cells slots A0) (F0 m pc ls []) :=
  W.vret hx hb hr (fun t ht hW => ⟨⟨(F, A), rfl, hK, by rw [ht]; exact hS.2.1, va_K.moved hW.alike hS.1, hS.2.2.1⟩, hS.2.2.2.1.F ht⟩) hS.2.2.2.1.2.2 hdg hlocks
theorem r_zret (hx : p.tables.exec = Jvm.exec) (hb : c.code = cc) (hr : meth.sig.returnType = some .boolean) (hlocks : meth.locks = false) {K : Int → (Nat → Int) → (Nat → Int → Int) → Prop} {z : Int} (hz : z = 0 ∨ z = 1) (hS : x_S D cl sh ad cA N A0 s F A H locs) (hK : K z F A) (hdg : decode cc pc = .ok (.ireturn, 1)) : W p l e R s m args below meth c H locs cells slots (MQ below (x_QI D cl sh ad cA N A0 K) args s cells slots A0) (F0 m pc ls [.int (iI z)]) :=
  W.zret hx hb hr (x_bool hz).1 (fun t ht hW => ⟨⟨_, (F, A), rfl, ⟨z, rfl, hK⟩, by rw [ht]; exact hS.2.1, va_K.moved hW.alike hS.1, hS.2.2.1⟩, hS.2.2.2.1.F ht⟩) hS.2.2.2.1.2.2 hdg hlocks
theorem r_mmax (hx : p.tables.exec = Jvm.exec) (hb : c.code = cc) (hml : c.maxLocals = ls.size) {own : String} {index : Nat} (hown : s.vm.findClass own = some m.cls) (hlink : (Cond.methodLink own index Lib.Math.max.name).before args s = true) (hstat : (Cond.static Lib.Math.max.name).before args s = true) (hini : (Cond.initialized "java/lang/Math").before args s = true) (hcode : (Cond.code Lib.Math.max.name Lib.Math.max.code 2 (some .int)).before args s = true)
    (hframes : 1 ≤ R.frames) (hlocals : (rest.map fun v => v.category).sum + 13 ≤ R.locals) (hc : cells ≤ R.cells) (hs : slots ≤ R.slots) {a b : Int} (ha : rg a) (hb2 : rg b) (hdg : decode cc pc = .ok (.invokestatic index, 3))
    (kk : W p l e R s m args below meth c H locs cells slots Q (F0 m (pc + 3) ls (.int (iI (max a b)) :: rest))) : W p l e R s m args below meth c H locs cells slots Q (F0 m pc ls (.int (iI b) :: .int (iI a) :: rest)) :=
  va_mmax hx hb hml hown hlink hstat hini hcode hframes hlocals hc hs hdg (by rw [iI_max ha hb2]; exact kk)
theorem r_mmin (hx : p.tables.exec = Jvm.exec) (hb : c.code = cc) (hml : c.maxLocals = ls.size) {own : String} {index : Nat} (hown : s.vm.findClass own = some m.cls) (hlink : (Cond.methodLink own index Lib.Math.min.name).before args s = true) (hstat : (Cond.static Lib.Math.min.name).before args s = true) (hini : (Cond.initialized "java/lang/Math").before args s = true) (hcode : (Cond.code Lib.Math.min.name Lib.Math.min.code 2 (some .int)).before args s = true)
    (hframes : 1 ≤ R.frames) (hlocals : (rest.map fun v => v.category).sum + 13 ≤ R.locals) (hc : cells ≤ R.cells) (hs : slots ≤ R.slots) {a b : Int} (ha : rg a) (hb2 : rg b) (hdg : decode cc pc = .ok (.invokestatic index, 3))
    (kk : W p l e R s m args below meth c H locs cells slots Q (F0 m (pc + 3) ls (.int (iI (min a b)) :: rest))) : W p l e R s m args below meth c H locs cells slots Q (F0 m pc ls (.int (iI b) :: .int (iI a) :: rest)) :=
  va_mmin hx hb hml hown hlink hstat hini hcode hframes hlocals hc hs hdg (by rw [iI_min ha hb2]; exact kk)
theorem r_mabs (hx : p.tables.exec = Jvm.exec) (hb : c.code = cc) (hml : c.maxLocals = ls.size) {own : String} {index : Nat} (hown : s.vm.findClass own = some m.cls) (hlink : (Cond.methodLink own index Lib.Math.abs.name).before args s = true) (hstat : (Cond.static Lib.Math.abs.name).before args s = true) (hini : (Cond.initialized "java/lang/Math").before args s = true) (hcode : (Cond.code Lib.Math.abs.name Lib.Math.abs.code 1 (some .int)).before args s = true)
    (hframes : 1 ≤ R.frames) (hlocals : (rest.map fun v => v.category).sum + 13 ≤ R.locals) (hc : cells ≤ R.cells) (hs : slots ≤ R.slots) {a : Int} (ha : rg a) (hdg : decode cc pc = .ok (.invokestatic index, 3))
    (kk : W p l e R s m args below meth c H locs cells slots Q (F0 m (pc + 3) ls (.int (iI (a.natAbs : Int)) :: rest))) : W p l e R s m args below meth c H locs cells slots Q (F0 m pc ls (.int (iI a) :: rest)) :=
  va_mabs hx hb hml hown hlink hstat hini hcode hframes hlocals hc hs hdg (by rw [iI_abs ha]; exact kk)
theorem r_copy (hx : p.tables.exec = Jvm.exec) (hb : c.code = cc) (hml : c.maxLocals = ls.size) {own : String} {index : Nat} (hown : s.vm.findClass own = some m.cls) (hlink : (Cond.methodLink own index arraycopyName).before args s = true) (hnat : (Cond.native arraycopyName).before args s = true) (hstat : (Cond.static arraycopyName).before args s = true) (hini : (Cond.initialized "java/lang/System").before args s = true)
    (hS : x_S D cl sh ad cA N A0 s F A H locs) (q : Nat) {t id : Nat} (hq : sh[q]? = some (t, .inr (0, id))) {sp dp n : Int} (h1 : 0 ≤ sp) (h2 : 0 ≤ dp) (h3 : 0 ≤ n) (h4 : sp + n ≤ N id) (h5 : dp + n ≤ N id) (hset : (x_w sh ad cA N F A).set q (ad t, .inl (cA id, N id, x_ar 0 (uc A id sp dp n id))) = x_w sh ad cA N F (uc A id sp dp n))
    (hframes : 1 ≤ R.frames) (hlocals : (rest.map fun v => v.category).sum + (nativeFrameWords "java/lang/System" "arraycopy" 5 + 11) ≤ R.locals) (hdg : decode cc pc = .ok (.invokestatic index, 3))
    (kk : ∀ (H1 : Heap) (locs1 : List Loc), x_S D cl sh ad cA N A0 s F (uc A id sp dp n) H1 locs1 → W p l e R s m args below meth c H1 locs1 cells slots Q (F0 m (pc + 3) ls rest)) : W p l e R s m args below meth c H locs cells slots Q (F0 m pc ls (.int (iI n) :: .int (iI dp) :: .ref (ad t) :: .int (iI sp) :: .ref (ad t) :: rest)) := by
  obtain ⟨t0, ht⟩ := x_tq (cA := cA) hq
  have hn := hS.2.2.2.2 id
  have c1 : (iI sp).toNatClampNeg = sp.toNat := iI_c h1 (by omega)
  have c2 : (iI dp).toNatClampNeg = dp.toNat := iI_c h2 (by omega)
  have c3 : (iI n).toNatClampNeg = n.toNat := iI_c h3 (by omega)
  have ng : ∀ z : Int, 0 ≤ z → z < 2147483648 → ¬ iI z < 0 := fun z g1 g2 h => by
    have := (iI_lt ⟨by omega, by omega⟩ rg_0).mp h
    omega
  refine va_copyi hx hb hml hown hlink hnat hstat hini hS.1 hS.2.1 hS.2.2.1 hS.2.2.2.1 q q t0 t0 (x_wq hq) (x_wq hq) ht ht rfl (ng sp h1 (by omega)) (ng dp h2 (by omega)) (ng n h3 (by omega)) (by rw [c1, c3]; show _ ≤ N id; omega) (by rw [c2, c3]; show _ ≤ N id; omega) (fun _ _ => rfl) hframes hlocals hdg (fun H1 locs1 hP hD hS1 => kk H1 locs1 ?_)
  have e : va_cpy (fun j : Nat => iI (A id j)) (fun j : Nat => iI (A id j)) (iI sp).toNatClampNeg (iI dp).toNatClampNeg (iI n).toNatClampNeg = fun j : Nat => iI (uc A id sp dp n id j) := by
    rw [c1, c2, c3]
    funext j
    unfold va_cpy uc
    rw [if_pos rfl]
    by_cases h : dp.toNat ≤ j ∧ j < dp.toNat + n.toNat
    · rw [if_pos h, if_pos (by omega)]
      show iI (A id ((sp.toNat + (j - dp.toNat) : Nat) : Int)) = _
      rw [show ((sp.toNat + (j - dp.toNat) : Nat) : Int) = sp + ((j : Int) - dp) by omega]
    · rw [if_neg h, if_neg (by omega)]
  rw [e] at hP hD
  exact ⟨hS.1, by rw [← hset]; exact hP, by rw [← hset]; exact hD, hS1, hS.2.2.2.2⟩
end XW
end
section
/-! THE LEAST SUMS OF LAYING, in shifts: cell k is wanted at shift d k; shifts do not fall. -/
def pmin (f : Int → Int) : Nat → Int
  | 0 => f 0
  | n + 1 => min (pmin f n) (f ((n : Int) + 1))
theorem pmin_le (f : Int → Int) (n : Nat) : ∀ t : Int, 0 ≤ t → t ≤ n → pmin f n ≤ f t := by
  induction n with
  | zero =>
    intro t h0 h1
    have e : t = 0 := by omega
    subst e
    exact Int.le_refl _
  | succ n ih =>
    intro t h0 h1
    show min (pmin f n) (f ((n : Int) + 1)) ≤ f t
    by_cases h : t ≤ n
    · have := ih t h0 h
      omega
    · have e : t = (n : Int) + 1 := by omega
      subst e
      omega
theorem pmin_at (f : Int → Int) (n : Nat) : ∃ t : Int, 0 ≤ t ∧ t ≤ n ∧ pmin f n = f t := by
  induction n with
  | zero => exact ⟨0, by omega, by omega, rfl⟩
  | succ n ih =>
    obtain ⟨t, h0, h1, h2⟩ := ih
    by_cases h : pmin f n ≤ f ((n : Int) + 1)
    · exact ⟨t, h0, by omega, by show min (pmin f n) (f ((n : Int) + 1)) = f t; omega⟩
    · exact ⟨(n : Int) + 1, by omega, by omega, by show min (pmin f n) (f ((n : Int) + 1)) = f ((n : Int) + 1); omega⟩
theorem pmin_eq (f : Int → Int) (n : Nat) (v : Int) (h1 : ∀ t : Int, 0 ≤ t → t ≤ n → v ≤ f t) (h2 : ∃ t : Int, 0 ≤ t ∧ t ≤ n ∧ f t = v) : pmin f n = v := by
  obtain ⟨t, a, b, c⟩ := h2
  obtain ⟨u, a2, b2, c2⟩ := pmin_at f n
  have := pmin_le f n t a b
  have := h1 u a2 b2
  omega
theorem pmin_congr (f g : Int → Int) (n : Nat) (h : ∀ t : Int, 0 ≤ t → t ≤ n → f t = g t) : pmin f n = pmin g n := by
  induction n with
  | zero => exact h 0 (by omega) (by omega)
  | succ n ih =>
    show min (pmin f n) (f ((n : Int) + 1)) = min (pmin g n) (g ((n : Int) + 1))
    rw [ih (fun t a b => h t a (by omega)), h ((n : Int) + 1) (by omega) (by omega)]
/-- the least sum of cells 0 .. k - 1 with the last one's shift at most s -/
def Fm (d : Nat → Int) : Nat → Int → Int
  | 0, _ => 0
  | k + 1, s => pmin (fun t => Fm d k t + ((t - d k).natAbs : Int)) s.toNat
/-- what bends add at t -/
def bsum (b : Nat → Int) : Nat → Int → Int
  | 0, _ => 0
  | n + 1, t => bsum b n t + max 0 (b n - t)
theorem bsum_nn (b : Nat → Int) (n : Nat) (t : Int) : 0 ≤ bsum b n t := by
  induction n with
  | zero => exact Int.le_refl _
  | succ n ih => show 0 ≤ bsum b n t + max 0 (b n - t); omega
theorem bsum_mono (b : Nat → Int) (n : Nat) {t u : Int} (h : t ≤ u) : bsum b n u ≤ bsum b n t := by
  induction n with
  | zero => exact Int.le_refl _
  | succ n ih => show bsum b n u + max 0 (b n - u) ≤ bsum b n t + max 0 (b n - t); omega
theorem bsum_0 (b : Nat → Int) (n : Nat) (t : Int) (h : ∀ j, j < n → b j ≤ t) : bsum b n t = 0 := by
  induction n with
  | zero => rfl
  | succ n ih =>
    show bsum b n t + max 0 (b n - t) = 0
    rw [ih (fun j hj => h j (by omega))]
    have := h n (by omega)
    omega
theorem bsum_congr (b b' : Nat → Int) (n : Nat) (t : Int) (h : ∀ j, j < n → b j = b' j) : bsum b n t = bsum b' n t := by
  induction n with
  | zero => rfl
  | succ n ih =>
    show bsum b n t + max 0 (b n - t) = bsum b' n t + max 0 (b' n - t)
    rw [ih (fun j hj => h j (by omega)), h n (by omega)]
/-- one cell more: bends b (k of them) become b' (k + 1 of them): w came twice, the greatest, M, went -/
def bstep (b b' : Nat → Int) (k : Nat) (w M : Int) : Prop :=
  (∀ t, bsum b' (k + 1) t + max 0 (M - t) = bsum b k t + 2 * max 0 (w - t)) ∧ (∀ j, j < k + 1 → b' j ≤ b' k) ∧ b' k ≤ M
theorem bstep_g {b b' : Nat → Int} {k : Nat} {w M C : Int} (h : bstep b b' k w M) (t : Int) : C + bsum b k t + ((t - w).natAbs : Int) = C + M - w + bsum b' (k + 1) t + max 0 (t - M) := by
  have := h.1 t
  omega
theorem bstep_F {b b' : Nat → Int} {k : Nat} {w M C : Int} {d : Nat → Int} {r : Int} (h : bstep b b' k w M) (hM0 : 0 ≤ M) (hw : d k = w) (hF : ∀ t, 0 ≤ t → t ≤ r → Fm d k t = C + bsum b k t) :
    ∀ s, 0 ≤ s → s ≤ r → Fm d (k + 1) s = C + M - w + bsum b' (k + 1) s := by
  intro s h0 h1
  show pmin (fun t => Fm d k t + ((t - d k).natAbs : Int)) s.toNat = _
  have g : ∀ t, 0 ≤ t → t ≤ r → Fm d k t + ((t - d k).natAbs : Int) = C + M - w + bsum b' (k + 1) t + max 0 (t - M) := fun t a c => by
    rw [hF t a c, hw]
    exact bstep_g h t
  refine pmin_eq _ _ _ (fun t a c => ?_) ?_
  · rw [g t a (by omega)]
    have := bsum_mono b' (k + 1) (show t ≤ s by omega)
    omega
  · by_cases hs : s ≤ M
    · exact ⟨s, h0, by omega, by rw [g s h0 h1]; omega⟩
    · refine ⟨M, hM0, by omega, ?_⟩
      rw [g M hM0 (by omega), bsum_0 b' (k + 1) M (fun j hj => Int.le_trans (h.2.1 j hj) h.2.2), bsum_0 b' (k + 1) s (fun j hj => by have := h.2.1 j hj; have := h.2.2; omega)]
      omega
/-- the least place of the least: where the last bend is -/
theorem bstep_least {b b' : Nat → Int} {k : Nat} {w M C : Int} {d : Nat → Int} {r : Int} (h : bstep b b' k w M) (hw : d k = w) (hF : ∀ t, 0 ≤ t → t ≤ r → Fm d k t = C + bsum b k t) (hb0 : 0 ≤ b' k)
    {u : Int} (hu0 : 0 ≤ u) (hur : u ≤ r) : Fm d (k + 1) u = Fm d k (min u (b' k)) + ((min u (b' k) - d k).natAbs : Int) ∧ ∀ t, 0 ≤ t → t ≤ u → Fm d k t + ((t - d k).natAbs : Int) ≤ Fm d (k + 1) u → min u (b' k) ≤ t := by
  have g : ∀ t, 0 ≤ t → t ≤ r → Fm d k t + ((t - d k).natAbs : Int) = C + M - w + bsum b' (k + 1) t + max 0 (t - M) := fun t a c => by
    rw [hF t a c, hw]
    exact bstep_g h t
  have hbM := h.2.2
  have e0 := bstep_F h (by omega) hw hF u hu0 hur
  have z : ∀ t, b' k ≤ t → bsum b' (k + 1) t = 0 := fun t ht => bsum_0 b' (k + 1) t (fun j hj => Int.le_trans (h.2.1 j hj) ht)
  have st : ∀ t t', t < t' → t' ≤ b' k → bsum b' (k + 1) t' < bsum b' (k + 1) t := fun t t' h1 h2 => by
    show bsum b' k t' + max 0 (b' k - t') < bsum b' k t + max 0 (b' k - t)
    have := bsum_mono b' k (Int.le_of_lt h1)
    omega
  constructor
  · rw [g (min u (b' k)) (by omega) (by omega), e0]
    by_cases hc : u ≤ b' k
    · rw [show min u (b' k) = u by omega]
      omega
    · rw [show min u (b' k) = b' k by omega, z (b' k) (Int.le_refl _), z u (by omega)]
      omega
  · intro t h0 h1 h2
    rw [g t h0 (by omega), e0] at h2
    by_cases hc : min u (b' k) ≤ t
    · exact hc
    · have := st t (min u (b' k)) (by omega) (by omega)
      have := bsum_mono b' (k + 1) (show min u (b' k) ≤ u by omega)
      by_cases hd : u ≤ b' k
      · rw [show min u (b' k) = u by omega] at this
        have := st t u (by omega) hd
        omega
      · have e1 : min u (b' k) = b' k := by omega
        have := st t (b' k) (by omega) (Int.le_refl _)
        have := z (b' k) (Int.le_refl _)
        have := z u (by omega)
        omega
/-- the sum of a way -/
def wsum (d x : Nat → Int) : Nat → Int
  | 0 => 0
  | k + 1 => wsum d x k + ((x k - d k).natAbs : Int)
theorem wsum_congr {d x y : Nat → Int} {k : Nat} (h : ∀ i, i < k → x i = y i) : wsum d x k = wsum d y k := by
  induction k with
  | zero => rfl
  | succ k ih =>
    show wsum d x k + _ = wsum d y k + _
    rw [ih (fun i hi => h i (by omega)), h k (by omega)]
/-- no way is better than Fm says -/
theorem Fm_le {d x : Nat → Int} {k : Nat} : ∀ {u : Int}, (∀ i, i < k → 0 ≤ x i) → (∀ i, i + 1 < k → x i ≤ x (i + 1)) → (0 < k → x (k - 1) ≤ u) → Fm d k u ≤ wsum d x k := by
  induction k with
  | zero => intro u _ _ _; exact Int.le_refl _
  | succ k ih =>
    intro u h0 h1 h2
    have hu := h2 (by omega)
    rw [Nat.add_sub_cancel] at hu
    have := h0 k (by omega)
    have p := pmin_le (fun t => Fm d k t + ((t - d k).natAbs : Int)) u.toNat (x k) this (by omega)
    have q := ih (u := x k) (fun i hi => h0 i (by omega)) (fun i hi => h1 i (by omega)) (fun hk => by have := h1 (k - 1) (by omega); rwa [Nat.sub_add_cancel hk] at this)
    show pmin _ u.toNat ≤ wsum d x k + ((x k - d k).natAbs : Int)
    omega
/-- the way back from bends B: the last cell at most at u -/
def wback (B : Nat → Int) : Nat → Int → Nat → Int
  | 0, _, _ => 0
  | k + 1, u, i => if i = k then min u (B k) else wback B k (min u (B k)) i
theorem wback_last (B : Nat → Int) (k : Nat) (u : Int) : wback B (k + 1) u k = min u (B k) := by
  show (if k = k then min u (B k) else _) = _
  rw [if_pos rfl]
theorem wback_lt (B : Nat → Int) (k : Nat) (u : Int) {i : Nat} (h : i < k) : wback B (k + 1) u i = wback B k (min u (B k)) i := by
  show (if i = k then min u (B k) else _) = _
  rw [if_neg (by omega)]
theorem wback_mono (B : Nat → Int) (k : Nat) : ∀ {u v : Int}, u ≤ v → ∀ i, i < k → wback B k u i ≤ wback B k v i := by
  induction k with
  | zero => intro u v _ i hi; omega
  | succ k ih =>
    intro u v h i hi
    by_cases e : i = k
    · subst e
      rw [wback_last, wback_last]
      omega
    · rw [wback_lt B k u (by omega), wback_lt B k v (by omega)]
      exact ih (by omega) i (by omega)
theorem wback_in (B : Nat → Int) (k : Nat) (hB : ∀ i, i < k → 0 ≤ B i) : ∀ {u : Int}, 0 ≤ u → ∀ i, i < k → 0 ≤ wback B k u i ∧ wback B k u i ≤ u ∧ (i + 1 < k → wback B k u i ≤ wback B k u (i + 1)) := by
  induction k with
  | zero => intro u _ i hi; omega
  | succ k ih =>
    intro u h i hi
    have hk := hB k (by omega)
    by_cases e : i = k
    · subst e
      rw [wback_last]
      exact ⟨by omega, by omega, fun g => by omega⟩
    · have q := ih (fun j hj => hB j (by omega)) (u := min u (B k)) (by omega) i (by omega)
      rw [wback_lt B k u (by omega)]
      refine ⟨q.1, by omega, fun g => ?_⟩
      by_cases e2 : i + 1 = k
      · rw [e2, wback_last]
        exact q.2.1
      · rw [wback_lt B k u (by omega)]
        exact q.2.2 (by omega)
/-- what a kept row of bends must say of each cell -/
def bleast (d B : Nat → Int) (r : Int) (k : Nat) : Prop := ∀ i, i < k → 0 ≤ B i ∧ ∀ u, 0 ≤ u → u ≤ r → Fm d (i + 1) u = Fm d i (min u (B i)) + ((min u (B i) - d i).natAbs : Int) ∧ ∀ t, 0 ≤ t → t ≤ u → Fm d i t + ((t - d i).natAbs : Int) ≤ Fm d (i + 1) u → min u (B i) ≤ t
theorem wback_sum {d B : Nat → Int} {r : Int} {k : Nat} (h : bleast d B r k) : ∀ {u : Int}, 0 ≤ u → u ≤ r → wsum d (wback B k u) k = Fm d k u := by
  induction k with
  | zero => intro u _ _; rfl
  | succ k ih =>
    intro u h0 h1
    have hk := h k (by omega)
    show wsum d (wback B (k + 1) u) k + _ = _
    rw [wsum_congr (y := wback B k (min u (B k))) (fun i hi => wback_lt B k u hi), wback_last, ih (fun i hi => h i (by omega)) (by have := hk.1; omega) (by omega)]
    exact ((hk.2 u h0 h1).1).symm
theorem wback_least {d B : Nat → Int} {r : Int} {k : Nat} (h : bleast d B r k) : ∀ {u : Int} {x : Nat → Int}, 0 ≤ u → u ≤ r → (∀ i, i < k → 0 ≤ x i) → (∀ i, i + 1 < k → x i ≤ x (i + 1)) → (0 < k → x (k - 1) ≤ u) → wsum d x k ≤ Fm d k u → ∀ i, i < k → wback B k u i ≤ x i := by
  induction k with
  | zero => intro u x _ _ _ _ _ _ i hi; omega
  | succ k ih =>
    intro u x h0 h1 hx0 hx1 hx2 hs i hi
    have hk := h k (by omega)
    have hu := hx2 (by omega)
    rw [Nat.add_sub_cancel] at hu
    have hxk := hx0 k (by omega)
    have low : Fm d k (x k) ≤ wsum d x k := Fm_le (fun i hi => hx0 i (by omega)) (fun i hi => hx1 i (by omega)) (fun hk => by have := hx1 (k - 1) (by omega); rwa [Nat.sub_add_cancel hk] at this)
    have hs' : wsum d x k + ((x k - d k).natAbs : Int) ≤ Fm d (k + 1) u := hs
    have hl := (hk.2 u h0 h1).2 (x k) hxk hu (by omega)
    have opt : Fm d (k + 1) u ≤ Fm d k (x k) + ((x k - d k).natAbs : Int) := pmin_le (fun t => Fm d k t + ((t - d k).natAbs : Int)) u.toNat (x k) hxk (by omega)
    by_cases e : i = k
    · subst e
      rw [wback_last]
      exact hl
    · rw [wback_lt B k u (by omega)]
      refine Int.le_trans (wback_mono B k hl i (by omega)) ?_
      exact ih (fun i hi => h i (by omega)) hxk (by omega) (fun i hi => hx0 i (by omega)) (fun i hi => hx1 i (by omega)) (fun hk => by have := hx1 (k - 1) (by omega); rwa [Nat.sub_add_cancel hk] at this) (by omega) i (by omega)
/-! THE SAME FROM THE RIGHT: the reference's table, and the way that it takes -/
def tsum (d x : Nat → Int) : Nat → Nat → Int
  | _, 0 => 0
  | k, n + 1 => ((x k - d k).natAbs : Int) + tsum d x (k + 1) n
theorem tsum_split (d x : Nat → Int) (n : Nat) : ∀ k, wsum d x (k + n) = wsum d x k + tsum d x k n := by
  induction n with
  | zero => intro k; show wsum d x k = wsum d x k + 0; omega
  | succ n ih =>
    intro k
    have := ih (k + 1)
    rw [show k + 1 + n = k + (n + 1) by omega] at this
    rw [this]
    show wsum d x k + ((x k - d k).natAbs : Int) + tsum d x (k + 1) n = wsum d x k + (((x k - d k).natAbs : Int) + tsum d x (k + 1) n)
    omega
def smin (f : Int → Int) (s r : Int) : Int := pmin (fun j => f (s + j)) (r - s).toNat
theorem smin_le (f : Int → Int) {s r t : Int} (h0 : s ≤ t) (h1 : t ≤ r) : smin f s r ≤ f t := by
  have := pmin_le (fun j => f (s + j)) (r - s).toNat (t - s) (by omega) (by omega)
  rwa [show s + (t - s) = t by omega] at this
theorem smin_at (f : Int → Int) {s r : Int} (h : s ≤ r) : ∃ t, s ≤ t ∧ t ≤ r ∧ smin f s r = f t := by
  obtain ⟨t, a, b, c⟩ := pmin_at (fun j => f (s + j)) (r - s).toNat
  exact ⟨s + t, by omega, by omega, c⟩
def Bm (d : Nat → Int) (r : Int) : Nat → Nat → Int → Int
  | _, 0, _ => 0
  | k, n + 1, s => smin (fun t => ((t - d k).natAbs : Int) + Bm d r (k + 1) n t) s r
theorem Bm_le {d x : Nat → Int} {r : Int} {m : Nat} (hm : ∀ i j, i ≤ j → j < m → x i ≤ x j) (hr : ∀ i, i < m → x i ≤ r) (n : Nat) : ∀ (k : Nat) (s : Int), k + n = m → (0 < n → s ≤ x k) → Bm d r k n s ≤ tsum d x k n := by
  induction n with
  | zero => intro k s _ _; exact Int.le_refl _
  | succ n ih =>
    intro k s hk hs
    have p := smin_le (fun t => ((t - d k).natAbs : Int) + Bm d r (k + 1) n t) (hs (by omega)) (hr k (by omega))
    have q := ih (k + 1) (x k) (by omega) (fun _ => hm k (k + 1) (by omega) (by omega))
    show smin _ s r ≤ ((x k - d k).natAbs : Int) + tsum d x (k + 1) n
    omega
def pv (x : Nat → Int) (k : Nat) : Int := match k with
  | 0 => 0
  | k + 1 => x k
/-- the reference's way: each cell at the first place that reaches the table's number -/
def rway (d x : Nat → Int) (r : Int) (m : Nat) : Prop := ∀ k n, k + n + 1 = m → pv x k ≤ x k ∧ x k ≤ r ∧ ((x k - d k).natAbs : Int) + Bm d r (k + 1) n (x k) = Bm d r k (n + 1) (pv x k) ∧ ∀ t, pv x k ≤ t → t < x k → ((t - d k).natAbs : Int) + Bm d r (k + 1) n t ≠ Bm d r k (n + 1) (pv x k)
theorem rway_mono {d x : Nat → Int} {r : Int} {m : Nat} (h : rway d x r m) : ∀ j i, i ≤ j → j < m → x i ≤ x j := by
  intro j
  induction j with
  | zero => intro i h1 h2; rw [show i = 0 by omega]; exact Int.le_refl _
  | succ j ih =>
    intro i h1 h2
    by_cases e : i = j + 1
    · rw [e]; exact Int.le_refl _
    · have := ih i (by omega) (by omega)
      have q := (h (j + 1) (m - (j + 2)) (by omega)).1
      have : pv x (j + 1) = x j := rfl
      omega
theorem rway_nn {d x : Nat → Int} {r : Int} {m : Nat} (h : rway d x r m) {i : Nat} (hi : i < m) : 0 ≤ x i := by
  have a := (h 0 (m - 1) (by omega)).1
  have b := rway_mono h i 0 (by omega) hi
  have : pv x 0 = 0 := rfl
  omega
theorem rway_sum {d x : Nat → Int} {r : Int} {m : Nat} (h : rway d x r m) (n : Nat) : ∀ k, k + n = m → tsum d x k n = Bm d r k n (pv x k) := by
  induction n with
  | zero => intro k _; rfl
  | succ n ih =>
    intro k hk
    have q := (h k n (by omega)).2.2.1
    have e := ih (k + 1) (by omega)
    show ((x k - d k).natAbs : Int) + tsum d x (k + 1) n = _
    rw [e]
    exact q
theorem mono_of {x : Nat → Int} {m : Nat} (h : ∀ i, i + 1 < m → x i ≤ x (i + 1)) : ∀ j i, i ≤ j → j < m → x i ≤ x j := by
  intro j
  induction j with
  | zero => intro i h1 h2; rw [show i = 0 by omega]; exact Int.le_refl _
  | succ j ih =>
    intro i h1 h2
    by_cases e : i = j + 1
    · rw [e]; exact Int.le_refl _
    · have := ih i (by omega) (by omega)
      have := h j h2
      omega
/-- both ways are one -/
theorem rway_eq {d x B : Nat → Int} {r : Int} {m : Nat} (hr : 0 ≤ r) (h : rway d x r m) (hB : bleast d B r m) : ∀ k, k < m → x k = wback B m r k := by
  have hin := wback_in B m (fun i hi => (hB i hi).1) hr
  have ym := mono_of (x := wback B m r) (m := m) (fun i hi => (hin i (by omega)).2.2 hi)
  have ys := wback_sum hB hr (Int.le_refl r)
  have t0 : wsum d x m = tsum d x 0 m := by
    have := tsum_split d x m 0
    rw [Nat.zero_add] at this
    rw [this]
    show (0 : Int) + _ = _
    omega
  have t1 : wsum d (wback B m r) m = tsum d (wback B m r) 0 m := by
    have := tsum_split d (wback B m r) m 0
    rw [Nat.zero_add] at this
    rw [this]
    show (0 : Int) + _ = _
    omega
  have b0 : Bm d r 0 m 0 ≤ tsum d (wback B m r) 0 m := Bm_le (m := m) (fun i j a b => ym j i a b) (fun i hi => (hin i hi).2.1) m 0 0 (by omega) (fun hm => (hin 0 hm).1)
  have x0 : tsum d x 0 m = Bm d r 0 m 0 := rway_sum h m 0 (by omega)
  have le : wsum d x m ≤ Fm d m r := by omega
  have low := wback_least hB hr (Int.le_refl r) (x := x) (fun i hi => rway_nn h hi) (fun i hi => rway_mono h (i + 1) i (by omega) hi) (fun hm => (h (m - 1) 0 (by omega)).2.1) le
  have fl : Fm d m r ≤ wsum d x m := Fm_le (fun i hi => rway_nn h hi) (fun i hi => rway_mono h (i + 1) i (by omega) hi) (fun hm => (h (m - 1) 0 (by omega)).2.1)
  intro k
  induction k using Nat.strongRecOn with
  | ind k ih =>
    intro hk
    obtain ⟨g1, g2, g3, g4⟩ := h k (m - k - 1) (by omega)
    have lk := low k hk
    by_cases e : x k ≤ wback B m r k
    · omega
    · exfalso
      have wk : wsum d x k = wsum d (wback B m r) k := wsum_congr (fun i hi => ih i hi (by omega))
      have s1 := tsum_split d x (m - k) k
      have s2 := tsum_split d (wback B m r) (m - k) k
      rw [show k + (m - k) = m by omega] at s1 s2
      have s3 := rway_sum h (m - k) k (by omega)
      have pvy : pv x k ≤ wback B m r k := by
        match k, ih, hk with
        | 0, _, hk => exact (hin 0 hk).1
        | k + 1, ih, hk =>
          show x k ≤ _
          rw [ih k (by omega) (by omega)]
          exact (hin k (by omega)).2.2 hk
      have tl : Bm d r (k + 1) (m - k - 1) (wback B m r k) ≤ tsum d (wback B m r) (k + 1) (m - k - 1) := Bm_le (m := m) (fun i j a b => ym j i a b) (fun i hi => (hin i hi).2.1) (m - k - 1) (k + 1) _ (by omega) (fun hm => ym (k + 1) k (by omega) (by omega))
      have sp : tsum d (wback B m r) k (m - k - 1 + 1) = ((wback B m r k - d k).natAbs : Int) + tsum d (wback B m r) (k + 1) (m - k - 1) := rfl
      have mn : Bm d r k (m - k - 1 + 1) (pv x k) ≤ ((wback B m r k - d k).natAbs : Int) + Bm d r (k + 1) (m - k - 1) (wback B m r k) := smin_le (fun t => ((t - d k).natAbs : Int) + Bm d r (k + 1) (m - k - 1) t) pvy (hin k hk).2.1
      rw [show m - k = m - k - 1 + 1 by omega] at s3
      rw [show m - k = m - k - 1 + 1 by omega] at s1 s2
      exact g4 (wback B m r k) pvy (by omega) (by omega)
end
