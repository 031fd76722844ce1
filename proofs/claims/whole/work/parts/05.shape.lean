/-! THE SHAPE OF THE WHOLE WORLD (by main.py): the class, the reference, the law's own array -/
abbrev eS : String := "java/lang/IllegalStateException"
abbrev eA : String := "java/lang/IllegalArgumentException"
abbrev eB : String := "java/lang/IndexOutOfBoundsException"
def shU : List x_D := [(0, .inl (0, [.inl 1, .inl 2, .inl 3, .inl 4, .inr 0])), (1, .inl (1, [.inr 1, .inr 2, .inl 6, .inl 7, .inl 8, .inr 3])), (2, .inl (2, [.inl 9, .inl 10, .inl 11, .inl 12, .inl 13, .inl 14, .inl 15, .inl 16, .inr 4])), (3, .inl (3, [.inl 2, .inl 17, .inl 18, .inl 19, .inr 5])), (4, .inl (4, [.inl 1, .inl 2, .inl 5, .inl 20, .inl 21, .inl 22, .inl 23, .inl 24])), (5, .inl (5, [.inl 2, .inl 25, .inl 26, .inl 27, .inl 28, .inl 29, .inr 6, .inr 7, .inr 8, .inr 9])), (6, .inr (0, 0)), (7, .inr (0, 1)), (8, .inr (0, 2)), (9, .inr (0, 3)), (10, .inr (0, 4)), (11, .inr (0, 5)), (12, .inr (0, 6)), (13, .inr (0, 7)), (14, .inr (0, 8)), (15, .inr (0, 9)), (16, .inr (0, 10)), (17, .inr (0, 11)), (18, .inr (0, 12)), (19, .inr (0, 13)), (20, .inr (0, 14)), (21, .inr (0, 15)), (22, .inr (0, 16)), (23, .inr (0, 17)), (24, .inr (0, 18)), (25, .inr (0, 19)), (26, .inr (0, 20)), (27, .inr (0, 21)), (28, .inr (0, 22)), (29, .inr (0, 23)), (30, .inl (6, [.inr 10, .inr 11, .inr 12, .inl 31, .inr 13, .inl 32, .inl 33, .inl 34, .inl 35, .inl 36, .inl 37, .inl 38, .inl 39, .inr 14, .inl 40, .inl 41, .inl 42, .inr 15, .inl 43, .inr 16, .inr 17, .inr 18, .inl 44, .inl 45, .inr 19, .inl 46, .inl 47, .inl 48])), (31, .inr (1, 24)), (32, .inr (0, 25)), (33, .inr (0, 26)), (34, .inr (0, 27)), (35, .inr (0, 28)), (36, .inr (0, 29)), (37, .inr (0, 30)), (38, .inr (0, 31)), (39, .inr (0, 32)), (40, .inr (0, 33)), (41, .inr (0, 34)), (42, .inr (0, 35)), (43, .inr (0, 36)), (44, .inr (2, 37)), (45, .inr (0, 38)), (46, .inr (2, 39)), (47, .inr (0, 40)), (48, .inr (2, 41)), (49, .inr (2, 42))]
def NN (mo : Nat) : Nat → Nat := fun k => match k with
  | 0 => mo
  | 1 => mo
  | 2 => mo
  | 3 => 60
  | 4 => 60
  | 5 => 60
  | 6 => 60
  | 7 => 60
  | 8 => 60
  | 9 => 60
  | 10 => 16
  | 11 => 160
  | 12 => 160
  | 13 => 60
  | 14 => 60
  | 15 => 60
  | 16 => mo
  | 17 => mo
  | 18 => mo
  | 19 => 60
  | 20 => 60
  | 21 => 60
  | 22 => 60
  | 23 => 61
  | 24 => 16000
  | 25 => 60
  | 26 => 60
  | 27 => 60
  | 28 => 60
  | 29 => 60
  | 30 => 16
  | 31 => 80
  | 32 => 80
  | 33 => 60
  | 34 => 60
  | 35 => 60
  | 36 => 61
  | 37 => 62062
  | 38 => 60
  | 39 => 16000
  | 40 => 16000
  | 41 => 1000
  | 42 => 1
  | _ => 0
theorem setf_0 (ad : Nat → Nat) (cA : Nat → ClassId) (mo : Nat) (F : Nat → Int) (A : Nat → Int → Int) (v : Int) : (x_w shU ad cA (NN mo) F A).set 0 (ad 0, .inr (0, (List.map (x_fv ad F) ([.inl 1, .inl 2, .inl 3, .inl 4, .inr 0] : List x_F)).set 4 (.int (iI v)))) = x_w shU ad cA (NN mo) (uf F 0 v) A := rfl
theorem setf_1 (ad : Nat → Nat) (cA : Nat → ClassId) (mo : Nat) (F : Nat → Int) (A : Nat → Int → Int) (v : Int) : (x_w shU ad cA (NN mo) F A).set 1 (ad 1, .inr (1, (List.map (x_fv ad F) ([.inr 1, .inr 2, .inl 6, .inl 7, .inl 8, .inr 3] : List x_F)).set 0 (.int (iI v)))) = x_w shU ad cA (NN mo) (uf F 1 v) A := rfl
theorem setf_2 (ad : Nat → Nat) (cA : Nat → ClassId) (mo : Nat) (F : Nat → Int) (A : Nat → Int → Int) (v : Int) : (x_w shU ad cA (NN mo) F A).set 1 (ad 1, .inr (1, (List.map (x_fv ad F) ([.inr 1, .inr 2, .inl 6, .inl 7, .inl 8, .inr 3] : List x_F)).set 1 (.int (iI v)))) = x_w shU ad cA (NN mo) (uf F 2 v) A := rfl
theorem setf_3 (ad : Nat → Nat) (cA : Nat → ClassId) (mo : Nat) (F : Nat → Int) (A : Nat → Int → Int) (v : Int) : (x_w shU ad cA (NN mo) F A).set 1 (ad 1, .inr (1, (List.map (x_fv ad F) ([.inr 1, .inr 2, .inl 6, .inl 7, .inl 8, .inr 3] : List x_F)).set 5 (.int (iI v)))) = x_w shU ad cA (NN mo) (uf F 3 v) A := rfl
theorem setf_4 (ad : Nat → Nat) (cA : Nat → ClassId) (mo : Nat) (F : Nat → Int) (A : Nat → Int → Int) (v : Int) : (x_w shU ad cA (NN mo) F A).set 2 (ad 2, .inr (2, (List.map (x_fv ad F) ([.inl 9, .inl 10, .inl 11, .inl 12, .inl 13, .inl 14, .inl 15, .inl 16, .inr 4] : List x_F)).set 8 (.int (iI v)))) = x_w shU ad cA (NN mo) (uf F 4 v) A := rfl
theorem setf_5 (ad : Nat → Nat) (cA : Nat → ClassId) (mo : Nat) (F : Nat → Int) (A : Nat → Int → Int) (v : Int) : (x_w shU ad cA (NN mo) F A).set 3 (ad 3, .inr (3, (List.map (x_fv ad F) ([.inl 2, .inl 17, .inl 18, .inl 19, .inr 5] : List x_F)).set 4 (.int (iI v)))) = x_w shU ad cA (NN mo) (uf F 5 v) A := rfl
theorem setf_6 (ad : Nat → Nat) (cA : Nat → ClassId) (mo : Nat) (F : Nat → Int) (A : Nat → Int → Int) (v : Int) : (x_w shU ad cA (NN mo) F A).set 5 (ad 5, .inr (5, (List.map (x_fv ad F) ([.inl 2, .inl 25, .inl 26, .inl 27, .inl 28, .inl 29, .inr 6, .inr 7, .inr 8, .inr 9] : List x_F)).set 6 (.int (iI v)))) = x_w shU ad cA (NN mo) (uf F 6 v) A := rfl
theorem setf_7 (ad : Nat → Nat) (cA : Nat → ClassId) (mo : Nat) (F : Nat → Int) (A : Nat → Int → Int) (v : Int) : (x_w shU ad cA (NN mo) F A).set 5 (ad 5, .inr (5, (List.map (x_fv ad F) ([.inl 2, .inl 25, .inl 26, .inl 27, .inl 28, .inl 29, .inr 6, .inr 7, .inr 8, .inr 9] : List x_F)).set 7 (.int (iI v)))) = x_w shU ad cA (NN mo) (uf F 7 v) A := rfl
theorem setf_8 (ad : Nat → Nat) (cA : Nat → ClassId) (mo : Nat) (F : Nat → Int) (A : Nat → Int → Int) (v : Int) : (x_w shU ad cA (NN mo) F A).set 5 (ad 5, .inr (5, (List.map (x_fv ad F) ([.inl 2, .inl 25, .inl 26, .inl 27, .inl 28, .inl 29, .inr 6, .inr 7, .inr 8, .inr 9] : List x_F)).set 8 (.int (iI v)))) = x_w shU ad cA (NN mo) (uf F 8 v) A := rfl
theorem setf_9 (ad : Nat → Nat) (cA : Nat → ClassId) (mo : Nat) (F : Nat → Int) (A : Nat → Int → Int) (v : Int) : (x_w shU ad cA (NN mo) F A).set 5 (ad 5, .inr (5, (List.map (x_fv ad F) ([.inl 2, .inl 25, .inl 26, .inl 27, .inl 28, .inl 29, .inr 6, .inr 7, .inr 8, .inr 9] : List x_F)).set 9 (.int (iI v)))) = x_w shU ad cA (NN mo) (uf F 9 v) A := rfl
theorem setf_10 (ad : Nat → Nat) (cA : Nat → ClassId) (mo : Nat) (F : Nat → Int) (A : Nat → Int → Int) (v : Int) : (x_w shU ad cA (NN mo) F A).set 30 (ad 30, .inr (6, (List.map (x_fv ad F) ([.inr 10, .inr 11, .inr 12, .inl 31, .inr 13, .inl 32, .inl 33, .inl 34, .inl 35, .inl 36, .inl 37, .inl 38, .inl 39, .inr 14, .inl 40, .inl 41, .inl 42, .inr 15, .inl 43, .inr 16, .inr 17, .inr 18, .inl 44, .inl 45, .inr 19, .inl 46, .inl 47, .inl 48] : List x_F)).set 0 (.int (iI v)))) = x_w shU ad cA (NN mo) (uf F 10 v) A := rfl
theorem setf_11 (ad : Nat → Nat) (cA : Nat → ClassId) (mo : Nat) (F : Nat → Int) (A : Nat → Int → Int) (v : Int) : (x_w shU ad cA (NN mo) F A).set 30 (ad 30, .inr (6, (List.map (x_fv ad F) ([.inr 10, .inr 11, .inr 12, .inl 31, .inr 13, .inl 32, .inl 33, .inl 34, .inl 35, .inl 36, .inl 37, .inl 38, .inl 39, .inr 14, .inl 40, .inl 41, .inl 42, .inr 15, .inl 43, .inr 16, .inr 17, .inr 18, .inl 44, .inl 45, .inr 19, .inl 46, .inl 47, .inl 48] : List x_F)).set 1 (.int (iI v)))) = x_w shU ad cA (NN mo) (uf F 11 v) A := rfl
theorem setf_12 (ad : Nat → Nat) (cA : Nat → ClassId) (mo : Nat) (F : Nat → Int) (A : Nat → Int → Int) (v : Int) : (x_w shU ad cA (NN mo) F A).set 30 (ad 30, .inr (6, (List.map (x_fv ad F) ([.inr 10, .inr 11, .inr 12, .inl 31, .inr 13, .inl 32, .inl 33, .inl 34, .inl 35, .inl 36, .inl 37, .inl 38, .inl 39, .inr 14, .inl 40, .inl 41, .inl 42, .inr 15, .inl 43, .inr 16, .inr 17, .inr 18, .inl 44, .inl 45, .inr 19, .inl 46, .inl 47, .inl 48] : List x_F)).set 2 (.int (iI v)))) = x_w shU ad cA (NN mo) (uf F 12 v) A := rfl
theorem setf_13 (ad : Nat → Nat) (cA : Nat → ClassId) (mo : Nat) (F : Nat → Int) (A : Nat → Int → Int) (v : Int) : (x_w shU ad cA (NN mo) F A).set 30 (ad 30, .inr (6, (List.map (x_fv ad F) ([.inr 10, .inr 11, .inr 12, .inl 31, .inr 13, .inl 32, .inl 33, .inl 34, .inl 35, .inl 36, .inl 37, .inl 38, .inl 39, .inr 14, .inl 40, .inl 41, .inl 42, .inr 15, .inl 43, .inr 16, .inr 17, .inr 18, .inl 44, .inl 45, .inr 19, .inl 46, .inl 47, .inl 48] : List x_F)).set 4 (.int (iI v)))) = x_w shU ad cA (NN mo) (uf F 13 v) A := rfl
theorem setf_14 (ad : Nat → Nat) (cA : Nat → ClassId) (mo : Nat) (F : Nat → Int) (A : Nat → Int → Int) (v : Int) : (x_w shU ad cA (NN mo) F A).set 30 (ad 30, .inr (6, (List.map (x_fv ad F) ([.inr 10, .inr 11, .inr 12, .inl 31, .inr 13, .inl 32, .inl 33, .inl 34, .inl 35, .inl 36, .inl 37, .inl 38, .inl 39, .inr 14, .inl 40, .inl 41, .inl 42, .inr 15, .inl 43, .inr 16, .inr 17, .inr 18, .inl 44, .inl 45, .inr 19, .inl 46, .inl 47, .inl 48] : List x_F)).set 13 (.int (iI v)))) = x_w shU ad cA (NN mo) (uf F 14 v) A := rfl
theorem setf_15 (ad : Nat → Nat) (cA : Nat → ClassId) (mo : Nat) (F : Nat → Int) (A : Nat → Int → Int) (v : Int) : (x_w shU ad cA (NN mo) F A).set 30 (ad 30, .inr (6, (List.map (x_fv ad F) ([.inr 10, .inr 11, .inr 12, .inl 31, .inr 13, .inl 32, .inl 33, .inl 34, .inl 35, .inl 36, .inl 37, .inl 38, .inl 39, .inr 14, .inl 40, .inl 41, .inl 42, .inr 15, .inl 43, .inr 16, .inr 17, .inr 18, .inl 44, .inl 45, .inr 19, .inl 46, .inl 47, .inl 48] : List x_F)).set 17 (.int (iI v)))) = x_w shU ad cA (NN mo) (uf F 15 v) A := rfl
theorem setf_16 (ad : Nat → Nat) (cA : Nat → ClassId) (mo : Nat) (F : Nat → Int) (A : Nat → Int → Int) (v : Int) : (x_w shU ad cA (NN mo) F A).set 30 (ad 30, .inr (6, (List.map (x_fv ad F) ([.inr 10, .inr 11, .inr 12, .inl 31, .inr 13, .inl 32, .inl 33, .inl 34, .inl 35, .inl 36, .inl 37, .inl 38, .inl 39, .inr 14, .inl 40, .inl 41, .inl 42, .inr 15, .inl 43, .inr 16, .inr 17, .inr 18, .inl 44, .inl 45, .inr 19, .inl 46, .inl 47, .inl 48] : List x_F)).set 19 (.int (iI v)))) = x_w shU ad cA (NN mo) (uf F 16 v) A := rfl
theorem setf_17 (ad : Nat → Nat) (cA : Nat → ClassId) (mo : Nat) (F : Nat → Int) (A : Nat → Int → Int) (v : Int) : (x_w shU ad cA (NN mo) F A).set 30 (ad 30, .inr (6, (List.map (x_fv ad F) ([.inr 10, .inr 11, .inr 12, .inl 31, .inr 13, .inl 32, .inl 33, .inl 34, .inl 35, .inl 36, .inl 37, .inl 38, .inl 39, .inr 14, .inl 40, .inl 41, .inl 42, .inr 15, .inl 43, .inr 16, .inr 17, .inr 18, .inl 44, .inl 45, .inr 19, .inl 46, .inl 47, .inl 48] : List x_F)).set 20 (.int (iI v)))) = x_w shU ad cA (NN mo) (uf F 17 v) A := rfl
theorem setf_18 (ad : Nat → Nat) (cA : Nat → ClassId) (mo : Nat) (F : Nat → Int) (A : Nat → Int → Int) (v : Int) : (x_w shU ad cA (NN mo) F A).set 30 (ad 30, .inr (6, (List.map (x_fv ad F) ([.inr 10, .inr 11, .inr 12, .inl 31, .inr 13, .inl 32, .inl 33, .inl 34, .inl 35, .inl 36, .inl 37, .inl 38, .inl 39, .inr 14, .inl 40, .inl 41, .inl 42, .inr 15, .inl 43, .inr 16, .inr 17, .inr 18, .inl 44, .inl 45, .inr 19, .inl 46, .inl 47, .inl 48] : List x_F)).set 21 (.int (iI v)))) = x_w shU ad cA (NN mo) (uf F 18 v) A := rfl
theorem setf_19 (ad : Nat → Nat) (cA : Nat → ClassId) (mo : Nat) (F : Nat → Int) (A : Nat → Int → Int) (v : Int) : (x_w shU ad cA (NN mo) F A).set 30 (ad 30, .inr (6, (List.map (x_fv ad F) ([.inr 10, .inr 11, .inr 12, .inl 31, .inr 13, .inl 32, .inl 33, .inl 34, .inl 35, .inl 36, .inl 37, .inl 38, .inl 39, .inr 14, .inl 40, .inl 41, .inl 42, .inr 15, .inl 43, .inr 16, .inr 17, .inr 18, .inl 44, .inl 45, .inr 19, .inl 46, .inl 47, .inl 48] : List x_F)).set 24 (.int (iI v)))) = x_w shU ad cA (NN mo) (uf F 19 v) A := rfl
theorem seta_0 (ad : Nat → Nat) (cA : Nat → ClassId) (mo : Nat) (F : Nat → Int) (A : Nat → Int → Int) (i v : Int) : (x_w shU ad cA (NN mo) F A).set 6 (ad 6, .inl (cA 0, NN mo 0, x_ar 0 (ua A 0 i v 0))) = x_w shU ad cA (NN mo) F (ua A 0 i v) := rfl
theorem seta_1 (ad : Nat → Nat) (cA : Nat → ClassId) (mo : Nat) (F : Nat → Int) (A : Nat → Int → Int) (i v : Int) : (x_w shU ad cA (NN mo) F A).set 7 (ad 7, .inl (cA 1, NN mo 1, x_ar 0 (ua A 1 i v 1))) = x_w shU ad cA (NN mo) F (ua A 1 i v) := rfl
theorem seta_2 (ad : Nat → Nat) (cA : Nat → ClassId) (mo : Nat) (F : Nat → Int) (A : Nat → Int → Int) (i v : Int) : (x_w shU ad cA (NN mo) F A).set 8 (ad 8, .inl (cA 2, NN mo 2, x_ar 0 (ua A 2 i v 2))) = x_w shU ad cA (NN mo) F (ua A 2 i v) := rfl
theorem seta_3 (ad : Nat → Nat) (cA : Nat → ClassId) (mo : Nat) (F : Nat → Int) (A : Nat → Int → Int) (i v : Int) : (x_w shU ad cA (NN mo) F A).set 9 (ad 9, .inl (cA 3, NN mo 3, x_ar 0 (ua A 3 i v 3))) = x_w shU ad cA (NN mo) F (ua A 3 i v) := rfl
theorem seta_4 (ad : Nat → Nat) (cA : Nat → ClassId) (mo : Nat) (F : Nat → Int) (A : Nat → Int → Int) (i v : Int) : (x_w shU ad cA (NN mo) F A).set 10 (ad 10, .inl (cA 4, NN mo 4, x_ar 0 (ua A 4 i v 4))) = x_w shU ad cA (NN mo) F (ua A 4 i v) := rfl
theorem seta_5 (ad : Nat → Nat) (cA : Nat → ClassId) (mo : Nat) (F : Nat → Int) (A : Nat → Int → Int) (i v : Int) : (x_w shU ad cA (NN mo) F A).set 11 (ad 11, .inl (cA 5, NN mo 5, x_ar 0 (ua A 5 i v 5))) = x_w shU ad cA (NN mo) F (ua A 5 i v) := rfl
theorem seta_6 (ad : Nat → Nat) (cA : Nat → ClassId) (mo : Nat) (F : Nat → Int) (A : Nat → Int → Int) (i v : Int) : (x_w shU ad cA (NN mo) F A).set 12 (ad 12, .inl (cA 6, NN mo 6, x_ar 0 (ua A 6 i v 6))) = x_w shU ad cA (NN mo) F (ua A 6 i v) := rfl
theorem seta_7 (ad : Nat → Nat) (cA : Nat → ClassId) (mo : Nat) (F : Nat → Int) (A : Nat → Int → Int) (i v : Int) : (x_w shU ad cA (NN mo) F A).set 13 (ad 13, .inl (cA 7, NN mo 7, x_ar 0 (ua A 7 i v 7))) = x_w shU ad cA (NN mo) F (ua A 7 i v) := rfl
theorem seta_8 (ad : Nat → Nat) (cA : Nat → ClassId) (mo : Nat) (F : Nat → Int) (A : Nat → Int → Int) (i v : Int) : (x_w shU ad cA (NN mo) F A).set 14 (ad 14, .inl (cA 8, NN mo 8, x_ar 0 (ua A 8 i v 8))) = x_w shU ad cA (NN mo) F (ua A 8 i v) := rfl
theorem seta_9 (ad : Nat → Nat) (cA : Nat → ClassId) (mo : Nat) (F : Nat → Int) (A : Nat → Int → Int) (i v : Int) : (x_w shU ad cA (NN mo) F A).set 15 (ad 15, .inl (cA 9, NN mo 9, x_ar 0 (ua A 9 i v 9))) = x_w shU ad cA (NN mo) F (ua A 9 i v) := rfl
theorem seta_10 (ad : Nat → Nat) (cA : Nat → ClassId) (mo : Nat) (F : Nat → Int) (A : Nat → Int → Int) (i v : Int) : (x_w shU ad cA (NN mo) F A).set 16 (ad 16, .inl (cA 10, NN mo 10, x_ar 0 (ua A 10 i v 10))) = x_w shU ad cA (NN mo) F (ua A 10 i v) := rfl
theorem seta_11 (ad : Nat → Nat) (cA : Nat → ClassId) (mo : Nat) (F : Nat → Int) (A : Nat → Int → Int) (i v : Int) : (x_w shU ad cA (NN mo) F A).set 17 (ad 17, .inl (cA 11, NN mo 11, x_ar 0 (ua A 11 i v 11))) = x_w shU ad cA (NN mo) F (ua A 11 i v) := rfl
theorem seta_12 (ad : Nat → Nat) (cA : Nat → ClassId) (mo : Nat) (F : Nat → Int) (A : Nat → Int → Int) (i v : Int) : (x_w shU ad cA (NN mo) F A).set 18 (ad 18, .inl (cA 12, NN mo 12, x_ar 0 (ua A 12 i v 12))) = x_w shU ad cA (NN mo) F (ua A 12 i v) := rfl
theorem seta_13 (ad : Nat → Nat) (cA : Nat → ClassId) (mo : Nat) (F : Nat → Int) (A : Nat → Int → Int) (i v : Int) : (x_w shU ad cA (NN mo) F A).set 19 (ad 19, .inl (cA 13, NN mo 13, x_ar 0 (ua A 13 i v 13))) = x_w shU ad cA (NN mo) F (ua A 13 i v) := rfl
theorem seta_14 (ad : Nat → Nat) (cA : Nat → ClassId) (mo : Nat) (F : Nat → Int) (A : Nat → Int → Int) (i v : Int) : (x_w shU ad cA (NN mo) F A).set 20 (ad 20, .inl (cA 14, NN mo 14, x_ar 0 (ua A 14 i v 14))) = x_w shU ad cA (NN mo) F (ua A 14 i v) := rfl
theorem seta_15 (ad : Nat → Nat) (cA : Nat → ClassId) (mo : Nat) (F : Nat → Int) (A : Nat → Int → Int) (i v : Int) : (x_w shU ad cA (NN mo) F A).set 21 (ad 21, .inl (cA 15, NN mo 15, x_ar 0 (ua A 15 i v 15))) = x_w shU ad cA (NN mo) F (ua A 15 i v) := rfl
theorem seta_16 (ad : Nat → Nat) (cA : Nat → ClassId) (mo : Nat) (F : Nat → Int) (A : Nat → Int → Int) (i v : Int) : (x_w shU ad cA (NN mo) F A).set 22 (ad 22, .inl (cA 16, NN mo 16, x_ar 0 (ua A 16 i v 16))) = x_w shU ad cA (NN mo) F (ua A 16 i v) := rfl
theorem seta_17 (ad : Nat → Nat) (cA : Nat → ClassId) (mo : Nat) (F : Nat → Int) (A : Nat → Int → Int) (i v : Int) : (x_w shU ad cA (NN mo) F A).set 23 (ad 23, .inl (cA 17, NN mo 17, x_ar 0 (ua A 17 i v 17))) = x_w shU ad cA (NN mo) F (ua A 17 i v) := rfl
theorem seta_18 (ad : Nat → Nat) (cA : Nat → ClassId) (mo : Nat) (F : Nat → Int) (A : Nat → Int → Int) (i v : Int) : (x_w shU ad cA (NN mo) F A).set 24 (ad 24, .inl (cA 18, NN mo 18, x_ar 0 (ua A 18 i v 18))) = x_w shU ad cA (NN mo) F (ua A 18 i v) := rfl
theorem seta_19 (ad : Nat → Nat) (cA : Nat → ClassId) (mo : Nat) (F : Nat → Int) (A : Nat → Int → Int) (i v : Int) : (x_w shU ad cA (NN mo) F A).set 25 (ad 25, .inl (cA 19, NN mo 19, x_ar 0 (ua A 19 i v 19))) = x_w shU ad cA (NN mo) F (ua A 19 i v) := rfl
theorem seta_20 (ad : Nat → Nat) (cA : Nat → ClassId) (mo : Nat) (F : Nat → Int) (A : Nat → Int → Int) (i v : Int) : (x_w shU ad cA (NN mo) F A).set 26 (ad 26, .inl (cA 20, NN mo 20, x_ar 0 (ua A 20 i v 20))) = x_w shU ad cA (NN mo) F (ua A 20 i v) := rfl
theorem seta_21 (ad : Nat → Nat) (cA : Nat → ClassId) (mo : Nat) (F : Nat → Int) (A : Nat → Int → Int) (i v : Int) : (x_w shU ad cA (NN mo) F A).set 27 (ad 27, .inl (cA 21, NN mo 21, x_ar 0 (ua A 21 i v 21))) = x_w shU ad cA (NN mo) F (ua A 21 i v) := rfl
theorem seta_22 (ad : Nat → Nat) (cA : Nat → ClassId) (mo : Nat) (F : Nat → Int) (A : Nat → Int → Int) (i v : Int) : (x_w shU ad cA (NN mo) F A).set 28 (ad 28, .inl (cA 22, NN mo 22, x_ar 0 (ua A 22 i v 22))) = x_w shU ad cA (NN mo) F (ua A 22 i v) := rfl
theorem seta_23 (ad : Nat → Nat) (cA : Nat → ClassId) (mo : Nat) (F : Nat → Int) (A : Nat → Int → Int) (i v : Int) : (x_w shU ad cA (NN mo) F A).set 29 (ad 29, .inl (cA 23, NN mo 23, x_ar 0 (ua A 23 i v 23))) = x_w shU ad cA (NN mo) F (ua A 23 i v) := rfl
theorem seta_24 (ad : Nat → Nat) (cA : Nat → ClassId) (mo : Nat) (F : Nat → Int) (A : Nat → Int → Int) (i v : Int) : (x_w shU ad cA (NN mo) F A).set 31 (ad 31, .inl (cA 24, NN mo 24, x_ar 1 (ua A 24 i v 24))) = x_w shU ad cA (NN mo) F (ua A 24 i v) := rfl
theorem seta_25 (ad : Nat → Nat) (cA : Nat → ClassId) (mo : Nat) (F : Nat → Int) (A : Nat → Int → Int) (i v : Int) : (x_w shU ad cA (NN mo) F A).set 32 (ad 32, .inl (cA 25, NN mo 25, x_ar 0 (ua A 25 i v 25))) = x_w shU ad cA (NN mo) F (ua A 25 i v) := rfl
theorem seta_26 (ad : Nat → Nat) (cA : Nat → ClassId) (mo : Nat) (F : Nat → Int) (A : Nat → Int → Int) (i v : Int) : (x_w shU ad cA (NN mo) F A).set 33 (ad 33, .inl (cA 26, NN mo 26, x_ar 0 (ua A 26 i v 26))) = x_w shU ad cA (NN mo) F (ua A 26 i v) := rfl
theorem seta_27 (ad : Nat → Nat) (cA : Nat → ClassId) (mo : Nat) (F : Nat → Int) (A : Nat → Int → Int) (i v : Int) : (x_w shU ad cA (NN mo) F A).set 34 (ad 34, .inl (cA 27, NN mo 27, x_ar 0 (ua A 27 i v 27))) = x_w shU ad cA (NN mo) F (ua A 27 i v) := rfl
theorem seta_28 (ad : Nat → Nat) (cA : Nat → ClassId) (mo : Nat) (F : Nat → Int) (A : Nat → Int → Int) (i v : Int) : (x_w shU ad cA (NN mo) F A).set 35 (ad 35, .inl (cA 28, NN mo 28, x_ar 0 (ua A 28 i v 28))) = x_w shU ad cA (NN mo) F (ua A 28 i v) := rfl
theorem seta_29 (ad : Nat → Nat) (cA : Nat → ClassId) (mo : Nat) (F : Nat → Int) (A : Nat → Int → Int) (i v : Int) : (x_w shU ad cA (NN mo) F A).set 36 (ad 36, .inl (cA 29, NN mo 29, x_ar 0 (ua A 29 i v 29))) = x_w shU ad cA (NN mo) F (ua A 29 i v) := rfl
theorem seta_30 (ad : Nat → Nat) (cA : Nat → ClassId) (mo : Nat) (F : Nat → Int) (A : Nat → Int → Int) (i v : Int) : (x_w shU ad cA (NN mo) F A).set 37 (ad 37, .inl (cA 30, NN mo 30, x_ar 0 (ua A 30 i v 30))) = x_w shU ad cA (NN mo) F (ua A 30 i v) := rfl
theorem seta_31 (ad : Nat → Nat) (cA : Nat → ClassId) (mo : Nat) (F : Nat → Int) (A : Nat → Int → Int) (i v : Int) : (x_w shU ad cA (NN mo) F A).set 38 (ad 38, .inl (cA 31, NN mo 31, x_ar 0 (ua A 31 i v 31))) = x_w shU ad cA (NN mo) F (ua A 31 i v) := rfl
theorem seta_32 (ad : Nat → Nat) (cA : Nat → ClassId) (mo : Nat) (F : Nat → Int) (A : Nat → Int → Int) (i v : Int) : (x_w shU ad cA (NN mo) F A).set 39 (ad 39, .inl (cA 32, NN mo 32, x_ar 0 (ua A 32 i v 32))) = x_w shU ad cA (NN mo) F (ua A 32 i v) := rfl
theorem seta_33 (ad : Nat → Nat) (cA : Nat → ClassId) (mo : Nat) (F : Nat → Int) (A : Nat → Int → Int) (i v : Int) : (x_w shU ad cA (NN mo) F A).set 40 (ad 40, .inl (cA 33, NN mo 33, x_ar 0 (ua A 33 i v 33))) = x_w shU ad cA (NN mo) F (ua A 33 i v) := rfl
theorem seta_34 (ad : Nat → Nat) (cA : Nat → ClassId) (mo : Nat) (F : Nat → Int) (A : Nat → Int → Int) (i v : Int) : (x_w shU ad cA (NN mo) F A).set 41 (ad 41, .inl (cA 34, NN mo 34, x_ar 0 (ua A 34 i v 34))) = x_w shU ad cA (NN mo) F (ua A 34 i v) := rfl
theorem seta_35 (ad : Nat → Nat) (cA : Nat → ClassId) (mo : Nat) (F : Nat → Int) (A : Nat → Int → Int) (i v : Int) : (x_w shU ad cA (NN mo) F A).set 42 (ad 42, .inl (cA 35, NN mo 35, x_ar 0 (ua A 35 i v 35))) = x_w shU ad cA (NN mo) F (ua A 35 i v) := rfl
theorem seta_36 (ad : Nat → Nat) (cA : Nat → ClassId) (mo : Nat) (F : Nat → Int) (A : Nat → Int → Int) (i v : Int) : (x_w shU ad cA (NN mo) F A).set 43 (ad 43, .inl (cA 36, NN mo 36, x_ar 0 (ua A 36 i v 36))) = x_w shU ad cA (NN mo) F (ua A 36 i v) := rfl
theorem seta_37 (ad : Nat → Nat) (cA : Nat → ClassId) (mo : Nat) (F : Nat → Int) (A : Nat → Int → Int) (i v : Int) : (x_w shU ad cA (NN mo) F A).set 44 (ad 44, .inl (cA 37, NN mo 37, x_ar 2 (ua A 37 i v 37))) = x_w shU ad cA (NN mo) F (ua A 37 i v) := rfl
theorem seta_38 (ad : Nat → Nat) (cA : Nat → ClassId) (mo : Nat) (F : Nat → Int) (A : Nat → Int → Int) (i v : Int) : (x_w shU ad cA (NN mo) F A).set 45 (ad 45, .inl (cA 38, NN mo 38, x_ar 0 (ua A 38 i v 38))) = x_w shU ad cA (NN mo) F (ua A 38 i v) := rfl
theorem seta_39 (ad : Nat → Nat) (cA : Nat → ClassId) (mo : Nat) (F : Nat → Int) (A : Nat → Int → Int) (i v : Int) : (x_w shU ad cA (NN mo) F A).set 46 (ad 46, .inl (cA 39, NN mo 39, x_ar 2 (ua A 39 i v 39))) = x_w shU ad cA (NN mo) F (ua A 39 i v) := rfl
theorem seta_40 (ad : Nat → Nat) (cA : Nat → ClassId) (mo : Nat) (F : Nat → Int) (A : Nat → Int → Int) (i v : Int) : (x_w shU ad cA (NN mo) F A).set 47 (ad 47, .inl (cA 40, NN mo 40, x_ar 0 (ua A 40 i v 40))) = x_w shU ad cA (NN mo) F (ua A 40 i v) := rfl
theorem seta_41 (ad : Nat → Nat) (cA : Nat → ClassId) (mo : Nat) (F : Nat → Int) (A : Nat → Int → Int) (i v : Int) : (x_w shU ad cA (NN mo) F A).set 48 (ad 48, .inl (cA 41, NN mo 41, x_ar 2 (ua A 41 i v 41))) = x_w shU ad cA (NN mo) F (ua A 41 i v) := rfl
theorem seta_42 (ad : Nat → Nat) (cA : Nat → ClassId) (mo : Nat) (F : Nat → Int) (A : Nat → Int → Int) (i v : Int) : (x_w shU ad cA (NN mo) F A).set 49 (ad 49, .inl (cA 42, NN mo 42, x_ar 2 (ua A 42 i v 42))) = x_w shU ad cA (NN mo) F (ua A 42 i v) := rfl
theorem setc_0 (ad : Nat → Nat) (cA : Nat → ClassId) (mo : Nat) (F : Nat → Int) (A : Nat → Int → Int) (i j v : Int) : (x_w shU ad cA (NN mo) F A).set 6 (ad 6, .inl (cA 0, NN mo 0, x_ar 0 (uc A 0 i j v 0))) = x_w shU ad cA (NN mo) F (uc A 0 i j v) := rfl
theorem setc_1 (ad : Nat → Nat) (cA : Nat → ClassId) (mo : Nat) (F : Nat → Int) (A : Nat → Int → Int) (i j v : Int) : (x_w shU ad cA (NN mo) F A).set 7 (ad 7, .inl (cA 1, NN mo 1, x_ar 0 (uc A 1 i j v 1))) = x_w shU ad cA (NN mo) F (uc A 1 i j v) := rfl
theorem setc_2 (ad : Nat → Nat) (cA : Nat → ClassId) (mo : Nat) (F : Nat → Int) (A : Nat → Int → Int) (i j v : Int) : (x_w shU ad cA (NN mo) F A).set 8 (ad 8, .inl (cA 2, NN mo 2, x_ar 0 (uc A 2 i j v 2))) = x_w shU ad cA (NN mo) F (uc A 2 i j v) := rfl
def gT : List Cond := lw_tbl.filter goodWord
theorem gT_good {w : Cond} (h : w ∈ gT) : (w.onTables && w.keeps) = true ∨ ∃ ty, w = .arrayClass ty := good_of_word (List.mem_filter.mp h).2
theorem gT_t {w : Cond} (i : Nat) (h : tables_1[i]? = some w) (hg : goodWord w = true) : w ∈ gT := List.mem_filter.mpr ⟨List.mem_append_right _ (List.mem_of_getElem? h), hg⟩
theorem gT_s {w : Cond} (h : w ∈ k2_sels lw_privs) (hg : goodWord w = true) : w ∈ gT := List.mem_filter.mpr ⟨List.mem_append_left _ h, hg⟩
theorem gW {w : Cond} (h : w ∈ gT) : GoodIn gT (w :: gT) := fun x hx => by
  have hm : x ∈ gT := (List.mem_cons.mp hx).elim (fun e => e ▸ h) id
  exact ⟨hm, gT_good hm⟩
theorem gV {own C : String} {idx : Nat} {y : MethodName} {w : Cond} (h1 : Cond.methodLink own idx y ∈ gT) (h2 : Cond.instanceMethod y ∈ gT) (h3 : Cond.selects C y y ∈ gT) (h4 : Cond.initialized C ∈ gT) (h : w ∈ gT) : GoodIn gT (wsV own idx C y (w :: gT)) := fun x hx => by
  have hm : x ∈ gT := by
    unfold wsV at hx
    rcases List.mem_append.mp hx with g | g
    · rcases List.mem_cons.mp g with e | g
      · exact e ▸ h1
      rcases List.mem_cons.mp g with e | g
      · exact e ▸ h2
      rcases List.mem_cons.mp g with e | g
      · exact e ▸ h3
      rcases List.mem_cons.mp g with e | g
      · exact e ▸ h4
      · cases g
    · exact (gW h x g).1
  exact ⟨hm, gT_good hm⟩
theorem gS {own : String} {idx : Nat} {y : MethodName} {w : Cond} (h1 : Cond.methodLink own idx y ∈ gT) (h2 : Cond.static y ∈ gT) (h4 : Cond.initialized own ∈ gT) (h : w ∈ gT) : GoodIn gT (wsS own idx y (w :: gT)) := fun x hx => by
  have hm : x ∈ gT := by
    unfold wsS at hx
    rcases List.mem_append.mp hx with g | g
    · rcases List.mem_cons.mp g with e | g
      · exact e ▸ h1
      rcases List.mem_cons.mp g with e | g
      · exact e ▸ h2
      rcases List.mem_cons.mp g with e | g
      · exact e ▸ h4
      · cases g
    · exact (gW h x g).1
  exact ⟨hm, gT_good hm⟩
