/-! The two worlds: the class with all that it holds, and the model; numbers by functions. -/
abbrev xE : Type := va_G × (Nat → Nat) × (Nat → ClassId)
abbrev xG : Type := Nat → Int32
abbrev xA : Type := Nat → Nat → Int32
def upA (a : xA) (r : Nat) (f : Nat → Int32) : xA := fun j => if j = r then f else a j
def tyX (E : xE) : List (ClassId × FieldType) := [(E.2.2 0, .int), (E.2.2 1, .char), (E.2.2 2, .object "Polymorphium$Operation")]
def wX (E : xE) (g : xG) (a : xA) : va_W := [(E.2.1 0, .inr (11, [.ref (E.2.1 1), .ref (E.2.1 4), .ref (E.2.1 7), .ref (E.2.1 10), .ref (E.2.1 13), .ref (E.2.1 19), .ref (E.2.1 21), .ref (E.2.1 31), .ref (E.2.1 38)])),
  (E.2.1 1, .inr (4, [.int (g 0), .ref (E.2.1 2), .ref (E.2.1 3)])),
  (E.2.1 2, .inl (E.2.2 0, (7, .inl (a 2)))),
  (E.2.1 3, .inl (E.2.2 0, (27, .inl (a 3)))),
  (E.2.1 4, .inr (10, [.int (g 1), .ref (E.2.1 1), .ref (E.2.1 5), .ref (E.2.1 6)])),
  (E.2.1 5, .inl (E.2.2 0, (9, .inl (a 5)))),
  (E.2.1 6, .inl (E.2.2 0, (9, .inl (a 6)))),
  (E.2.1 7, .inr (0, [.ref (E.2.1 1), .ref (E.2.1 8), .ref (E.2.1 9), .int (g 2), .int (g 3)])),
  (E.2.1 8, .inl (E.2.2 0, (27, .inl (a 8)))),
  (E.2.1 9, .inl (E.2.2 0, (3, .inl (a 9)))),
  (E.2.1 10, .inr (6, [.int (g 4), .ref (E.2.1 1), .ref (E.2.1 7), .ref (E.2.1 11), .ref (E.2.1 12)])),
  (E.2.1 11, .inl (E.2.2 2, (6, .inr (.inr (.inr (.inr (fun i => if i < 6 then some (E.2.1 (40 + i)) else none))))))),
  (E.2.1 12, .inl (E.2.2 0, (512, .inl (a 12)))),
  (E.2.1 13, .inr (3, [.ref (E.2.1 1), .ref (E.2.1 4), .ref (E.2.1 7), .ref (E.2.1 14), .ref (E.2.1 46)])),
  (E.2.1 14, .inr (8, [.ref (E.2.1 1), .ref (E.2.1 4), .ref (E.2.1 7), .ref (E.2.1 15), .ref (E.2.1 16), .ref (E.2.1 17), .ref (E.2.1 18), .int (g 5)])),
  (E.2.1 15, .inl (E.2.2 0, (729, .inl (a 15)))),
  (E.2.1 16, .inl (E.2.2 0, (27, .inl (a 16)))),
  (E.2.1 17, .inl (E.2.2 0, (27, .inl (a 17)))),
  (E.2.1 18, .inl (E.2.2 0, (27, .inl (a 18)))),
  (E.2.1 19, .inr (9, [.int (g 6), .ref (E.2.1 20)])),
  (E.2.1 20, .inl (E.2.2 1, (60, .inl (a 20)))),
  (E.2.1 21, .inr (1, [.int (g 7), .ref (E.2.1 1), .ref (E.2.1 4), .ref (E.2.1 24), .ref (E.2.1 22), .int (g 8), .int (g 9), .int (g 10), .ref (E.2.1 23)])),
  (E.2.1 22, .inl (E.2.2 0, (3, .inl (a 22)))),
  (E.2.1 23, .inl (E.2.2 0, (3, .inl (a 23)))),
  (E.2.1 24, .inr (2, [.int (g 11), .ref (E.2.1 1), .ref (E.2.1 4), .int (g 12), .ref (E.2.1 25), .ref (E.2.1 26), .ref (E.2.1 27), .ref (E.2.1 28), .ref (E.2.1 29), .ref (E.2.1 30)])),
  (E.2.1 25, .inl (E.2.2 0, (16, .inl (a 25)))),
  (E.2.1 26, .inl (E.2.2 0, (16, .inl (a 26)))),
  (E.2.1 27, .inl (E.2.2 0, (48, .inl (a 27)))),
  (E.2.1 28, .inl (E.2.2 0, (16, .inl (a 28)))),
  (E.2.1 29, .inl (E.2.2 0, (6, .inl (a 29)))),
  (E.2.1 30, .inl (E.2.2 0, (6, .inl (a 30)))),
  (E.2.1 31, .inr (2, [.int (g 13), .ref (E.2.1 1), .ref (E.2.1 4), .int (g 14), .ref (E.2.1 32), .ref (E.2.1 33), .ref (E.2.1 34), .ref (E.2.1 35), .ref (E.2.1 36), .ref (E.2.1 37)])),
  (E.2.1 32, .inl (E.2.2 0, (16, .inl (a 32)))),
  (E.2.1 33, .inl (E.2.2 0, (16, .inl (a 33)))),
  (E.2.1 34, .inl (E.2.2 0, (48, .inl (a 34)))),
  (E.2.1 35, .inl (E.2.2 0, (16, .inl (a 35)))),
  (E.2.1 36, .inl (E.2.2 0, (6, .inl (a 36)))),
  (E.2.1 37, .inl (E.2.2 0, (6, .inl (a 37)))),
  (E.2.1 38, .inr (7, [.ref (E.2.1 1), .ref (E.2.1 31), .ref (E.2.1 39)])),
  (E.2.1 39, .inl (E.2.2 0, (36, .inl (a 39)))),
  (E.2.1 40, .inr (5, [.ref (E.2.1 1), .int (g 15), .ref (E.2.1 47)])),
  (E.2.1 41, .inr (5, [.ref (E.2.1 1), .int (g 16), .ref (E.2.1 48)])),
  (E.2.1 42, .inr (5, [.ref (E.2.1 1), .int (g 17), .ref (E.2.1 49)])),
  (E.2.1 43, .inr (5, [.ref (E.2.1 1), .int (g 18), .ref (E.2.1 50)])),
  (E.2.1 44, .inr (5, [.ref (E.2.1 1), .int (g 19), .ref (E.2.1 51)])),
  (E.2.1 45, .inr (5, [.ref (E.2.1 1), .int (g 20), .ref (E.2.1 52)])),
  (E.2.1 46, .inr (5, [.ref (E.2.1 1), .int (g 21), .ref (E.2.1 53)])),
  (E.2.1 47, .inl (E.2.2 0, (32, .inl (a 47)))),
  (E.2.1 48, .inl (E.2.2 0, (32, .inl (a 48)))),
  (E.2.1 49, .inl (E.2.2 0, (32, .inl (a 49)))),
  (E.2.1 50, .inl (E.2.2 0, (32, .inl (a 50)))),
  (E.2.1 51, .inl (E.2.2 0, (32, .inl (a 51)))),
  (E.2.1 52, .inl (E.2.2 0, (32, .inl (a 52)))),
  (E.2.1 53, .inl (E.2.2 0, (32, .inl (a 53))))]
theorem gx_0 (E : xE) (g : xG) (a : xA) : (wX E g a)[0]? = some (E.2.1 0, .inr (11, [.ref (E.2.1 1), .ref (E.2.1 4), .ref (E.2.1 7), .ref (E.2.1 10), .ref (E.2.1 13), .ref (E.2.1 19), .ref (E.2.1 21), .ref (E.2.1 31), .ref (E.2.1 38)])) := rfl
theorem gx_1 (E : xE) (g : xG) (a : xA) : (wX E g a)[1]? = some (E.2.1 1, .inr (4, [.int (g 0), .ref (E.2.1 2), .ref (E.2.1 3)])) := rfl
theorem gx_2 (E : xE) (g : xG) (a : xA) : (wX E g a)[2]? = some (E.2.1 2, .inl (E.2.2 0, (7, .inl (a 2)))) := rfl
theorem gx_3 (E : xE) (g : xG) (a : xA) : (wX E g a)[3]? = some (E.2.1 3, .inl (E.2.2 0, (27, .inl (a 3)))) := rfl
theorem gx_4 (E : xE) (g : xG) (a : xA) : (wX E g a)[4]? = some (E.2.1 4, .inr (10, [.int (g 1), .ref (E.2.1 1), .ref (E.2.1 5), .ref (E.2.1 6)])) := rfl
theorem gx_5 (E : xE) (g : xG) (a : xA) : (wX E g a)[5]? = some (E.2.1 5, .inl (E.2.2 0, (9, .inl (a 5)))) := rfl
theorem gx_6 (E : xE) (g : xG) (a : xA) : (wX E g a)[6]? = some (E.2.1 6, .inl (E.2.2 0, (9, .inl (a 6)))) := rfl
theorem gx_7 (E : xE) (g : xG) (a : xA) : (wX E g a)[7]? = some (E.2.1 7, .inr (0, [.ref (E.2.1 1), .ref (E.2.1 8), .ref (E.2.1 9), .int (g 2), .int (g 3)])) := rfl
theorem gx_8 (E : xE) (g : xG) (a : xA) : (wX E g a)[8]? = some (E.2.1 8, .inl (E.2.2 0, (27, .inl (a 8)))) := rfl
theorem gx_9 (E : xE) (g : xG) (a : xA) : (wX E g a)[9]? = some (E.2.1 9, .inl (E.2.2 0, (3, .inl (a 9)))) := rfl
theorem gx_10 (E : xE) (g : xG) (a : xA) : (wX E g a)[10]? = some (E.2.1 10, .inr (6, [.int (g 4), .ref (E.2.1 1), .ref (E.2.1 7), .ref (E.2.1 11), .ref (E.2.1 12)])) := rfl
theorem gx_11 (E : xE) (g : xG) (a : xA) : (wX E g a)[11]? = some (E.2.1 11, .inl (E.2.2 2, (6, .inr (.inr (.inr (.inr (fun i => if i < 6 then some (E.2.1 (40 + i)) else none))))))) := rfl
theorem gx_12 (E : xE) (g : xG) (a : xA) : (wX E g a)[12]? = some (E.2.1 12, .inl (E.2.2 0, (512, .inl (a 12)))) := rfl
theorem gx_13 (E : xE) (g : xG) (a : xA) : (wX E g a)[13]? = some (E.2.1 13, .inr (3, [.ref (E.2.1 1), .ref (E.2.1 4), .ref (E.2.1 7), .ref (E.2.1 14), .ref (E.2.1 46)])) := rfl
theorem gx_14 (E : xE) (g : xG) (a : xA) : (wX E g a)[14]? = some (E.2.1 14, .inr (8, [.ref (E.2.1 1), .ref (E.2.1 4), .ref (E.2.1 7), .ref (E.2.1 15), .ref (E.2.1 16), .ref (E.2.1 17), .ref (E.2.1 18), .int (g 5)])) := rfl
theorem gx_15 (E : xE) (g : xG) (a : xA) : (wX E g a)[15]? = some (E.2.1 15, .inl (E.2.2 0, (729, .inl (a 15)))) := rfl
theorem gx_16 (E : xE) (g : xG) (a : xA) : (wX E g a)[16]? = some (E.2.1 16, .inl (E.2.2 0, (27, .inl (a 16)))) := rfl
theorem gx_17 (E : xE) (g : xG) (a : xA) : (wX E g a)[17]? = some (E.2.1 17, .inl (E.2.2 0, (27, .inl (a 17)))) := rfl
theorem gx_18 (E : xE) (g : xG) (a : xA) : (wX E g a)[18]? = some (E.2.1 18, .inl (E.2.2 0, (27, .inl (a 18)))) := rfl
theorem gx_19 (E : xE) (g : xG) (a : xA) : (wX E g a)[19]? = some (E.2.1 19, .inr (9, [.int (g 6), .ref (E.2.1 20)])) := rfl
theorem gx_20 (E : xE) (g : xG) (a : xA) : (wX E g a)[20]? = some (E.2.1 20, .inl (E.2.2 1, (60, .inl (a 20)))) := rfl
theorem gx_21 (E : xE) (g : xG) (a : xA) : (wX E g a)[21]? = some (E.2.1 21, .inr (1, [.int (g 7), .ref (E.2.1 1), .ref (E.2.1 4), .ref (E.2.1 24), .ref (E.2.1 22), .int (g 8), .int (g 9), .int (g 10), .ref (E.2.1 23)])) := rfl
theorem gx_22 (E : xE) (g : xG) (a : xA) : (wX E g a)[22]? = some (E.2.1 22, .inl (E.2.2 0, (3, .inl (a 22)))) := rfl
theorem gx_23 (E : xE) (g : xG) (a : xA) : (wX E g a)[23]? = some (E.2.1 23, .inl (E.2.2 0, (3, .inl (a 23)))) := rfl
theorem gx_24 (E : xE) (g : xG) (a : xA) : (wX E g a)[24]? = some (E.2.1 24, .inr (2, [.int (g 11), .ref (E.2.1 1), .ref (E.2.1 4), .int (g 12), .ref (E.2.1 25), .ref (E.2.1 26), .ref (E.2.1 27), .ref (E.2.1 28), .ref (E.2.1 29), .ref (E.2.1 30)])) := rfl
theorem gx_25 (E : xE) (g : xG) (a : xA) : (wX E g a)[25]? = some (E.2.1 25, .inl (E.2.2 0, (16, .inl (a 25)))) := rfl
theorem gx_26 (E : xE) (g : xG) (a : xA) : (wX E g a)[26]? = some (E.2.1 26, .inl (E.2.2 0, (16, .inl (a 26)))) := rfl
theorem gx_27 (E : xE) (g : xG) (a : xA) : (wX E g a)[27]? = some (E.2.1 27, .inl (E.2.2 0, (48, .inl (a 27)))) := rfl
theorem gx_28 (E : xE) (g : xG) (a : xA) : (wX E g a)[28]? = some (E.2.1 28, .inl (E.2.2 0, (16, .inl (a 28)))) := rfl
theorem gx_29 (E : xE) (g : xG) (a : xA) : (wX E g a)[29]? = some (E.2.1 29, .inl (E.2.2 0, (6, .inl (a 29)))) := rfl
theorem gx_30 (E : xE) (g : xG) (a : xA) : (wX E g a)[30]? = some (E.2.1 30, .inl (E.2.2 0, (6, .inl (a 30)))) := rfl
theorem gx_31 (E : xE) (g : xG) (a : xA) : (wX E g a)[31]? = some (E.2.1 31, .inr (2, [.int (g 13), .ref (E.2.1 1), .ref (E.2.1 4), .int (g 14), .ref (E.2.1 32), .ref (E.2.1 33), .ref (E.2.1 34), .ref (E.2.1 35), .ref (E.2.1 36), .ref (E.2.1 37)])) := rfl
theorem gx_32 (E : xE) (g : xG) (a : xA) : (wX E g a)[32]? = some (E.2.1 32, .inl (E.2.2 0, (16, .inl (a 32)))) := rfl
theorem gx_33 (E : xE) (g : xG) (a : xA) : (wX E g a)[33]? = some (E.2.1 33, .inl (E.2.2 0, (16, .inl (a 33)))) := rfl
theorem gx_34 (E : xE) (g : xG) (a : xA) : (wX E g a)[34]? = some (E.2.1 34, .inl (E.2.2 0, (48, .inl (a 34)))) := rfl
theorem gx_35 (E : xE) (g : xG) (a : xA) : (wX E g a)[35]? = some (E.2.1 35, .inl (E.2.2 0, (16, .inl (a 35)))) := rfl
theorem gx_36 (E : xE) (g : xG) (a : xA) : (wX E g a)[36]? = some (E.2.1 36, .inl (E.2.2 0, (6, .inl (a 36)))) := rfl
theorem gx_37 (E : xE) (g : xG) (a : xA) : (wX E g a)[37]? = some (E.2.1 37, .inl (E.2.2 0, (6, .inl (a 37)))) := rfl
theorem gx_38 (E : xE) (g : xG) (a : xA) : (wX E g a)[38]? = some (E.2.1 38, .inr (7, [.ref (E.2.1 1), .ref (E.2.1 31), .ref (E.2.1 39)])) := rfl
theorem gx_39 (E : xE) (g : xG) (a : xA) : (wX E g a)[39]? = some (E.2.1 39, .inl (E.2.2 0, (36, .inl (a 39)))) := rfl
theorem gx_40 (E : xE) (g : xG) (a : xA) : (wX E g a)[40]? = some (E.2.1 40, .inr (5, [.ref (E.2.1 1), .int (g 15), .ref (E.2.1 47)])) := rfl
theorem gx_41 (E : xE) (g : xG) (a : xA) : (wX E g a)[41]? = some (E.2.1 41, .inr (5, [.ref (E.2.1 1), .int (g 16), .ref (E.2.1 48)])) := rfl
theorem gx_42 (E : xE) (g : xG) (a : xA) : (wX E g a)[42]? = some (E.2.1 42, .inr (5, [.ref (E.2.1 1), .int (g 17), .ref (E.2.1 49)])) := rfl
theorem gx_43 (E : xE) (g : xG) (a : xA) : (wX E g a)[43]? = some (E.2.1 43, .inr (5, [.ref (E.2.1 1), .int (g 18), .ref (E.2.1 50)])) := rfl
theorem gx_44 (E : xE) (g : xG) (a : xA) : (wX E g a)[44]? = some (E.2.1 44, .inr (5, [.ref (E.2.1 1), .int (g 19), .ref (E.2.1 51)])) := rfl
theorem gx_45 (E : xE) (g : xG) (a : xA) : (wX E g a)[45]? = some (E.2.1 45, .inr (5, [.ref (E.2.1 1), .int (g 20), .ref (E.2.1 52)])) := rfl
theorem gx_46 (E : xE) (g : xG) (a : xA) : (wX E g a)[46]? = some (E.2.1 46, .inr (5, [.ref (E.2.1 1), .int (g 21), .ref (E.2.1 53)])) := rfl
theorem gx_47 (E : xE) (g : xG) (a : xA) : (wX E g a)[47]? = some (E.2.1 47, .inl (E.2.2 0, (32, .inl (a 47)))) := rfl
theorem gx_48 (E : xE) (g : xG) (a : xA) : (wX E g a)[48]? = some (E.2.1 48, .inl (E.2.2 0, (32, .inl (a 48)))) := rfl
theorem gx_49 (E : xE) (g : xG) (a : xA) : (wX E g a)[49]? = some (E.2.1 49, .inl (E.2.2 0, (32, .inl (a 49)))) := rfl
theorem gx_50 (E : xE) (g : xG) (a : xA) : (wX E g a)[50]? = some (E.2.1 50, .inl (E.2.2 0, (32, .inl (a 50)))) := rfl
theorem gx_51 (E : xE) (g : xG) (a : xA) : (wX E g a)[51]? = some (E.2.1 51, .inl (E.2.2 0, (32, .inl (a 51)))) := rfl
theorem gx_52 (E : xE) (g : xG) (a : xA) : (wX E g a)[52]? = some (E.2.1 52, .inl (E.2.2 0, (32, .inl (a 52)))) := rfl
theorem gx_53 (E : xE) (g : xG) (a : xA) : (wX E g a)[53]? = some (E.2.1 53, .inl (E.2.2 0, (32, .inl (a 53)))) := rfl
theorem wX_len (E : xE) (g : xG) (a : xA) : (wX E g a).length = 54 := rfl
theorem gx_inst (E : xE) (g : xG) (a : xA) (j : Nat) (hj : j < 2) : (wX E g a)[24 + 7 * j]? = some (E.2.1 (24 + 7 * j), .inr (2, [.int (g (11 + 2 * j)), .ref (E.2.1 1), .ref (E.2.1 4), .int (g (12 + 2 * j)), .ref (E.2.1 (25 + 7 * j)), .ref (E.2.1 (26 + 7 * j)), .ref (E.2.1 (27 + 7 * j)), .ref (E.2.1 (28 + 7 * j)), .ref (E.2.1 (29 + 7 * j)), .ref (E.2.1 (30 + 7 * j))])) := match j, hj with | 0, _ => rfl | 1, _ => rfl
theorem gx_ia25 (E : xE) (g : xG) (a : xA) (j : Nat) (hj : j < 2) : (wX E g a)[25 + 7 * j]? = some (E.2.1 (25 + 7 * j), .inl (E.2.2 0, (16, .inl (a (25 + 7 * j))))) := match j, hj with | 0, _ => rfl | 1, _ => rfl
theorem gx_ia26 (E : xE) (g : xG) (a : xA) (j : Nat) (hj : j < 2) : (wX E g a)[26 + 7 * j]? = some (E.2.1 (26 + 7 * j), .inl (E.2.2 0, (16, .inl (a (26 + 7 * j))))) := match j, hj with | 0, _ => rfl | 1, _ => rfl
theorem gx_ia27 (E : xE) (g : xG) (a : xA) (j : Nat) (hj : j < 2) : (wX E g a)[27 + 7 * j]? = some (E.2.1 (27 + 7 * j), .inl (E.2.2 0, (48, .inl (a (27 + 7 * j))))) := match j, hj with | 0, _ => rfl | 1, _ => rfl
theorem gx_ia28 (E : xE) (g : xG) (a : xA) (j : Nat) (hj : j < 2) : (wX E g a)[28 + 7 * j]? = some (E.2.1 (28 + 7 * j), .inl (E.2.2 0, (16, .inl (a (28 + 7 * j))))) := match j, hj with | 0, _ => rfl | 1, _ => rfl
theorem gx_ia29 (E : xE) (g : xG) (a : xA) (j : Nat) (hj : j < 2) : (wX E g a)[29 + 7 * j]? = some (E.2.1 (29 + 7 * j), .inl (E.2.2 0, (6, .inl (a (29 + 7 * j))))) := match j, hj with | 0, _ => rfl | 1, _ => rfl
theorem gx_ia30 (E : xE) (g : xG) (a : xA) (j : Nat) (hj : j < 2) : (wX E g a)[30 + 7 * j]? = some (E.2.1 (30 + 7 * j), .inl (E.2.2 0, (6, .inl (a (30 + 7 * j))))) := match j, hj with | 0, _ => rfl | 1, _ => rfl
theorem gx_op (E : xE) (g : xG) (a : xA) (k : Nat) (hk : k < 7) : (wX E g a)[40 + k]? = some (E.2.1 (40 + k), .inr (5, [.ref (E.2.1 1), .int (g (15 + k)), .ref (E.2.1 (47 + k))])) := match k, hk with | 0, _ => rfl | 1, _ => rfl | 2, _ => rfl | 3, _ => rfl | 4, _ => rfl | 5, _ => rfl | 6, _ => rfl
theorem gx_oa (E : xE) (g : xG) (a : xA) (k : Nat) (hk : k < 7) : (wX E g a)[47 + k]? = some (E.2.1 (47 + k), .inl (E.2.2 0, (32, .inl (a (47 + k))))) := match k, hk with | 0, _ => rfl | 1, _ => rfl | 2, _ => rfl | 3, _ => rfl | 4, _ => rfl | 5, _ => rfl | 6, _ => rfl
set_option maxRecDepth 20000 in
theorem sx_g0 (E : xE) (g : xG) (a : xA) (v : Int32) : (wX E g a).set 1 (E.2.1 1, .inr (4, ([.int (g 0), .ref (E.2.1 2), .ref (E.2.1 3)] : List Value).set 0 (.int v))) = wX E (upd g 0 v) a := rfl
set_option maxRecDepth 20000 in
theorem sx_g1 (E : xE) (g : xG) (a : xA) (v : Int32) : (wX E g a).set 4 (E.2.1 4, .inr (10, ([.int (g 1), .ref (E.2.1 1), .ref (E.2.1 5), .ref (E.2.1 6)] : List Value).set 0 (.int v))) = wX E (upd g 1 v) a := rfl
set_option maxRecDepth 20000 in
theorem sx_g2 (E : xE) (g : xG) (a : xA) (v : Int32) : (wX E g a).set 7 (E.2.1 7, .inr (0, ([.ref (E.2.1 1), .ref (E.2.1 8), .ref (E.2.1 9), .int (g 2), .int (g 3)] : List Value).set 3 (.int v))) = wX E (upd g 2 v) a := rfl
set_option maxRecDepth 20000 in
theorem sx_g3 (E : xE) (g : xG) (a : xA) (v : Int32) : (wX E g a).set 7 (E.2.1 7, .inr (0, ([.ref (E.2.1 1), .ref (E.2.1 8), .ref (E.2.1 9), .int (g 2), .int (g 3)] : List Value).set 4 (.int v))) = wX E (upd g 3 v) a := rfl
set_option maxRecDepth 20000 in
theorem sx_g4 (E : xE) (g : xG) (a : xA) (v : Int32) : (wX E g a).set 10 (E.2.1 10, .inr (6, ([.int (g 4), .ref (E.2.1 1), .ref (E.2.1 7), .ref (E.2.1 11), .ref (E.2.1 12)] : List Value).set 0 (.int v))) = wX E (upd g 4 v) a := rfl
set_option maxRecDepth 20000 in
theorem sx_g5 (E : xE) (g : xG) (a : xA) (v : Int32) : (wX E g a).set 14 (E.2.1 14, .inr (8, ([.ref (E.2.1 1), .ref (E.2.1 4), .ref (E.2.1 7), .ref (E.2.1 15), .ref (E.2.1 16), .ref (E.2.1 17), .ref (E.2.1 18), .int (g 5)] : List Value).set 7 (.int v))) = wX E (upd g 5 v) a := rfl
set_option maxRecDepth 20000 in
theorem sx_g6 (E : xE) (g : xG) (a : xA) (v : Int32) : (wX E g a).set 19 (E.2.1 19, .inr (9, ([.int (g 6), .ref (E.2.1 20)] : List Value).set 0 (.int v))) = wX E (upd g 6 v) a := rfl
set_option maxRecDepth 20000 in
theorem sx_g7 (E : xE) (g : xG) (a : xA) (v : Int32) : (wX E g a).set 21 (E.2.1 21, .inr (1, ([.int (g 7), .ref (E.2.1 1), .ref (E.2.1 4), .ref (E.2.1 24), .ref (E.2.1 22), .int (g 8), .int (g 9), .int (g 10), .ref (E.2.1 23)] : List Value).set 0 (.int v))) = wX E (upd g 7 v) a := rfl
set_option maxRecDepth 20000 in
theorem sx_g8 (E : xE) (g : xG) (a : xA) (v : Int32) : (wX E g a).set 21 (E.2.1 21, .inr (1, ([.int (g 7), .ref (E.2.1 1), .ref (E.2.1 4), .ref (E.2.1 24), .ref (E.2.1 22), .int (g 8), .int (g 9), .int (g 10), .ref (E.2.1 23)] : List Value).set 5 (.int v))) = wX E (upd g 8 v) a := rfl
set_option maxRecDepth 20000 in
theorem sx_g9 (E : xE) (g : xG) (a : xA) (v : Int32) : (wX E g a).set 21 (E.2.1 21, .inr (1, ([.int (g 7), .ref (E.2.1 1), .ref (E.2.1 4), .ref (E.2.1 24), .ref (E.2.1 22), .int (g 8), .int (g 9), .int (g 10), .ref (E.2.1 23)] : List Value).set 6 (.int v))) = wX E (upd g 9 v) a := rfl
set_option maxRecDepth 20000 in
theorem sx_g10 (E : xE) (g : xG) (a : xA) (v : Int32) : (wX E g a).set 21 (E.2.1 21, .inr (1, ([.int (g 7), .ref (E.2.1 1), .ref (E.2.1 4), .ref (E.2.1 24), .ref (E.2.1 22), .int (g 8), .int (g 9), .int (g 10), .ref (E.2.1 23)] : List Value).set 7 (.int v))) = wX E (upd g 10 v) a := rfl
set_option maxRecDepth 20000 in
theorem sx_ig11 (E : xE) (g : xG) (a : xA) (j : Nat) (hj : j < 2) (v : Int32) : (wX E g a).set (24 + 7 * j) (E.2.1 (24 + 7 * j), .inr (2, ([.int (g (11 + 2 * j)), .ref (E.2.1 1), .ref (E.2.1 4), .int (g (12 + 2 * j)), .ref (E.2.1 (25 + 7 * j)), .ref (E.2.1 (26 + 7 * j)), .ref (E.2.1 (27 + 7 * j)), .ref (E.2.1 (28 + 7 * j)), .ref (E.2.1 (29 + 7 * j)), .ref (E.2.1 (30 + 7 * j))] : List Value).set 0 (.int v))) = wX E (upd g (11 + 2 * j) v) a := match j, hj with | 0, _ => rfl | 1, _ => rfl
set_option maxRecDepth 20000 in
theorem sx_ig12 (E : xE) (g : xG) (a : xA) (j : Nat) (hj : j < 2) (v : Int32) : (wX E g a).set (24 + 7 * j) (E.2.1 (24 + 7 * j), .inr (2, ([.int (g (11 + 2 * j)), .ref (E.2.1 1), .ref (E.2.1 4), .int (g (12 + 2 * j)), .ref (E.2.1 (25 + 7 * j)), .ref (E.2.1 (26 + 7 * j)), .ref (E.2.1 (27 + 7 * j)), .ref (E.2.1 (28 + 7 * j)), .ref (E.2.1 (29 + 7 * j)), .ref (E.2.1 (30 + 7 * j))] : List Value).set 3 (.int v))) = wX E (upd g (12 + 2 * j) v) a := match j, hj with | 0, _ => rfl | 1, _ => rfl
set_option maxRecDepth 20000 in
theorem sx_og (E : xE) (g : xG) (a : xA) (k : Nat) (hk : k < 7) (v : Int32) : (wX E g a).set (40 + k) (E.2.1 (40 + k), .inr (5, ([.ref (E.2.1 1), .int (g (15 + k)), .ref (E.2.1 (47 + k))] : List Value).set 1 (.int v))) = wX E (upd g (15 + k) v) a := match k, hk with | 0, _ => rfl | 1, _ => rfl | 2, _ => rfl | 3, _ => rfl | 4, _ => rfl | 5, _ => rfl | 6, _ => rfl
set_option maxRecDepth 20000 in
theorem sx_a2 (E : xE) (g : xG) (a : xA) (f : Nat → Int32) : (wX E g a).set 2 (E.2.1 2, .inl (E.2.2 0, (7, .inl f))) = wX E g (upA a 2 f) := rfl
set_option maxRecDepth 20000 in
theorem sx_a3 (E : xE) (g : xG) (a : xA) (f : Nat → Int32) : (wX E g a).set 3 (E.2.1 3, .inl (E.2.2 0, (27, .inl f))) = wX E g (upA a 3 f) := rfl
set_option maxRecDepth 20000 in
theorem sx_a5 (E : xE) (g : xG) (a : xA) (f : Nat → Int32) : (wX E g a).set 5 (E.2.1 5, .inl (E.2.2 0, (9, .inl f))) = wX E g (upA a 5 f) := rfl
set_option maxRecDepth 20000 in
theorem sx_a6 (E : xE) (g : xG) (a : xA) (f : Nat → Int32) : (wX E g a).set 6 (E.2.1 6, .inl (E.2.2 0, (9, .inl f))) = wX E g (upA a 6 f) := rfl
set_option maxRecDepth 20000 in
theorem sx_a8 (E : xE) (g : xG) (a : xA) (f : Nat → Int32) : (wX E g a).set 8 (E.2.1 8, .inl (E.2.2 0, (27, .inl f))) = wX E g (upA a 8 f) := rfl
set_option maxRecDepth 20000 in
theorem sx_a9 (E : xE) (g : xG) (a : xA) (f : Nat → Int32) : (wX E g a).set 9 (E.2.1 9, .inl (E.2.2 0, (3, .inl f))) = wX E g (upA a 9 f) := rfl
set_option maxRecDepth 20000 in
theorem sx_a12 (E : xE) (g : xG) (a : xA) (f : Nat → Int32) : (wX E g a).set 12 (E.2.1 12, .inl (E.2.2 0, (512, .inl f))) = wX E g (upA a 12 f) := rfl
set_option maxRecDepth 20000 in
theorem sx_a15 (E : xE) (g : xG) (a : xA) (f : Nat → Int32) : (wX E g a).set 15 (E.2.1 15, .inl (E.2.2 0, (729, .inl f))) = wX E g (upA a 15 f) := rfl
set_option maxRecDepth 20000 in
theorem sx_a16 (E : xE) (g : xG) (a : xA) (f : Nat → Int32) : (wX E g a).set 16 (E.2.1 16, .inl (E.2.2 0, (27, .inl f))) = wX E g (upA a 16 f) := rfl
set_option maxRecDepth 20000 in
theorem sx_a17 (E : xE) (g : xG) (a : xA) (f : Nat → Int32) : (wX E g a).set 17 (E.2.1 17, .inl (E.2.2 0, (27, .inl f))) = wX E g (upA a 17 f) := rfl
set_option maxRecDepth 20000 in
theorem sx_a18 (E : xE) (g : xG) (a : xA) (f : Nat → Int32) : (wX E g a).set 18 (E.2.1 18, .inl (E.2.2 0, (27, .inl f))) = wX E g (upA a 18 f) := rfl
set_option maxRecDepth 20000 in
theorem sx_a20 (E : xE) (g : xG) (a : xA) (f : Nat → Int32) : (wX E g a).set 20 (E.2.1 20, .inl (E.2.2 1, (60, .inl f))) = wX E g (upA a 20 f) := rfl
set_option maxRecDepth 20000 in
theorem sx_a22 (E : xE) (g : xG) (a : xA) (f : Nat → Int32) : (wX E g a).set 22 (E.2.1 22, .inl (E.2.2 0, (3, .inl f))) = wX E g (upA a 22 f) := rfl
set_option maxRecDepth 20000 in
theorem sx_a23 (E : xE) (g : xG) (a : xA) (f : Nat → Int32) : (wX E g a).set 23 (E.2.1 23, .inl (E.2.2 0, (3, .inl f))) = wX E g (upA a 23 f) := rfl
set_option maxRecDepth 20000 in
theorem sx_a25 (E : xE) (g : xG) (a : xA) (f : Nat → Int32) : (wX E g a).set 25 (E.2.1 25, .inl (E.2.2 0, (16, .inl f))) = wX E g (upA a 25 f) := rfl
set_option maxRecDepth 20000 in
theorem sx_a26 (E : xE) (g : xG) (a : xA) (f : Nat → Int32) : (wX E g a).set 26 (E.2.1 26, .inl (E.2.2 0, (16, .inl f))) = wX E g (upA a 26 f) := rfl
set_option maxRecDepth 20000 in
theorem sx_a27 (E : xE) (g : xG) (a : xA) (f : Nat → Int32) : (wX E g a).set 27 (E.2.1 27, .inl (E.2.2 0, (48, .inl f))) = wX E g (upA a 27 f) := rfl
set_option maxRecDepth 20000 in
theorem sx_a28 (E : xE) (g : xG) (a : xA) (f : Nat → Int32) : (wX E g a).set 28 (E.2.1 28, .inl (E.2.2 0, (16, .inl f))) = wX E g (upA a 28 f) := rfl
set_option maxRecDepth 20000 in
theorem sx_a29 (E : xE) (g : xG) (a : xA) (f : Nat → Int32) : (wX E g a).set 29 (E.2.1 29, .inl (E.2.2 0, (6, .inl f))) = wX E g (upA a 29 f) := rfl
set_option maxRecDepth 20000 in
theorem sx_a30 (E : xE) (g : xG) (a : xA) (f : Nat → Int32) : (wX E g a).set 30 (E.2.1 30, .inl (E.2.2 0, (6, .inl f))) = wX E g (upA a 30 f) := rfl
set_option maxRecDepth 20000 in
theorem sx_a32 (E : xE) (g : xG) (a : xA) (f : Nat → Int32) : (wX E g a).set 32 (E.2.1 32, .inl (E.2.2 0, (16, .inl f))) = wX E g (upA a 32 f) := rfl
set_option maxRecDepth 20000 in
theorem sx_a33 (E : xE) (g : xG) (a : xA) (f : Nat → Int32) : (wX E g a).set 33 (E.2.1 33, .inl (E.2.2 0, (16, .inl f))) = wX E g (upA a 33 f) := rfl
set_option maxRecDepth 20000 in
theorem sx_a34 (E : xE) (g : xG) (a : xA) (f : Nat → Int32) : (wX E g a).set 34 (E.2.1 34, .inl (E.2.2 0, (48, .inl f))) = wX E g (upA a 34 f) := rfl
set_option maxRecDepth 20000 in
theorem sx_a35 (E : xE) (g : xG) (a : xA) (f : Nat → Int32) : (wX E g a).set 35 (E.2.1 35, .inl (E.2.2 0, (16, .inl f))) = wX E g (upA a 35 f) := rfl
set_option maxRecDepth 20000 in
theorem sx_a36 (E : xE) (g : xG) (a : xA) (f : Nat → Int32) : (wX E g a).set 36 (E.2.1 36, .inl (E.2.2 0, (6, .inl f))) = wX E g (upA a 36 f) := rfl
set_option maxRecDepth 20000 in
theorem sx_a37 (E : xE) (g : xG) (a : xA) (f : Nat → Int32) : (wX E g a).set 37 (E.2.1 37, .inl (E.2.2 0, (6, .inl f))) = wX E g (upA a 37 f) := rfl
set_option maxRecDepth 20000 in
theorem sx_a39 (E : xE) (g : xG) (a : xA) (f : Nat → Int32) : (wX E g a).set 39 (E.2.1 39, .inl (E.2.2 0, (36, .inl f))) = wX E g (upA a 39 f) := rfl
set_option maxRecDepth 20000 in
theorem sx_a47 (E : xE) (g : xG) (a : xA) (f : Nat → Int32) : (wX E g a).set 47 (E.2.1 47, .inl (E.2.2 0, (32, .inl f))) = wX E g (upA a 47 f) := rfl
set_option maxRecDepth 20000 in
theorem sx_a48 (E : xE) (g : xG) (a : xA) (f : Nat → Int32) : (wX E g a).set 48 (E.2.1 48, .inl (E.2.2 0, (32, .inl f))) = wX E g (upA a 48 f) := rfl
set_option maxRecDepth 20000 in
theorem sx_a49 (E : xE) (g : xG) (a : xA) (f : Nat → Int32) : (wX E g a).set 49 (E.2.1 49, .inl (E.2.2 0, (32, .inl f))) = wX E g (upA a 49 f) := rfl
set_option maxRecDepth 20000 in
theorem sx_a50 (E : xE) (g : xG) (a : xA) (f : Nat → Int32) : (wX E g a).set 50 (E.2.1 50, .inl (E.2.2 0, (32, .inl f))) = wX E g (upA a 50 f) := rfl
set_option maxRecDepth 20000 in
theorem sx_a51 (E : xE) (g : xG) (a : xA) (f : Nat → Int32) : (wX E g a).set 51 (E.2.1 51, .inl (E.2.2 0, (32, .inl f))) = wX E g (upA a 51 f) := rfl
set_option maxRecDepth 20000 in
theorem sx_a52 (E : xE) (g : xG) (a : xA) (f : Nat → Int32) : (wX E g a).set 52 (E.2.1 52, .inl (E.2.2 0, (32, .inl f))) = wX E g (upA a 52 f) := rfl
set_option maxRecDepth 20000 in
theorem sx_a53 (E : xE) (g : xG) (a : xA) (f : Nat → Int32) : (wX E g a).set 53 (E.2.1 53, .inl (E.2.2 0, (32, .inl f))) = wX E g (upA a 53 f) := rfl
set_option maxRecDepth 20000 in
theorem sx_ia25 (E : xE) (g : xG) (a : xA) (j : Nat) (hj : j < 2) (f : Nat → Int32) : (wX E g a).set (25 + 7 * j) (E.2.1 (25 + 7 * j), .inl (E.2.2 0, (16, .inl f))) = wX E g (upA a (25 + 7 * j) f) := match j, hj with | 0, _ => rfl | 1, _ => rfl
set_option maxRecDepth 20000 in
theorem sx_ia26 (E : xE) (g : xG) (a : xA) (j : Nat) (hj : j < 2) (f : Nat → Int32) : (wX E g a).set (26 + 7 * j) (E.2.1 (26 + 7 * j), .inl (E.2.2 0, (16, .inl f))) = wX E g (upA a (26 + 7 * j) f) := match j, hj with | 0, _ => rfl | 1, _ => rfl
set_option maxRecDepth 20000 in
theorem sx_ia27 (E : xE) (g : xG) (a : xA) (j : Nat) (hj : j < 2) (f : Nat → Int32) : (wX E g a).set (27 + 7 * j) (E.2.1 (27 + 7 * j), .inl (E.2.2 0, (48, .inl f))) = wX E g (upA a (27 + 7 * j) f) := match j, hj with | 0, _ => rfl | 1, _ => rfl
set_option maxRecDepth 20000 in
theorem sx_ia28 (E : xE) (g : xG) (a : xA) (j : Nat) (hj : j < 2) (f : Nat → Int32) : (wX E g a).set (28 + 7 * j) (E.2.1 (28 + 7 * j), .inl (E.2.2 0, (16, .inl f))) = wX E g (upA a (28 + 7 * j) f) := match j, hj with | 0, _ => rfl | 1, _ => rfl
set_option maxRecDepth 20000 in
theorem sx_ia29 (E : xE) (g : xG) (a : xA) (j : Nat) (hj : j < 2) (f : Nat → Int32) : (wX E g a).set (29 + 7 * j) (E.2.1 (29 + 7 * j), .inl (E.2.2 0, (6, .inl f))) = wX E g (upA a (29 + 7 * j) f) := match j, hj with | 0, _ => rfl | 1, _ => rfl
set_option maxRecDepth 20000 in
theorem sx_ia30 (E : xE) (g : xG) (a : xA) (j : Nat) (hj : j < 2) (f : Nat → Int32) : (wX E g a).set (30 + 7 * j) (E.2.1 (30 + 7 * j), .inl (E.2.2 0, (6, .inl f))) = wX E g (upA a (30 + 7 * j) f) := match j, hj with | 0, _ => rfl | 1, _ => rfl
set_option maxRecDepth 20000 in
theorem sx_oa (E : xE) (g : xG) (a : xA) (k : Nat) (hk : k < 7) (f : Nat → Int32) : (wX E g a).set (47 + k) (E.2.1 (47 + k), .inl (E.2.2 0, (32, .inl f))) = wX E g (upA a (47 + k) f) := match k, hk with | 0, _ => rfl | 1, _ => rfl | 2, _ => rfl | 3, _ => rfl | 4, _ => rfl | 5, _ => rfl | 6, _ => rfl
def wM (E : xE) (g : xG) (a : xA) : va_W := [(E.2.1 0, .inr (12, [.int (g 0), .int (g 1), .ref (E.2.1 1), .ref (E.2.1 2), .int (g 2), .ref (E.2.1 3), .ref (E.2.1 4), .int (g 3), .ref (E.2.1 5), .int (g 4), .ref (E.2.1 6), .int (g 5), .ref (E.2.1 7), .ref (E.2.1 8), .int (g 6), .int (g 7), .ref (E.2.1 9), .ref (E.2.1 10), .ref (E.2.1 11), .ref (E.2.1 12), .ref (E.2.1 13), .int (g 8)])),
  (E.2.1 1, .inl (E.2.2 0, (8, .inl (a 1)))),
  (E.2.1 2, .inl (E.2.2 0, (8, .inl (a 2)))),
  (E.2.1 3, .inl (E.2.2 0, (6, .inl (a 3)))),
  (E.2.1 4, .inl (E.2.2 0, (189, .inl (a 4)))),
  (E.2.1 5, .inl (E.2.2 0, (60, .inl (a 5)))),
  (E.2.1 6, .inl (E.2.2 0, (3, .inl (a 6)))),
  (E.2.1 7, .inl (E.2.2 0, (20, .inl (a 7)))),
  (E.2.1 8, .inl (E.2.2 0, (60, .inl (a 8)))),
  (E.2.1 9, .inl (E.2.2 0, (16, .inl (a 9)))),
  (E.2.1 10, .inl (E.2.2 0, (48, .inl (a 10)))),
  (E.2.1 11, .inl (E.2.2 0, (3, .inl (a 11)))),
  (E.2.1 12, .inl (E.2.2 0, (6, .inl (a 12)))),
  (E.2.1 13, .inl (E.2.2 0, (36, .inl (a 13))))]
theorem gm_0 (E : xE) (g : xG) (a : xA) : (wM E g a)[0]? = some (E.2.1 0, .inr (12, [.int (g 0), .int (g 1), .ref (E.2.1 1), .ref (E.2.1 2), .int (g 2), .ref (E.2.1 3), .ref (E.2.1 4), .int (g 3), .ref (E.2.1 5), .int (g 4), .ref (E.2.1 6), .int (g 5), .ref (E.2.1 7), .ref (E.2.1 8), .int (g 6), .int (g 7), .ref (E.2.1 9), .ref (E.2.1 10), .ref (E.2.1 11), .ref (E.2.1 12), .ref (E.2.1 13), .int (g 8)])) := rfl
theorem gm_1 (E : xE) (g : xG) (a : xA) : (wM E g a)[1]? = some (E.2.1 1, .inl (E.2.2 0, (8, .inl (a 1)))) := rfl
theorem gm_2 (E : xE) (g : xG) (a : xA) : (wM E g a)[2]? = some (E.2.1 2, .inl (E.2.2 0, (8, .inl (a 2)))) := rfl
theorem gm_3 (E : xE) (g : xG) (a : xA) : (wM E g a)[3]? = some (E.2.1 3, .inl (E.2.2 0, (6, .inl (a 3)))) := rfl
theorem gm_4 (E : xE) (g : xG) (a : xA) : (wM E g a)[4]? = some (E.2.1 4, .inl (E.2.2 0, (189, .inl (a 4)))) := rfl
theorem gm_5 (E : xE) (g : xG) (a : xA) : (wM E g a)[5]? = some (E.2.1 5, .inl (E.2.2 0, (60, .inl (a 5)))) := rfl
theorem gm_6 (E : xE) (g : xG) (a : xA) : (wM E g a)[6]? = some (E.2.1 6, .inl (E.2.2 0, (3, .inl (a 6)))) := rfl
theorem gm_7 (E : xE) (g : xG) (a : xA) : (wM E g a)[7]? = some (E.2.1 7, .inl (E.2.2 0, (20, .inl (a 7)))) := rfl
theorem gm_8 (E : xE) (g : xG) (a : xA) : (wM E g a)[8]? = some (E.2.1 8, .inl (E.2.2 0, (60, .inl (a 8)))) := rfl
theorem gm_9 (E : xE) (g : xG) (a : xA) : (wM E g a)[9]? = some (E.2.1 9, .inl (E.2.2 0, (16, .inl (a 9)))) := rfl
theorem gm_10 (E : xE) (g : xG) (a : xA) : (wM E g a)[10]? = some (E.2.1 10, .inl (E.2.2 0, (48, .inl (a 10)))) := rfl
theorem gm_11 (E : xE) (g : xG) (a : xA) : (wM E g a)[11]? = some (E.2.1 11, .inl (E.2.2 0, (3, .inl (a 11)))) := rfl
theorem gm_12 (E : xE) (g : xG) (a : xA) : (wM E g a)[12]? = some (E.2.1 12, .inl (E.2.2 0, (6, .inl (a 12)))) := rfl
theorem gm_13 (E : xE) (g : xG) (a : xA) : (wM E g a)[13]? = some (E.2.1 13, .inl (E.2.2 0, (36, .inl (a 13)))) := rfl
theorem wM_len (E : xE) (g : xG) (a : xA) : (wM E g a).length = 14 := rfl
set_option maxRecDepth 20000 in
theorem sm_g0 (E : xE) (g : xG) (a : xA) (v : Int32) : (wM E g a).set 0 (E.2.1 0, .inr (12, ([.int (g 0), .int (g 1), .ref (E.2.1 1), .ref (E.2.1 2), .int (g 2), .ref (E.2.1 3), .ref (E.2.1 4), .int (g 3), .ref (E.2.1 5), .int (g 4), .ref (E.2.1 6), .int (g 5), .ref (E.2.1 7), .ref (E.2.1 8), .int (g 6), .int (g 7), .ref (E.2.1 9), .ref (E.2.1 10), .ref (E.2.1 11), .ref (E.2.1 12), .ref (E.2.1 13), .int (g 8)] : List Value).set 0 (.int v))) = wM E (upd g 0 v) a := rfl
set_option maxRecDepth 20000 in
theorem sm_g1 (E : xE) (g : xG) (a : xA) (v : Int32) : (wM E g a).set 0 (E.2.1 0, .inr (12, ([.int (g 0), .int (g 1), .ref (E.2.1 1), .ref (E.2.1 2), .int (g 2), .ref (E.2.1 3), .ref (E.2.1 4), .int (g 3), .ref (E.2.1 5), .int (g 4), .ref (E.2.1 6), .int (g 5), .ref (E.2.1 7), .ref (E.2.1 8), .int (g 6), .int (g 7), .ref (E.2.1 9), .ref (E.2.1 10), .ref (E.2.1 11), .ref (E.2.1 12), .ref (E.2.1 13), .int (g 8)] : List Value).set 1 (.int v))) = wM E (upd g 1 v) a := rfl
set_option maxRecDepth 20000 in
theorem sm_g2 (E : xE) (g : xG) (a : xA) (v : Int32) : (wM E g a).set 0 (E.2.1 0, .inr (12, ([.int (g 0), .int (g 1), .ref (E.2.1 1), .ref (E.2.1 2), .int (g 2), .ref (E.2.1 3), .ref (E.2.1 4), .int (g 3), .ref (E.2.1 5), .int (g 4), .ref (E.2.1 6), .int (g 5), .ref (E.2.1 7), .ref (E.2.1 8), .int (g 6), .int (g 7), .ref (E.2.1 9), .ref (E.2.1 10), .ref (E.2.1 11), .ref (E.2.1 12), .ref (E.2.1 13), .int (g 8)] : List Value).set 4 (.int v))) = wM E (upd g 2 v) a := rfl
set_option maxRecDepth 20000 in
theorem sm_g3 (E : xE) (g : xG) (a : xA) (v : Int32) : (wM E g a).set 0 (E.2.1 0, .inr (12, ([.int (g 0), .int (g 1), .ref (E.2.1 1), .ref (E.2.1 2), .int (g 2), .ref (E.2.1 3), .ref (E.2.1 4), .int (g 3), .ref (E.2.1 5), .int (g 4), .ref (E.2.1 6), .int (g 5), .ref (E.2.1 7), .ref (E.2.1 8), .int (g 6), .int (g 7), .ref (E.2.1 9), .ref (E.2.1 10), .ref (E.2.1 11), .ref (E.2.1 12), .ref (E.2.1 13), .int (g 8)] : List Value).set 7 (.int v))) = wM E (upd g 3 v) a := rfl
set_option maxRecDepth 20000 in
theorem sm_g4 (E : xE) (g : xG) (a : xA) (v : Int32) : (wM E g a).set 0 (E.2.1 0, .inr (12, ([.int (g 0), .int (g 1), .ref (E.2.1 1), .ref (E.2.1 2), .int (g 2), .ref (E.2.1 3), .ref (E.2.1 4), .int (g 3), .ref (E.2.1 5), .int (g 4), .ref (E.2.1 6), .int (g 5), .ref (E.2.1 7), .ref (E.2.1 8), .int (g 6), .int (g 7), .ref (E.2.1 9), .ref (E.2.1 10), .ref (E.2.1 11), .ref (E.2.1 12), .ref (E.2.1 13), .int (g 8)] : List Value).set 9 (.int v))) = wM E (upd g 4 v) a := rfl
set_option maxRecDepth 20000 in
theorem sm_g5 (E : xE) (g : xG) (a : xA) (v : Int32) : (wM E g a).set 0 (E.2.1 0, .inr (12, ([.int (g 0), .int (g 1), .ref (E.2.1 1), .ref (E.2.1 2), .int (g 2), .ref (E.2.1 3), .ref (E.2.1 4), .int (g 3), .ref (E.2.1 5), .int (g 4), .ref (E.2.1 6), .int (g 5), .ref (E.2.1 7), .ref (E.2.1 8), .int (g 6), .int (g 7), .ref (E.2.1 9), .ref (E.2.1 10), .ref (E.2.1 11), .ref (E.2.1 12), .ref (E.2.1 13), .int (g 8)] : List Value).set 11 (.int v))) = wM E (upd g 5 v) a := rfl
set_option maxRecDepth 20000 in
theorem sm_g6 (E : xE) (g : xG) (a : xA) (v : Int32) : (wM E g a).set 0 (E.2.1 0, .inr (12, ([.int (g 0), .int (g 1), .ref (E.2.1 1), .ref (E.2.1 2), .int (g 2), .ref (E.2.1 3), .ref (E.2.1 4), .int (g 3), .ref (E.2.1 5), .int (g 4), .ref (E.2.1 6), .int (g 5), .ref (E.2.1 7), .ref (E.2.1 8), .int (g 6), .int (g 7), .ref (E.2.1 9), .ref (E.2.1 10), .ref (E.2.1 11), .ref (E.2.1 12), .ref (E.2.1 13), .int (g 8)] : List Value).set 14 (.int v))) = wM E (upd g 6 v) a := rfl
set_option maxRecDepth 20000 in
theorem sm_g7 (E : xE) (g : xG) (a : xA) (v : Int32) : (wM E g a).set 0 (E.2.1 0, .inr (12, ([.int (g 0), .int (g 1), .ref (E.2.1 1), .ref (E.2.1 2), .int (g 2), .ref (E.2.1 3), .ref (E.2.1 4), .int (g 3), .ref (E.2.1 5), .int (g 4), .ref (E.2.1 6), .int (g 5), .ref (E.2.1 7), .ref (E.2.1 8), .int (g 6), .int (g 7), .ref (E.2.1 9), .ref (E.2.1 10), .ref (E.2.1 11), .ref (E.2.1 12), .ref (E.2.1 13), .int (g 8)] : List Value).set 15 (.int v))) = wM E (upd g 7 v) a := rfl
set_option maxRecDepth 20000 in
theorem sm_g8 (E : xE) (g : xG) (a : xA) (v : Int32) : (wM E g a).set 0 (E.2.1 0, .inr (12, ([.int (g 0), .int (g 1), .ref (E.2.1 1), .ref (E.2.1 2), .int (g 2), .ref (E.2.1 3), .ref (E.2.1 4), .int (g 3), .ref (E.2.1 5), .int (g 4), .ref (E.2.1 6), .int (g 5), .ref (E.2.1 7), .ref (E.2.1 8), .int (g 6), .int (g 7), .ref (E.2.1 9), .ref (E.2.1 10), .ref (E.2.1 11), .ref (E.2.1 12), .ref (E.2.1 13), .int (g 8)] : List Value).set 21 (.int v))) = wM E (upd g 8 v) a := rfl
set_option maxRecDepth 20000 in
theorem sm_a1 (E : xE) (g : xG) (a : xA) (f : Nat → Int32) : (wM E g a).set 1 (E.2.1 1, .inl (E.2.2 0, (8, .inl f))) = wM E g (upA a 1 f) := rfl
set_option maxRecDepth 20000 in
theorem sm_a2 (E : xE) (g : xG) (a : xA) (f : Nat → Int32) : (wM E g a).set 2 (E.2.1 2, .inl (E.2.2 0, (8, .inl f))) = wM E g (upA a 2 f) := rfl
set_option maxRecDepth 20000 in
theorem sm_a3 (E : xE) (g : xG) (a : xA) (f : Nat → Int32) : (wM E g a).set 3 (E.2.1 3, .inl (E.2.2 0, (6, .inl f))) = wM E g (upA a 3 f) := rfl
set_option maxRecDepth 20000 in
theorem sm_a4 (E : xE) (g : xG) (a : xA) (f : Nat → Int32) : (wM E g a).set 4 (E.2.1 4, .inl (E.2.2 0, (189, .inl f))) = wM E g (upA a 4 f) := rfl
set_option maxRecDepth 20000 in
theorem sm_a5 (E : xE) (g : xG) (a : xA) (f : Nat → Int32) : (wM E g a).set 5 (E.2.1 5, .inl (E.2.2 0, (60, .inl f))) = wM E g (upA a 5 f) := rfl
set_option maxRecDepth 20000 in
theorem sm_a6 (E : xE) (g : xG) (a : xA) (f : Nat → Int32) : (wM E g a).set 6 (E.2.1 6, .inl (E.2.2 0, (3, .inl f))) = wM E g (upA a 6 f) := rfl
set_option maxRecDepth 20000 in
theorem sm_a7 (E : xE) (g : xG) (a : xA) (f : Nat → Int32) : (wM E g a).set 7 (E.2.1 7, .inl (E.2.2 0, (20, .inl f))) = wM E g (upA a 7 f) := rfl
set_option maxRecDepth 20000 in
theorem sm_a8 (E : xE) (g : xG) (a : xA) (f : Nat → Int32) : (wM E g a).set 8 (E.2.1 8, .inl (E.2.2 0, (60, .inl f))) = wM E g (upA a 8 f) := rfl
set_option maxRecDepth 20000 in
theorem sm_a9 (E : xE) (g : xG) (a : xA) (f : Nat → Int32) : (wM E g a).set 9 (E.2.1 9, .inl (E.2.2 0, (16, .inl f))) = wM E g (upA a 9 f) := rfl
set_option maxRecDepth 20000 in
theorem sm_a10 (E : xE) (g : xG) (a : xA) (f : Nat → Int32) : (wM E g a).set 10 (E.2.1 10, .inl (E.2.2 0, (48, .inl f))) = wM E g (upA a 10 f) := rfl
set_option maxRecDepth 20000 in
theorem sm_a11 (E : xE) (g : xG) (a : xA) (f : Nat → Int32) : (wM E g a).set 11 (E.2.1 11, .inl (E.2.2 0, (3, .inl f))) = wM E g (upA a 11 f) := rfl
set_option maxRecDepth 20000 in
theorem sm_a12 (E : xE) (g : xG) (a : xA) (f : Nat → Int32) : (wM E g a).set 12 (E.2.1 12, .inl (E.2.2 0, (6, .inl f))) = wM E g (upA a 12 f) := rfl
set_option maxRecDepth 20000 in
theorem sm_a13 (E : xE) (g : xG) (a : xA) (f : Nat → Int32) : (wM E g a).set 13 (E.2.1 13, .inl (E.2.2 0, (36, .inl f))) = wM E g (upA a 13 f) := rfl
