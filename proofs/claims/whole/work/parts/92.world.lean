-- ===== the places among the cells that the constructors make (printed by wip/tools/world.py) =====
section WLD
variable (l : Launch) (D : va_G) (cI cZ cJ : ClassId) (L : Nat) (xs : Nat → Int32) (b : Nat) (t kS vS : Nat → Nat) (x mm : Nat) (z : (Nat → Nat) × (Nat → Nat → Nat) × (Nat → Nat)) (y : Nat → Nat)
def adL : List Nat := [x, (z.1 0), (z.1 1), (z.1 2), (z.1 3), (z.1 4), (z.1 5), (z.1 6), (z.1 7), (z.1 8), (z.1 9), (z.2.1 0 0), (z.2.1 0 1), (z.2.1 0 2), (z.2.1 0 3), (z.2.1 0 4), (z.2.1 1 0), (z.2.1 1 1), (z.2.1 1 2), (z.2.1 1 3), (z.2.1 1 4), (z.2.1 1 5), (z.2.1 1 6), (z.2.1 2 0), (z.2.1 2 1), (z.2.1 2 2), (z.2.1 2 3), (z.2.1 2 4), (z.2.1 3 0), (z.2.1 3 1), (z.2.1 3 2), (z.2.1 3 3), (z.2.1 3 4), (z.2.1 3 5), (z.2.1 3 6), (z.2.1 4 0), (z.2.1 4 1), (z.2.1 5 0), (z.2.1 6 0), (z.2.1 8 0), (z.2.1 8 1), (z.2.1 8 2), (z.2.1 8 3), (z.2.1 8 4), (z.2.1 8 5), (z.2.1 8 6), (z.2.1 8 7), (z.2.1 8 8), (z.2.1 9 0), (z.2.1 9 1), (z.2.1 9 2), (z.2.1 9 3), (z.2.2 0), (z.2.2 1), (z.2.2 2), (z.2.2 3), (z.2.2 4), (z.2.2 5), (z.2.2 6), (z.2.2 7), (z.2.2 8), (z.2.2 9), (z.2.2 10), (z.2.2 11), (z.2.2 12), (z.2.1 9 4), (z.2.1 9 5), mm, (y 0), (y 1), (y 2), (y 3), (y 4), (y 5), (y 6), (y 7), (y 8), (y 9), (y 10), (y 11), (y 12), (y 13), (y 14), (y 15), (y 16), (y 17), (y 18), (y 19), (y 20), (y 21), (y 22), (y 23), (y 24), (y 25), (y 26), (y 27), (y 28), (y 29), (t 0), (t 1), (t 2), (t 3), b, (kS 0), (kS 1), (vS 0), (vS 1)]
def mkO : OM := (l, D, fun q => (adL b t kS vS x mm z y).getD q 0, fun q => [cI, cZ, cJ].getD q cI, L, xs)
def wsF : va_W := o_X8 cI cZ cJ x z ++ o_X9 cI cZ cJ mm y
def prm : List Nat := [0, 1, 7, 15, 21, 29, 32, 34, 36, 37, 47, 2, 3, 4, 5, 6, 8, 9, 10, 11, 12, 13, 14, 16, 17, 18, 19, 20, 22, 23, 24, 25, 26, 27, 28, 30, 31, 33, 35, 38, 39, 40, 41, 42, 43, 44, 45, 46, 48, 49, 50, 51, 52, 53, 54, 55, 56, 57, 58, 59, 60, 61, 62, 63, 64, 65, 66, 67, 68, 69, 70, 71, 72, 73, 74, 75, 76, 77, 78, 79, 80, 81, 82, 83, 84, 85, 86, 87, 88, 89, 90, 91, 92, 93, 94, 95, 96, 97]
abbrev sg0 : Sto := s0 (L : Int) (fun j => (xs j.toNat).toInt)
theorem wl_0 : (wsF cI cZ cJ x mm z y)[0]? = some (oA (mkO l D cI cZ cJ L xs b t kS vS x mm z y) 0, cel (mkO l D cI cZ cJ L xs b t kS vS x mm z y) (sg0 L xs) 0) := rfl
theorem wl_1 : (wsF cI cZ cJ x mm z y)[1]? = some (oA (mkO l D cI cZ cJ L xs b t kS vS x mm z y) 1, cel (mkO l D cI cZ cJ L xs b t kS vS x mm z y) (sg0 L xs) 1) := rfl
theorem wl_2 : (wsF cI cZ cJ x mm z y)[7]? = some (oA (mkO l D cI cZ cJ L xs b t kS vS x mm z y) 2, cel (mkO l D cI cZ cJ L xs b t kS vS x mm z y) (sg0 L xs) 2) := rfl
theorem wl_3 : (wsF cI cZ cJ x mm z y)[15]? = some (oA (mkO l D cI cZ cJ L xs b t kS vS x mm z y) 3, cel (mkO l D cI cZ cJ L xs b t kS vS x mm z y) (sg0 L xs) 3) := rfl
theorem wl_4 : (wsF cI cZ cJ x mm z y)[21]? = some (oA (mkO l D cI cZ cJ L xs b t kS vS x mm z y) 4, cel (mkO l D cI cZ cJ L xs b t kS vS x mm z y) (sg0 L xs) 4) := rfl
theorem wl_5 : (wsF cI cZ cJ x mm z y)[29]? = some (oA (mkO l D cI cZ cJ L xs b t kS vS x mm z y) 5, cel (mkO l D cI cZ cJ L xs b t kS vS x mm z y) (sg0 L xs) 5) := rfl
theorem wl_6 : (wsF cI cZ cJ x mm z y)[32]? = some (oA (mkO l D cI cZ cJ L xs b t kS vS x mm z y) 6, cel (mkO l D cI cZ cJ L xs b t kS vS x mm z y) (sg0 L xs) 6) := rfl
theorem wl_7 : (wsF cI cZ cJ x mm z y)[34]? = some (oA (mkO l D cI cZ cJ L xs b t kS vS x mm z y) 7, cel (mkO l D cI cZ cJ L xs b t kS vS x mm z y) (sg0 L xs) 7) := rfl
theorem wl_8 : (wsF cI cZ cJ x mm z y)[36]? = some (oA (mkO l D cI cZ cJ L xs b t kS vS x mm z y) 8, cel (mkO l D cI cZ cJ L xs b t kS vS x mm z y) (sg0 L xs) 8) := rfl
theorem wl_9 : (wsF cI cZ cJ x mm z y)[37]? = some (oA (mkO l D cI cZ cJ L xs b t kS vS x mm z y) 9, cel (mkO l D cI cZ cJ L xs b t kS vS x mm z y) (sg0 L xs) 9) := rfl
theorem wl_10 : (wsF cI cZ cJ x mm z y)[47]? = some (oA (mkO l D cI cZ cJ L xs b t kS vS x mm z y) 10, cel (mkO l D cI cZ cJ L xs b t kS vS x mm z y) (sg0 L xs) 10) := rfl
theorem wl_11 : (wsF cI cZ cJ x mm z y)[2]? = some (oA (mkO l D cI cZ cJ L xs b t kS vS x mm z y) 11, cel (mkO l D cI cZ cJ L xs b t kS vS x mm z y) (sg0 L xs) 11) := rfl
theorem wl_12 : (wsF cI cZ cJ x mm z y)[3]? = some (oA (mkO l D cI cZ cJ L xs b t kS vS x mm z y) 12, cel (mkO l D cI cZ cJ L xs b t kS vS x mm z y) (sg0 L xs) 12) := rfl
theorem wl_13 : (wsF cI cZ cJ x mm z y)[4]? = some (oA (mkO l D cI cZ cJ L xs b t kS vS x mm z y) 13, cel (mkO l D cI cZ cJ L xs b t kS vS x mm z y) (sg0 L xs) 13) := rfl
theorem wl_14 : (wsF cI cZ cJ x mm z y)[5]? = some (oA (mkO l D cI cZ cJ L xs b t kS vS x mm z y) 14, cel (mkO l D cI cZ cJ L xs b t kS vS x mm z y) (sg0 L xs) 14) := rfl
theorem wl_15 : (wsF cI cZ cJ x mm z y)[6]? = some (oA (mkO l D cI cZ cJ L xs b t kS vS x mm z y) 15, cel (mkO l D cI cZ cJ L xs b t kS vS x mm z y) (sg0 L xs) 15) := rfl
theorem wl_16 : (wsF cI cZ cJ x mm z y)[8]? = some (oA (mkO l D cI cZ cJ L xs b t kS vS x mm z y) 16, cel (mkO l D cI cZ cJ L xs b t kS vS x mm z y) (sg0 L xs) 16) := rfl
theorem wl_17 : (wsF cI cZ cJ x mm z y)[9]? = some (oA (mkO l D cI cZ cJ L xs b t kS vS x mm z y) 17, cel (mkO l D cI cZ cJ L xs b t kS vS x mm z y) (sg0 L xs) 17) := rfl
theorem wl_18 : (wsF cI cZ cJ x mm z y)[10]? = some (oA (mkO l D cI cZ cJ L xs b t kS vS x mm z y) 18, cel (mkO l D cI cZ cJ L xs b t kS vS x mm z y) (sg0 L xs) 18) := rfl
theorem wl_19 : (wsF cI cZ cJ x mm z y)[11]? = some (oA (mkO l D cI cZ cJ L xs b t kS vS x mm z y) 19, cel (mkO l D cI cZ cJ L xs b t kS vS x mm z y) (sg0 L xs) 19) := rfl
theorem wl_20 : (wsF cI cZ cJ x mm z y)[12]? = some (oA (mkO l D cI cZ cJ L xs b t kS vS x mm z y) 20, cel (mkO l D cI cZ cJ L xs b t kS vS x mm z y) (sg0 L xs) 20) := rfl
theorem wl_21 : (wsF cI cZ cJ x mm z y)[13]? = some (oA (mkO l D cI cZ cJ L xs b t kS vS x mm z y) 21, cel (mkO l D cI cZ cJ L xs b t kS vS x mm z y) (sg0 L xs) 21) := rfl
theorem wl_22 : (wsF cI cZ cJ x mm z y)[14]? = some (oA (mkO l D cI cZ cJ L xs b t kS vS x mm z y) 22, cel (mkO l D cI cZ cJ L xs b t kS vS x mm z y) (sg0 L xs) 22) := rfl
theorem wl_23 : (wsF cI cZ cJ x mm z y)[16]? = some (oA (mkO l D cI cZ cJ L xs b t kS vS x mm z y) 23, cel (mkO l D cI cZ cJ L xs b t kS vS x mm z y) (sg0 L xs) 23) := rfl
theorem wl_24 : (wsF cI cZ cJ x mm z y)[17]? = some (oA (mkO l D cI cZ cJ L xs b t kS vS x mm z y) 24, cel (mkO l D cI cZ cJ L xs b t kS vS x mm z y) (sg0 L xs) 24) := rfl
theorem wl_25 : (wsF cI cZ cJ x mm z y)[18]? = some (oA (mkO l D cI cZ cJ L xs b t kS vS x mm z y) 25, cel (mkO l D cI cZ cJ L xs b t kS vS x mm z y) (sg0 L xs) 25) := rfl
theorem wl_26 : (wsF cI cZ cJ x mm z y)[19]? = some (oA (mkO l D cI cZ cJ L xs b t kS vS x mm z y) 26, cel (mkO l D cI cZ cJ L xs b t kS vS x mm z y) (sg0 L xs) 26) := rfl
theorem wl_27 : (wsF cI cZ cJ x mm z y)[20]? = some (oA (mkO l D cI cZ cJ L xs b t kS vS x mm z y) 27, cel (mkO l D cI cZ cJ L xs b t kS vS x mm z y) (sg0 L xs) 27) := rfl
theorem wl_28 : (wsF cI cZ cJ x mm z y)[22]? = some (oA (mkO l D cI cZ cJ L xs b t kS vS x mm z y) 28, cel (mkO l D cI cZ cJ L xs b t kS vS x mm z y) (sg0 L xs) 28) := rfl
theorem wl_29 : (wsF cI cZ cJ x mm z y)[23]? = some (oA (mkO l D cI cZ cJ L xs b t kS vS x mm z y) 29, cel (mkO l D cI cZ cJ L xs b t kS vS x mm z y) (sg0 L xs) 29) := rfl
theorem wl_30 : (wsF cI cZ cJ x mm z y)[24]? = some (oA (mkO l D cI cZ cJ L xs b t kS vS x mm z y) 30, cel (mkO l D cI cZ cJ L xs b t kS vS x mm z y) (sg0 L xs) 30) := rfl
theorem wl_31 : (wsF cI cZ cJ x mm z y)[25]? = some (oA (mkO l D cI cZ cJ L xs b t kS vS x mm z y) 31, cel (mkO l D cI cZ cJ L xs b t kS vS x mm z y) (sg0 L xs) 31) := rfl
theorem wl_32 : (wsF cI cZ cJ x mm z y)[26]? = some (oA (mkO l D cI cZ cJ L xs b t kS vS x mm z y) 32, cel (mkO l D cI cZ cJ L xs b t kS vS x mm z y) (sg0 L xs) 32) := rfl
theorem wl_33 : (wsF cI cZ cJ x mm z y)[27]? = some (oA (mkO l D cI cZ cJ L xs b t kS vS x mm z y) 33, cel (mkO l D cI cZ cJ L xs b t kS vS x mm z y) (sg0 L xs) 33) := rfl
theorem wl_34 : (wsF cI cZ cJ x mm z y)[28]? = some (oA (mkO l D cI cZ cJ L xs b t kS vS x mm z y) 34, cel (mkO l D cI cZ cJ L xs b t kS vS x mm z y) (sg0 L xs) 34) := rfl
theorem wl_35 : (wsF cI cZ cJ x mm z y)[30]? = some (oA (mkO l D cI cZ cJ L xs b t kS vS x mm z y) 35, cel (mkO l D cI cZ cJ L xs b t kS vS x mm z y) (sg0 L xs) 35) := rfl
theorem wl_36 : (wsF cI cZ cJ x mm z y)[31]? = some (oA (mkO l D cI cZ cJ L xs b t kS vS x mm z y) 36, cel (mkO l D cI cZ cJ L xs b t kS vS x mm z y) (sg0 L xs) 36) := rfl
theorem wl_38 : (wsF cI cZ cJ x mm z y)[35]? = some (oA (mkO l D cI cZ cJ L xs b t kS vS x mm z y) 38, cel (mkO l D cI cZ cJ L xs b t kS vS x mm z y) (sg0 L xs) 38) := rfl
theorem wl_39 : (wsF cI cZ cJ x mm z y)[38]? = some (oA (mkO l D cI cZ cJ L xs b t kS vS x mm z y) 39, cel (mkO l D cI cZ cJ L xs b t kS vS x mm z y) (sg0 L xs) 39) := rfl
theorem wl_40 : (wsF cI cZ cJ x mm z y)[39]? = some (oA (mkO l D cI cZ cJ L xs b t kS vS x mm z y) 40, cel (mkO l D cI cZ cJ L xs b t kS vS x mm z y) (sg0 L xs) 40) := rfl
theorem wl_41 : (wsF cI cZ cJ x mm z y)[40]? = some (oA (mkO l D cI cZ cJ L xs b t kS vS x mm z y) 41, cel (mkO l D cI cZ cJ L xs b t kS vS x mm z y) (sg0 L xs) 41) := rfl
theorem wl_42 : (wsF cI cZ cJ x mm z y)[41]? = some (oA (mkO l D cI cZ cJ L xs b t kS vS x mm z y) 42, cel (mkO l D cI cZ cJ L xs b t kS vS x mm z y) (sg0 L xs) 42) := rfl
theorem wl_43 : (wsF cI cZ cJ x mm z y)[42]? = some (oA (mkO l D cI cZ cJ L xs b t kS vS x mm z y) 43, cel (mkO l D cI cZ cJ L xs b t kS vS x mm z y) (sg0 L xs) 43) := rfl
theorem wl_44 : (wsF cI cZ cJ x mm z y)[43]? = some (oA (mkO l D cI cZ cJ L xs b t kS vS x mm z y) 44, cel (mkO l D cI cZ cJ L xs b t kS vS x mm z y) (sg0 L xs) 44) := rfl
theorem wl_45 : (wsF cI cZ cJ x mm z y)[44]? = some (oA (mkO l D cI cZ cJ L xs b t kS vS x mm z y) 45, cel (mkO l D cI cZ cJ L xs b t kS vS x mm z y) (sg0 L xs) 45) := rfl
theorem wl_46 : (wsF cI cZ cJ x mm z y)[45]? = some (oA (mkO l D cI cZ cJ L xs b t kS vS x mm z y) 46, cel (mkO l D cI cZ cJ L xs b t kS vS x mm z y) (sg0 L xs) 46) := rfl
theorem wl_47 : (wsF cI cZ cJ x mm z y)[46]? = some (oA (mkO l D cI cZ cJ L xs b t kS vS x mm z y) 47, cel (mkO l D cI cZ cJ L xs b t kS vS x mm z y) (sg0 L xs) 47) := rfl
theorem wl_48 : (wsF cI cZ cJ x mm z y)[48]? = some (oA (mkO l D cI cZ cJ L xs b t kS vS x mm z y) 48, cel (mkO l D cI cZ cJ L xs b t kS vS x mm z y) (sg0 L xs) 48) := rfl
theorem wl_49 : (wsF cI cZ cJ x mm z y)[49]? = some (oA (mkO l D cI cZ cJ L xs b t kS vS x mm z y) 49, cel (mkO l D cI cZ cJ L xs b t kS vS x mm z y) (sg0 L xs) 49) := rfl
theorem wl_50 : (wsF cI cZ cJ x mm z y)[50]? = some (oA (mkO l D cI cZ cJ L xs b t kS vS x mm z y) 50, cel (mkO l D cI cZ cJ L xs b t kS vS x mm z y) (sg0 L xs) 50) := rfl
theorem wl_52 : (wsF cI cZ cJ x mm z y)[52]? = some (oA (mkO l D cI cZ cJ L xs b t kS vS x mm z y) 52, cel (mkO l D cI cZ cJ L xs b t kS vS x mm z y) (sg0 L xs) 52) := rfl
theorem wl_53 : (wsF cI cZ cJ x mm z y)[53]? = some (oA (mkO l D cI cZ cJ L xs b t kS vS x mm z y) 53, cel (mkO l D cI cZ cJ L xs b t kS vS x mm z y) (sg0 L xs) 53) := rfl
theorem wl_54 : (wsF cI cZ cJ x mm z y)[54]? = some (oA (mkO l D cI cZ cJ L xs b t kS vS x mm z y) 54, cel (mkO l D cI cZ cJ L xs b t kS vS x mm z y) (sg0 L xs) 54) := rfl
theorem wl_55 : (wsF cI cZ cJ x mm z y)[55]? = some (oA (mkO l D cI cZ cJ L xs b t kS vS x mm z y) 55, cel (mkO l D cI cZ cJ L xs b t kS vS x mm z y) (sg0 L xs) 55) := rfl
theorem wl_56 : (wsF cI cZ cJ x mm z y)[56]? = some (oA (mkO l D cI cZ cJ L xs b t kS vS x mm z y) 56, cel (mkO l D cI cZ cJ L xs b t kS vS x mm z y) (sg0 L xs) 56) := rfl
theorem wl_57 : (wsF cI cZ cJ x mm z y)[57]? = some (oA (mkO l D cI cZ cJ L xs b t kS vS x mm z y) 57, cel (mkO l D cI cZ cJ L xs b t kS vS x mm z y) (sg0 L xs) 57) := rfl
theorem wl_58 : (wsF cI cZ cJ x mm z y)[58]? = some (oA (mkO l D cI cZ cJ L xs b t kS vS x mm z y) 58, cel (mkO l D cI cZ cJ L xs b t kS vS x mm z y) (sg0 L xs) 58) := rfl
theorem wl_59 : (wsF cI cZ cJ x mm z y)[59]? = some (oA (mkO l D cI cZ cJ L xs b t kS vS x mm z y) 59, cel (mkO l D cI cZ cJ L xs b t kS vS x mm z y) (sg0 L xs) 59) := rfl
theorem wl_60 : (wsF cI cZ cJ x mm z y)[60]? = some (oA (mkO l D cI cZ cJ L xs b t kS vS x mm z y) 60, cel (mkO l D cI cZ cJ L xs b t kS vS x mm z y) (sg0 L xs) 60) := rfl
theorem wl_61 : (wsF cI cZ cJ x mm z y)[61]? = some (oA (mkO l D cI cZ cJ L xs b t kS vS x mm z y) 61, cel (mkO l D cI cZ cJ L xs b t kS vS x mm z y) (sg0 L xs) 61) := rfl
theorem wl_62 : (wsF cI cZ cJ x mm z y)[62]? = some (oA (mkO l D cI cZ cJ L xs b t kS vS x mm z y) 62, cel (mkO l D cI cZ cJ L xs b t kS vS x mm z y) (sg0 L xs) 62) := rfl
theorem wl_63 : (wsF cI cZ cJ x mm z y)[63]? = some (oA (mkO l D cI cZ cJ L xs b t kS vS x mm z y) 63, cel (mkO l D cI cZ cJ L xs b t kS vS x mm z y) (sg0 L xs) 63) := rfl
theorem wl_64 : (wsF cI cZ cJ x mm z y)[64]? = some (oA (mkO l D cI cZ cJ L xs b t kS vS x mm z y) 64, cel (mkO l D cI cZ cJ L xs b t kS vS x mm z y) (sg0 L xs) 64) := rfl
theorem wl_65 : (wsF cI cZ cJ x mm z y)[65]? = some (oA (mkO l D cI cZ cJ L xs b t kS vS x mm z y) 65, cel (mkO l D cI cZ cJ L xs b t kS vS x mm z y) (sg0 L xs) 65) := rfl
theorem wl_66 : (wsF cI cZ cJ x mm z y)[66]? = some (oA (mkO l D cI cZ cJ L xs b t kS vS x mm z y) 66, cel (mkO l D cI cZ cJ L xs b t kS vS x mm z y) (sg0 L xs) 66) := rfl
theorem wl_67 : (wsF cI cZ cJ x mm z y)[67]? = some (oA (mkO l D cI cZ cJ L xs b t kS vS x mm z y) 67, cel (mkO l D cI cZ cJ L xs b t kS vS x mm z y) (sg0 L xs) 67) := rfl
theorem wl_68 : (wsF cI cZ cJ x mm z y)[68]? = some (oA (mkO l D cI cZ cJ L xs b t kS vS x mm z y) 68, cel (mkO l D cI cZ cJ L xs b t kS vS x mm z y) (sg0 L xs) 68) := rfl
theorem wl_69 : (wsF cI cZ cJ x mm z y)[69]? = some (oA (mkO l D cI cZ cJ L xs b t kS vS x mm z y) 69, cel (mkO l D cI cZ cJ L xs b t kS vS x mm z y) (sg0 L xs) 69) := rfl
theorem wl_70 : (wsF cI cZ cJ x mm z y)[70]? = some (oA (mkO l D cI cZ cJ L xs b t kS vS x mm z y) 70, cel (mkO l D cI cZ cJ L xs b t kS vS x mm z y) (sg0 L xs) 70) := rfl
theorem wl_71 : (wsF cI cZ cJ x mm z y)[71]? = some (oA (mkO l D cI cZ cJ L xs b t kS vS x mm z y) 71, cel (mkO l D cI cZ cJ L xs b t kS vS x mm z y) (sg0 L xs) 71) := rfl
theorem wl_72 : (wsF cI cZ cJ x mm z y)[72]? = some (oA (mkO l D cI cZ cJ L xs b t kS vS x mm z y) 72, cel (mkO l D cI cZ cJ L xs b t kS vS x mm z y) (sg0 L xs) 72) := rfl
theorem wl_73 : (wsF cI cZ cJ x mm z y)[73]? = some (oA (mkO l D cI cZ cJ L xs b t kS vS x mm z y) 73, cel (mkO l D cI cZ cJ L xs b t kS vS x mm z y) (sg0 L xs) 73) := rfl
theorem wl_74 : (wsF cI cZ cJ x mm z y)[74]? = some (oA (mkO l D cI cZ cJ L xs b t kS vS x mm z y) 74, cel (mkO l D cI cZ cJ L xs b t kS vS x mm z y) (sg0 L xs) 74) := rfl
theorem wl_75 : (wsF cI cZ cJ x mm z y)[75]? = some (oA (mkO l D cI cZ cJ L xs b t kS vS x mm z y) 75, cel (mkO l D cI cZ cJ L xs b t kS vS x mm z y) (sg0 L xs) 75) := rfl
theorem wl_76 : (wsF cI cZ cJ x mm z y)[76]? = some (oA (mkO l D cI cZ cJ L xs b t kS vS x mm z y) 76, cel (mkO l D cI cZ cJ L xs b t kS vS x mm z y) (sg0 L xs) 76) := rfl
theorem wl_77 : (wsF cI cZ cJ x mm z y)[77]? = some (oA (mkO l D cI cZ cJ L xs b t kS vS x mm z y) 77, cel (mkO l D cI cZ cJ L xs b t kS vS x mm z y) (sg0 L xs) 77) := rfl
theorem wl_78 : (wsF cI cZ cJ x mm z y)[78]? = some (oA (mkO l D cI cZ cJ L xs b t kS vS x mm z y) 78, cel (mkO l D cI cZ cJ L xs b t kS vS x mm z y) (sg0 L xs) 78) := rfl
theorem wl_79 : (wsF cI cZ cJ x mm z y)[79]? = some (oA (mkO l D cI cZ cJ L xs b t kS vS x mm z y) 79, cel (mkO l D cI cZ cJ L xs b t kS vS x mm z y) (sg0 L xs) 79) := rfl
theorem wl_80 : (wsF cI cZ cJ x mm z y)[80]? = some (oA (mkO l D cI cZ cJ L xs b t kS vS x mm z y) 80, cel (mkO l D cI cZ cJ L xs b t kS vS x mm z y) (sg0 L xs) 80) := rfl
theorem wl_81 : (wsF cI cZ cJ x mm z y)[81]? = some (oA (mkO l D cI cZ cJ L xs b t kS vS x mm z y) 81, cel (mkO l D cI cZ cJ L xs b t kS vS x mm z y) (sg0 L xs) 81) := rfl
theorem wl_82 : (wsF cI cZ cJ x mm z y)[82]? = some (oA (mkO l D cI cZ cJ L xs b t kS vS x mm z y) 82, cel (mkO l D cI cZ cJ L xs b t kS vS x mm z y) (sg0 L xs) 82) := rfl
theorem wl_83 : (wsF cI cZ cJ x mm z y)[83]? = some (oA (mkO l D cI cZ cJ L xs b t kS vS x mm z y) 83, cel (mkO l D cI cZ cJ L xs b t kS vS x mm z y) (sg0 L xs) 83) := rfl
theorem wl_84 : (wsF cI cZ cJ x mm z y)[84]? = some (oA (mkO l D cI cZ cJ L xs b t kS vS x mm z y) 84, cel (mkO l D cI cZ cJ L xs b t kS vS x mm z y) (sg0 L xs) 84) := rfl
theorem wl_85 : (wsF cI cZ cJ x mm z y)[85]? = some (oA (mkO l D cI cZ cJ L xs b t kS vS x mm z y) 85, cel (mkO l D cI cZ cJ L xs b t kS vS x mm z y) (sg0 L xs) 85) := rfl
theorem wl_86 : (wsF cI cZ cJ x mm z y)[86]? = some (oA (mkO l D cI cZ cJ L xs b t kS vS x mm z y) 86, cel (mkO l D cI cZ cJ L xs b t kS vS x mm z y) (sg0 L xs) 86) := rfl
theorem wl_87 : (wsF cI cZ cJ x mm z y)[87]? = some (oA (mkO l D cI cZ cJ L xs b t kS vS x mm z y) 87, cel (mkO l D cI cZ cJ L xs b t kS vS x mm z y) (sg0 L xs) 87) := rfl
theorem wl_88 : (wsF cI cZ cJ x mm z y)[88]? = some (oA (mkO l D cI cZ cJ L xs b t kS vS x mm z y) 88, cel (mkO l D cI cZ cJ L xs b t kS vS x mm z y) (sg0 L xs) 88) := rfl
theorem wl_89 : (wsF cI cZ cJ x mm z y)[89]? = some (oA (mkO l D cI cZ cJ L xs b t kS vS x mm z y) 89, cel (mkO l D cI cZ cJ L xs b t kS vS x mm z y) (sg0 L xs) 89) := rfl
theorem wl_90 : (wsF cI cZ cJ x mm z y)[90]? = some (oA (mkO l D cI cZ cJ L xs b t kS vS x mm z y) 90, cel (mkO l D cI cZ cJ L xs b t kS vS x mm z y) (sg0 L xs) 90) := rfl
theorem wl_91 : (wsF cI cZ cJ x mm z y)[91]? = some (oA (mkO l D cI cZ cJ L xs b t kS vS x mm z y) 91, cel (mkO l D cI cZ cJ L xs b t kS vS x mm z y) (sg0 L xs) 91) := rfl
theorem wl_92 : (wsF cI cZ cJ x mm z y)[92]? = some (oA (mkO l D cI cZ cJ L xs b t kS vS x mm z y) 92, cel (mkO l D cI cZ cJ L xs b t kS vS x mm z y) (sg0 L xs) 92) := rfl
theorem wl_93 : (wsF cI cZ cJ x mm z y)[93]? = some (oA (mkO l D cI cZ cJ L xs b t kS vS x mm z y) 93, cel (mkO l D cI cZ cJ L xs b t kS vS x mm z y) (sg0 L xs) 93) := rfl
theorem wl_94 : (wsF cI cZ cJ x mm z y)[94]? = some (oA (mkO l D cI cZ cJ L xs b t kS vS x mm z y) 94, cel (mkO l D cI cZ cJ L xs b t kS vS x mm z y) (sg0 L xs) 94) := rfl
theorem wl_95 : (wsF cI cZ cJ x mm z y)[95]? = some (oA (mkO l D cI cZ cJ L xs b t kS vS x mm z y) 95, cel (mkO l D cI cZ cJ L xs b t kS vS x mm z y) (sg0 L xs) 95) := rfl
theorem wl_96 : (wsF cI cZ cJ x mm z y)[96]? = some (oA (mkO l D cI cZ cJ L xs b t kS vS x mm z y) 96, cel (mkO l D cI cZ cJ L xs b t kS vS x mm z y) (sg0 L xs) 96) := rfl
theorem wl_97 : (wsF cI cZ cJ x mm z y)[97]? = some (oA (mkO l D cI cZ cJ L xs b t kS vS x mm z y) 97, cel (mkO l D cI cZ cJ L xs b t kS vS x mm z y) (sg0 L xs) 97) := rfl
theorem wl_37 : (wsF cI cZ cJ x mm z y)[33]? = some (oA (mkO l D cI cZ cJ L xs b t kS vS x mm z y) 37, .inl (cI, 35, .inl (flF 35))) := rfl
theorem wl_51 : (wsF cI cZ cJ x mm z y)[51]? = some (oA (mkO l D cI cZ cJ L xs b t kS vS x mm z y) 51, .inl (cJ, 13, .inr (.inr (.inr (.inr (fun i => if i < 13 then some (z.2.2 i) else none)))))) := rfl
theorem flF_0 : flF 35 = fun j : Nat => Int32.ofInt (sg0 L xs 37 (j : Int)) := by
  funext j
  show (if j < 35 then (-1 : Int32) else 0) = Int32.ofInt (if (j : Int) < 35 then -1 else 0)
  by_cases h : j < 35
  · rw [if_pos h, if_pos (by omega)]; decide
  · rw [if_neg h, if_neg (by omega)]; decide
theorem lev_0 : vp_cell cJ (13, .inr (.inr (.inr (.inr (fun i => if i < 13 then some (z.2.2 i) else none))))) = vp_cell cJ (13, .inr (.inr (.inr (.inr (fun j => some (oA (mkO l D cI cZ cJ L xs b t kS vS x mm z y) (rfs 51 j))))))) := by
  rw [vp_cell_q, vp_cell_q]
  unfold arrV
  congr 1
theorem at_all {H : Heap} (hP : va_P D vwCl (wsF cI cZ cJ x mm z y) H) : ∀ k, k < 98 → va_at D vwCl (oA (mkO l D cI cZ cJ L xs b t kS vS x mm z y) k, cel (mkO l D cI cZ cJ L xs b t kS vS x mm z y) (sg0 L xs) k) H := by
  intro k hk
  match k, hk with
  | 0, _ => exact hP _ _ (wl_0 l D cI cZ cJ L xs b t kS vS x mm z y)
  | 1, _ => exact hP _ _ (wl_1 l D cI cZ cJ L xs b t kS vS x mm z y)
  | 2, _ => exact hP _ _ (wl_2 l D cI cZ cJ L xs b t kS vS x mm z y)
  | 3, _ => exact hP _ _ (wl_3 l D cI cZ cJ L xs b t kS vS x mm z y)
  | 4, _ => exact hP _ _ (wl_4 l D cI cZ cJ L xs b t kS vS x mm z y)
  | 5, _ => exact hP _ _ (wl_5 l D cI cZ cJ L xs b t kS vS x mm z y)
  | 6, _ => exact hP _ _ (wl_6 l D cI cZ cJ L xs b t kS vS x mm z y)
  | 7, _ => exact hP _ _ (wl_7 l D cI cZ cJ L xs b t kS vS x mm z y)
  | 8, _ => exact hP _ _ (wl_8 l D cI cZ cJ L xs b t kS vS x mm z y)
  | 9, _ => exact hP _ _ (wl_9 l D cI cZ cJ L xs b t kS vS x mm z y)
  | 10, _ => exact hP _ _ (wl_10 l D cI cZ cJ L xs b t kS vS x mm z y)
  | 11, _ => exact hP _ _ (wl_11 l D cI cZ cJ L xs b t kS vS x mm z y)
  | 12, _ => exact hP _ _ (wl_12 l D cI cZ cJ L xs b t kS vS x mm z y)
  | 13, _ => exact hP _ _ (wl_13 l D cI cZ cJ L xs b t kS vS x mm z y)
  | 14, _ => exact hP _ _ (wl_14 l D cI cZ cJ L xs b t kS vS x mm z y)
  | 15, _ => exact hP _ _ (wl_15 l D cI cZ cJ L xs b t kS vS x mm z y)
  | 16, _ => exact hP _ _ (wl_16 l D cI cZ cJ L xs b t kS vS x mm z y)
  | 17, _ => exact hP _ _ (wl_17 l D cI cZ cJ L xs b t kS vS x mm z y)
  | 18, _ => exact hP _ _ (wl_18 l D cI cZ cJ L xs b t kS vS x mm z y)
  | 19, _ => exact hP _ _ (wl_19 l D cI cZ cJ L xs b t kS vS x mm z y)
  | 20, _ => exact hP _ _ (wl_20 l D cI cZ cJ L xs b t kS vS x mm z y)
  | 21, _ => exact hP _ _ (wl_21 l D cI cZ cJ L xs b t kS vS x mm z y)
  | 22, _ => exact hP _ _ (wl_22 l D cI cZ cJ L xs b t kS vS x mm z y)
  | 23, _ => exact hP _ _ (wl_23 l D cI cZ cJ L xs b t kS vS x mm z y)
  | 24, _ => exact hP _ _ (wl_24 l D cI cZ cJ L xs b t kS vS x mm z y)
  | 25, _ => exact hP _ _ (wl_25 l D cI cZ cJ L xs b t kS vS x mm z y)
  | 26, _ => exact hP _ _ (wl_26 l D cI cZ cJ L xs b t kS vS x mm z y)
  | 27, _ => exact hP _ _ (wl_27 l D cI cZ cJ L xs b t kS vS x mm z y)
  | 28, _ => exact hP _ _ (wl_28 l D cI cZ cJ L xs b t kS vS x mm z y)
  | 29, _ => exact hP _ _ (wl_29 l D cI cZ cJ L xs b t kS vS x mm z y)
  | 30, _ => exact hP _ _ (wl_30 l D cI cZ cJ L xs b t kS vS x mm z y)
  | 31, _ => exact hP _ _ (wl_31 l D cI cZ cJ L xs b t kS vS x mm z y)
  | 32, _ => exact hP _ _ (wl_32 l D cI cZ cJ L xs b t kS vS x mm z y)
  | 33, _ => exact hP _ _ (wl_33 l D cI cZ cJ L xs b t kS vS x mm z y)
  | 34, _ => exact hP _ _ (wl_34 l D cI cZ cJ L xs b t kS vS x mm z y)
  | 35, _ => exact hP _ _ (wl_35 l D cI cZ cJ L xs b t kS vS x mm z y)
  | 36, _ => exact hP _ _ (wl_36 l D cI cZ cJ L xs b t kS vS x mm z y)
  | 37, _ => exact (show H[_]? = some (vp_cell cI (35, .inl (fun j : Nat => Int32.ofInt (sg0 L xs 37 (j : Int))))) from by rw [← flF_0]; exact hP _ _ (wl_37 l D cI cZ cJ L xs b t kS vS x mm z y))
  | 38, _ => exact hP _ _ (wl_38 l D cI cZ cJ L xs b t kS vS x mm z y)
  | 39, _ => exact hP _ _ (wl_39 l D cI cZ cJ L xs b t kS vS x mm z y)
  | 40, _ => exact hP _ _ (wl_40 l D cI cZ cJ L xs b t kS vS x mm z y)
  | 41, _ => exact hP _ _ (wl_41 l D cI cZ cJ L xs b t kS vS x mm z y)
  | 42, _ => exact hP _ _ (wl_42 l D cI cZ cJ L xs b t kS vS x mm z y)
  | 43, _ => exact hP _ _ (wl_43 l D cI cZ cJ L xs b t kS vS x mm z y)
  | 44, _ => exact hP _ _ (wl_44 l D cI cZ cJ L xs b t kS vS x mm z y)
  | 45, _ => exact hP _ _ (wl_45 l D cI cZ cJ L xs b t kS vS x mm z y)
  | 46, _ => exact hP _ _ (wl_46 l D cI cZ cJ L xs b t kS vS x mm z y)
  | 47, _ => exact hP _ _ (wl_47 l D cI cZ cJ L xs b t kS vS x mm z y)
  | 48, _ => exact hP _ _ (wl_48 l D cI cZ cJ L xs b t kS vS x mm z y)
  | 49, _ => exact hP _ _ (wl_49 l D cI cZ cJ L xs b t kS vS x mm z y)
  | 50, _ => exact hP _ _ (wl_50 l D cI cZ cJ L xs b t kS vS x mm z y)
  | 51, _ => exact (show H[_]? = some (vp_cell cJ (13, .inr (.inr (.inr (.inr (fun j => some (oA (mkO l D cI cZ cJ L xs b t kS vS x mm z y) (rfs 51 j)))))))) from by rw [← lev_0]; exact hP _ _ (wl_51 l D cI cZ cJ L xs b t kS vS x mm z y))
  | 52, _ => exact hP _ _ (wl_52 l D cI cZ cJ L xs b t kS vS x mm z y)
  | 53, _ => exact hP _ _ (wl_53 l D cI cZ cJ L xs b t kS vS x mm z y)
  | 54, _ => exact hP _ _ (wl_54 l D cI cZ cJ L xs b t kS vS x mm z y)
  | 55, _ => exact hP _ _ (wl_55 l D cI cZ cJ L xs b t kS vS x mm z y)
  | 56, _ => exact hP _ _ (wl_56 l D cI cZ cJ L xs b t kS vS x mm z y)
  | 57, _ => exact hP _ _ (wl_57 l D cI cZ cJ L xs b t kS vS x mm z y)
  | 58, _ => exact hP _ _ (wl_58 l D cI cZ cJ L xs b t kS vS x mm z y)
  | 59, _ => exact hP _ _ (wl_59 l D cI cZ cJ L xs b t kS vS x mm z y)
  | 60, _ => exact hP _ _ (wl_60 l D cI cZ cJ L xs b t kS vS x mm z y)
  | 61, _ => exact hP _ _ (wl_61 l D cI cZ cJ L xs b t kS vS x mm z y)
  | 62, _ => exact hP _ _ (wl_62 l D cI cZ cJ L xs b t kS vS x mm z y)
  | 63, _ => exact hP _ _ (wl_63 l D cI cZ cJ L xs b t kS vS x mm z y)
  | 64, _ => exact hP _ _ (wl_64 l D cI cZ cJ L xs b t kS vS x mm z y)
  | 65, _ => exact hP _ _ (wl_65 l D cI cZ cJ L xs b t kS vS x mm z y)
  | 66, _ => exact hP _ _ (wl_66 l D cI cZ cJ L xs b t kS vS x mm z y)
  | 67, _ => exact hP _ _ (wl_67 l D cI cZ cJ L xs b t kS vS x mm z y)
  | 68, _ => exact hP _ _ (wl_68 l D cI cZ cJ L xs b t kS vS x mm z y)
  | 69, _ => exact hP _ _ (wl_69 l D cI cZ cJ L xs b t kS vS x mm z y)
  | 70, _ => exact hP _ _ (wl_70 l D cI cZ cJ L xs b t kS vS x mm z y)
  | 71, _ => exact hP _ _ (wl_71 l D cI cZ cJ L xs b t kS vS x mm z y)
  | 72, _ => exact hP _ _ (wl_72 l D cI cZ cJ L xs b t kS vS x mm z y)
  | 73, _ => exact hP _ _ (wl_73 l D cI cZ cJ L xs b t kS vS x mm z y)
  | 74, _ => exact hP _ _ (wl_74 l D cI cZ cJ L xs b t kS vS x mm z y)
  | 75, _ => exact hP _ _ (wl_75 l D cI cZ cJ L xs b t kS vS x mm z y)
  | 76, _ => exact hP _ _ (wl_76 l D cI cZ cJ L xs b t kS vS x mm z y)
  | 77, _ => exact hP _ _ (wl_77 l D cI cZ cJ L xs b t kS vS x mm z y)
  | 78, _ => exact hP _ _ (wl_78 l D cI cZ cJ L xs b t kS vS x mm z y)
  | 79, _ => exact hP _ _ (wl_79 l D cI cZ cJ L xs b t kS vS x mm z y)
  | 80, _ => exact hP _ _ (wl_80 l D cI cZ cJ L xs b t kS vS x mm z y)
  | 81, _ => exact hP _ _ (wl_81 l D cI cZ cJ L xs b t kS vS x mm z y)
  | 82, _ => exact hP _ _ (wl_82 l D cI cZ cJ L xs b t kS vS x mm z y)
  | 83, _ => exact hP _ _ (wl_83 l D cI cZ cJ L xs b t kS vS x mm z y)
  | 84, _ => exact hP _ _ (wl_84 l D cI cZ cJ L xs b t kS vS x mm z y)
  | 85, _ => exact hP _ _ (wl_85 l D cI cZ cJ L xs b t kS vS x mm z y)
  | 86, _ => exact hP _ _ (wl_86 l D cI cZ cJ L xs b t kS vS x mm z y)
  | 87, _ => exact hP _ _ (wl_87 l D cI cZ cJ L xs b t kS vS x mm z y)
  | 88, _ => exact hP _ _ (wl_88 l D cI cZ cJ L xs b t kS vS x mm z y)
  | 89, _ => exact hP _ _ (wl_89 l D cI cZ cJ L xs b t kS vS x mm z y)
  | 90, _ => exact hP _ _ (wl_90 l D cI cZ cJ L xs b t kS vS x mm z y)
  | 91, _ => exact hP _ _ (wl_91 l D cI cZ cJ L xs b t kS vS x mm z y)
  | 92, _ => exact hP _ _ (wl_92 l D cI cZ cJ L xs b t kS vS x mm z y)
  | 93, _ => exact hP _ _ (wl_93 l D cI cZ cJ L xs b t kS vS x mm z y)
  | 94, _ => exact hP _ _ (wl_94 l D cI cZ cJ L xs b t kS vS x mm z y)
  | 95, _ => exact hP _ _ (wl_95 l D cI cZ cJ L xs b t kS vS x mm z y)
  | 96, _ => exact hP _ _ (wl_96 l D cI cZ cJ L xs b t kS vS x mm z y)
  | 97, _ => exact hP _ _ (wl_97 l D cI cZ cJ L xs b t kS vS x mm z y)
  | n + 98, h => omega
theorem pos_all : ∀ k, k < 98 → ∃ e : va_E, (wsF cI cZ cJ x mm z y)[prm.getD k 0]? = some (oA (mkO l D cI cZ cJ L xs b t kS vS x mm z y) k, e) := by
  intro k hk
  match k, hk with
  | 0, _ => exact ⟨_, wl_0 l D cI cZ cJ L xs b t kS vS x mm z y⟩
  | 1, _ => exact ⟨_, wl_1 l D cI cZ cJ L xs b t kS vS x mm z y⟩
  | 2, _ => exact ⟨_, wl_2 l D cI cZ cJ L xs b t kS vS x mm z y⟩
  | 3, _ => exact ⟨_, wl_3 l D cI cZ cJ L xs b t kS vS x mm z y⟩
  | 4, _ => exact ⟨_, wl_4 l D cI cZ cJ L xs b t kS vS x mm z y⟩
  | 5, _ => exact ⟨_, wl_5 l D cI cZ cJ L xs b t kS vS x mm z y⟩
  | 6, _ => exact ⟨_, wl_6 l D cI cZ cJ L xs b t kS vS x mm z y⟩
  | 7, _ => exact ⟨_, wl_7 l D cI cZ cJ L xs b t kS vS x mm z y⟩
  | 8, _ => exact ⟨_, wl_8 l D cI cZ cJ L xs b t kS vS x mm z y⟩
  | 9, _ => exact ⟨_, wl_9 l D cI cZ cJ L xs b t kS vS x mm z y⟩
  | 10, _ => exact ⟨_, wl_10 l D cI cZ cJ L xs b t kS vS x mm z y⟩
  | 11, _ => exact ⟨_, wl_11 l D cI cZ cJ L xs b t kS vS x mm z y⟩
  | 12, _ => exact ⟨_, wl_12 l D cI cZ cJ L xs b t kS vS x mm z y⟩
  | 13, _ => exact ⟨_, wl_13 l D cI cZ cJ L xs b t kS vS x mm z y⟩
  | 14, _ => exact ⟨_, wl_14 l D cI cZ cJ L xs b t kS vS x mm z y⟩
  | 15, _ => exact ⟨_, wl_15 l D cI cZ cJ L xs b t kS vS x mm z y⟩
  | 16, _ => exact ⟨_, wl_16 l D cI cZ cJ L xs b t kS vS x mm z y⟩
  | 17, _ => exact ⟨_, wl_17 l D cI cZ cJ L xs b t kS vS x mm z y⟩
  | 18, _ => exact ⟨_, wl_18 l D cI cZ cJ L xs b t kS vS x mm z y⟩
  | 19, _ => exact ⟨_, wl_19 l D cI cZ cJ L xs b t kS vS x mm z y⟩
  | 20, _ => exact ⟨_, wl_20 l D cI cZ cJ L xs b t kS vS x mm z y⟩
  | 21, _ => exact ⟨_, wl_21 l D cI cZ cJ L xs b t kS vS x mm z y⟩
  | 22, _ => exact ⟨_, wl_22 l D cI cZ cJ L xs b t kS vS x mm z y⟩
  | 23, _ => exact ⟨_, wl_23 l D cI cZ cJ L xs b t kS vS x mm z y⟩
  | 24, _ => exact ⟨_, wl_24 l D cI cZ cJ L xs b t kS vS x mm z y⟩
  | 25, _ => exact ⟨_, wl_25 l D cI cZ cJ L xs b t kS vS x mm z y⟩
  | 26, _ => exact ⟨_, wl_26 l D cI cZ cJ L xs b t kS vS x mm z y⟩
  | 27, _ => exact ⟨_, wl_27 l D cI cZ cJ L xs b t kS vS x mm z y⟩
  | 28, _ => exact ⟨_, wl_28 l D cI cZ cJ L xs b t kS vS x mm z y⟩
  | 29, _ => exact ⟨_, wl_29 l D cI cZ cJ L xs b t kS vS x mm z y⟩
  | 30, _ => exact ⟨_, wl_30 l D cI cZ cJ L xs b t kS vS x mm z y⟩
  | 31, _ => exact ⟨_, wl_31 l D cI cZ cJ L xs b t kS vS x mm z y⟩
  | 32, _ => exact ⟨_, wl_32 l D cI cZ cJ L xs b t kS vS x mm z y⟩
  | 33, _ => exact ⟨_, wl_33 l D cI cZ cJ L xs b t kS vS x mm z y⟩
  | 34, _ => exact ⟨_, wl_34 l D cI cZ cJ L xs b t kS vS x mm z y⟩
  | 35, _ => exact ⟨_, wl_35 l D cI cZ cJ L xs b t kS vS x mm z y⟩
  | 36, _ => exact ⟨_, wl_36 l D cI cZ cJ L xs b t kS vS x mm z y⟩
  | 37, _ => exact ⟨_, wl_37 l D cI cZ cJ L xs b t kS vS x mm z y⟩
  | 38, _ => exact ⟨_, wl_38 l D cI cZ cJ L xs b t kS vS x mm z y⟩
  | 39, _ => exact ⟨_, wl_39 l D cI cZ cJ L xs b t kS vS x mm z y⟩
  | 40, _ => exact ⟨_, wl_40 l D cI cZ cJ L xs b t kS vS x mm z y⟩
  | 41, _ => exact ⟨_, wl_41 l D cI cZ cJ L xs b t kS vS x mm z y⟩
  | 42, _ => exact ⟨_, wl_42 l D cI cZ cJ L xs b t kS vS x mm z y⟩
  | 43, _ => exact ⟨_, wl_43 l D cI cZ cJ L xs b t kS vS x mm z y⟩
  | 44, _ => exact ⟨_, wl_44 l D cI cZ cJ L xs b t kS vS x mm z y⟩
  | 45, _ => exact ⟨_, wl_45 l D cI cZ cJ L xs b t kS vS x mm z y⟩
  | 46, _ => exact ⟨_, wl_46 l D cI cZ cJ L xs b t kS vS x mm z y⟩
  | 47, _ => exact ⟨_, wl_47 l D cI cZ cJ L xs b t kS vS x mm z y⟩
  | 48, _ => exact ⟨_, wl_48 l D cI cZ cJ L xs b t kS vS x mm z y⟩
  | 49, _ => exact ⟨_, wl_49 l D cI cZ cJ L xs b t kS vS x mm z y⟩
  | 50, _ => exact ⟨_, wl_50 l D cI cZ cJ L xs b t kS vS x mm z y⟩
  | 51, _ => exact ⟨_, wl_51 l D cI cZ cJ L xs b t kS vS x mm z y⟩
  | 52, _ => exact ⟨_, wl_52 l D cI cZ cJ L xs b t kS vS x mm z y⟩
  | 53, _ => exact ⟨_, wl_53 l D cI cZ cJ L xs b t kS vS x mm z y⟩
  | 54, _ => exact ⟨_, wl_54 l D cI cZ cJ L xs b t kS vS x mm z y⟩
  | 55, _ => exact ⟨_, wl_55 l D cI cZ cJ L xs b t kS vS x mm z y⟩
  | 56, _ => exact ⟨_, wl_56 l D cI cZ cJ L xs b t kS vS x mm z y⟩
  | 57, _ => exact ⟨_, wl_57 l D cI cZ cJ L xs b t kS vS x mm z y⟩
  | 58, _ => exact ⟨_, wl_58 l D cI cZ cJ L xs b t kS vS x mm z y⟩
  | 59, _ => exact ⟨_, wl_59 l D cI cZ cJ L xs b t kS vS x mm z y⟩
  | 60, _ => exact ⟨_, wl_60 l D cI cZ cJ L xs b t kS vS x mm z y⟩
  | 61, _ => exact ⟨_, wl_61 l D cI cZ cJ L xs b t kS vS x mm z y⟩
  | 62, _ => exact ⟨_, wl_62 l D cI cZ cJ L xs b t kS vS x mm z y⟩
  | 63, _ => exact ⟨_, wl_63 l D cI cZ cJ L xs b t kS vS x mm z y⟩
  | 64, _ => exact ⟨_, wl_64 l D cI cZ cJ L xs b t kS vS x mm z y⟩
  | 65, _ => exact ⟨_, wl_65 l D cI cZ cJ L xs b t kS vS x mm z y⟩
  | 66, _ => exact ⟨_, wl_66 l D cI cZ cJ L xs b t kS vS x mm z y⟩
  | 67, _ => exact ⟨_, wl_67 l D cI cZ cJ L xs b t kS vS x mm z y⟩
  | 68, _ => exact ⟨_, wl_68 l D cI cZ cJ L xs b t kS vS x mm z y⟩
  | 69, _ => exact ⟨_, wl_69 l D cI cZ cJ L xs b t kS vS x mm z y⟩
  | 70, _ => exact ⟨_, wl_70 l D cI cZ cJ L xs b t kS vS x mm z y⟩
  | 71, _ => exact ⟨_, wl_71 l D cI cZ cJ L xs b t kS vS x mm z y⟩
  | 72, _ => exact ⟨_, wl_72 l D cI cZ cJ L xs b t kS vS x mm z y⟩
  | 73, _ => exact ⟨_, wl_73 l D cI cZ cJ L xs b t kS vS x mm z y⟩
  | 74, _ => exact ⟨_, wl_74 l D cI cZ cJ L xs b t kS vS x mm z y⟩
  | 75, _ => exact ⟨_, wl_75 l D cI cZ cJ L xs b t kS vS x mm z y⟩
  | 76, _ => exact ⟨_, wl_76 l D cI cZ cJ L xs b t kS vS x mm z y⟩
  | 77, _ => exact ⟨_, wl_77 l D cI cZ cJ L xs b t kS vS x mm z y⟩
  | 78, _ => exact ⟨_, wl_78 l D cI cZ cJ L xs b t kS vS x mm z y⟩
  | 79, _ => exact ⟨_, wl_79 l D cI cZ cJ L xs b t kS vS x mm z y⟩
  | 80, _ => exact ⟨_, wl_80 l D cI cZ cJ L xs b t kS vS x mm z y⟩
  | 81, _ => exact ⟨_, wl_81 l D cI cZ cJ L xs b t kS vS x mm z y⟩
  | 82, _ => exact ⟨_, wl_82 l D cI cZ cJ L xs b t kS vS x mm z y⟩
  | 83, _ => exact ⟨_, wl_83 l D cI cZ cJ L xs b t kS vS x mm z y⟩
  | 84, _ => exact ⟨_, wl_84 l D cI cZ cJ L xs b t kS vS x mm z y⟩
  | 85, _ => exact ⟨_, wl_85 l D cI cZ cJ L xs b t kS vS x mm z y⟩
  | 86, _ => exact ⟨_, wl_86 l D cI cZ cJ L xs b t kS vS x mm z y⟩
  | 87, _ => exact ⟨_, wl_87 l D cI cZ cJ L xs b t kS vS x mm z y⟩
  | 88, _ => exact ⟨_, wl_88 l D cI cZ cJ L xs b t kS vS x mm z y⟩
  | 89, _ => exact ⟨_, wl_89 l D cI cZ cJ L xs b t kS vS x mm z y⟩
  | 90, _ => exact ⟨_, wl_90 l D cI cZ cJ L xs b t kS vS x mm z y⟩
  | 91, _ => exact ⟨_, wl_91 l D cI cZ cJ L xs b t kS vS x mm z y⟩
  | 92, _ => exact ⟨_, wl_92 l D cI cZ cJ L xs b t kS vS x mm z y⟩
  | 93, _ => exact ⟨_, wl_93 l D cI cZ cJ L xs b t kS vS x mm z y⟩
  | 94, _ => exact ⟨_, wl_94 l D cI cZ cJ L xs b t kS vS x mm z y⟩
  | 95, _ => exact ⟨_, wl_95 l D cI cZ cJ L xs b t kS vS x mm z y⟩
  | 96, _ => exact ⟨_, wl_96 l D cI cZ cJ L xs b t kS vS x mm z y⟩
  | 97, _ => exact ⟨_, wl_97 l D cI cZ cJ L xs b t kS vS x mm z y⟩
  | n + 98, h => omega
end WLD
theorem prm_inj : ∀ i : Fin 98, ∀ j : Fin 98, prm.getD i.1 0 = prm.getD j.1 0 → i = j := by decide +kernel
