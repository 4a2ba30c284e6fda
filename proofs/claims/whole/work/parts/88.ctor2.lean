-- ===== the constructors of Hands and LeavesOfMud (printed by wip/tools/ctor.py) =====
theorem dX1_init_0 : decode cX1_init 0 = .ok (.aload_n 0, 1) := by decide +kernel
theorem dX1_init_1 : decode cX1_init 1 = .ok (.invokespecial 3, 3) := by decide +kernel
theorem w_143 : (Jvm.Cond.methodLink "LeavesOfMud$Hands" (3 : Nat) ({ cls := "java/lang/Object", name := "<init>", desc := "()V" } : Jvm.MethodName)) ∈ wsG := wsG_mem (List.mem_append_right _ (tm1 (List.mem_of_getElem? (i := 143) rfl))) rfl
theorem dX1_init_4 : decode cX1_init 4 = .ok (.aload_n 0, 1) := by decide +kernel
theorem dX1_init_5 : decode cX1_init 5 = .ok (.iconst 0, 1) := by decide +kernel
theorem dX1_init_6 : decode cX1_init 6 = .ok (.putfield 9, 3) := by decide +kernel
theorem dX1_init_9 : decode cX1_init 9 = .ok (.aload_n 0, 1) := by decide +kernel
theorem dX1_init_10 : decode cX1_init 10 = .ok (.bipush 35, 2) := by decide +kernel
theorem dX1_init_12 : decode cX1_init 12 = .ok (.newarray .int, 2) := by decide +kernel
theorem dX1_init_14 : decode cX1_init 14 = .ok (.putfield 15, 3) := by decide +kernel
theorem dX1_init_17 : decode cX1_init 17 = .ok (.aload_n 0, 1) := by decide +kernel
theorem dX1_init_18 : decode cX1_init 18 = .ok (.aload_n 1, 1) := by decide +kernel
theorem dX1_init_19 : decode cX1_init 19 = .ok (.putfield 19, 3) := by decide +kernel
theorem dX1_init_22 : decode cX1_init 22 = .ok (.aload_n 0, 1) := by decide +kernel
theorem dX1_init_23 : decode cX1_init 23 = .ok (.getfield 15, 3) := by decide +kernel
theorem dX1_init_26 : decode cX1_init 26 = .ok (.iconst (-1), 1) := by decide +kernel
theorem dX1_init_27 : decode cX1_init 27 = .ok (.invokestatic 23, 3) := by decide +kernel
theorem w_144 : (Jvm.Cond.methodLink "LeavesOfMud$Hands" (23 : Nat) ({ cls := "java/util/Arrays", name := "fill", desc := "([II)V" } : Jvm.MethodName)) ∈ wsG := wsG_mem (List.mem_append_right _ (tm1 (List.mem_of_getElem? (i := 144) rfl))) rfl
theorem dX1_init_30 : decode cX1_init 30 = .ok (.return_, 1) := by decide +kernel
theorem dX8_init_0 : decode cX8_init 0 = .ok (.aload_n 0, 1) := by decide +kernel
theorem dX8_init_1 : decode cX8_init 1 = .ok (.invokespecial 1, 3) := by decide +kernel
theorem w_25 : (Jvm.Cond.methodLink "LeavesOfMud" (1 : Nat) ({ cls := "java/lang/Object", name := "<init>", desc := "()V" } : Jvm.MethodName)) ∈ wsG := wsG_mem (List.mem_append_right _ (tm1 (List.mem_of_getElem? (i := 25) rfl))) rfl
theorem dX8_init_4 : decode cX8_init 4 = .ok (.aload_n 0, 1) := by decide +kernel
theorem dX8_init_5 : decode cX8_init 5 = .ok (.new 7, 3) := by decide +kernel
theorem w_28 : (Jvm.Cond.classLink "LeavesOfMud" (7 : Nat) "LeavesOfMud$Pits") ∈ wsG := wsG_mem (List.mem_append_right _ (tm1 (List.mem_of_getElem? (i := 28) rfl))) rfl
theorem w_29 : (Jvm.Cond.instantiable "LeavesOfMud$Pits" (6 : Nat)) ∈ wsG := wsG_mem (List.mem_append_right _ (tm1 (List.mem_of_getElem? (i := 29) rfl))) rfl
theorem dX8_init_8 : decode cX8_init 8 = .ok (.dup, 1) := by decide +kernel
theorem dX8_init_9 : decode cX8_init 9 = .ok (.invokespecial 9, 3) := by decide +kernel
theorem wn_0 : (Jvm.Cond.methodLinkNest "LeavesOfMud" (9 : Nat) ({ cls := "LeavesOfMud$Pits", name := "<init>", desc := "()V" } : Jvm.MethodName) "LeavesOfMud") ∈ nestW := List.mem_of_getElem? (i := 0) rfl
theorem w_32 : (Jvm.Cond.code ({ cls := "LeavesOfMud$Pits", name := "<init>", desc := "()V" } : Jvm.MethodName) prog_8_method_1_code (1 : Nat) (Option.none : Option Jvm.ClassFile.FieldType)) ∈ wsG := wsG_mem (List.mem_append_right _ (tm1 (List.mem_of_getElem? (i := 32) rfl))) rfl
theorem w_31 : (Jvm.Cond.instanceMethod ({ cls := "LeavesOfMud$Pits", name := "<init>", desc := "()V" } : Jvm.MethodName)) ∈ wsG := wsG_mem (List.mem_append_right _ (tm1 (List.mem_of_getElem? (i := 31) rfl))) rfl
theorem dX8_init_12 : decode cX8_init 12 = .ok (.putfield 10, 3) := by decide +kernel
theorem dX8_init_15 : decode cX8_init 15 = .ok (.aload_n 0, 1) := by decide +kernel
theorem dX8_init_16 : decode cX8_init 16 = .ok (.new 16, 3) := by decide +kernel
theorem w_62 : (Jvm.Cond.classLink "LeavesOfMud" (16 : Nat) "LeavesOfMud$Bonds") ∈ wsG := wsG_mem (List.mem_append_right _ (tm1 (List.mem_of_getElem? (i := 62) rfl))) rfl
theorem w_63 : (Jvm.Cond.instantiable "LeavesOfMud$Bonds" (11 : Nat)) ∈ wsG := wsG_mem (List.mem_append_right _ (tm1 (List.mem_of_getElem? (i := 63) rfl))) rfl
theorem dX8_init_19 : decode cX8_init 19 = .ok (.dup, 1) := by decide +kernel
theorem dX8_init_20 : decode cX8_init 20 = .ok (.invokespecial 18, 3) := by decide +kernel
theorem wn_9 : (Jvm.Cond.methodLinkNest "LeavesOfMud" (18 : Nat) ({ cls := "LeavesOfMud$Bonds", name := "<init>", desc := "()V" } : Jvm.MethodName) "LeavesOfMud") ∈ nestW := List.mem_of_getElem? (i := 9) rfl
theorem w_66 : (Jvm.Cond.code ({ cls := "LeavesOfMud$Bonds", name := "<init>", desc := "()V" } : Jvm.MethodName) prog_2_method_1_code (1 : Nat) (Option.none : Option Jvm.ClassFile.FieldType)) ∈ wsG := wsG_mem (List.mem_append_right _ (tm1 (List.mem_of_getElem? (i := 66) rfl))) rfl
theorem w_65 : (Jvm.Cond.instanceMethod ({ cls := "LeavesOfMud$Bonds", name := "<init>", desc := "()V" } : Jvm.MethodName)) ∈ wsG := wsG_mem (List.mem_append_right _ (tm1 (List.mem_of_getElem? (i := 65) rfl))) rfl
theorem dX8_init_23 : decode cX8_init 23 = .ok (.putfield 19, 3) := by decide +kernel
theorem dX8_init_26 : decode cX8_init 26 = .ok (.aload_n 0, 1) := by decide +kernel
theorem dX8_init_27 : decode cX8_init 27 = .ok (.new 7, 3) := by decide +kernel
theorem dX8_init_30 : decode cX8_init 30 = .ok (.dup, 1) := by decide +kernel
theorem dX8_init_31 : decode cX8_init 31 = .ok (.invokespecial 9, 3) := by decide +kernel
theorem dX8_init_34 : decode cX8_init 34 = .ok (.putfield 23, 3) := by decide +kernel
theorem dX8_init_37 : decode cX8_init 37 = .ok (.aload_n 0, 1) := by decide +kernel
theorem dX8_init_38 : decode cX8_init 38 = .ok (.new 16, 3) := by decide +kernel
theorem dX8_init_41 : decode cX8_init 41 = .ok (.dup, 1) := by decide +kernel
theorem dX8_init_42 : decode cX8_init 42 = .ok (.invokespecial 18, 3) := by decide +kernel
theorem dX8_init_45 : decode cX8_init 45 = .ok (.putfield 26, 3) := by decide +kernel
theorem dX8_init_48 : decode cX8_init 48 = .ok (.aload_n 0, 1) := by decide +kernel
theorem dX8_init_49 : decode cX8_init 49 = .ok (.iconst 0, 1) := by decide +kernel
theorem dX8_init_50 : decode cX8_init 50 = .ok (.putfield 29, 3) := by decide +kernel
theorem dX8_init_53 : decode cX8_init 53 = .ok (.aload_n 0, 1) := by decide +kernel
theorem dX8_init_54 : decode cX8_init 54 = .ok (.new 33, 3) := by decide +kernel
theorem w_115 : (Jvm.Cond.classLink "LeavesOfMud" (33 : Nat) "LeavesOfMud$Page") ∈ wsG := wsG_mem (List.mem_append_right _ (tm1 (List.mem_of_getElem? (i := 115) rfl))) rfl
theorem w_116 : (Jvm.Cond.instantiable "LeavesOfMud$Page" (4 : Nat)) ∈ wsG := wsG_mem (List.mem_append_right _ (tm1 (List.mem_of_getElem? (i := 116) rfl))) rfl
theorem dX8_init_57 : decode cX8_init 57 = .ok (.dup, 1) := by decide +kernel
theorem dX8_init_58 : decode cX8_init 58 = .ok (.invokespecial 35, 3) := by decide +kernel
theorem wn_23 : (Jvm.Cond.methodLinkNest "LeavesOfMud" (35 : Nat) ({ cls := "LeavesOfMud$Page", name := "<init>", desc := "()V" } : Jvm.MethodName) "LeavesOfMud") ∈ nestW := List.mem_of_getElem? (i := 23) rfl
theorem w_119 : (Jvm.Cond.code ({ cls := "LeavesOfMud$Page", name := "<init>", desc := "()V" } : Jvm.MethodName) prog_6_method_1_code (1 : Nat) (Option.none : Option Jvm.ClassFile.FieldType)) ∈ wsG := wsG_mem (List.mem_append_right _ (tm1 (List.mem_of_getElem? (i := 119) rfl))) rfl
theorem w_118 : (Jvm.Cond.instanceMethod ({ cls := "LeavesOfMud$Page", name := "<init>", desc := "()V" } : Jvm.MethodName)) ∈ wsG := wsG_mem (List.mem_append_right _ (tm1 (List.mem_of_getElem? (i := 118) rfl))) rfl
theorem dX8_init_61 : decode cX8_init 61 = .ok (.putfield 36, 3) := by decide +kernel
theorem dX8_init_64 : decode cX8_init 64 = .ok (.aload_n 0, 1) := by decide +kernel
theorem dX8_init_65 : decode cX8_init 65 = .ok (.new 40, 3) := by decide +kernel
theorem w_138 : (Jvm.Cond.classLink "LeavesOfMud" (40 : Nat) "LeavesOfMud$Hands") ∈ wsG := wsG_mem (List.mem_append_right _ (tm1 (List.mem_of_getElem? (i := 138) rfl))) rfl
theorem w_139 : (Jvm.Cond.instantiable "LeavesOfMud$Hands" (3 : Nat)) ∈ wsG := wsG_mem (List.mem_append_right _ (tm1 (List.mem_of_getElem? (i := 139) rfl))) rfl
theorem dX8_init_68 : decode cX8_init 68 = .ok (.dup, 1) := by decide +kernel
theorem dX8_init_69 : decode cX8_init 69 = .ok (.aload_n 0, 1) := by decide +kernel
theorem dX8_init_70 : decode cX8_init 70 = .ok (.getfield 10, 3) := by decide +kernel
theorem dX8_init_73 : decode cX8_init 73 = .ok (.invokespecial 42, 3) := by decide +kernel
theorem wn_28 : (Jvm.Cond.methodLinkNest "LeavesOfMud" (42 : Nat) ({ cls := "LeavesOfMud$Hands", name := "<init>", desc := "(LLeavesOfMud$Pits;)V" } : Jvm.MethodName) "LeavesOfMud") ∈ nestW := List.mem_of_getElem? (i := 28) rfl
theorem w_142 : (Jvm.Cond.code ({ cls := "LeavesOfMud$Hands", name := "<init>", desc := "(LLeavesOfMud$Pits;)V" } : Jvm.MethodName) prog_3_method_1_code (2 : Nat) (Option.none : Option Jvm.ClassFile.FieldType)) ∈ wsG := wsG_mem (List.mem_append_right _ (tm1 (List.mem_of_getElem? (i := 142) rfl))) rfl
theorem w_141 : (Jvm.Cond.instanceMethod ({ cls := "LeavesOfMud$Hands", name := "<init>", desc := "(LLeavesOfMud$Pits;)V" } : Jvm.MethodName)) ∈ wsG := wsG_mem (List.mem_append_right _ (tm1 (List.mem_of_getElem? (i := 141) rfl))) rfl
theorem dX8_init_76 : decode cX8_init 76 = .ok (.putfield 45, 3) := by decide +kernel
theorem dX8_init_79 : decode cX8_init 79 = .ok (.aload_n 0, 1) := by decide +kernel
theorem dX8_init_80 : decode cX8_init 80 = .ok (.new 49, 3) := by decide +kernel
theorem w_158 : (Jvm.Cond.classLink "LeavesOfMud" (49 : Nat) "LeavesOfMud$Laws") ∈ wsG := wsG_mem (List.mem_append_right _ (tm1 (List.mem_of_getElem? (i := 158) rfl))) rfl
theorem w_159 : (Jvm.Cond.instantiable "LeavesOfMud$Laws" (2 : Nat)) ∈ wsG := wsG_mem (List.mem_append_right _ (tm1 (List.mem_of_getElem? (i := 159) rfl))) rfl
theorem dX8_init_83 : decode cX8_init 83 = .ok (.dup, 1) := by decide +kernel
theorem dX8_init_84 : decode cX8_init 84 = .ok (.invokespecial 51, 3) := by decide +kernel
theorem wn_30 : (Jvm.Cond.methodLinkNest "LeavesOfMud" (51 : Nat) ({ cls := "LeavesOfMud$Laws", name := "<init>", desc := "()V" } : Jvm.MethodName) "LeavesOfMud") ∈ nestW := List.mem_of_getElem? (i := 30) rfl
theorem w_162 : (Jvm.Cond.code ({ cls := "LeavesOfMud$Laws", name := "<init>", desc := "()V" } : Jvm.MethodName) prog_4_method_1_code (1 : Nat) (Option.none : Option Jvm.ClassFile.FieldType)) ∈ wsG := wsG_mem (List.mem_append_right _ (tm1 (List.mem_of_getElem? (i := 162) rfl))) rfl
theorem w_161 : (Jvm.Cond.instanceMethod ({ cls := "LeavesOfMud$Laws", name := "<init>", desc := "()V" } : Jvm.MethodName)) ∈ wsG := wsG_mem (List.mem_append_right _ (tm1 (List.mem_of_getElem? (i := 161) rfl))) rfl
theorem dX8_init_87 : decode cX8_init 87 = .ok (.putfield 52, 3) := by decide +kernel
theorem dX8_init_90 : decode cX8_init 90 = .ok (.aload_n 0, 1) := by decide +kernel
theorem dX8_init_91 : decode cX8_init 91 = .ok (.new 56, 3) := by decide +kernel
theorem w_172 : (Jvm.Cond.classLink "LeavesOfMud" (56 : Nat) "LeavesOfMud$Slides") ∈ wsG := wsG_mem (List.mem_append_right _ (tm1 (List.mem_of_getElem? (i := 172) rfl))) rfl
theorem w_173 : (Jvm.Cond.instantiable "LeavesOfMud$Slides" (1 : Nat)) ∈ wsG := wsG_mem (List.mem_append_right _ (tm1 (List.mem_of_getElem? (i := 173) rfl))) rfl
theorem dX8_init_94 : decode cX8_init 94 = .ok (.dup, 1) := by decide +kernel
theorem dX8_init_95 : decode cX8_init 95 = .ok (.aload_n 0, 1) := by decide +kernel
theorem dX8_init_96 : decode cX8_init 96 = .ok (.getfield 10, 3) := by decide +kernel
theorem dX8_init_99 : decode cX8_init 99 = .ok (.invokespecial 58, 3) := by decide +kernel
theorem wn_32 : (Jvm.Cond.methodLinkNest "LeavesOfMud" (58 : Nat) ({ cls := "LeavesOfMud$Slides", name := "<init>", desc := "(LLeavesOfMud$Pits;)V" } : Jvm.MethodName) "LeavesOfMud") ∈ nestW := List.mem_of_getElem? (i := 32) rfl
theorem w_176 : (Jvm.Cond.code ({ cls := "LeavesOfMud$Slides", name := "<init>", desc := "(LLeavesOfMud$Pits;)V" } : Jvm.MethodName) prog_9_method_1_code (2 : Nat) (Option.none : Option Jvm.ClassFile.FieldType)) ∈ wsG := wsG_mem (List.mem_append_right _ (tm1 (List.mem_of_getElem? (i := 176) rfl))) rfl
theorem w_175 : (Jvm.Cond.instanceMethod ({ cls := "LeavesOfMud$Slides", name := "<init>", desc := "(LLeavesOfMud$Pits;)V" } : Jvm.MethodName)) ∈ wsG := wsG_mem (List.mem_append_right _ (tm1 (List.mem_of_getElem? (i := 175) rfl))) rfl
theorem dX8_init_102 : decode cX8_init 102 = .ok (.putfield 59, 3) := by decide +kernel
theorem dX8_init_105 : decode cX8_init 105 = .ok (.aload_n 0, 1) := by decide +kernel
theorem dX8_init_106 : decode cX8_init 106 = .ok (.new 63, 3) := by decide +kernel
theorem w_182 : (Jvm.Cond.classLink "LeavesOfMud" (63 : Nat) "LeavesOfMud$Pairing") ∈ wsG := wsG_mem (List.mem_append_right _ (tm1 (List.mem_of_getElem? (i := 182) rfl))) rfl
theorem w_183 : (Jvm.Cond.instantiable "LeavesOfMud$Pairing" (20 : Nat)) ∈ wsG := wsG_mem (List.mem_append_right _ (tm1 (List.mem_of_getElem? (i := 183) rfl))) rfl
theorem dX8_init_109 : decode cX8_init 109 = .ok (.dup, 1) := by decide +kernel
theorem dX8_init_110 : decode cX8_init 110 = .ok (.aload_n 0, 1) := by decide +kernel
theorem dX8_init_111 : decode cX8_init 111 = .ok (.getfield 10, 3) := by decide +kernel
theorem dX8_init_114 : decode cX8_init 114 = .ok (.aload_n 0, 1) := by decide +kernel
theorem dX8_init_115 : decode cX8_init 115 = .ok (.getfield 52, 3) := by decide +kernel
theorem dX8_init_118 : decode cX8_init 118 = .ok (.invokespecial 65, 3) := by decide +kernel
theorem wn_33 : (Jvm.Cond.methodLinkNest "LeavesOfMud" (65 : Nat) ({ cls := "LeavesOfMud$Pairing", name := "<init>", desc := "(LLeavesOfMud$Pits;LLeavesOfMud$Laws;)V" } : Jvm.MethodName) "LeavesOfMud") ∈ nestW := List.mem_of_getElem? (i := 33) rfl
theorem w_186 : (Jvm.Cond.code ({ cls := "LeavesOfMud$Pairing", name := "<init>", desc := "(LLeavesOfMud$Pits;LLeavesOfMud$Laws;)V" } : Jvm.MethodName) prog_7_method_1_code (3 : Nat) (Option.none : Option Jvm.ClassFile.FieldType)) ∈ wsG := wsG_mem (List.mem_append_right _ (tm1 (List.mem_of_getElem? (i := 186) rfl))) rfl
theorem w_185 : (Jvm.Cond.instanceMethod ({ cls := "LeavesOfMud$Pairing", name := "<init>", desc := "(LLeavesOfMud$Pits;LLeavesOfMud$Laws;)V" } : Jvm.MethodName)) ∈ wsG := wsG_mem (List.mem_append_right _ (tm1 (List.mem_of_getElem? (i := 185) rfl))) rfl
theorem dX8_init_121 : decode cX8_init 121 = .ok (.putfield 68, 3) := by decide +kernel
theorem dX8_init_124 : decode cX8_init 124 = .ok (.aload_n 0, 1) := by decide +kernel
theorem dX8_init_125 : decode cX8_init 125 = .ok (.new 72, 3) := by decide +kernel
theorem w_252 : (Jvm.Cond.classLink "LeavesOfMud" (72 : Nat) "LeavesOfMud$Net") ∈ wsG := wsG_mem (List.mem_append_right _ (tm2 (List.mem_of_getElem? (i := 12) rfl))) rfl
theorem w_253 : (Jvm.Cond.instantiable "LeavesOfMud$Net" (15 : Nat)) ∈ wsG := wsG_mem (List.mem_append_right _ (tm2 (List.mem_of_getElem? (i := 13) rfl))) rfl
theorem dX8_init_128 : decode cX8_init 128 = .ok (.dup, 1) := by decide +kernel
theorem dX8_init_129 : decode cX8_init 129 = .ok (.aload_n 0, 1) := by decide +kernel
theorem dX8_init_130 : decode cX8_init 130 = .ok (.getfield 10, 3) := by decide +kernel
theorem dX8_init_133 : decode cX8_init 133 = .ok (.aload_n 0, 1) := by decide +kernel
theorem dX8_init_134 : decode cX8_init 134 = .ok (.getfield 45, 3) := by decide +kernel
theorem dX8_init_137 : decode cX8_init 137 = .ok (.aload_n 0, 1) := by decide +kernel
theorem dX8_init_138 : decode cX8_init 138 = .ok (.getfield 19, 3) := by decide +kernel
theorem dX8_init_141 : decode cX8_init 141 = .ok (.invokespecial 74, 3) := by decide +kernel
theorem wn_37 : (Jvm.Cond.methodLinkNest "LeavesOfMud" (74 : Nat) ({ cls := "LeavesOfMud$Net", name := "<init>", desc := "(LLeavesOfMud$Pits;LLeavesOfMud$Hands;LLeavesOfMud$Bonds;)V" } : Jvm.MethodName) "LeavesOfMud") ∈ nestW := List.mem_of_getElem? (i := 37) rfl
theorem w_256 : (Jvm.Cond.code ({ cls := "LeavesOfMud$Net", name := "<init>", desc := "(LLeavesOfMud$Pits;LLeavesOfMud$Hands;LLeavesOfMud$Bonds;)V" } : Jvm.MethodName) prog_5_method_1_code (4 : Nat) (Option.none : Option Jvm.ClassFile.FieldType)) ∈ wsG := wsG_mem (List.mem_append_right _ (tm2 (List.mem_of_getElem? (i := 16) rfl))) rfl
theorem w_255 : (Jvm.Cond.instanceMethod ({ cls := "LeavesOfMud$Net", name := "<init>", desc := "(LLeavesOfMud$Pits;LLeavesOfMud$Hands;LLeavesOfMud$Bonds;)V" } : Jvm.MethodName)) ∈ wsG := wsG_mem (List.mem_append_right _ (tm2 (List.mem_of_getElem? (i := 15) rfl))) rfl
theorem dX8_init_144 : decode cX8_init 144 = .ok (.putfield 77, 3) := by decide +kernel
theorem dX8_init_147 : decode cX8_init 147 = .ok (.aload_n 0, 1) := by decide +kernel
theorem dX8_init_148 : decode cX8_init 148 = .ok (.iconst 0, 1) := by decide +kernel
theorem dX8_init_149 : decode cX8_init 149 = .ok (.putfield 81, 3) := by decide +kernel
theorem dX8_init_152 : decode cX8_init 152 = .ok (.aload_n 0, 1) := by decide +kernel
theorem dX8_init_153 : decode cX8_init 153 = .ok (.iconst 0, 1) := by decide +kernel
theorem dX8_init_154 : decode cX8_init 154 = .ok (.putfield 85, 3) := by decide +kernel
theorem dX8_init_157 : decode cX8_init 157 = .ok (.return_, 1) := by decide +kernel
def o_X1 (cI cZ cJ : ClassId) (h : Nat) (a1 : Nat) (z : Nat → Nat) : va_W := (h, .inr (1, [.ref a1, .int (0), .ref (z 0)])) :: [((z 0), .inl (cI, 35, .inl (flF 35)))]
def Y_X1_init : Pk := (yX1_init, cX1_init, 2, none, 0)
set_option maxRecDepth 20000 in
theorem n_X1 (l : Launch) (D : va_G) (cI cZ cJ : ClassId) (h : Nat) (a1 : Nat) : NMet l Y_X1_init D cI cZ cJ 4 300 1 35 h [.ref a1] (.inr (1, [.null, .int 0, .null])) (fun z : Nat → Nat => o_X1 cI cZ cJ h a1 z) := by
  refine nmet_of (by decide +kernel) rfl (Nat.le_of_ble_eq_true rfl) rfl ?_
  intro p e s m args below meth c Z A ls C hini hsz hl hret
  refine cs_ald C dX1_init_0 (i := 0) rfl (lv_at hl 0 rfl) ?_
  refine cs_obj C hsz w_143 w_26 w_27 dX1_init_1 (Nat.le_of_ble_eq_true rfl) (Nat.le_of_ble_eq_true rfl) ?_
  refine cs_cast (ws' := (h, .inr (1, [.null, .int 0, .null])) :: []) (cells' := 0) (slots' := 0) (pc' := 4) rfl rfl rfl rfl ?_
  refine cs_ald C dX1_init_4 (i := 0) rfl (lv_at hl 0 rfl) ?_
  refine cs_ic C (v := 0) dX1_init_5 (by decide) ?_
  refine cs_put C (Cn := RX1) (T := TX1) (N := 3) (ci := 1) (ty0 := tyX1) inW1 tyX1_ok nmX1 rfl 1 (by decide) w_148 rfl rfl rfl rfl (Nat.le_of_ble_eq_true rfl) dX1_init_6 ?_
  refine cs_cast (ws' := (h, .inr (1, [.null, .int (0), .null])) :: []) (cells' := 0) (slots' := 0) (pc' := 9) rfl rfl rfl rfl ?_
  refine cs_ald C dX1_init_9 (i := 0) rfl (lv_at hl 0 rfl) ?_
  refine cs_bi C (v := 35) dX1_init_10 (by decide) ?_
  refine cs_na C (N := 35) (by decide) (by decide) (by decide) (Nat.le_of_ble_eq_true rfl) (Nat.le_of_ble_eq_true rfl) dX1_init_12 (fun q0 => ?_)
  refine cs_cast (ws' := (h, .inr (1, [.null, .int (0), .null])) :: [(q0, .inl (cI, 35, .inl (fun _ => 0)))]) (cells' := 1) (slots' := 35) (pc' := 14) rfl rfl rfl rfl ?_
  refine cs_putF C hini (T := TX1) (N := 3) (ci := 1) (ty0 := tyX1) inW1 tyX1_ok nmX1 rfl 2 (by decide) w_150 rfl rfl rfl rfl (Nat.le_of_ble_eq_true rfl) dX1_init_14 ?_
  refine cs_cast (ws' := (h, .inr (1, [.null, .int (0), .ref q0])) :: [(q0, .inl (cI, 35, .inl (fun _ => 0)))]) (cells' := 1) (slots' := 35) (pc' := 17) rfl rfl rfl rfl ?_
  refine cs_ald C dX1_init_17 (i := 0) rfl (lv_at hl 0 rfl) ?_
  refine cs_ald C dX1_init_18 (i := 1) rfl (lv_at hl 1 rfl) ?_
  refine cs_putF C hini (T := TX1) (N := 3) (ci := 1) (ty0 := tyX1) inW1 tyX1_ok nmX1 rfl 0 (by decide) w_147 rfl rfl rfl rfl (Nat.le_of_ble_eq_true rfl) dX1_init_19 ?_
  refine cs_cast (ws' := (h, .inr (1, [.ref a1, .int (0), .ref q0])) :: [(q0, .inl (cI, 35, .inl (fun _ => 0)))]) (cells' := 1) (slots' := 35) (pc' := 22) rfl rfl rfl rfl ?_
  refine cs_ald C dX1_init_22 (i := 0) rfl (lv_at hl 0 rfl) ?_
  refine cs_get C (T := TX1) (N := 3) (ci := 1) inW1 rfl 2 (by decide) w_150 rfl (v := .ref q0) rfl dX1_init_23 ?_
  refine cs_ic C (v := -1) dX1_init_26 (by decide) ?_
  refine cs_cast (ws' := [(h, .inr (1, [.ref a1, .int (0), .ref q0]))] ++ [(q0, .inl (cI, 35, .inl (fun _ => 0)))]) (cells' := 1) (slots' := 35) (pc' := 27) rfl rfl rfl rfl ?_
  refine cs_fill C hsz.symm w_144 w_145 (Nat.le_of_ble_eq_true rfl) (Nat.le_of_ble_eq_true rfl) (Nat.le_of_ble_eq_true rfl) (Nat.le_of_ble_eq_true rfl) (Nat.le_of_ble_eq_true rfl) dX1_init_27 ?_
  refine cs_cast (ws' := (h, .inr (1, [.ref a1, .int (0), .ref q0])) :: [(q0, .inl (cI, 35, .inl (flF 35)))]) (cells' := 1) (slots' := 35) (pc' := 30) rfl rfl rfl rfl ?_
  refine cs_cast (ws' := o_X1 cI cZ cJ h a1 (fun j => [q0].getD j 0)) (cells' := 1) (slots' := 35) (pc' := 30) rfl rfl rfl rfl ?_
  exact hret 30 _ dX1_init_30
theorem pdX6 : (parseMethodDescriptor (yN Y_X6_init).desc).map (fun d => d.parameters.length) = some 0 := by decide +kernel
theorem pdX0 : (parseMethodDescriptor (yN Y_X0_init).desc).map (fun d => d.parameters.length) = some 0 := by decide +kernel
theorem pdX4 : (parseMethodDescriptor (yN Y_X4_init).desc).map (fun d => d.parameters.length) = some 0 := by decide +kernel
theorem pdX2 : (parseMethodDescriptor (yN Y_X2_init).desc).map (fun d => d.parameters.length) = some 0 := by decide +kernel
theorem pdX7 : (parseMethodDescriptor (yN Y_X7_init).desc).map (fun d => d.parameters.length) = some 1 := by decide +kernel
theorem pdX5 : (parseMethodDescriptor (yN Y_X5_init).desc).map (fun d => d.parameters.length) = some 2 := by decide +kernel
theorem pdX3 : (parseMethodDescriptor (yN Y_X3_init).desc).map (fun d => d.parameters.length) = some 3 := by decide +kernel
theorem pdX1 : (parseMethodDescriptor (yN Y_X1_init).desc).map (fun d => d.parameters.length) = some 1 := by decide +kernel
def o_X8 (cI cZ cJ : ClassId) (h : Nat)  (z : (Nat → Nat) × (Nat → Nat → Nat) × (Nat → Nat)) : va_W := (h, .inr (8, [.ref (z.1 0), .ref (z.1 1), .ref (z.1 2), .ref (z.1 3), .int (0), .ref (z.1 4), .ref (z.1 5), .ref (z.1 6), .ref (z.1 7), .ref (z.1 8), .ref (z.1 9), .int (0), .int (0)])) :: (((((((((([] ++ o_X6 cI cZ cJ (z.1 0)  (z.2.1 0)) ++ o_X0 cI cZ cJ (z.1 1)  (z.2.1 1)) ++ o_X6 cI cZ cJ (z.1 2)  (z.2.1 2)) ++ o_X0 cI cZ cJ (z.1 3)  (z.2.1 3)) ++ o_X4 cI cZ cJ (z.1 4)  (z.2.1 4)) ++ o_X1 cI cZ cJ (z.1 5) (z.1 0) (z.2.1 5)) ++ o_X2 cI cZ cJ (z.1 6)  (z.2.1 6)) ++ o_X7 cI cZ cJ (z.1 7) (z.1 0) (z.2.1 7)) ++ o_X5 cI cZ cJ (z.1 8) (z.1 0) (z.1 6) (z.2.1 8)) ++ o_X3 cI cZ cJ (z.1 9) (z.1 0) (z.1 5) (z.1 1) (z.2.1 9, z.2.2))
def Y_X8_init : Pk := (yX8_init, cX8_init, 1, none, 0)
set_option maxRecDepth 20000 in
theorem n_X8 (l : Launch) (D : va_G) (cI cZ cJ : ClassId) (h : Nat)  : NMet l Y_X8_init D cI cZ cJ 6 600 66 2836 h [] (.inr (8, [.null, .null, .null, .null, .int 0, .null, .null, .null, .null, .null, .null, .int 0, .int 0])) (fun z : (Nat → Nat) × (Nat → Nat → Nat) × (Nat → Nat) => o_X8 cI cZ cJ h  z) := by
  refine nmet_of (by decide +kernel) rfl (Nat.le_of_ble_eq_true rfl) rfl ?_
  intro p e s m args below meth c Z A ls C hini hsz hl hret
  refine cs_ald C dX8_init_0 (i := 0) rfl (lv_at hl 0 rfl) ?_
  refine cs_obj C hsz w_25 w_26 w_27 dX8_init_1 (Nat.le_of_ble_eq_true rfl) (Nat.le_of_ble_eq_true rfl) ?_
  refine cs_cast (ws' := (h, .inr (8, [.null, .null, .null, .null, .int 0, .null, .null, .null, .null, .null, .null, .int 0, .int 0])) :: []) (cells' := 0) (slots' := 0) (pc' := 4) rfl rfl rfl rfl ?_
  refine cs_ald C dX8_init_4 (i := 0) rfl (lv_at hl 0 rfl) ?_
  refine cs_new C (Cn := RX6) (T := TX6) (N := 6) (ci := 6) (ty0 := tyX6) inW6 tyX6_ok rfl w_28 w_29 w_2 (fs := [.int 0, .null, .null, .null, .null, .null]) dfX6 (Nat.le_of_ble_eq_true rfl) (Nat.le_of_ble_eq_true rfl) dX8_init_5 (fun b0 => ?_)
  refine cs_cast (ws' := (h, .inr (8, [.null, .null, .null, .null, .int 0, .null, .null, .null, .null, .null, .null, .int 0, .int 0])) :: ([] ++ [(b0, .inr (6, [.int 0, .null, .null, .null, .null, .null]))])) (cells' := 1) (slots' := 6) (pc' := 8) rfl rfl rfl rfl ?_
  refine cs_dup C dX8_init_8 ?_
  refine cs_cast (ws' := ((h, .inr (8, [.null, .null, .null, .null, .int 0, .null, .null, .null, .null, .null, .null, .int 0, .int 0])) :: []) ++ [(b0, .inr (6, [.int 0, .null, .null, .null, .null, .null]))]) (cells' := 1) (slots' := 6) (pc' := 9) rfl rfl rfl rfl ?_
  refine cs_call (na := 0) C hsz.symm (n_X6 l D cI cZ cJ b0 ) rfl rfl w_32 w_2 ⟨by decide +kernel, by decide +kernel⟩ w_31 (Or.inr ⟨_, wn_0⟩) pdX6 (Nat.le_of_ble_eq_true rfl) (Nat.le_of_ble_eq_true rfl) (Nat.le_of_ble_eq_true rfl) (Nat.le_of_ble_eq_true rfl) (Nat.le_of_ble_eq_true rfl) dX8_init_9 rfl (fun u0 => ?_)
  refine cs_cast (ws' := (h, .inr (8, [.null, .null, .null, .null, .int 0, .null, .null, .null, .null, .null, .null, .int 0, .int 0])) :: ([] ++ o_X6 cI cZ cJ b0  u0)) (cells' := 6) (slots' := 356) (pc' := 12) rfl rfl rfl rfl ?_
  refine cs_putF C hini (T := TX8) (N := 13) (ci := 8) (ty0 := tyX8) inW8 tyX8_ok nmX8 rfl 0 (by decide) w_309 rfl rfl rfl rfl (Nat.le_of_ble_eq_true rfl) dX8_init_12 ?_
  refine cs_cast (ws' := (h, .inr (8, [.ref b0, .null, .null, .null, .int 0, .null, .null, .null, .null, .null, .null, .int 0, .int 0])) :: ([] ++ o_X6 cI cZ cJ b0  u0)) (cells' := 6) (slots' := 356) (pc' := 15) rfl rfl rfl rfl ?_
  refine cs_ald C dX8_init_15 (i := 0) rfl (lv_at hl 0 rfl) ?_
  refine cs_new C (Cn := RX0) (T := TX0) (N := 11) (ci := 0) (ty0 := tyX0) inW0 tyX0_ok rfl w_62 w_63 w_3 (fs := [.int 0, .null, .null, .null, .null, .null, .int 0, .int 0, .null, .null, .int 0]) dfX0 (Nat.le_of_ble_eq_true rfl) (Nat.le_of_ble_eq_true rfl) dX8_init_16 (fun b1 => ?_)
  refine cs_cast (ws' := (h, .inr (8, [.ref b0, .null, .null, .null, .int 0, .null, .null, .null, .null, .null, .null, .int 0, .int 0])) :: (([] ++ o_X6 cI cZ cJ b0  u0) ++ [(b1, .inr (0, [.int 0, .null, .null, .null, .null, .null, .int 0, .int 0, .null, .null, .int 0]))])) (cells' := 7) (slots' := 367) (pc' := 19) rfl rfl rfl rfl ?_
  refine cs_dup C dX8_init_19 ?_
  refine cs_cast (ws' := ((h, .inr (8, [.ref b0, .null, .null, .null, .int 0, .null, .null, .null, .null, .null, .null, .int 0, .int 0])) :: ([] ++ o_X6 cI cZ cJ b0  u0)) ++ [(b1, .inr (0, [.int 0, .null, .null, .null, .null, .null, .int 0, .int 0, .null, .null, .int 0]))]) (cells' := 7) (slots' := 367) (pc' := 20) rfl rfl rfl rfl ?_
  refine cs_call (na := 0) C hsz.symm (n_X0 l D cI cZ cJ b1 ) rfl rfl w_66 w_3 ⟨by decide +kernel, by decide +kernel⟩ w_65 (Or.inr ⟨_, wn_9⟩) pdX0 (Nat.le_of_ble_eq_true rfl) (Nat.le_of_ble_eq_true rfl) (Nat.le_of_ble_eq_true rfl) (Nat.le_of_ble_eq_true rfl) (Nat.le_of_ble_eq_true rfl) dX8_init_20 rfl (fun u1 => ?_)
  refine cs_cast (ws' := (h, .inr (8, [.ref b0, .null, .null, .null, .int 0, .null, .null, .null, .null, .null, .null, .int 0, .int 0])) :: (([] ++ o_X6 cI cZ cJ b0  u0) ++ o_X0 cI cZ cJ b1  u1)) (cells' := 14) (slots' := 441) (pc' := 23) rfl rfl rfl rfl ?_
  refine cs_putF C hini (T := TX8) (N := 13) (ci := 8) (ty0 := tyX8) inW8 tyX8_ok nmX8 rfl 1 (by decide) w_310 rfl rfl rfl rfl (Nat.le_of_ble_eq_true rfl) dX8_init_23 ?_
  refine cs_cast (ws' := (h, .inr (8, [.ref b0, .ref b1, .null, .null, .int 0, .null, .null, .null, .null, .null, .null, .int 0, .int 0])) :: (([] ++ o_X6 cI cZ cJ b0  u0) ++ o_X0 cI cZ cJ b1  u1)) (cells' := 14) (slots' := 441) (pc' := 26) rfl rfl rfl rfl ?_
  refine cs_ald C dX8_init_26 (i := 0) rfl (lv_at hl 0 rfl) ?_
  refine cs_new C (Cn := RX6) (T := TX6) (N := 6) (ci := 6) (ty0 := tyX6) inW6 tyX6_ok rfl w_28 w_29 w_2 (fs := [.int 0, .null, .null, .null, .null, .null]) dfX6 (Nat.le_of_ble_eq_true rfl) (Nat.le_of_ble_eq_true rfl) dX8_init_27 (fun b2 => ?_)
  refine cs_cast (ws' := (h, .inr (8, [.ref b0, .ref b1, .null, .null, .int 0, .null, .null, .null, .null, .null, .null, .int 0, .int 0])) :: ((([] ++ o_X6 cI cZ cJ b0  u0) ++ o_X0 cI cZ cJ b1  u1) ++ [(b2, .inr (6, [.int 0, .null, .null, .null, .null, .null]))])) (cells' := 15) (slots' := 447) (pc' := 30) rfl rfl rfl rfl ?_
  refine cs_dup C dX8_init_30 ?_
  refine cs_cast (ws' := ((h, .inr (8, [.ref b0, .ref b1, .null, .null, .int 0, .null, .null, .null, .null, .null, .null, .int 0, .int 0])) :: (([] ++ o_X6 cI cZ cJ b0  u0) ++ o_X0 cI cZ cJ b1  u1)) ++ [(b2, .inr (6, [.int 0, .null, .null, .null, .null, .null]))]) (cells' := 15) (slots' := 447) (pc' := 31) rfl rfl rfl rfl ?_
  refine cs_call (na := 0) C hsz.symm (n_X6 l D cI cZ cJ b2 ) rfl rfl w_32 w_2 ⟨by decide +kernel, by decide +kernel⟩ w_31 (Or.inr ⟨_, wn_0⟩) pdX6 (Nat.le_of_ble_eq_true rfl) (Nat.le_of_ble_eq_true rfl) (Nat.le_of_ble_eq_true rfl) (Nat.le_of_ble_eq_true rfl) (Nat.le_of_ble_eq_true rfl) dX8_init_31 rfl (fun u2 => ?_)
  refine cs_cast (ws' := (h, .inr (8, [.ref b0, .ref b1, .null, .null, .int 0, .null, .null, .null, .null, .null, .null, .int 0, .int 0])) :: ((([] ++ o_X6 cI cZ cJ b0  u0) ++ o_X0 cI cZ cJ b1  u1) ++ o_X6 cI cZ cJ b2  u2)) (cells' := 20) (slots' := 797) (pc' := 34) rfl rfl rfl rfl ?_
  refine cs_putF C hini (T := TX8) (N := 13) (ci := 8) (ty0 := tyX8) inW8 tyX8_ok nmX8 rfl 2 (by decide) w_311 rfl rfl rfl rfl (Nat.le_of_ble_eq_true rfl) dX8_init_34 ?_
  refine cs_cast (ws' := (h, .inr (8, [.ref b0, .ref b1, .ref b2, .null, .int 0, .null, .null, .null, .null, .null, .null, .int 0, .int 0])) :: ((([] ++ o_X6 cI cZ cJ b0  u0) ++ o_X0 cI cZ cJ b1  u1) ++ o_X6 cI cZ cJ b2  u2)) (cells' := 20) (slots' := 797) (pc' := 37) rfl rfl rfl rfl ?_
  refine cs_ald C dX8_init_37 (i := 0) rfl (lv_at hl 0 rfl) ?_
  refine cs_new C (Cn := RX0) (T := TX0) (N := 11) (ci := 0) (ty0 := tyX0) inW0 tyX0_ok rfl w_62 w_63 w_3 (fs := [.int 0, .null, .null, .null, .null, .null, .int 0, .int 0, .null, .null, .int 0]) dfX0 (Nat.le_of_ble_eq_true rfl) (Nat.le_of_ble_eq_true rfl) dX8_init_38 (fun b3 => ?_)
  refine cs_cast (ws' := (h, .inr (8, [.ref b0, .ref b1, .ref b2, .null, .int 0, .null, .null, .null, .null, .null, .null, .int 0, .int 0])) :: (((([] ++ o_X6 cI cZ cJ b0  u0) ++ o_X0 cI cZ cJ b1  u1) ++ o_X6 cI cZ cJ b2  u2) ++ [(b3, .inr (0, [.int 0, .null, .null, .null, .null, .null, .int 0, .int 0, .null, .null, .int 0]))])) (cells' := 21) (slots' := 808) (pc' := 41) rfl rfl rfl rfl ?_
  refine cs_dup C dX8_init_41 ?_
  refine cs_cast (ws' := ((h, .inr (8, [.ref b0, .ref b1, .ref b2, .null, .int 0, .null, .null, .null, .null, .null, .null, .int 0, .int 0])) :: ((([] ++ o_X6 cI cZ cJ b0  u0) ++ o_X0 cI cZ cJ b1  u1) ++ o_X6 cI cZ cJ b2  u2)) ++ [(b3, .inr (0, [.int 0, .null, .null, .null, .null, .null, .int 0, .int 0, .null, .null, .int 0]))]) (cells' := 21) (slots' := 808) (pc' := 42) rfl rfl rfl rfl ?_
  refine cs_call (na := 0) C hsz.symm (n_X0 l D cI cZ cJ b3 ) rfl rfl w_66 w_3 ⟨by decide +kernel, by decide +kernel⟩ w_65 (Or.inr ⟨_, wn_9⟩) pdX0 (Nat.le_of_ble_eq_true rfl) (Nat.le_of_ble_eq_true rfl) (Nat.le_of_ble_eq_true rfl) (Nat.le_of_ble_eq_true rfl) (Nat.le_of_ble_eq_true rfl) dX8_init_42 rfl (fun u3 => ?_)
  refine cs_cast (ws' := (h, .inr (8, [.ref b0, .ref b1, .ref b2, .null, .int 0, .null, .null, .null, .null, .null, .null, .int 0, .int 0])) :: (((([] ++ o_X6 cI cZ cJ b0  u0) ++ o_X0 cI cZ cJ b1  u1) ++ o_X6 cI cZ cJ b2  u2) ++ o_X0 cI cZ cJ b3  u3)) (cells' := 28) (slots' := 882) (pc' := 45) rfl rfl rfl rfl ?_
  refine cs_putF C hini (T := TX8) (N := 13) (ci := 8) (ty0 := tyX8) inW8 tyX8_ok nmX8 rfl 3 (by decide) w_312 rfl rfl rfl rfl (Nat.le_of_ble_eq_true rfl) dX8_init_45 ?_
  refine cs_cast (ws' := (h, .inr (8, [.ref b0, .ref b1, .ref b2, .ref b3, .int 0, .null, .null, .null, .null, .null, .null, .int 0, .int 0])) :: (((([] ++ o_X6 cI cZ cJ b0  u0) ++ o_X0 cI cZ cJ b1  u1) ++ o_X6 cI cZ cJ b2  u2) ++ o_X0 cI cZ cJ b3  u3)) (cells' := 28) (slots' := 882) (pc' := 48) rfl rfl rfl rfl ?_
  refine cs_ald C dX8_init_48 (i := 0) rfl (lv_at hl 0 rfl) ?_
  refine cs_ic C (v := 0) dX8_init_49 (by decide) ?_
  refine cs_put C (Cn := RX8) (T := TX8) (N := 13) (ci := 8) (ty0 := tyX8) inW8 tyX8_ok nmX8 rfl 4 (by decide) w_313 rfl rfl rfl rfl (Nat.le_of_ble_eq_true rfl) dX8_init_50 ?_
  refine cs_cast (ws' := (h, .inr (8, [.ref b0, .ref b1, .ref b2, .ref b3, .int (0), .null, .null, .null, .null, .null, .null, .int 0, .int 0])) :: (((([] ++ o_X6 cI cZ cJ b0  u0) ++ o_X0 cI cZ cJ b1  u1) ++ o_X6 cI cZ cJ b2  u2) ++ o_X0 cI cZ cJ b3  u3)) (cells' := 28) (slots' := 882) (pc' := 53) rfl rfl rfl rfl ?_
  refine cs_ald C dX8_init_53 (i := 0) rfl (lv_at hl 0 rfl) ?_
  refine cs_new C (Cn := RX4) (T := TX4) (N := 4) (ci := 4) (ty0 := tyX4) inW4 tyX4_ok rfl w_115 w_116 w_4 (fs := [.int 0, .null, .int 0, .null]) dfX4 (Nat.le_of_ble_eq_true rfl) (Nat.le_of_ble_eq_true rfl) dX8_init_54 (fun b4 => ?_)
  refine cs_cast (ws' := (h, .inr (8, [.ref b0, .ref b1, .ref b2, .ref b3, .int (0), .null, .null, .null, .null, .null, .null, .int 0, .int 0])) :: ((((([] ++ o_X6 cI cZ cJ b0  u0) ++ o_X0 cI cZ cJ b1  u1) ++ o_X6 cI cZ cJ b2  u2) ++ o_X0 cI cZ cJ b3  u3) ++ [(b4, .inr (4, [.int 0, .null, .int 0, .null]))])) (cells' := 29) (slots' := 886) (pc' := 57) rfl rfl rfl rfl ?_
  refine cs_dup C dX8_init_57 ?_
  refine cs_cast (ws' := ((h, .inr (8, [.ref b0, .ref b1, .ref b2, .ref b3, .int (0), .null, .null, .null, .null, .null, .null, .int 0, .int 0])) :: (((([] ++ o_X6 cI cZ cJ b0  u0) ++ o_X0 cI cZ cJ b1  u1) ++ o_X6 cI cZ cJ b2  u2) ++ o_X0 cI cZ cJ b3  u3)) ++ [(b4, .inr (4, [.int 0, .null, .int 0, .null]))]) (cells' := 29) (slots' := 886) (pc' := 58) rfl rfl rfl rfl ?_
  refine cs_call (na := 0) C hsz.symm (n_X4 l D cI cZ cJ b4 ) rfl rfl w_119 w_4 ⟨by decide +kernel, by decide +kernel⟩ w_118 (Or.inr ⟨_, wn_23⟩) pdX4 (Nat.le_of_ble_eq_true rfl) (Nat.le_of_ble_eq_true rfl) (Nat.le_of_ble_eq_true rfl) (Nat.le_of_ble_eq_true rfl) (Nat.le_of_ble_eq_true rfl) dX8_init_58 rfl (fun u4 => ?_)
  refine cs_cast (ws' := (h, .inr (8, [.ref b0, .ref b1, .ref b2, .ref b3, .int (0), .null, .null, .null, .null, .null, .null, .int 0, .int 0])) :: ((((([] ++ o_X6 cI cZ cJ b0  u0) ++ o_X0 cI cZ cJ b1  u1) ++ o_X6 cI cZ cJ b2  u2) ++ o_X0 cI cZ cJ b3  u3) ++ o_X4 cI cZ cJ b4  u4)) (cells' := 31) (slots' := 923) (pc' := 61) rfl rfl rfl rfl ?_
  refine cs_putF C hini (T := TX8) (N := 13) (ci := 8) (ty0 := tyX8) inW8 tyX8_ok nmX8 rfl 5 (by decide) w_314 rfl rfl rfl rfl (Nat.le_of_ble_eq_true rfl) dX8_init_61 ?_
  refine cs_cast (ws' := (h, .inr (8, [.ref b0, .ref b1, .ref b2, .ref b3, .int (0), .ref b4, .null, .null, .null, .null, .null, .int 0, .int 0])) :: ((((([] ++ o_X6 cI cZ cJ b0  u0) ++ o_X0 cI cZ cJ b1  u1) ++ o_X6 cI cZ cJ b2  u2) ++ o_X0 cI cZ cJ b3  u3) ++ o_X4 cI cZ cJ b4  u4)) (cells' := 31) (slots' := 923) (pc' := 64) rfl rfl rfl rfl ?_
  refine cs_ald C dX8_init_64 (i := 0) rfl (lv_at hl 0 rfl) ?_
  refine cs_new C (Cn := RX1) (T := TX1) (N := 3) (ci := 1) (ty0 := tyX1) inW1 tyX1_ok rfl w_138 w_139 w_5 (fs := [.null, .int 0, .null]) dfX1 (Nat.le_of_ble_eq_true rfl) (Nat.le_of_ble_eq_true rfl) dX8_init_65 (fun b5 => ?_)
  refine cs_cast (ws' := (h, .inr (8, [.ref b0, .ref b1, .ref b2, .ref b3, .int (0), .ref b4, .null, .null, .null, .null, .null, .int 0, .int 0])) :: (((((([] ++ o_X6 cI cZ cJ b0  u0) ++ o_X0 cI cZ cJ b1  u1) ++ o_X6 cI cZ cJ b2  u2) ++ o_X0 cI cZ cJ b3  u3) ++ o_X4 cI cZ cJ b4  u4) ++ [(b5, .inr (1, [.null, .int 0, .null]))])) (cells' := 32) (slots' := 926) (pc' := 68) rfl rfl rfl rfl ?_
  refine cs_dup C dX8_init_68 ?_
  refine cs_ald C dX8_init_69 (i := 0) rfl (lv_at hl 0 rfl) ?_
  refine cs_get C (T := TX8) (N := 13) (ci := 8) inW8 rfl 0 (by decide) w_309 rfl (v := .ref b0) rfl dX8_init_70 ?_
  refine cs_cast (ws' := ((h, .inr (8, [.ref b0, .ref b1, .ref b2, .ref b3, .int (0), .ref b4, .null, .null, .null, .null, .null, .int 0, .int 0])) :: ((((([] ++ o_X6 cI cZ cJ b0  u0) ++ o_X0 cI cZ cJ b1  u1) ++ o_X6 cI cZ cJ b2  u2) ++ o_X0 cI cZ cJ b3  u3) ++ o_X4 cI cZ cJ b4  u4)) ++ [(b5, .inr (1, [.null, .int 0, .null]))]) (cells' := 32) (slots' := 926) (pc' := 73) rfl rfl rfl rfl ?_
  refine cs_call (na := 0) C hsz.symm (n_X1 l D cI cZ cJ b5 b0) rfl rfl w_142 w_5 ⟨by decide +kernel, by decide +kernel⟩ w_141 (Or.inr ⟨_, wn_28⟩) pdX1 (Nat.le_of_ble_eq_true rfl) (Nat.le_of_ble_eq_true rfl) (Nat.le_of_ble_eq_true rfl) (Nat.le_of_ble_eq_true rfl) (Nat.le_of_ble_eq_true rfl) dX8_init_73 rfl (fun u5 => ?_)
  refine cs_cast (ws' := (h, .inr (8, [.ref b0, .ref b1, .ref b2, .ref b3, .int (0), .ref b4, .null, .null, .null, .null, .null, .int 0, .int 0])) :: (((((([] ++ o_X6 cI cZ cJ b0  u0) ++ o_X0 cI cZ cJ b1  u1) ++ o_X6 cI cZ cJ b2  u2) ++ o_X0 cI cZ cJ b3  u3) ++ o_X4 cI cZ cJ b4  u4) ++ o_X1 cI cZ cJ b5 b0 u5)) (cells' := 33) (slots' := 961) (pc' := 76) rfl rfl rfl rfl ?_
  refine cs_putF C hini (T := TX8) (N := 13) (ci := 8) (ty0 := tyX8) inW8 tyX8_ok nmX8 rfl 6 (by decide) w_315 rfl rfl rfl rfl (Nat.le_of_ble_eq_true rfl) dX8_init_76 ?_
  refine cs_cast (ws' := (h, .inr (8, [.ref b0, .ref b1, .ref b2, .ref b3, .int (0), .ref b4, .ref b5, .null, .null, .null, .null, .int 0, .int 0])) :: (((((([] ++ o_X6 cI cZ cJ b0  u0) ++ o_X0 cI cZ cJ b1  u1) ++ o_X6 cI cZ cJ b2  u2) ++ o_X0 cI cZ cJ b3  u3) ++ o_X4 cI cZ cJ b4  u4) ++ o_X1 cI cZ cJ b5 b0 u5)) (cells' := 33) (slots' := 961) (pc' := 79) rfl rfl rfl rfl ?_
  refine cs_ald C dX8_init_79 (i := 0) rfl (lv_at hl 0 rfl) ?_
  refine cs_new C (Cn := RX2) (T := TX2) (N := 2) (ci := 2) (ty0 := tyX2) inW2 tyX2_ok rfl w_158 w_159 w_7 (fs := [.int 0, .null]) dfX2 (Nat.le_of_ble_eq_true rfl) (Nat.le_of_ble_eq_true rfl) dX8_init_80 (fun b6 => ?_)
  refine cs_cast (ws' := (h, .inr (8, [.ref b0, .ref b1, .ref b2, .ref b3, .int (0), .ref b4, .ref b5, .null, .null, .null, .null, .int 0, .int 0])) :: ((((((([] ++ o_X6 cI cZ cJ b0  u0) ++ o_X0 cI cZ cJ b1  u1) ++ o_X6 cI cZ cJ b2  u2) ++ o_X0 cI cZ cJ b3  u3) ++ o_X4 cI cZ cJ b4  u4) ++ o_X1 cI cZ cJ b5 b0 u5) ++ [(b6, .inr (2, [.int 0, .null]))])) (cells' := 34) (slots' := 963) (pc' := 83) rfl rfl rfl rfl ?_
  refine cs_dup C dX8_init_83 ?_
  refine cs_cast (ws' := ((h, .inr (8, [.ref b0, .ref b1, .ref b2, .ref b3, .int (0), .ref b4, .ref b5, .null, .null, .null, .null, .int 0, .int 0])) :: (((((([] ++ o_X6 cI cZ cJ b0  u0) ++ o_X0 cI cZ cJ b1  u1) ++ o_X6 cI cZ cJ b2  u2) ++ o_X0 cI cZ cJ b3  u3) ++ o_X4 cI cZ cJ b4  u4) ++ o_X1 cI cZ cJ b5 b0 u5)) ++ [(b6, .inr (2, [.int 0, .null]))]) (cells' := 34) (slots' := 963) (pc' := 84) rfl rfl rfl rfl ?_
  refine cs_call (na := 0) C hsz.symm (n_X2 l D cI cZ cJ b6 ) rfl rfl w_162 w_7 ⟨by decide +kernel, by decide +kernel⟩ w_161 (Or.inr ⟨_, wn_30⟩) pdX2 (Nat.le_of_ble_eq_true rfl) (Nat.le_of_ble_eq_true rfl) (Nat.le_of_ble_eq_true rfl) (Nat.le_of_ble_eq_true rfl) (Nat.le_of_ble_eq_true rfl) dX8_init_84 rfl (fun u6 => ?_)
  refine cs_cast (ws' := (h, .inr (8, [.ref b0, .ref b1, .ref b2, .ref b3, .int (0), .ref b4, .ref b5, .null, .null, .null, .null, .int 0, .int 0])) :: ((((((([] ++ o_X6 cI cZ cJ b0  u0) ++ o_X0 cI cZ cJ b1  u1) ++ o_X6 cI cZ cJ b2  u2) ++ o_X0 cI cZ cJ b3  u3) ++ o_X4 cI cZ cJ b4  u4) ++ o_X1 cI cZ cJ b5 b0 u5) ++ o_X2 cI cZ cJ b6  u6)) (cells' := 35) (slots' := 979) (pc' := 87) rfl rfl rfl rfl ?_
  refine cs_putF C hini (T := TX8) (N := 13) (ci := 8) (ty0 := tyX8) inW8 tyX8_ok nmX8 rfl 7 (by decide) w_316 rfl rfl rfl rfl (Nat.le_of_ble_eq_true rfl) dX8_init_87 ?_
  refine cs_cast (ws' := (h, .inr (8, [.ref b0, .ref b1, .ref b2, .ref b3, .int (0), .ref b4, .ref b5, .ref b6, .null, .null, .null, .int 0, .int 0])) :: ((((((([] ++ o_X6 cI cZ cJ b0  u0) ++ o_X0 cI cZ cJ b1  u1) ++ o_X6 cI cZ cJ b2  u2) ++ o_X0 cI cZ cJ b3  u3) ++ o_X4 cI cZ cJ b4  u4) ++ o_X1 cI cZ cJ b5 b0 u5) ++ o_X2 cI cZ cJ b6  u6)) (cells' := 35) (slots' := 979) (pc' := 90) rfl rfl rfl rfl ?_
  refine cs_ald C dX8_init_90 (i := 0) rfl (lv_at hl 0 rfl) ?_
  refine cs_new C (Cn := RX7) (T := TX7) (N := 1) (ci := 7) (ty0 := tyX7) inW7 tyX7_ok rfl w_172 w_173 w_8 (fs := [.null]) dfX7 (Nat.le_of_ble_eq_true rfl) (Nat.le_of_ble_eq_true rfl) dX8_init_91 (fun b7 => ?_)
  refine cs_cast (ws' := (h, .inr (8, [.ref b0, .ref b1, .ref b2, .ref b3, .int (0), .ref b4, .ref b5, .ref b6, .null, .null, .null, .int 0, .int 0])) :: (((((((([] ++ o_X6 cI cZ cJ b0  u0) ++ o_X0 cI cZ cJ b1  u1) ++ o_X6 cI cZ cJ b2  u2) ++ o_X0 cI cZ cJ b3  u3) ++ o_X4 cI cZ cJ b4  u4) ++ o_X1 cI cZ cJ b5 b0 u5) ++ o_X2 cI cZ cJ b6  u6) ++ [(b7, .inr (7, [.null]))])) (cells' := 36) (slots' := 980) (pc' := 94) rfl rfl rfl rfl ?_
  refine cs_dup C dX8_init_94 ?_
  refine cs_ald C dX8_init_95 (i := 0) rfl (lv_at hl 0 rfl) ?_
  refine cs_get C (T := TX8) (N := 13) (ci := 8) inW8 rfl 0 (by decide) w_309 rfl (v := .ref b0) rfl dX8_init_96 ?_
  refine cs_cast (ws' := ((h, .inr (8, [.ref b0, .ref b1, .ref b2, .ref b3, .int (0), .ref b4, .ref b5, .ref b6, .null, .null, .null, .int 0, .int 0])) :: ((((((([] ++ o_X6 cI cZ cJ b0  u0) ++ o_X0 cI cZ cJ b1  u1) ++ o_X6 cI cZ cJ b2  u2) ++ o_X0 cI cZ cJ b3  u3) ++ o_X4 cI cZ cJ b4  u4) ++ o_X1 cI cZ cJ b5 b0 u5) ++ o_X2 cI cZ cJ b6  u6)) ++ [(b7, .inr (7, [.null]))]) (cells' := 36) (slots' := 980) (pc' := 99) rfl rfl rfl rfl ?_
  refine cs_call (na := 0) C hsz.symm (n_X7 l D cI cZ cJ b7 b0) rfl rfl w_176 w_8 ⟨by decide +kernel, by decide +kernel⟩ w_175 (Or.inr ⟨_, wn_32⟩) pdX7 (Nat.le_of_ble_eq_true rfl) (Nat.le_of_ble_eq_true rfl) (Nat.le_of_ble_eq_true rfl) (Nat.le_of_ble_eq_true rfl) (Nat.le_of_ble_eq_true rfl) dX8_init_99 rfl (fun u7 => ?_)
  refine cs_cast (ws' := (h, .inr (8, [.ref b0, .ref b1, .ref b2, .ref b3, .int (0), .ref b4, .ref b5, .ref b6, .null, .null, .null, .int 0, .int 0])) :: (((((((([] ++ o_X6 cI cZ cJ b0  u0) ++ o_X0 cI cZ cJ b1  u1) ++ o_X6 cI cZ cJ b2  u2) ++ o_X0 cI cZ cJ b3  u3) ++ o_X4 cI cZ cJ b4  u4) ++ o_X1 cI cZ cJ b5 b0 u5) ++ o_X2 cI cZ cJ b6  u6) ++ o_X7 cI cZ cJ b7 b0 u7)) (cells' := 36) (slots' := 980) (pc' := 102) rfl rfl rfl rfl ?_
  refine cs_putF C hini (T := TX8) (N := 13) (ci := 8) (ty0 := tyX8) inW8 tyX8_ok nmX8 rfl 8 (by decide) w_317 rfl rfl rfl rfl (Nat.le_of_ble_eq_true rfl) dX8_init_102 ?_
  refine cs_cast (ws' := (h, .inr (8, [.ref b0, .ref b1, .ref b2, .ref b3, .int (0), .ref b4, .ref b5, .ref b6, .ref b7, .null, .null, .int 0, .int 0])) :: (((((((([] ++ o_X6 cI cZ cJ b0  u0) ++ o_X0 cI cZ cJ b1  u1) ++ o_X6 cI cZ cJ b2  u2) ++ o_X0 cI cZ cJ b3  u3) ++ o_X4 cI cZ cJ b4  u4) ++ o_X1 cI cZ cJ b5 b0 u5) ++ o_X2 cI cZ cJ b6  u6) ++ o_X7 cI cZ cJ b7 b0 u7)) (cells' := 36) (slots' := 980) (pc' := 105) rfl rfl rfl rfl ?_
  refine cs_ald C dX8_init_105 (i := 0) rfl (lv_at hl 0 rfl) ?_
  refine cs_new C (Cn := RX5) (T := TX5) (N := 20) (ci := 5) (ty0 := tyX5) inW5 tyX5_ok rfl w_182 w_183 w_9 (fs := [.null, .null, .null, .null, .null, .null, .int 0, .int 0, .int 0, .int 0, .int 0, .int 0, .int 0, .int 0, .null, .null, .null, .int 0, .null, .null]) dfX5 (Nat.le_of_ble_eq_true rfl) (Nat.le_of_ble_eq_true rfl) dX8_init_106 (fun b8 => ?_)
  refine cs_cast (ws' := (h, .inr (8, [.ref b0, .ref b1, .ref b2, .ref b3, .int (0), .ref b4, .ref b5, .ref b6, .ref b7, .null, .null, .int 0, .int 0])) :: ((((((((([] ++ o_X6 cI cZ cJ b0  u0) ++ o_X0 cI cZ cJ b1  u1) ++ o_X6 cI cZ cJ b2  u2) ++ o_X0 cI cZ cJ b3  u3) ++ o_X4 cI cZ cJ b4  u4) ++ o_X1 cI cZ cJ b5 b0 u5) ++ o_X2 cI cZ cJ b6  u6) ++ o_X7 cI cZ cJ b7 b0 u7) ++ [(b8, .inr (5, [.null, .null, .null, .null, .null, .null, .int 0, .int 0, .int 0, .int 0, .int 0, .int 0, .int 0, .int 0, .null, .null, .null, .int 0, .null, .null]))])) (cells' := 37) (slots' := 1000) (pc' := 109) rfl rfl rfl rfl ?_
  refine cs_dup C dX8_init_109 ?_
  refine cs_ald C dX8_init_110 (i := 0) rfl (lv_at hl 0 rfl) ?_
  refine cs_get C (T := TX8) (N := 13) (ci := 8) inW8 rfl 0 (by decide) w_309 rfl (v := .ref b0) rfl dX8_init_111 ?_
  refine cs_ald C dX8_init_114 (i := 0) rfl (lv_at hl 0 rfl) ?_
  refine cs_get C (T := TX8) (N := 13) (ci := 8) inW8 rfl 7 (by decide) w_316 rfl (v := .ref b6) rfl dX8_init_115 ?_
  refine cs_cast (ws' := ((h, .inr (8, [.ref b0, .ref b1, .ref b2, .ref b3, .int (0), .ref b4, .ref b5, .ref b6, .ref b7, .null, .null, .int 0, .int 0])) :: (((((((([] ++ o_X6 cI cZ cJ b0  u0) ++ o_X0 cI cZ cJ b1  u1) ++ o_X6 cI cZ cJ b2  u2) ++ o_X0 cI cZ cJ b3  u3) ++ o_X4 cI cZ cJ b4  u4) ++ o_X1 cI cZ cJ b5 b0 u5) ++ o_X2 cI cZ cJ b6  u6) ++ o_X7 cI cZ cJ b7 b0 u7)) ++ [(b8, .inr (5, [.null, .null, .null, .null, .null, .null, .int 0, .int 0, .int 0, .int 0, .int 0, .int 0, .int 0, .int 0, .null, .null, .null, .int 0, .null, .null]))]) (cells' := 37) (slots' := 1000) (pc' := 118) rfl rfl rfl rfl ?_
  refine cs_call (na := 0) C hsz.symm (n_X5 l D cI cZ cJ b8 b0 b6) rfl rfl w_186 w_9 ⟨by decide +kernel, by decide +kernel⟩ w_185 (Or.inr ⟨_, wn_33⟩) pdX5 (Nat.le_of_ble_eq_true rfl) (Nat.le_of_ble_eq_true rfl) (Nat.le_of_ble_eq_true rfl) (Nat.le_of_ble_eq_true rfl) (Nat.le_of_ble_eq_true rfl) dX8_init_118 rfl (fun u8 => ?_)
  refine cs_cast (ws' := (h, .inr (8, [.ref b0, .ref b1, .ref b2, .ref b3, .int (0), .ref b4, .ref b5, .ref b6, .ref b7, .null, .null, .int 0, .int 0])) :: ((((((((([] ++ o_X6 cI cZ cJ b0  u0) ++ o_X0 cI cZ cJ b1  u1) ++ o_X6 cI cZ cJ b2  u2) ++ o_X0 cI cZ cJ b3  u3) ++ o_X4 cI cZ cJ b4  u4) ++ o_X1 cI cZ cJ b5 b0 u5) ++ o_X2 cI cZ cJ b6  u6) ++ o_X7 cI cZ cJ b7 b0 u7) ++ o_X5 cI cZ cJ b8 b0 b6 u8)) (cells' := 46) (slots' := 1706) (pc' := 121) rfl rfl rfl rfl ?_
  refine cs_putF C hini (T := TX8) (N := 13) (ci := 8) (ty0 := tyX8) inW8 tyX8_ok nmX8 rfl 9 (by decide) w_318 rfl rfl rfl rfl (Nat.le_of_ble_eq_true rfl) dX8_init_121 ?_
  refine cs_cast (ws' := (h, .inr (8, [.ref b0, .ref b1, .ref b2, .ref b3, .int (0), .ref b4, .ref b5, .ref b6, .ref b7, .ref b8, .null, .int 0, .int 0])) :: ((((((((([] ++ o_X6 cI cZ cJ b0  u0) ++ o_X0 cI cZ cJ b1  u1) ++ o_X6 cI cZ cJ b2  u2) ++ o_X0 cI cZ cJ b3  u3) ++ o_X4 cI cZ cJ b4  u4) ++ o_X1 cI cZ cJ b5 b0 u5) ++ o_X2 cI cZ cJ b6  u6) ++ o_X7 cI cZ cJ b7 b0 u7) ++ o_X5 cI cZ cJ b8 b0 b6 u8)) (cells' := 46) (slots' := 1706) (pc' := 124) rfl rfl rfl rfl ?_
  refine cs_ald C dX8_init_124 (i := 0) rfl (lv_at hl 0 rfl) ?_
  refine cs_new C (Cn := RX3) (T := TX3) (N := 15) (ci := 3) (ty0 := tyX3) inW3 tyX3_ok rfl w_252 w_253 w_10 (fs := [.null, .null, .null, .null, .null, .null, .null, .null, .null, .int 0, .int 0, .int 0, .int 0, .int 0, .int 0]) dfX3 (Nat.le_of_ble_eq_true rfl) (Nat.le_of_ble_eq_true rfl) dX8_init_125 (fun b9 => ?_)
  refine cs_cast (ws' := (h, .inr (8, [.ref b0, .ref b1, .ref b2, .ref b3, .int (0), .ref b4, .ref b5, .ref b6, .ref b7, .ref b8, .null, .int 0, .int 0])) :: (((((((((([] ++ o_X6 cI cZ cJ b0  u0) ++ o_X0 cI cZ cJ b1  u1) ++ o_X6 cI cZ cJ b2  u2) ++ o_X0 cI cZ cJ b3  u3) ++ o_X4 cI cZ cJ b4  u4) ++ o_X1 cI cZ cJ b5 b0 u5) ++ o_X2 cI cZ cJ b6  u6) ++ o_X7 cI cZ cJ b7 b0 u7) ++ o_X5 cI cZ cJ b8 b0 b6 u8) ++ [(b9, .inr (3, [.null, .null, .null, .null, .null, .null, .null, .null, .null, .int 0, .int 0, .int 0, .int 0, .int 0, .int 0]))])) (cells' := 47) (slots' := 1721) (pc' := 128) rfl rfl rfl rfl ?_
  refine cs_dup C dX8_init_128 ?_
  refine cs_ald C dX8_init_129 (i := 0) rfl (lv_at hl 0 rfl) ?_
  refine cs_get C (T := TX8) (N := 13) (ci := 8) inW8 rfl 0 (by decide) w_309 rfl (v := .ref b0) rfl dX8_init_130 ?_
  refine cs_ald C dX8_init_133 (i := 0) rfl (lv_at hl 0 rfl) ?_
  refine cs_get C (T := TX8) (N := 13) (ci := 8) inW8 rfl 6 (by decide) w_315 rfl (v := .ref b5) rfl dX8_init_134 ?_
  refine cs_ald C dX8_init_137 (i := 0) rfl (lv_at hl 0 rfl) ?_
  refine cs_get C (T := TX8) (N := 13) (ci := 8) inW8 rfl 1 (by decide) w_310 rfl (v := .ref b1) rfl dX8_init_138 ?_
  refine cs_cast (ws' := ((h, .inr (8, [.ref b0, .ref b1, .ref b2, .ref b3, .int (0), .ref b4, .ref b5, .ref b6, .ref b7, .ref b8, .null, .int 0, .int 0])) :: ((((((((([] ++ o_X6 cI cZ cJ b0  u0) ++ o_X0 cI cZ cJ b1  u1) ++ o_X6 cI cZ cJ b2  u2) ++ o_X0 cI cZ cJ b3  u3) ++ o_X4 cI cZ cJ b4  u4) ++ o_X1 cI cZ cJ b5 b0 u5) ++ o_X2 cI cZ cJ b6  u6) ++ o_X7 cI cZ cJ b7 b0 u7) ++ o_X5 cI cZ cJ b8 b0 b6 u8)) ++ [(b9, .inr (3, [.null, .null, .null, .null, .null, .null, .null, .null, .null, .int 0, .int 0, .int 0, .int 0, .int 0, .int 0]))]) (cells' := 47) (slots' := 1721) (pc' := 141) rfl rfl rfl rfl ?_
  refine cs_call (na := 0) C hsz.symm (n_X3 l D cI cZ cJ b9 b0 b5 b1) rfl rfl w_256 w_10 ⟨by decide +kernel, by decide +kernel⟩ w_255 (Or.inr ⟨_, wn_37⟩) pdX3 (Nat.le_of_ble_eq_true rfl) (Nat.le_of_ble_eq_true rfl) (Nat.le_of_ble_eq_true rfl) (Nat.le_of_ble_eq_true rfl) (Nat.le_of_ble_eq_true rfl) dX8_init_141 rfl (fun u9 => ?_)
  refine cs_cast (ws' := (h, .inr (8, [.ref b0, .ref b1, .ref b2, .ref b3, .int (0), .ref b4, .ref b5, .ref b6, .ref b7, .ref b8, .null, .int 0, .int 0])) :: (((((((((([] ++ o_X6 cI cZ cJ b0  u0) ++ o_X0 cI cZ cJ b1  u1) ++ o_X6 cI cZ cJ b2  u2) ++ o_X0 cI cZ cJ b3  u3) ++ o_X4 cI cZ cJ b4  u4) ++ o_X1 cI cZ cJ b5 b0 u5) ++ o_X2 cI cZ cJ b6  u6) ++ o_X7 cI cZ cJ b7 b0 u7) ++ o_X5 cI cZ cJ b8 b0 b6 u8) ++ o_X3 cI cZ cJ b9 b0 b5 b1 u9)) (cells' := 66) (slots' := 2836) (pc' := 144) rfl rfl rfl rfl ?_
  refine cs_putF C hini (T := TX8) (N := 13) (ci := 8) (ty0 := tyX8) inW8 tyX8_ok nmX8 rfl 10 (by decide) w_319 rfl rfl rfl rfl (Nat.le_of_ble_eq_true rfl) dX8_init_144 ?_
  refine cs_cast (ws' := (h, .inr (8, [.ref b0, .ref b1, .ref b2, .ref b3, .int (0), .ref b4, .ref b5, .ref b6, .ref b7, .ref b8, .ref b9, .int 0, .int 0])) :: (((((((((([] ++ o_X6 cI cZ cJ b0  u0) ++ o_X0 cI cZ cJ b1  u1) ++ o_X6 cI cZ cJ b2  u2) ++ o_X0 cI cZ cJ b3  u3) ++ o_X4 cI cZ cJ b4  u4) ++ o_X1 cI cZ cJ b5 b0 u5) ++ o_X2 cI cZ cJ b6  u6) ++ o_X7 cI cZ cJ b7 b0 u7) ++ o_X5 cI cZ cJ b8 b0 b6 u8) ++ o_X3 cI cZ cJ b9 b0 b5 b1 u9)) (cells' := 66) (slots' := 2836) (pc' := 147) rfl rfl rfl rfl ?_
  refine cs_ald C dX8_init_147 (i := 0) rfl (lv_at hl 0 rfl) ?_
  refine cs_ic C (v := 0) dX8_init_148 (by decide) ?_
  refine cs_put C (Cn := RX8) (T := TX8) (N := 13) (ci := 8) (ty0 := tyX8) inW8 tyX8_ok nmX8 rfl 11 (by decide) w_320 rfl rfl rfl rfl (Nat.le_of_ble_eq_true rfl) dX8_init_149 ?_
  refine cs_cast (ws' := (h, .inr (8, [.ref b0, .ref b1, .ref b2, .ref b3, .int (0), .ref b4, .ref b5, .ref b6, .ref b7, .ref b8, .ref b9, .int (0), .int 0])) :: (((((((((([] ++ o_X6 cI cZ cJ b0  u0) ++ o_X0 cI cZ cJ b1  u1) ++ o_X6 cI cZ cJ b2  u2) ++ o_X0 cI cZ cJ b3  u3) ++ o_X4 cI cZ cJ b4  u4) ++ o_X1 cI cZ cJ b5 b0 u5) ++ o_X2 cI cZ cJ b6  u6) ++ o_X7 cI cZ cJ b7 b0 u7) ++ o_X5 cI cZ cJ b8 b0 b6 u8) ++ o_X3 cI cZ cJ b9 b0 b5 b1 u9)) (cells' := 66) (slots' := 2836) (pc' := 152) rfl rfl rfl rfl ?_
  refine cs_ald C dX8_init_152 (i := 0) rfl (lv_at hl 0 rfl) ?_
  refine cs_ic C (v := 0) dX8_init_153 (by decide) ?_
  refine cs_put C (Cn := RX8) (T := TX8) (N := 13) (ci := 8) (ty0 := tyX8) inW8 tyX8_ok nmX8 rfl 12 (by decide) w_321 rfl rfl rfl rfl (Nat.le_of_ble_eq_true rfl) dX8_init_154 ?_
  refine cs_cast (ws' := (h, .inr (8, [.ref b0, .ref b1, .ref b2, .ref b3, .int (0), .ref b4, .ref b5, .ref b6, .ref b7, .ref b8, .ref b9, .int (0), .int (0)])) :: (((((((((([] ++ o_X6 cI cZ cJ b0  u0) ++ o_X0 cI cZ cJ b1  u1) ++ o_X6 cI cZ cJ b2  u2) ++ o_X0 cI cZ cJ b3  u3) ++ o_X4 cI cZ cJ b4  u4) ++ o_X1 cI cZ cJ b5 b0 u5) ++ o_X2 cI cZ cJ b6  u6) ++ o_X7 cI cZ cJ b7 b0 u7) ++ o_X5 cI cZ cJ b8 b0 b6 u8) ++ o_X3 cI cZ cJ b9 b0 b5 b1 u9)) (cells' := 66) (slots' := 2836) (pc' := 157) rfl rfl rfl rfl ?_
  refine cs_cast (ws' := o_X8 cI cZ cJ h  (fun j => [b0, b1, b2, b3, b4, b5, b6, b7, b8, b9].getD j 0, fun j => [u0, u1, u2, u3, u4, u5, u6, u7, u8, u9.1].getD j (fun _ => 0), u9.2)) (cells' := 66) (slots' := 2836) (pc' := 157) rfl rfl rfl rfl ?_
  exact hret 157 _ dX8_init_157
