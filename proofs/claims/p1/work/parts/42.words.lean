theorem n_w2 : (Jvm.Cond.initialized "BalanceCoder$Whole") ∈ n_GW := n_in 53 (by decide +kernel) (by decide +kernel)
theorem n_w3 : (Jvm.Cond.initialized "BalanceCoder$Block") ∈ n_GW := n_in 54 (by decide +kernel) (by decide +kernel)
theorem n_w4 : (Jvm.Cond.initialized "BalanceCoder$Steps") ∈ n_GW := n_in 55 (by decide +kernel) (by decide +kernel)
theorem n_w5 : (Jvm.Cond.initialized "BalanceCoder$Row") ∈ n_GW := n_in 56 (by decide +kernel) (by decide +kernel)
theorem n_w6 : (Jvm.Cond.initialized "BalanceCoder$Bench") ∈ n_GW := n_in 57 (by decide +kernel) (by decide +kernel)
theorem n_w7 : (Jvm.Cond.initialized "BalanceCoder$Table") ∈ n_GW := n_in 58 (by decide +kernel) (by decide +kernel)
theorem n_w8 : (Jvm.Cond.initialized "BalanceCoder$Deal") ∈ n_GW := n_in 59 (by decide +kernel) (by decide +kernel)
theorem n_w9 : (Jvm.Cond.initialized "BalanceCoder$Guide") ∈ n_GW := n_in 60 (by decide +kernel) (by decide +kernel)
theorem n_w10 : (Jvm.Cond.initialized "BalanceCoder$Dealer") ∈ n_GW := n_in 61 (by decide +kernel) (by decide +kernel)
theorem n_w11 : (Jvm.Cond.initialized "BalanceCoder$Reader") ∈ n_GW := n_in 62 (by decide +kernel) (by decide +kernel)
theorem n_w13 : (Jvm.Cond.initialized "BalanceCoderModel$Book") ∈ n_GW := n_in 64 (by decide +kernel) (by decide +kernel)
theorem n_w21 : (Jvm.Cond.code ({ cls := "BalanceCoder", name := "<init>", desc := "()V" } : Jvm.MethodName) prog_1_method_1_code (1 : Nat) (Option.none : Option Jvm.ClassFile.FieldType)) ∈ n_GW := n_in 72 (by decide +kernel) (by decide +kernel)
theorem n_w22 : (Jvm.Cond.methodLink "BalanceCoder" (1 : Nat) ({ cls := "java/lang/Object", name := "<init>", desc := "()V" } : Jvm.MethodName)) ∈ n_GW := n_in 73 (by decide +kernel) (by decide +kernel)
theorem n_w23 : (Jvm.Cond.instanceMethod ({ cls := "java/lang/Object", name := "<init>", desc := "()V" } : Jvm.MethodName)) ∈ n_GW := n_in 74 (by decide +kernel) (by decide +kernel)
theorem n_w24 : (Jvm.Cond.code ({ cls := "java/lang/Object", name := "<init>", desc := "()V" } : Jvm.MethodName) object_method_1_code (1 : Nat) (Option.none : Option Jvm.ClassFile.FieldType)) ∈ n_GW := n_in 75 (by decide +kernel) (by decide +kernel)
theorem n_w25 : (Jvm.Cond.classLink "BalanceCoder" (7 : Nat) "BalanceCoder$Whole") ∈ n_GW := n_in 76 (by decide +kernel) (by decide +kernel)
theorem n_w26 : (Jvm.Cond.instantiable "BalanceCoder$Whole" (6 : Nat)) ∈ n_GW := n_in 77 (by decide +kernel) (by decide +kernel)
theorem n_w27 : (Jvm.Cond.methodLink "BalanceCoder" (9 : Nat) ({ cls := "BalanceCoder$Whole", name := "<init>", desc := "()V" } : Jvm.MethodName)) ∈ n_GW := n_in 78 (by decide +kernel) (by decide +kernel)
theorem n_w28 : (Jvm.Cond.instanceMethod ({ cls := "BalanceCoder$Whole", name := "<init>", desc := "()V" } : Jvm.MethodName)) ∈ n_GW := n_in 79 (by decide +kernel) (by decide +kernel)
theorem n_w29 : (Jvm.Cond.code ({ cls := "BalanceCoder$Whole", name := "<init>", desc := "()V" } : Jvm.MethodName) prog_11_method_1_code (2 : Nat) (Option.none : Option Jvm.ClassFile.FieldType)) ∈ n_GW := n_in 80 (by decide +kernel) (by decide +kernel)
theorem n_w30 : (Jvm.Cond.methodLink "BalanceCoder$Whole" (3 : Nat) ({ cls := "java/lang/Object", name := "<init>", desc := "()V" } : Jvm.MethodName)) ∈ n_GW := n_in 81 (by decide +kernel) (by decide +kernel)
theorem n_w31 : (Jvm.Cond.classLink "BalanceCoder$Whole" (9 : Nat) "BalanceCoder$Row") ∈ n_GW := n_in 82 (by decide +kernel) (by decide +kernel)
theorem n_w33 : (Jvm.Cond.classLink "BalanceCoder$Whole" (17 : Nat) "BalanceCoder$Table") ∈ n_GW := n_in 84 (by decide +kernel) (by decide +kernel)
theorem n_w35 : (Jvm.Cond.classLink "BalanceCoder$Whole" (27 : Nat) "BalanceCoder$Block") ∈ n_GW := n_in 86 (by decide +kernel) (by decide +kernel)
theorem n_w36 : (Jvm.Cond.instantiable "BalanceCoder$Block" (5 : Nat)) ∈ n_GW := n_in 87 (by decide +kernel) (by decide +kernel)
theorem n_w38 : (Jvm.Cond.instanceMethod ({ cls := "BalanceCoder$Block", name := "<init>", desc := "()V" } : Jvm.MethodName)) ∈ n_GW := n_in 89 (by decide +kernel) (by decide +kernel)
theorem n_w39 : (Jvm.Cond.code ({ cls := "BalanceCoder$Block", name := "<init>", desc := "()V" } : Jvm.MethodName) prog_3_method_1_code (1 : Nat) (Option.none : Option Jvm.ClassFile.FieldType)) ∈ n_GW := n_in 90 (by decide +kernel) (by decide +kernel)
theorem n_w40 : (Jvm.Cond.methodLink "BalanceCoder$Block" (3 : Nat) ({ cls := "java/lang/Object", name := "<init>", desc := "()V" } : Jvm.MethodName)) ∈ n_GW := n_in 91 (by decide +kernel) (by decide +kernel)
theorem n_w41 : (Jvm.Cond.classLink "BalanceCoder$Block" (23 : Nat) "BalanceCoder$Steps") ∈ n_GW := n_in 92 (by decide +kernel) (by decide +kernel)
theorem n_w42 : (Jvm.Cond.instantiable "BalanceCoder$Steps" (6 : Nat)) ∈ n_GW := n_in 93 (by decide +kernel) (by decide +kernel)
theorem n_w44 : (Jvm.Cond.instanceMethod ({ cls := "BalanceCoder$Steps", name := "<init>", desc := "()V" } : Jvm.MethodName)) ∈ n_GW := n_in 95 (by decide +kernel) (by decide +kernel)
theorem n_w45 : (Jvm.Cond.code ({ cls := "BalanceCoder$Steps", name := "<init>", desc := "()V" } : Jvm.MethodName) prog_9_method_1_code (1 : Nat) (Option.none : Option Jvm.ClassFile.FieldType)) ∈ n_GW := n_in 96 (by decide +kernel) (by decide +kernel)
theorem n_w46 : (Jvm.Cond.methodLink "BalanceCoder$Steps" (3 : Nat) ({ cls := "java/lang/Object", name := "<init>", desc := "()V" } : Jvm.MethodName)) ∈ n_GW := n_in 97 (by decide +kernel) (by decide +kernel)
theorem n_w47 : (Jvm.Cond.fieldLink "BalanceCoder$Steps" (9 : Nat) "BalanceCoder$Steps" "signs" "[I") ∈ n_GW := n_in 98 (by decide +kernel) (by decide +kernel)
theorem n_w51 : (Jvm.Cond.fieldLink "BalanceCoder$Steps" (15 : Nat) "BalanceCoder$Steps" "states" "[I") ∈ n_GW := n_in 102 (by decide +kernel) (by decide +kernel)
theorem n_w54 : (Jvm.Cond.fieldLink "BalanceCoder$Steps" (18 : Nat) "BalanceCoder$Steps" "lefts" "[I") ∈ n_GW := n_in 105 (by decide +kernel) (by decide +kernel)
theorem n_w57 : (Jvm.Cond.fieldLink "BalanceCoder$Steps" (21 : Nat) "BalanceCoder$Steps" "shares" "[I") ∈ n_GW := n_in 108 (by decide +kernel) (by decide +kernel)
theorem n_w60 : (Jvm.Cond.fieldLink "BalanceCoder$Steps" (24 : Nat) "BalanceCoder$Steps" "begins" "[I") ∈ n_GW := n_in 111 (by decide +kernel) (by decide +kernel)
theorem n_w63 : (Jvm.Cond.fieldLink "BalanceCoder$Steps" (27 : Nat) "BalanceCoder$Steps" "count" "I") ∈ n_GW := n_in 114 (by decide +kernel) (by decide +kernel)
theorem n_w81 : (Jvm.Cond.arrayClass Jvm.ClassFile.FieldType.int) ∈ n_GW := n_in 132 (by decide +kernel) (by decide +kernel)
theorem n_w82 : (Jvm.Cond.fieldLink "BalanceCoder$Block" (9 : Nat) "BalanceCoder$Block" "bytes" "[I") ∈ n_GW := n_in 133 (by decide +kernel) (by decide +kernel)
theorem n_w86 : (Jvm.Cond.fieldLink "BalanceCoder$Block" (15 : Nat) "BalanceCoder$Block" "length" "I") ∈ n_GW := n_in 137 (by decide +kernel) (by decide +kernel)
theorem n_w90 : (Jvm.Cond.fieldLink "BalanceCoder$Block" (19 : Nat) "BalanceCoder$Block" "made" "Z") ∈ n_GW := n_in 141 (by decide +kernel) (by decide +kernel)
theorem n_w92 : (Jvm.Cond.fieldLink "BalanceCoder$Block" (26 : Nat) "BalanceCoder$Block" "steps" "LBalanceCoder$Steps;") ∈ n_GW := n_in 143 (by decide +kernel) (by decide +kernel)
theorem n_w94 : (Jvm.Cond.fieldLink "BalanceCoder$Block" (30 : Nat) "BalanceCoder$Block" "markEvery" "I") ∈ n_GW := n_in 145 (by decide +kernel) (by decide +kernel)
theorem n_w107 : (Jvm.Cond.instantiable "BalanceCoder$Row" (2 : Nat)) ∈ n_GW := n_in 158 (by decide +kernel) (by decide +kernel)
theorem n_w109 : (Jvm.Cond.instanceMethod ({ cls := "BalanceCoder$Row", name := "<init>", desc := "()V" } : Jvm.MethodName)) ∈ n_GW := n_in 160 (by decide +kernel) (by decide +kernel)
theorem n_w110 : (Jvm.Cond.code ({ cls := "BalanceCoder$Row", name := "<init>", desc := "()V" } : Jvm.MethodName) prog_8_method_1_code (1 : Nat) (Option.none : Option Jvm.ClassFile.FieldType)) ∈ n_GW := n_in 161 (by decide +kernel) (by decide +kernel)
theorem n_w111 : (Jvm.Cond.methodLink "BalanceCoder$Row" (3 : Nat) ({ cls := "java/lang/Object", name := "<init>", desc := "()V" } : Jvm.MethodName)) ∈ n_GW := n_in 162 (by decide +kernel) (by decide +kernel)
theorem n_w112 : (Jvm.Cond.fieldLink "BalanceCoder$Row" (9 : Nat) "BalanceCoder$Row" "signs" "[I") ∈ n_GW := n_in 163 (by decide +kernel) (by decide +kernel)
theorem n_w117 : (Jvm.Cond.fieldLink "BalanceCoder$Row" (15 : Nat) "BalanceCoder$Row" "count" "I") ∈ n_GW := n_in 168 (by decide +kernel) (by decide +kernel)
theorem n_w127 : (Jvm.Cond.fieldLink "BalanceCoder$Whole" (11 : Nat) "BalanceCoder$Whole" "rows" "[LBalanceCoder$Row;") ∈ n_GW := n_in 178 (by decide +kernel) (by decide +kernel)
theorem n_w129 : (Jvm.Cond.fieldLink "BalanceCoder$Whole" (19 : Nat) "BalanceCoder$Whole" "tables" "[LBalanceCoder$Table;") ∈ n_GW := n_in 180 (by decide +kernel) (by decide +kernel)
theorem n_w131 : (Jvm.Cond.fieldLink "BalanceCoder$Whole" (23 : Nat) "BalanceCoder$Whole" "tableCount" "I") ∈ n_GW := n_in 182 (by decide +kernel) (by decide +kernel)
theorem n_w133 : (Jvm.Cond.fieldLink "BalanceCoder$Whole" (30 : Nat) "BalanceCoder$Whole" "block" "LBalanceCoder$Block;") ∈ n_GW := n_in 184 (by decide +kernel) (by decide +kernel)
theorem n_w135 : (Jvm.Cond.fieldLink "BalanceCoder$Whole" (34 : Nat) "BalanceCoder$Whole" "lastMissing" "I") ∈ n_GW := n_in 186 (by decide +kernel) (by decide +kernel)
theorem n_w137 : (Jvm.Cond.fieldLink "BalanceCoder$Whole" (37 : Nat) "BalanceCoder$Whole" "lastRead" "I") ∈ n_GW := n_in 188 (by decide +kernel) (by decide +kernel)
theorem n_w152 : (Jvm.Cond.classLink "BalanceCoder" (19 : Nat) "BalanceCoder$Bench") ∈ n_GW := n_in 203 (by decide +kernel) (by decide +kernel)
theorem n_w153 : (Jvm.Cond.instantiable "BalanceCoder$Bench" (6 : Nat)) ∈ n_GW := n_in 204 (by decide +kernel) (by decide +kernel)
theorem n_w155 : (Jvm.Cond.instanceMethod ({ cls := "BalanceCoder$Bench", name := "<init>", desc := "()V" } : Jvm.MethodName)) ∈ n_GW := n_in 206 (by decide +kernel) (by decide +kernel)
theorem n_w156 : (Jvm.Cond.code ({ cls := "BalanceCoder$Bench", name := "<init>", desc := "()V" } : Jvm.MethodName) prog_2_method_1_code (1 : Nat) (Option.none : Option Jvm.ClassFile.FieldType)) ∈ n_GW := n_in 207 (by decide +kernel) (by decide +kernel)
theorem n_w157 : (Jvm.Cond.methodLink "BalanceCoder$Bench" (3 : Nat) ({ cls := "java/lang/Object", name := "<init>", desc := "()V" } : Jvm.MethodName)) ∈ n_GW := n_in 208 (by decide +kernel) (by decide +kernel)
theorem n_w158 : (Jvm.Cond.classLink "BalanceCoder$Bench" (9 : Nat) "BalanceCoder$Table") ∈ n_GW := n_in 209 (by decide +kernel) (by decide +kernel)
theorem n_w159 : (Jvm.Cond.instantiable "BalanceCoder$Table" (3 : Nat)) ∈ n_GW := n_in 210 (by decide +kernel) (by decide +kernel)
theorem n_w160 : (Jvm.Cond.methodLink "BalanceCoder$Bench" (11 : Nat) ({ cls := "BalanceCoder$Table", name := "<init>", desc := "()V" } : Jvm.MethodName)) ∈ n_GW := n_in 211 (by decide +kernel) (by decide +kernel)
theorem n_w161 : (Jvm.Cond.instanceMethod ({ cls := "BalanceCoder$Table", name := "<init>", desc := "()V" } : Jvm.MethodName)) ∈ n_GW := n_in 212 (by decide +kernel) (by decide +kernel)
theorem n_w162 : (Jvm.Cond.code ({ cls := "BalanceCoder$Table", name := "<init>", desc := "()V" } : Jvm.MethodName) prog_10_method_1_code (2 : Nat) (Option.none : Option Jvm.ClassFile.FieldType)) ∈ n_GW := n_in 213 (by decide +kernel) (by decide +kernel)
theorem n_w163 : (Jvm.Cond.methodLink "BalanceCoder$Table" (3 : Nat) ({ cls := "java/lang/Object", name := "<init>", desc := "()V" } : Jvm.MethodName)) ∈ n_GW := n_in 214 (by decide +kernel) (by decide +kernel)
theorem n_w164 : (Jvm.Cond.classLink "BalanceCoder$Table" (9 : Nat) "BalanceCoder$Deal") ∈ n_GW := n_in 215 (by decide +kernel) (by decide +kernel)
theorem n_w166 : (Jvm.Cond.instantiable "BalanceCoder$Deal" (1 : Nat)) ∈ n_GW := n_in 217 (by decide +kernel) (by decide +kernel)
theorem n_w168 : (Jvm.Cond.instanceMethod ({ cls := "BalanceCoder$Deal", name := "<init>", desc := "()V" } : Jvm.MethodName)) ∈ n_GW := n_in 219 (by decide +kernel) (by decide +kernel)
theorem n_w169 : (Jvm.Cond.code ({ cls := "BalanceCoder$Deal", name := "<init>", desc := "()V" } : Jvm.MethodName) prog_4_method_1_code (1 : Nat) (Option.none : Option Jvm.ClassFile.FieldType)) ∈ n_GW := n_in 220 (by decide +kernel) (by decide +kernel)
theorem n_w170 : (Jvm.Cond.methodLink "BalanceCoder$Deal" (3 : Nat) ({ cls := "java/lang/Object", name := "<init>", desc := "()V" } : Jvm.MethodName)) ∈ n_GW := n_in 221 (by decide +kernel) (by decide +kernel)
theorem n_w171 : (Jvm.Cond.fieldLink "BalanceCoder$Deal" (9 : Nat) "BalanceCoder$Deal" "begins" "[I") ∈ n_GW := n_in 222 (by decide +kernel) (by decide +kernel)
theorem n_w177 : (Jvm.Cond.fieldLink "BalanceCoder$Table" (11 : Nat) "BalanceCoder$Table" "deals" "[LBalanceCoder$Deal;") ∈ n_GW := n_in 228 (by decide +kernel) (by decide +kernel)
theorem n_w183 : (Jvm.Cond.fieldLink "BalanceCoder$Table" (17 : Nat) "BalanceCoder$Table" "kind" "I") ∈ n_GW := n_in 234 (by decide +kernel) (by decide +kernel)
theorem n_w188 : (Jvm.Cond.fieldLink "BalanceCoder$Table" (21 : Nat) "BalanceCoder$Table" "\x72" "I") ∈ n_GW := n_in 239 (by decide +kernel) (by decide +kernel)
theorem n_w197 : (Jvm.Cond.classLink "BalanceCoder$Bench" (18 : Nat) "BalanceCoder$Guide") ∈ n_GW := n_in 248 (by decide +kernel) (by decide +kernel)
theorem n_w198 : (Jvm.Cond.instantiable "BalanceCoder$Guide" (2 : Nat)) ∈ n_GW := n_in 249 (by decide +kernel) (by decide +kernel)
theorem n_w200 : (Jvm.Cond.instanceMethod ({ cls := "BalanceCoder$Guide", name := "<init>", desc := "()V" } : Jvm.MethodName)) ∈ n_GW := n_in 251 (by decide +kernel) (by decide +kernel)
theorem n_w201 : (Jvm.Cond.code ({ cls := "BalanceCoder$Guide", name := "<init>", desc := "()V" } : Jvm.MethodName) prog_6_method_1_code (1 : Nat) (Option.none : Option Jvm.ClassFile.FieldType)) ∈ n_GW := n_in 252 (by decide +kernel) (by decide +kernel)
theorem n_w202 : (Jvm.Cond.methodLink "BalanceCoder$Guide" (3 : Nat) ({ cls := "java/lang/Object", name := "<init>", desc := "()V" } : Jvm.MethodName)) ∈ n_GW := n_in 253 (by decide +kernel) (by decide +kernel)
theorem n_w203 : (Jvm.Cond.classLink "BalanceCoder$Guide" (9 : Nat) "BalanceCoder$Deal") ∈ n_GW := n_in 254 (by decide +kernel) (by decide +kernel)
theorem n_w205 : (Jvm.Cond.fieldLink "BalanceCoder$Guide" (12 : Nat) "BalanceCoder$Guide" "growing" "LBalanceCoder$Deal;") ∈ n_GW := n_in 256 (by decide +kernel) (by decide +kernel)
theorem n_w206 : (Jvm.Cond.fieldLink "BalanceCoder$Guide" (18 : Nat) "BalanceCoder$Guide" "before" "I") ∈ n_GW := n_in 257 (by decide +kernel) (by decide +kernel)
theorem n_w212 : (Jvm.Cond.classLink "BalanceCoder$Bench" (25 : Nat) "BalanceCoder$Steps") ∈ n_GW := n_in 263 (by decide +kernel) (by decide +kernel)
theorem n_w214 : (Jvm.Cond.fieldLink "BalanceCoder$Bench" (12 : Nat) "BalanceCoder$Bench" "trial" "LBalanceCoder$Table;") ∈ n_GW := n_in 265 (by decide +kernel) (by decide +kernel)
theorem n_w217 : (Jvm.Cond.fieldLink "BalanceCoder$Bench" (21 : Nat) "BalanceCoder$Bench" "guide" "LBalanceCoder$Guide;") ∈ n_GW := n_in 268 (by decide +kernel) (by decide +kernel)
theorem n_w218 : (Jvm.Cond.fieldLink "BalanceCoder$Bench" (28 : Nat) "BalanceCoder$Bench" "steps" "LBalanceCoder$Steps;") ∈ n_GW := n_in 269 (by decide +kernel) (by decide +kernel)
theorem n_w221 : (Jvm.Cond.fieldLink "BalanceCoder$Bench" (32 : Nat) "BalanceCoder$Bench" "states" "[I") ∈ n_GW := n_in 272 (by decide +kernel) (by decide +kernel)
theorem n_w224 : (Jvm.Cond.fieldLink "BalanceCoder$Bench" (36 : Nat) "BalanceCoder$Bench" "bytes" "[I") ∈ n_GW := n_in 275 (by decide +kernel) (by decide +kernel)
theorem n_w226 : (Jvm.Cond.fieldLink "BalanceCoder$Bench" (39 : Nat) "BalanceCoder$Bench" "used" "I") ∈ n_GW := n_in 277 (by decide +kernel) (by decide +kernel)
theorem n_w241 : (Jvm.Cond.classLink "BalanceCoder" (26 : Nat) "BalanceCoder$Dealer") ∈ n_GW := n_in 292 (by decide +kernel) (by decide +kernel)
theorem n_w242 : (Jvm.Cond.instantiable "BalanceCoder$Dealer" (4 : Nat)) ∈ n_GW := n_in 293 (by decide +kernel) (by decide +kernel)
theorem n_w244 : (Jvm.Cond.instanceMethod ({ cls := "BalanceCoder$Dealer", name := "<init>", desc := "()V" } : Jvm.MethodName)) ∈ n_GW := n_in 295 (by decide +kernel) (by decide +kernel)
theorem n_w245 : (Jvm.Cond.code ({ cls := "BalanceCoder$Dealer", name := "<init>", desc := "()V" } : Jvm.MethodName) prog_5_method_1_code (1 : Nat) (Option.none : Option Jvm.ClassFile.FieldType)) ∈ n_GW := n_in 296 (by decide +kernel) (by decide +kernel)
theorem n_w246 : (Jvm.Cond.methodLink "BalanceCoder$Dealer" (3 : Nat) ({ cls := "java/lang/Object", name := "<init>", desc := "()V" } : Jvm.MethodName)) ∈ n_GW := n_in 297 (by decide +kernel) (by decide +kernel)
theorem n_w247 : (Jvm.Cond.fieldLink "BalanceCoder$Dealer" (9 : Nat) "BalanceCoder$Dealer" "counts" "[I") ∈ n_GW := n_in 298 (by decide +kernel) (by decide +kernel)
theorem n_w248 : (Jvm.Cond.fieldLink "BalanceCoder$Dealer" (15 : Nat) "BalanceCoder$Dealer" "counted" "[I") ∈ n_GW := n_in 299 (by decide +kernel) (by decide +kernel)
theorem n_w249 : (Jvm.Cond.fieldLink "BalanceCoder$Dealer" (18 : Nat) "BalanceCoder$Dealer" "countedSigns" "I") ∈ n_GW := n_in 300 (by decide +kernel) (by decide +kernel)
theorem n_w250 : (Jvm.Cond.fieldLink "BalanceCoder$Dealer" (22 : Nat) "BalanceCoder$Dealer" "costSums" "[I") ∈ n_GW := n_in 301 (by decide +kernel) (by decide +kernel)
theorem n_w260 : (Jvm.Cond.classLink "BalanceCoder" (33 : Nat) "BalanceCoder$Reader") ∈ n_GW := n_in 311 (by decide +kernel) (by decide +kernel)
theorem n_w261 : (Jvm.Cond.instantiable "BalanceCoder$Reader" (2 : Nat)) ∈ n_GW := n_in 312 (by decide +kernel) (by decide +kernel)
theorem n_w263 : (Jvm.Cond.instanceMethod ({ cls := "BalanceCoder$Reader", name := "<init>", desc := "()V" } : Jvm.MethodName)) ∈ n_GW := n_in 314 (by decide +kernel) (by decide +kernel)
theorem n_w264 : (Jvm.Cond.code ({ cls := "BalanceCoder$Reader", name := "<init>", desc := "()V" } : Jvm.MethodName) prog_7_method_1_code (1 : Nat) (Option.none : Option Jvm.ClassFile.FieldType)) ∈ n_GW := n_in 315 (by decide +kernel) (by decide +kernel)
theorem n_w265 : (Jvm.Cond.methodLink "BalanceCoder$Reader" (3 : Nat) ({ cls := "java/lang/Object", name := "<init>", desc := "()V" } : Jvm.MethodName)) ∈ n_GW := n_in 316 (by decide +kernel) (by decide +kernel)
theorem n_w266 : (Jvm.Cond.fieldLink "BalanceCoder$Reader" (9 : Nat) "BalanceCoder$Reader" "place" "I") ∈ n_GW := n_in 317 (by decide +kernel) (by decide +kernel)
theorem n_w267 : (Jvm.Cond.fieldLink "BalanceCoder$Reader" (15 : Nat) "BalanceCoder$Reader" "wrong" "I") ∈ n_GW := n_in 318 (by decide +kernel) (by decide +kernel)
theorem n_w273 : (Jvm.Cond.fieldLink "BalanceCoder" (10 : Nat) "BalanceCoder" "now" "LBalanceCoder$Whole;") ∈ n_GW := n_in 324 (by decide +kernel) (by decide +kernel)
theorem n_w274 : (Jvm.Cond.fieldLink "BalanceCoder" (16 : Nat) "BalanceCoder" "kept" "LBalanceCoder$Whole;") ∈ n_GW := n_in 325 (by decide +kernel) (by decide +kernel)
theorem n_w275 : (Jvm.Cond.fieldLink "BalanceCoder" (22 : Nat) "BalanceCoder" "bench" "LBalanceCoder$Bench;") ∈ n_GW := n_in 326 (by decide +kernel) (by decide +kernel)
theorem n_w276 : (Jvm.Cond.fieldLink "BalanceCoder" (29 : Nat) "BalanceCoder" "dealer" "LBalanceCoder$Dealer;") ∈ n_GW := n_in 327 (by decide +kernel) (by decide +kernel)
theorem n_w277 : (Jvm.Cond.fieldLink "BalanceCoder" (36 : Nat) "BalanceCoder" "reader" "LBalanceCoder$Reader;") ∈ n_GW := n_in 328 (by decide +kernel) (by decide +kernel)
theorem n_w278 : (Jvm.Cond.fieldLink "BalanceCoder" (40 : Nat) "BalanceCoder" "waiting" "[I") ∈ n_GW := n_in 329 (by decide +kernel) (by decide +kernel)
theorem n_w279 : (Jvm.Cond.fieldLink "BalanceCoder" (44 : Nat) "BalanceCoder" "waits" "I") ∈ n_GW := n_in 330 (by decide +kernel) (by decide +kernel)
theorem n_w280 : (Jvm.Cond.fieldLink "BalanceCoder" (48 : Nat) "BalanceCoder" "findings" "I") ∈ n_GW := n_in 331 (by decide +kernel) (by decide +kernel)
theorem n_w752 : (Jvm.Cond.code ({ cls := "BalanceCoderModel", name := "<init>", desc := "()V" } : Jvm.MethodName) prog_13_method_1_code (1 : Nat) (Option.none : Option Jvm.ClassFile.FieldType)) ∈ n_GW := n_in 803 (by decide +kernel) (by decide +kernel)
theorem n_w753 : (Jvm.Cond.methodLink "BalanceCoderModel" (1 : Nat) ({ cls := "java/lang/Object", name := "<init>", desc := "()V" } : Jvm.MethodName)) ∈ n_GW := n_in 804 (by decide +kernel) (by decide +kernel)
theorem n_w754 : (Jvm.Cond.classLink "BalanceCoderModel" (7 : Nat) "BalanceCoderModel$Book") ∈ n_GW := n_in 805 (by decide +kernel) (by decide +kernel)
theorem n_w755 : (Jvm.Cond.instantiable "BalanceCoderModel$Book" (14 : Nat)) ∈ n_GW := n_in 806 (by decide +kernel) (by decide +kernel)
theorem n_w757 : (Jvm.Cond.instanceMethod ({ cls := "BalanceCoderModel$Book", name := "<init>", desc := "()V" } : Jvm.MethodName)) ∈ n_GW := n_in 808 (by decide +kernel) (by decide +kernel)
theorem n_w758 : (Jvm.Cond.code ({ cls := "BalanceCoderModel$Book", name := "<init>", desc := "()V" } : Jvm.MethodName) prog_14_method_1_code (1 : Nat) (Option.none : Option Jvm.ClassFile.FieldType)) ∈ n_GW := n_in 809 (by decide +kernel) (by decide +kernel)
theorem n_w759 : (Jvm.Cond.methodLink "BalanceCoderModel$Book" (3 : Nat) ({ cls := "java/lang/Object", name := "<init>", desc := "()V" } : Jvm.MethodName)) ∈ n_GW := n_in 810 (by decide +kernel) (by decide +kernel)
theorem n_w760 : (Jvm.Cond.fieldLink "BalanceCoderModel$Book" (9 : Nat) "BalanceCoderModel$Book" "sizes" "[I") ∈ n_GW := n_in 811 (by decide +kernel) (by decide +kernel)
theorem n_w762 : (Jvm.Cond.fieldLink "BalanceCoderModel$Book" (15 : Nat) "BalanceCoderModel$Book" "rows" "[I") ∈ n_GW := n_in 813 (by decide +kernel) (by decide +kernel)
theorem n_w766 : (Jvm.Cond.fieldLink "BalanceCoderModel$Book" (18 : Nat) "BalanceCoderModel$Book" "kinds" "[I") ∈ n_GW := n_in 817 (by decide +kernel) (by decide +kernel)
theorem n_w768 : (Jvm.Cond.fieldLink "BalanceCoderModel$Book" (21 : Nat) "BalanceCoderModel$Book" "bits" "[I") ∈ n_GW := n_in 819 (by decide +kernel) (by decide +kernel)
theorem n_w770 : (Jvm.Cond.fieldLink "BalanceCoderModel$Book" (24 : Nat) "BalanceCoderModel$Book" "learnt" "[Z") ∈ n_GW := n_in 821 (by decide +kernel) (by decide +kernel)
theorem n_w772 : (Jvm.Cond.fieldLink "BalanceCoderModel$Book" (28 : Nat) "BalanceCoderModel$Book" "shares" "[I") ∈ n_GW := n_in 823 (by decide +kernel) (by decide +kernel)
theorem n_w776 : (Jvm.Cond.fieldLink "BalanceCoderModel$Book" (31 : Nat) "BalanceCoderModel$Book" "block" "[I") ∈ n_GW := n_in 827 (by decide +kernel) (by decide +kernel)
theorem n_w817 : (Jvm.Cond.arrayClass Jvm.ClassFile.FieldType.boolean) ∈ n_GW := n_in 868 (by decide +kernel) (by decide +kernel)
theorem n_w818 : (Jvm.Cond.fieldLink "BalanceCoderModel" (10 : Nat) "BalanceCoderModel" "b" "LBalanceCoderModel$Book;") ∈ n_GW := n_in 869 (by decide +kernel) (by decide +kernel)
theorem n_w819 : (Jvm.Cond.fieldLink "BalanceCoderModel" (16 : Nat) "BalanceCoderModel" "kept" "LBalanceCoderModel$Book;") ∈ n_GW := n_in 870 (by decide +kernel) (by decide +kernel)
theorem n_w823 : (Jvm.Cond.fieldLink "BalanceCoderModel" (19 : Nat) "BalanceCoderModel" "wait" "[I") ∈ n_GW := n_in 874 (by decide +kernel) (by decide +kernel)
theorem n_w824 : (Jvm.Cond.fieldLink "BalanceCoderModel" (23 : Nat) "BalanceCoderModel" "spare" "[I") ∈ n_GW := n_in 875 (by decide +kernel) (by decide +kernel)
theorem n_w825 : (Jvm.Cond.fieldLink "BalanceCoderModel" (26 : Nat) "BalanceCoderModel" "counts" "[I") ∈ n_GW := n_in 876 (by decide +kernel) (by decide +kernel)
theorem n_w826 : (Jvm.Cond.fieldLink "BalanceCoderModel" (29 : Nat) "BalanceCoderModel" "deal" "[I") ∈ n_GW := n_in 877 (by decide +kernel) (by decide +kernel)
theorem n_w829 : (Jvm.Cond.fieldLink "BalanceCoderModel" (32 : Nat) "BalanceCoderModel" "deals" "[I") ∈ n_GW := n_in 880 (by decide +kernel) (by decide +kernel)
theorem n_w832 : (Jvm.Cond.fieldLink "BalanceCoderModel" (35 : Nat) "BalanceCoderModel" "signShares" "[I") ∈ n_GW := n_in 883 (by decide +kernel) (by decide +kernel)
theorem n_w833 : (Jvm.Cond.fieldLink "BalanceCoderModel" (38 : Nat) "BalanceCoderModel" "signBegins" "[I") ∈ n_GW := n_in 884 (by decide +kernel) (by decide +kernel)
theorem n_w834 : (Jvm.Cond.fieldLink "BalanceCoderModel" (41 : Nat) "BalanceCoderModel" "states" "[J") ∈ n_GW := n_in 885 (by decide +kernel) (by decide +kernel)
theorem n_w835 : (Jvm.Cond.fieldLink "BalanceCoderModel" (45 : Nat) "BalanceCoderModel" "packed" "[I") ∈ n_GW := n_in 886 (by decide +kernel) (by decide +kernel)
theorem n_w837 : (Jvm.Cond.fieldLink "BalanceCoderModel" (48 : Nat) "BalanceCoderModel" "fresh" "[I") ∈ n_GW := n_in 888 (by decide +kernel) (by decide +kernel)
theorem n_w839 : (Jvm.Cond.fieldLink "BalanceCoderModel" (51 : Nat) "BalanceCoderModel" "first" "[I") ∈ n_GW := n_in 890 (by decide +kernel) (by decide +kernel)
theorem n_w846 : (Jvm.Cond.fieldLink "BalanceCoderModel" (54 : Nat) "BalanceCoderModel" "taken" "[I") ∈ n_GW := n_in 897 (by decide +kernel) (by decide +kernel)
theorem n_w847 : (Jvm.Cond.fieldLink "BalanceCoderModel" (57 : Nat) "BalanceCoderModel" "stateBehind" "[J") ∈ n_GW := n_in 898 (by decide +kernel) (by decide +kernel)
theorem n_w848 : (Jvm.Cond.fieldLink "BalanceCoderModel" (60 : Nat) "BalanceCoderModel" "leftBehind" "[I") ∈ n_GW := n_in 899 (by decide +kernel) (by decide +kernel)
theorem n_w912 : (Jvm.Cond.arrayClass Jvm.ClassFile.FieldType.long) ∈ n_GW := n_in 963 (by decide +kernel) (by decide +kernel)
def n_NW : List Cond := [(Jvm.Cond.arrayOver (Jvm.ClassFile.FieldType.object "BalanceCoder$Deal")), (Jvm.Cond.arrayOver (Jvm.ClassFile.FieldType.object "BalanceCoder$Row")), (Jvm.Cond.arrayOver (Jvm.ClassFile.FieldType.object "BalanceCoder$Table")), (Jvm.Cond.methodLinkNest "BalanceCoder$Block" (25 : Nat) ({ cls := "BalanceCoder$Steps", name := "<init>", desc := "()V" } : Jvm.MethodName) "BalanceCoder"), (Jvm.Cond.methodLinkNest "BalanceCoder$Whole" (29 : Nat) ({ cls := "BalanceCoder$Block", name := "<init>", desc := "()V" } : Jvm.MethodName) "BalanceCoder"), (Jvm.Cond.methodLinkNest "BalanceCoder$Whole" (40 : Nat) ({ cls := "BalanceCoder$Row", name := "<init>", desc := "()V" } : Jvm.MethodName) "BalanceCoder"), (Jvm.Cond.methodLinkNest "BalanceCoder$Table" (24 : Nat) ({ cls := "BalanceCoder$Deal", name := "<init>", desc := "()V" } : Jvm.MethodName) "BalanceCoder"), (Jvm.Cond.methodLinkNest "BalanceCoder$Guide" (11 : Nat) ({ cls := "BalanceCoder$Deal", name := "<init>", desc := "()V" } : Jvm.MethodName) "BalanceCoder"), (Jvm.Cond.methodLinkNest "BalanceCoder$Bench" (20 : Nat) ({ cls := "BalanceCoder$Guide", name := "<init>", desc := "()V" } : Jvm.MethodName) "BalanceCoder"), (Jvm.Cond.methodLinkNest "BalanceCoder$Bench" (27 : Nat) ({ cls := "BalanceCoder$Steps", name := "<init>", desc := "()V" } : Jvm.MethodName) "BalanceCoder"), (Jvm.Cond.methodLinkNest "BalanceCoder" (21 : Nat) ({ cls := "BalanceCoder$Bench", name := "<init>", desc := "()V" } : Jvm.MethodName) "BalanceCoder"), (Jvm.Cond.methodLinkNest "BalanceCoder" (28 : Nat) ({ cls := "BalanceCoder$Dealer", name := "<init>", desc := "()V" } : Jvm.MethodName) "BalanceCoder"), (Jvm.Cond.methodLinkNest "BalanceCoder" (35 : Nat) ({ cls := "BalanceCoder$Reader", name := "<init>", desc := "()V" } : Jvm.MethodName) "BalanceCoder"), (Jvm.Cond.methodLinkNest "BalanceCoderModel" (9 : Nat) ({ cls := "BalanceCoderModel$Book", name := "<init>", desc := "()V" } : Jvm.MethodName) "BalanceCoderModel")]
theorem n_NWk : n_NW.all q_nwk = true := by decide +kernel
/-- what the tables say of an array type by its place -/
theorem n_ty {tys : List (ClassId × FieldType)} (h : tys.map Prod.snd = n_TL) (t : Nat) {ty : FieldType} (ht : n_TL[t]? = some ty) : ∃ cA, tys[t]? = some (cA, ty) := by
  rw [← h, List.getElem?_map] at ht
  cases hx : tys[t]? with
  | none => rw [hx] at ht; cases ht
  | some x => rw [hx] at ht; cases ht; exact ⟨x.1, rfl⟩
def q_atb (g : Nat) (ty : FieldType) : Bool := match g, ty with
  | 1, .int => true
  | 2, .object _ => true
  | 3, .long => true
  | 4, .boolean => true
  | _, _ => false
theorem q_atb_ok {g : Nat} {ty : FieldType} (h : q_atb g ty = true) : q_aty g ty := by
  unfold q_atb at h
  split at h
  · rfl
  · exact ⟨_, rfl⟩
  · rfl
  · rfl
  · cases h
theorem n_hag {tys : List (ClassId × FieldType)} (htl : tys.map Prod.snd = n_TL) : ∀ (g t n : Nat) (fts : List qFT) (k : Nat), n_KT[k]? = some (g + 1, t, n, fts) → ∀ cA ty, tys[t]? = some (cA, ty) → q_aty (g + 1) ty := by
  intro g t n fts k hk cA ty ht
  have h1 : n_KT.all (fun d => d.1 == 0 || (match n_TL[d.2.1]? with | some ty => q_atb d.1 ty | none => false)) = true := by decide +kernel
  have h2 := List.all_eq_true.mp h1 _ (List.mem_of_getElem? hk)
  have h3 : n_TL[t]? = some ty := by rw [← htl, List.getElem?_map, ht]; rfl
  simp only [h3] at h2
  rcases Bool.or_eq_true _ _ ▸ h2 with h2 | h2
  · simp at h2
  · exact q_atb_ok h2
theorem n_at {tys : List (ClassId × FieldType)} {s : State} {D : va_G} (hK : va_K D vwCl tys s) : q_AT s tys := fun k q h => (hK.2 k q h).1
abbrev n_ctx (C : qCx) (cc : ByteArray) (nL : Nat) (own : String) (D : va_G) (tys : List (ClassId × FieldType)) : Prop := tys.map Prod.snd = n_TL ∧ q_mc C cc ∧ C.2.2.2.2.2.2.2.2.2.1.maxLocals = nL ∧ q_ow C own ∧ q_ht C n_GW ∧ q_env D vwCl tys n_NW (q_s C)
theorem n_hap {C : qCx} {cc : ByteArray} {nL : Nat} {own : String} {D : va_G} {tys : List (ClassId × FieldType)} (h : n_ctx C cc nL own D tys) : ∀ (k ci n : Nat) (fts : List qFT), n_KT[k]? = some (0, ci, n, fts) → ∀ x y, x < fts.length → y < fts.length → x ≠ y → D.2 ci x ≠ D.2 ci y := by
  obtain ⟨-, -, -, -, hg, hE⟩ := h
  intro k ci n fts hk
  have h1 : n_KT.all (fun d => !(d.1 == 0) || (match vwCl[d.2.1]? with | some c => decide (d.2.2.2.length ≤ c.2.2) | none => false)) = true := by decide +kernel
  have h2 := List.all_eq_true.mp h1 _ (List.mem_of_getElem? hk)
  simp only [beq_self_eq_true, Bool.not_true, Bool.false_or] at h2
  match ci, h2 with
  | 0, h2 => exact q_apart_of (Cn := RX0) (Tt := TX0) (N := 6) (tyf := tyX0) hg hE.1 rfl n_u0 tyX0_ok nmX0 (by simpa [vwCl] using h2)
  | 1, h2 => exact q_apart_of (Cn := RX1) (Tt := TX1) (N := 5) (tyf := tyX1) hg hE.1 rfl n_u1 tyX1_ok nmX1 (by simpa [vwCl] using h2)
  | 2, h2 => exact q_apart_of (Cn := RX2) (Tt := TX2) (N := 1) (tyf := tyX2) hg hE.1 rfl n_u2 tyX2_ok nmX2 (by simpa [vwCl] using h2)
  | 3, h2 => exact q_apart_of (Cn := RX3) (Tt := TX3) (N := 4) (tyf := tyX3) hg hE.1 rfl n_u3 tyX3_ok nmX3 (by simpa [vwCl] using h2)
  | 4, h2 => exact q_apart_of (Cn := RX4) (Tt := TX4) (N := 2) (tyf := tyX4) hg hE.1 rfl n_u4 tyX4_ok nmX4 (by simpa [vwCl] using h2)
  | 5, h2 => exact q_apart_of (Cn := RX5) (Tt := TX5) (N := 2) (tyf := tyX5) hg hE.1 rfl n_u5 tyX5_ok nmX5 (by simpa [vwCl] using h2)
  | 6, h2 => exact q_apart_of (Cn := RX6) (Tt := TX6) (N := 2) (tyf := tyX6) hg hE.1 rfl n_u6 tyX6_ok nmX6 (by simpa [vwCl] using h2)
  | 7, h2 => exact q_apart_of (Cn := RX7) (Tt := TX7) (N := 6) (tyf := tyX7) hg hE.1 rfl n_u7 tyX7_ok nmX7 (by simpa [vwCl] using h2)
  | 8, h2 => exact q_apart_of (Cn := RX8) (Tt := TX8) (N := 3) (tyf := tyX8) hg hE.1 rfl n_u8 tyX8_ok nmX8 (by simpa [vwCl] using h2)
  | 9, h2 => exact q_apart_of (Cn := RX9) (Tt := TX9) (N := 6) (tyf := tyX9) hg hE.1 rfl n_u9 tyX9_ok nmX9 (by simpa [vwCl] using h2)
  | 10, h2 => exact q_apart_of (Cn := RX10) (Tt := TX10) (N := 8) (tyf := tyX10) hg hE.1 rfl n_u10 tyX10_ok nmX10 (by simpa [vwCl] using h2)
  | 11, h2 => exact q_apart_of (Cn := RX11) (Tt := TX11) (N := 14) (tyf := tyX11) hg hE.1 rfl n_u11 tyX11_ok nmX11 (by simpa [vwCl] using h2)
  | 12, h2 => exact q_apart_of (Cn := RX12) (Tt := TX12) (N := 31) (tyf := tyX12) hg hE.1 rfl n_u12 tyX12_ok nmX12 (by simpa [vwCl] using h2)
  | c + 13, h2 => exact absurd h2 (by simp [vwCl])
theorem n_CB {C : qCx} {own : String} {idx : Nat} {y : MethodName} {bytes : ByteArray} {maxL : Nat} {ret : Option FieldType} {rm : Room} {mc ms : Nat} (n : Nat) (hg : q_ht C n_GW) (hc : Cond.code y bytes maxL ret ∈ n_GW) (hl : Cond.methodLink own idx y ∈ n_GW) (hi : Cond.initialized y.cls ∈ n_GW) (hd : y.cls ≠ "java/lang/invoke/MethodHandle" ∧ y.cls ≠ "java/lang/invoke/VarHandle" ∧ (parseMethodDescriptor y.desc).map (fun d => d.parameters.length) = some n) (hrc : rm.cells = mc) (hrs : rm.slots = ms) (hR : rm.frames + 1 ≤ C.2.2.2.1.frames ∧ 8 + (maxL + 11) + rm.locals ≤ C.2.2.2.1.locals) : CallB C.2.2.2.1 (q_s C) (q_ar_ C) own idx y bytes maxL ret (Cond.code y bytes maxL ret :: n_GW) rm mc ms n := by
  have good : ∀ w ∈ (Cond.code y bytes maxL ret :: n_GW), w ∈ n_GW := fun w hw => (List.mem_cons.mp hw).elim (fun e => e ▸ hc) id
  refine ⟨hrc, hrs, hR.1, hR.2, fun w hw a' U hW => word_at hW (good_of_word (List.mem_filter.mp (good w hw)).2) (hg w (good w hw)), List.mem_cons_self, hg _ hc, hg _ hi, ⟨hd.1, hd.2.1⟩, fun sig h => ?_, hg _ hl⟩
  have h2 := hd.2.2
  rw [h] at h2
  exact (Option.some.inj h2).symm
theorem n_CN {C : qCx} {own host : String} {idx : Nat} {y : MethodName} {bytes : ByteArray} {maxL : Nat} {ret : Option FieldType} {rm : Room} {mc ms : Nat} (n : Nat) (hg : q_ht C n_GW) (hc : Cond.code y bytes maxL ret ∈ n_GW) (hl : va_Nw (.methodLinkNest own idx y host) (q_s C)) (hi : Cond.initialized y.cls ∈ n_GW) (hd : y.cls ≠ "java/lang/invoke/MethodHandle" ∧ y.cls ≠ "java/lang/invoke/VarHandle" ∧ (parseMethodDescriptor y.desc).map (fun d => d.parameters.length) = some n) (hrc : rm.cells = mc) (hrs : rm.slots = ms) (hR : rm.frames + 1 ≤ C.2.2.2.1.frames ∧ 8 + (maxL + 11) + rm.locals ≤ C.2.2.2.1.locals) : va_CN C.2.2.2.1 (q_s C) (q_ar_ C) own idx y host bytes maxL ret (Cond.code y bytes maxL ret :: n_GW) rm mc ms n := by
  have good : ∀ w ∈ (Cond.code y bytes maxL ret :: n_GW), w ∈ n_GW := fun w hw => (List.mem_cons.mp hw).elim (fun e => e ▸ hc) id
  refine ⟨⟨hrc, hrs, hR.1, hR.2, fun w hw a' U hW => word_at hW (good_of_word (List.mem_filter.mp (good w hw)).2) (hg w (good w hw)), List.mem_cons_self⟩, hg _ hc, hg _ hi, ⟨hd.1, hd.2.1⟩, fun sig h => ?_, va_Nw.use rfl hl⟩
  have h2 := hd.2.2
  rw [h] at h2
  exact (Option.some.inj h2).symm
theorem n_mem2 {α : Type} {P : α → Prop} {x : α} {l : List α} (h : P x) (hl : ∀ y ∈ l, P y) : ∀ y ∈ x :: l, P y := fun y hy => (List.mem_cons.mp hy).elim (fun e => e ▸ h) (hl y)
theorem n_mem0 {α : Type} {P : α → Prop} : ∀ y ∈ ([] : List α), P y := fun y hy => by cases hy
