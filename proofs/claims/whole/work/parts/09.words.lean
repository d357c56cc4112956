/-! WORDS of the tables, by their places; the classes; the methods -/
def FU : Nat := 1100
def RF : Nat := 24
theorem RF_le : RF = 24 := rfl
theorem FU_eq : FU = 1100 := rfl
theorem q_1 : (Jvm.Cond.initialized "LeftLacks") ∈ gtbl := gm 1 (by decide +kernel) rfl
theorem q_2 : (Jvm.Cond.initialized "LeftLacks$World") ∈ gtbl := gm 2 (by decide +kernel) rfl
theorem q_3 : (Jvm.Cond.initialized "java/util/Arrays") ∈ gtbl := gm 3 (by decide +kernel) rfl
theorem q_4 : (Jvm.Cond.initialized "LeftLacks$Shop") ∈ gtbl := gm 4 (by decide +kernel) rfl
theorem q_5 : (Jvm.Cond.initialized "LeftLacks$Customer") ∈ gtbl := gm 5 (by decide +kernel) rfl
theorem q_6 : (Jvm.Cond.initialized "LeftLacks$Formula") ∈ gtbl := gm 6 (by decide +kernel) rfl
theorem q_7 : (Jvm.Cond.initialized "LeftLacks$Reader") ∈ gtbl := gm 7 (by decide +kernel) rfl
theorem q_8 : (Jvm.Cond.initialized "LeftLacks$Speaker") ∈ gtbl := gm 8 (by decide +kernel) rfl
theorem q_9 : (Jvm.Cond.initialized "LeftLacks$Search") ∈ gtbl := gm 9 (by decide +kernel) rfl
theorem q_10 : (Jvm.Cond.initialized "LeftLacks$Sheet") ∈ gtbl := gm 10 (by decide +kernel) rfl
theorem q_11 : (Jvm.Cond.initialized "LeftLacksModel") ∈ gtbl := gm 11 (by decide +kernel) rfl
theorem q_12 : (Jvm.Cond.initialized "java/lang/Math") ∈ gtbl := gm 12 (by decide +kernel) rfl
theorem q_13 : (Jvm.Cond.initialized "java/lang/String") ∈ gtbl := gm 13 (by decide +kernel) rfl
theorem q_14 : (Jvm.Cond.initialized "java/lang/StringLatin1") ∈ gtbl := gm 14 (by decide +kernel) rfl
theorem q_18 : (Jvm.Cond.initialized "java/lang/System") ∈ gtbl := gm 18 (by decide +kernel) rfl
theorem q_19 : (Jvm.Cond.initialized "java/lang/Integer") ∈ gtbl := gm 19 (by decide +kernel) rfl
theorem q_41 : (Jvm.Cond.static ({ cls := "java/util/Arrays", name := "fill", desc := "([II)V" } : Jvm.MethodName)) ∈ gtbl := gm 41 (by decide +kernel) rfl
theorem q_42 : (Jvm.Cond.code ({ cls := "java/util/Arrays", name := "fill", desc := "([II)V" } : Jvm.MethodName) prog_19_method_103_code (4 : Nat) (Option.none : Option Jvm.ClassFile.FieldType)) ∈ gtbl := gm 42 (by decide +kernel) rfl
theorem q_48 : (Jvm.Cond.fieldLink "LeftLacks$Shop" (18 : Nat) "LeftLacks$Shop" "kind" "I") ∈ gtbl := gm 48 (by decide +kernel) rfl
theorem q_49 : (Jvm.Cond.fieldLink "LeftLacks$Speaker" (15 : Nat) "LeftLacks$Shop" "kind" "I") ∈ gtbl := gm 49 (by decide +kernel) rfl
theorem q_50 : (Jvm.Cond.fieldLink "LeftLacks$World" (114 : Nat) "LeftLacks$Shop" "kind" "I") ∈ gtbl := gm 50 (by decide +kernel) rfl
theorem q_51 : (Jvm.Cond.fieldLink "LeftLacks" (96 : Nat) "LeftLacks$Shop" "kind" "I") ∈ gtbl := gm 51 (by decide +kernel) rfl
theorem q_52 : (Jvm.Cond.fieldLink "LeftLacks$Shop" (22 : Nat) "LeftLacks$Shop" "m" "I") ∈ gtbl := gm 52 (by decide +kernel) rfl
theorem q_53 : (Jvm.Cond.fieldLink "LeftLacks$Speaker" (22 : Nat) "LeftLacks$Shop" "m" "I") ∈ gtbl := gm 53 (by decide +kernel) rfl
theorem q_54 : (Jvm.Cond.fieldLink "LeftLacks$World" (117 : Nat) "LeftLacks$Shop" "m" "I") ∈ gtbl := gm 54 (by decide +kernel) rfl
theorem q_55 : (Jvm.Cond.fieldLink "LeftLacks$Shop" (25 : Nat) "LeftLacks$Shop" "purse" "I") ∈ gtbl := gm 55 (by decide +kernel) rfl
theorem q_56 : (Jvm.Cond.fieldLink "LeftLacks$World" (120 : Nat) "LeftLacks$Shop" "purse" "I") ∈ gtbl := gm 56 (by decide +kernel) rfl
theorem q_57 : (Jvm.Cond.fieldLink "LeftLacks" (103 : Nat) "LeftLacks$Shop" "purse" "I") ∈ gtbl := gm 57 (by decide +kernel) rfl
theorem q_58 : (Jvm.Cond.fieldLink "LeftLacks$Shop" (9 : Nat) "LeftLacks$Shop" "keeps" "[I") ∈ gtbl := gm 58 (by decide +kernel) rfl
theorem q_59 : (Jvm.Cond.fieldLink "LeftLacks$World" (123 : Nat) "LeftLacks$Shop" "keeps" "[I") ∈ gtbl := gm 59 (by decide +kernel) rfl
theorem q_60 : (Jvm.Cond.fieldLink "LeftLacks" (213 : Nat) "LeftLacks$Shop" "keeps" "[I") ∈ gtbl := gm 60 (by decide +kernel) rfl
theorem q_61 : (Jvm.Cond.fieldLink "LeftLacks$Shop" (15 : Nat) "LeftLacks$Shop" "stock" "[I") ∈ gtbl := gm 61 (by decide +kernel) rfl
theorem q_62 : (Jvm.Cond.fieldLink "LeftLacks$Search" (61 : Nat) "LeftLacks$Shop" "stock" "[I") ∈ gtbl := gm 62 (by decide +kernel) rfl
theorem q_63 : (Jvm.Cond.fieldLink "LeftLacks$World" (126 : Nat) "LeftLacks$Shop" "stock" "[I") ∈ gtbl := gm 63 (by decide +kernel) rfl
theorem q_64 : (Jvm.Cond.fieldLink "LeftLacks" (232 : Nat) "LeftLacks$Shop" "stock" "[I") ∈ gtbl := gm 64 (by decide +kernel) rfl
theorem q_65 : (Jvm.Cond.fieldLink "LeftLacks$Shop" (28 : Nat) "LeftLacks$Shop" "had" "I") ∈ gtbl := gm 65 (by decide +kernel) rfl
theorem q_66 : (Jvm.Cond.fieldLink "LeftLacks$World" (140 : Nat) "LeftLacks$Shop" "had" "I") ∈ gtbl := gm 66 (by decide +kernel) rfl
theorem q_86 : (Jvm.Cond.fieldLink "LeftLacks$Customer" (7 : Nat) "LeftLacks$Customer" "wants" "I") ∈ gtbl := gm 86 (by decide +kernel) rfl
theorem q_87 : (Jvm.Cond.fieldLink "LeftLacks$World" (102 : Nat) "LeftLacks$Customer" "wants" "I") ∈ gtbl := gm 87 (by decide +kernel) rfl
theorem q_88 : (Jvm.Cond.fieldLink "LeftLacks" (135 : Nat) "LeftLacks$Customer" "wants" "I") ∈ gtbl := gm 88 (by decide +kernel) rfl
theorem q_89 : (Jvm.Cond.fieldLink "LeftLacks$Customer" (13 : Nat) "LeftLacks$Customer" "steps" "I") ∈ gtbl := gm 89 (by decide +kernel) rfl
theorem q_90 : (Jvm.Cond.fieldLink "LeftLacks$World" (105 : Nat) "LeftLacks$Customer" "steps" "I") ∈ gtbl := gm 90 (by decide +kernel) rfl
theorem q_91 : (Jvm.Cond.fieldLink "LeftLacks" (140 : Nat) "LeftLacks$Customer" "steps" "I") ∈ gtbl := gm 91 (by decide +kernel) rfl
theorem q_92 : (Jvm.Cond.fieldLink "LeftLacks$Customer" (16 : Nat) "LeftLacks$Customer" "from" "I") ∈ gtbl := gm 92 (by decide +kernel) rfl
theorem q_93 : (Jvm.Cond.fieldLink "LeftLacks$World" (108 : Nat) "LeftLacks$Customer" "from" "I") ∈ gtbl := gm 93 (by decide +kernel) rfl
theorem q_94 : (Jvm.Cond.fieldLink "LeftLacks" (143 : Nat) "LeftLacks$Customer" "from" "I") ∈ gtbl := gm 94 (by decide +kernel) rfl
theorem q_95 : (Jvm.Cond.fieldLink "LeftLacks$Customer" (19 : Nat) "LeftLacks$Customer" "coin" "I") ∈ gtbl := gm 95 (by decide +kernel) rfl
theorem q_96 : (Jvm.Cond.fieldLink "LeftLacks$World" (111 : Nat) "LeftLacks$Customer" "coin" "I") ∈ gtbl := gm 96 (by decide +kernel) rfl
theorem q_97 : (Jvm.Cond.fieldLink "LeftLacks" (146 : Nat) "LeftLacks$Customer" "coin" "I") ∈ gtbl := gm 97 (by decide +kernel) rfl
theorem q_112 : (Jvm.Cond.fieldLink "LeftLacks$Formula" (9 : Nat) "LeftLacks$Formula" "codes" "[I") ∈ gtbl := gm 112 (by decide +kernel) rfl
theorem q_113 : (Jvm.Cond.fieldLink "LeftLacks$World" (77 : Nat) "LeftLacks$Formula" "codes" "[I") ∈ gtbl := gm 113 (by decide +kernel) rfl
theorem q_114 : (Jvm.Cond.fieldLink "LeftLacks$Formula" (18 : Nat) "LeftLacks$Formula" "length" "I") ∈ gtbl := gm 114 (by decide +kernel) rfl
theorem q_115 : (Jvm.Cond.fieldLink "LeftLacks$World" (80 : Nat) "LeftLacks$Formula" "length" "I") ∈ gtbl := gm 115 (by decide +kernel) rfl
theorem q_116 : (Jvm.Cond.fieldLink "LeftLacks" (182 : Nat) "LeftLacks$Formula" "length" "I") ∈ gtbl := gm 116 (by decide +kernel) rfl
theorem q_117 : (Jvm.Cond.fieldLink "LeftLacks$Formula" (15 : Nat) "LeftLacks$Formula" "stack" "[I") ∈ gtbl := gm 117 (by decide +kernel) rfl
theorem q_125 : (Jvm.Cond.fieldLink "LeftLacks$World" (9 : Nat) "LeftLacks$World" "costs" "[I") ∈ gtbl := gm 125 (by decide +kernel) rfl
theorem q_126 : (Jvm.Cond.fieldLink "LeftLacks" (66 : Nat) "LeftLacks$World" "costs" "[I") ∈ gtbl := gm 126 (by decide +kernel) rfl
theorem q_127 : (Jvm.Cond.fieldLink "LeftLacks$World" (52 : Nat) "LeftLacks$World" "ring" "I") ∈ gtbl := gm 127 (by decide +kernel) rfl
theorem q_128 : (Jvm.Cond.fieldLink "LeftLacks" (69 : Nat) "LeftLacks$World" "ring" "I") ∈ gtbl := gm 128 (by decide +kernel) rfl
theorem q_129 : (Jvm.Cond.fieldLink "LeftLacks$World" (55 : Nat) "LeftLacks$World" "law" "I") ∈ gtbl := gm 129 (by decide +kernel) rfl
theorem q_130 : (Jvm.Cond.fieldLink "LeftLacks" (73 : Nat) "LeftLacks$World" "law" "I") ∈ gtbl := gm 130 (by decide +kernel) rfl
theorem q_131 : (Jvm.Cond.fieldLink "LeftLacks$World" (17 : Nat) "LeftLacks$World" "shops" "[LLeftLacks$Shop;") ∈ gtbl := gm 131 (by decide +kernel) rfl
theorem q_132 : (Jvm.Cond.fieldLink "LeftLacks$Search" (57 : Nat) "LeftLacks$World" "shops" "[LLeftLacks$Shop;") ∈ gtbl := gm 132 (by decide +kernel) rfl
theorem q_133 : (Jvm.Cond.fieldLink "LeftLacks" (79 : Nat) "LeftLacks$World" "shops" "[LLeftLacks$Shop;") ∈ gtbl := gm 133 (by decide +kernel) rfl
theorem q_134 : (Jvm.Cond.fieldLink "LeftLacks$World" (64 : Nat) "LeftLacks$World" "shopCount" "I") ∈ gtbl := gm 134 (by decide +kernel) rfl
theorem q_135 : (Jvm.Cond.fieldLink "LeftLacks$Search" (54 : Nat) "LeftLacks$World" "shopCount" "I") ∈ gtbl := gm 135 (by decide +kernel) rfl
theorem q_136 : (Jvm.Cond.fieldLink "LeftLacks" (76 : Nat) "LeftLacks$World" "shopCount" "I") ∈ gtbl := gm 136 (by decide +kernel) rfl
theorem q_137 : (Jvm.Cond.fieldLink "LeftLacks$World" (23 : Nat) "LeftLacks$World" "visitors" "[LLeftLacks$Customer;") ∈ gtbl := gm 137 (by decide +kernel) rfl
theorem q_138 : (Jvm.Cond.fieldLink "LeftLacks" (131 : Nat) "LeftLacks$World" "visitors" "[LLeftLacks$Customer;") ∈ gtbl := gm 138 (by decide +kernel) rfl
theorem q_139 : (Jvm.Cond.fieldLink "LeftLacks$World" (71 : Nat) "LeftLacks$World" "customerCount" "I") ∈ gtbl := gm 139 (by decide +kernel) rfl
theorem q_140 : (Jvm.Cond.fieldLink "LeftLacks" (121 : Nat) "LeftLacks$World" "customerCount" "I") ∈ gtbl := gm 140 (by decide +kernel) rfl
theorem q_141 : (Jvm.Cond.fieldLink "LeftLacks$World" (58 : Nat) "LeftLacks$World" "days" "I") ∈ gtbl := gm 141 (by decide +kernel) rfl
theorem q_142 : (Jvm.Cond.fieldLink "LeftLacks" (317 : Nat) "LeftLacks$World" "days" "I") ∈ gtbl := gm 142 (by decide +kernel) rfl
theorem q_143 : (Jvm.Cond.fieldLink "LeftLacks$World" (61 : Nat) "LeftLacks$World" "sales" "I") ∈ gtbl := gm 143 (by decide +kernel) rfl
theorem q_144 : (Jvm.Cond.fieldLink "LeftLacks" (202 : Nat) "LeftLacks$World" "sales" "I") ∈ gtbl := gm 144 (by decide +kernel) rfl
theorem q_145 : (Jvm.Cond.fieldLink "LeftLacks$World" (27 : Nat) "LeftLacks$World" "z" "I") ∈ gtbl := gm 145 (by decide +kernel) rfl
theorem q_146 : (Jvm.Cond.fieldLink "LeftLacks" (205 : Nat) "LeftLacks$World" "z" "I") ∈ gtbl := gm 146 (by decide +kernel) rfl
theorem q_147 : (Jvm.Cond.fieldLink "LeftLacks$World" (33 : Nat) "LeftLacks$World" "texts" "[LLeftLacks$Formula;") ∈ gtbl := gm 147 (by decide +kernel) rfl
theorem q_148 : (Jvm.Cond.fieldLink "LeftLacks" (162 : Nat) "LeftLacks$World" "texts" "[LLeftLacks$Formula;") ∈ gtbl := gm 148 (by decide +kernel) rfl
theorem q_149 : (Jvm.Cond.fieldLink "LeftLacks$World" (37 : Nat) "LeftLacks$World" "tape" "[I") ∈ gtbl := gm 149 (by decide +kernel) rfl
theorem q_150 : (Jvm.Cond.fieldLink "LeftLacks" (152 : Nat) "LeftLacks$World" "tape" "[I") ∈ gtbl := gm 150 (by decide +kernel) rfl
theorem q_151 : (Jvm.Cond.fieldLink "LeftLacks$World" (86 : Nat) "LeftLacks$World" "tapeCount" "I") ∈ gtbl := gm 151 (by decide +kernel) rfl
theorem q_152 : (Jvm.Cond.fieldLink "LeftLacks" (149 : Nat) "LeftLacks$World" "tapeCount" "I") ∈ gtbl := gm 152 (by decide +kernel) rfl
theorem q_153 : (Jvm.Cond.fieldLink "LeftLacks$World" (40 : Nat) "LeftLacks$World" "waiting" "[I") ∈ gtbl := gm 153 (by decide +kernel) rfl
theorem q_154 : (Jvm.Cond.fieldLink "LeftLacks" (323 : Nat) "LeftLacks$World" "waiting" "[I") ∈ gtbl := gm 154 (by decide +kernel) rfl
theorem q_155 : (Jvm.Cond.fieldLink "LeftLacks$World" (95 : Nat) "LeftLacks$World" "waitCount" "I") ∈ gtbl := gm 155 (by decide +kernel) rfl
theorem q_156 : (Jvm.Cond.fieldLink "LeftLacks" (320 : Nat) "LeftLacks$World" "waitCount" "I") ∈ gtbl := gm 156 (by decide +kernel) rfl
theorem q_197 : (Jvm.Cond.fieldLink "LeftLacks$Reader" (9 : Nat) "LeftLacks$Reader" "codes" "[I") ∈ gtbl := gm 197 (by decide +kernel) rfl
theorem q_198 : (Jvm.Cond.fieldLink "LeftLacks" (166 : Nat) "LeftLacks$Reader" "codes" "[I") ∈ gtbl := gm 198 (by decide +kernel) rfl
theorem q_199 : (Jvm.Cond.fieldLink "LeftLacks$Reader" (24 : Nat) "LeftLacks$Reader" "codeCount" "I") ∈ gtbl := gm 199 (by decide +kernel) rfl
theorem q_200 : (Jvm.Cond.fieldLink "LeftLacks" (169 : Nat) "LeftLacks$Reader" "codeCount" "I") ∈ gtbl := gm 200 (by decide +kernel) rfl
theorem q_201 : (Jvm.Cond.fieldLink "LeftLacks$Reader" (15 : Nat) "LeftLacks$Reader" "signs" "[I") ∈ gtbl := gm 201 (by decide +kernel) rfl
theorem q_202 : (Jvm.Cond.fieldLink "LeftLacks$Reader" (28 : Nat) "LeftLacks$Reader" "signCount" "I") ∈ gtbl := gm 202 (by decide +kernel) rfl
theorem q_203 : (Jvm.Cond.fieldLink "LeftLacks$Reader" (31 : Nat) "LeftLacks$Reader" "open" "I") ∈ gtbl := gm 203 (by decide +kernel) rfl
theorem q_204 : (Jvm.Cond.fieldLink "LeftLacks$Reader" (34 : Nat) "LeftLacks$Reader" "brackets" "I") ∈ gtbl := gm 204 (by decide +kernel) rfl
theorem q_205 : (Jvm.Cond.fieldLink "LeftLacks$Reader" (37 : Nat) "LeftLacks$Reader" "partDue" "Z") ∈ gtbl := gm 205 (by decide +kernel) rfl
theorem q_206 : (Jvm.Cond.fieldLink "LeftLacks$Reader" (41 : Nat) "LeftLacks$Reader" "digits" "I") ∈ gtbl := gm 206 (by decide +kernel) rfl
theorem q_207 : (Jvm.Cond.fieldLink "LeftLacks$Reader" (20 : Nat) "LeftLacks$Reader" "names" "Ljava/lang/String;") ∈ gtbl := gm 207 (by decide +kernel) rfl
theorem q_234 : (Jvm.Cond.fieldLink "LeftLacks$Speaker" (9 : Nat) "LeftLacks$Speaker" "trace" "[I") ∈ gtbl := gm 234 (by decide +kernel) rfl
theorem q_235 : (Jvm.Cond.fieldLink "LeftLacks" (261 : Nat) "LeftLacks$Speaker" "trace" "[I") ∈ gtbl := gm 235 (by decide +kernel) rfl
theorem q_236 : (Jvm.Cond.fieldLink "LeftLacks$Speaker" (29 : Nat) "LeftLacks$Speaker" "traceCount" "I") ∈ gtbl := gm 236 (by decide +kernel) rfl
theorem q_237 : (Jvm.Cond.fieldLink "LeftLacks" (258 : Nat) "LeftLacks$Speaker" "traceCount" "I") ∈ gtbl := gm 237 (by decide +kernel) rfl
theorem q_238 : (Jvm.Cond.fieldLink "LeftLacks$Speaker" (32 : Nat) "LeftLacks$Speaker" "parted" "Z") ∈ gtbl := gm 238 (by decide +kernel) rfl
theorem q_239 : (Jvm.Cond.fieldLink "LeftLacks" (254 : Nat) "LeftLacks$Speaker" "parted" "Z") ∈ gtbl := gm 239 (by decide +kernel) rfl
theorem q_240 : (Jvm.Cond.fieldLink "LeftLacks$Speaker" (21 : Nat) "LeftLacks$Speaker" "kind" "I") ∈ gtbl := gm 240 (by decide +kernel) rfl
theorem q_241 : (Jvm.Cond.fieldLink "LeftLacks$Speaker" (25 : Nat) "LeftLacks$Speaker" "m" "I") ∈ gtbl := gm 241 (by decide +kernel) rfl
theorem q_242 : (Jvm.Cond.fieldLink "LeftLacks$Speaker" (26 : Nat) "LeftLacks$Speaker" "k" "I") ∈ gtbl := gm 242 (by decide +kernel) rfl
theorem q_262 : (Jvm.Cond.fieldLink "LeftLacks$Search" (28 : Nat) "LeftLacks$Search" "sets" "I") ∈ gtbl := gm 262 (by decide +kernel) rfl
theorem q_263 : (Jvm.Cond.fieldLink "LeftLacks" (302 : Nat) "LeftLacks$Search" "sets" "I") ∈ gtbl := gm 263 (by decide +kernel) rfl
theorem q_264 : (Jvm.Cond.fieldLink "LeftLacks$Search" (31 : Nat) "LeftLacks$Search" "least" "I") ∈ gtbl := gm 264 (by decide +kernel) rfl
theorem q_265 : (Jvm.Cond.fieldLink "LeftLacks" (305 : Nat) "LeftLacks$Search" "least" "I") ∈ gtbl := gm 265 (by decide +kernel) rfl
theorem q_266 : (Jvm.Cond.fieldLink "LeftLacks$Search" (34 : Nat) "LeftLacks$Search" "surely" "I") ∈ gtbl := gm 266 (by decide +kernel) rfl
theorem q_267 : (Jvm.Cond.fieldLink "LeftLacks" (308 : Nat) "LeftLacks$Search" "surely" "I") ∈ gtbl := gm 267 (by decide +kernel) rfl
theorem q_268 : (Jvm.Cond.fieldLink "LeftLacks$Search" (37 : Nat) "LeftLacks$Search" "maybe" "I") ∈ gtbl := gm 268 (by decide +kernel) rfl
theorem q_269 : (Jvm.Cond.fieldLink "LeftLacks" (311 : Nat) "LeftLacks$Search" "maybe" "I") ∈ gtbl := gm 269 (by decide +kernel) rfl
theorem q_270 : (Jvm.Cond.fieldLink "LeftLacks$Search" (18 : Nat) "LeftLacks$Search" "place" "I") ∈ gtbl := gm 270 (by decide +kernel) rfl
theorem q_271 : (Jvm.Cond.fieldLink "LeftLacks$Search" (9 : Nat) "LeftLacks$Search" "left" "[I") ∈ gtbl := gm 271 (by decide +kernel) rfl
theorem q_272 : (Jvm.Cond.fieldLink "LeftLacks$Search" (15 : Nat) "LeftLacks$Search" "stocks" "[I") ∈ gtbl := gm 272 (by decide +kernel) rfl
theorem q_293 : (Jvm.Cond.fieldLink "LeftLacks$Sheet" (13 : Nat) "LeftLacks$Sheet" "bits" "I") ∈ gtbl := gm 293 (by decide +kernel) rfl
theorem q_294 : (Jvm.Cond.fieldLink "LeftLacks" (277 : Nat) "LeftLacks$Sheet" "bits" "I") ∈ gtbl := gm 294 (by decide +kernel) rfl
theorem q_295 : (Jvm.Cond.fieldLink "LeftLacks$Sheet" (17 : Nat) "LeftLacks$Sheet" "length" "I") ∈ gtbl := gm 295 (by decide +kernel) rfl
theorem q_296 : (Jvm.Cond.fieldLink "LeftLacks" (273 : Nat) "LeftLacks$Sheet" "length" "I") ∈ gtbl := gm 296 (by decide +kernel) rfl
theorem q_297 : (Jvm.Cond.fieldLink "LeftLacks$Sheet" (9 : Nat) "LeftLacks$Sheet" "numbers" "[I") ∈ gtbl := gm 297 (by decide +kernel) rfl
theorem q_298 : (Jvm.Cond.fieldLink "LeftLacks" (283 : Nat) "LeftLacks$Sheet" "numbers" "[I") ∈ gtbl := gm 298 (by decide +kernel) rfl
theorem q_306 : (Jvm.Cond.fieldLink "LeftLacks" (10 : Nat) "LeftLacks" "now" "LLeftLacks$World;") ∈ gtbl := gm 306 (by decide +kernel) rfl
theorem q_307 : (Jvm.Cond.fieldLink "LeftLacks" (16 : Nat) "LeftLacks" "kept" "LLeftLacks$World;") ∈ gtbl := gm 307 (by decide +kernel) rfl
theorem q_308 : (Jvm.Cond.fieldLink "LeftLacks" (19 : Nat) "LeftLacks" "trial" "LLeftLacks$World;") ∈ gtbl := gm 308 (by decide +kernel) rfl
theorem q_309 : (Jvm.Cond.fieldLink "LeftLacks" (24 : Nat) "LeftLacks" "sheets" "[LLeftLacks$Sheet;") ∈ gtbl := gm 309 (by decide +kernel) rfl
theorem q_310 : (Jvm.Cond.fieldLink "LeftLacks" (31 : Nat) "LeftLacks" "reader" "LLeftLacks$Reader;") ∈ gtbl := gm 310 (by decide +kernel) rfl
theorem q_311 : (Jvm.Cond.fieldLink "LeftLacks" (38 : Nat) "LeftLacks" "speaker" "LLeftLacks$Speaker;") ∈ gtbl := gm 311 (by decide +kernel) rfl
theorem q_312 : (Jvm.Cond.fieldLink "LeftLacks" (45 : Nat) "LeftLacks" "search" "LLeftLacks$Search;") ∈ gtbl := gm 312 (by decide +kernel) rfl
theorem q_313 : (Jvm.Cond.fieldLink "LeftLacks" (49 : Nat) "LeftLacks" "errors" "[I") ∈ gtbl := gm 313 (by decide +kernel) rfl
theorem q_314 : (Jvm.Cond.fieldLink "LeftLacks" (314 : Nat) "LeftLacks" "images" "I") ∈ gtbl := gm 314 (by decide +kernel) rfl
theorem q_335 : (Jvm.Cond.instanceMethod ({ cls := "LeftLacks", name := "cost", desc := "(II)I" } : Jvm.MethodName)) ∈ gtbl := gm 335 (by decide +kernel) rfl
theorem q_336 : (Jvm.Cond.selects "LeftLacks" ({ cls := "LeftLacks", name := "cost", desc := "(II)I" } : Jvm.MethodName) ({ cls := "LeftLacks", name := "cost", desc := "(II)I" } : Jvm.MethodName)) ∈ gtbl := gm 336 (by decide +kernel) rfl
theorem q_337 : (Jvm.Cond.code ({ cls := "LeftLacks", name := "cost", desc := "(II)I" } : Jvm.MethodName) prog_1_method_2_code (4 : Nat) (Option.some Jvm.ClassFile.FieldType.int)) ∈ gtbl := gm 337 (by decide +kernel) rfl
theorem q_338 : (Jvm.Cond.methodLink "LeftLacks" (54 : Nat) ({ cls := "LeftLacks", name := "isGood", desc := "(I)Z" } : Jvm.MethodName)) ∈ gtbl := gm 338 (by decide +kernel) rfl
theorem q_339 : (Jvm.Cond.static ({ cls := "LeftLacks", name := "isGood", desc := "(I)Z" } : Jvm.MethodName)) ∈ gtbl := gm 339 (by decide +kernel) rfl
theorem q_340 : (Jvm.Cond.code ({ cls := "LeftLacks", name := "isGood", desc := "(I)Z" } : Jvm.MethodName) prog_1_method_47_code (1 : Nat) (Option.some Jvm.ClassFile.FieldType.boolean)) ∈ gtbl := gm 340 (by decide +kernel) rfl
theorem q_341 : (Jvm.Cond.methodLink "LeftLacks" (58 : Nat) ({ cls := "LeftLacks", name := "within", desc := "(III)Z" } : Jvm.MethodName)) ∈ gtbl := gm 341 (by decide +kernel) rfl
theorem q_342 : (Jvm.Cond.static ({ cls := "LeftLacks", name := "within", desc := "(III)Z" } : Jvm.MethodName)) ∈ gtbl := gm 342 (by decide +kernel) rfl
theorem q_343 : (Jvm.Cond.code ({ cls := "LeftLacks", name := "within", desc := "(III)Z" } : Jvm.MethodName) prog_1_method_45_code (3 : Nat) (Option.some Jvm.ClassFile.FieldType.boolean)) ∈ gtbl := gm 343 (by decide +kernel) rfl
theorem q_344 : (Jvm.Cond.methodLink "LeftLacks" (62 : Nat) ({ cls := "LeftLacks", name := "error", desc := "(I)I" } : Jvm.MethodName)) ∈ gtbl := gm 344 (by decide +kernel) rfl
theorem q_346 : (Jvm.Cond.instanceMethod ({ cls := "LeftLacks", name := "error", desc := "(I)I" } : Jvm.MethodName)) ∈ gtbl := gm 346 (by decide +kernel) rfl
theorem q_347 : (Jvm.Cond.code ({ cls := "LeftLacks", name := "error", desc := "(I)I" } : Jvm.MethodName) prog_1_method_42_code (2 : Nat) (Option.some Jvm.ClassFile.FieldType.int)) ∈ gtbl := gm 347 (by decide +kernel) rfl
theorem q_348 : (Jvm.Cond.constant "LeftLacks" (329 : Nat) (-1000000000 : Int32)) ∈ gtbl := gm 348 (by decide +kernel) rfl
theorem q_350 : (Jvm.Cond.instanceMethod ({ cls := "LeftLacks", name := "rule", desc := "(II)I" } : Jvm.MethodName)) ∈ gtbl := gm 350 (by decide +kernel) rfl
theorem q_351 : (Jvm.Cond.selects "LeftLacks" ({ cls := "LeftLacks", name := "rule", desc := "(II)I" } : Jvm.MethodName) ({ cls := "LeftLacks", name := "rule", desc := "(II)I" } : Jvm.MethodName)) ∈ gtbl := gm 351 (by decide +kernel) rfl
theorem q_352 : (Jvm.Cond.code ({ cls := "LeftLacks", name := "rule", desc := "(II)I" } : Jvm.MethodName) prog_1_method_3_code (4 : Nat) (Option.some Jvm.ClassFile.FieldType.int)) ∈ gtbl := gm 352 (by decide +kernel) rfl
theorem q_354 : (Jvm.Cond.instanceMethod ({ cls := "LeftLacks", name := "shop", desc := "(I)I" } : Jvm.MethodName)) ∈ gtbl := gm 354 (by decide +kernel) rfl
theorem q_355 : (Jvm.Cond.selects "LeftLacks" ({ cls := "LeftLacks", name := "shop", desc := "(I)I" } : Jvm.MethodName) ({ cls := "LeftLacks", name := "shop", desc := "(I)I" } : Jvm.MethodName)) ∈ gtbl := gm 355 (by decide +kernel) rfl
theorem q_356 : (Jvm.Cond.code ({ cls := "LeftLacks", name := "shop", desc := "(I)I" } : Jvm.MethodName) prog_1_method_4_code (2 : Nat) (Option.some Jvm.ClassFile.FieldType.int)) ∈ gtbl := gm 356 (by decide +kernel) rfl
theorem q_357 : (Jvm.Cond.methodLink "LeftLacks" (83 : Nat) ({ cls := "LeftLacks$Shop", name := "open", desc := "(II)V" } : Jvm.MethodName)) ∈ gtbl := gm 357 (by decide +kernel) rfl
theorem q_358 : (Jvm.Cond.instanceMethod ({ cls := "LeftLacks$Shop", name := "open", desc := "(II)V" } : Jvm.MethodName)) ∈ gtbl := gm 358 (by decide +kernel) rfl
theorem q_359 : (Jvm.Cond.selects "LeftLacks$Shop" ({ cls := "LeftLacks$Shop", name := "open", desc := "(II)V" } : Jvm.MethodName) ({ cls := "LeftLacks$Shop", name := "open", desc := "(II)V" } : Jvm.MethodName)) ∈ gtbl := gm 359 (by decide +kernel) rfl
theorem q_360 : (Jvm.Cond.code ({ cls := "LeftLacks$Shop", name := "open", desc := "(II)V" } : Jvm.MethodName) prog_7_method_2_code (3 : Nat) (Option.none : Option Jvm.ClassFile.FieldType)) ∈ gtbl := gm 360 (by decide +kernel) rfl
theorem q_361 : (Jvm.Cond.methodLink "LeftLacks$Shop" (31 : Nat) ({ cls := "java/util/Arrays", name := "fill", desc := "([II)V" } : Jvm.MethodName)) ∈ gtbl := gm 361 (by decide +kernel) rfl
theorem q_363 : (Jvm.Cond.instanceMethod ({ cls := "LeftLacks", name := "shopIs", desc := "(II)I" } : Jvm.MethodName)) ∈ gtbl := gm 363 (by decide +kernel) rfl
theorem q_364 : (Jvm.Cond.selects "LeftLacks" ({ cls := "LeftLacks", name := "shopIs", desc := "(II)I" } : Jvm.MethodName) ({ cls := "LeftLacks", name := "shopIs", desc := "(II)I" } : Jvm.MethodName)) ∈ gtbl := gm 364 (by decide +kernel) rfl
theorem q_365 : (Jvm.Cond.code ({ cls := "LeftLacks", name := "shopIs", desc := "(II)I" } : Jvm.MethodName) prog_1_method_5_code (3 : Nat) (Option.some Jvm.ClassFile.FieldType.int)) ∈ gtbl := gm 365 (by decide +kernel) rfl
theorem q_366 : (Jvm.Cond.methodLink "LeftLacks" (89 : Nat) ({ cls := "LeftLacks$World", name := "hasShop", desc := "(I)Z" } : Jvm.MethodName)) ∈ gtbl := gm 366 (by decide +kernel) rfl
theorem q_367 : (Jvm.Cond.instanceMethod ({ cls := "LeftLacks$World", name := "hasShop", desc := "(I)Z" } : Jvm.MethodName)) ∈ gtbl := gm 367 (by decide +kernel) rfl
theorem q_368 : (Jvm.Cond.selects "LeftLacks$World" ({ cls := "LeftLacks$World", name := "hasShop", desc := "(I)Z" } : Jvm.MethodName) ({ cls := "LeftLacks$World", name := "hasShop", desc := "(I)Z" } : Jvm.MethodName)) ∈ gtbl := gm 368 (by decide +kernel) rfl
theorem q_369 : (Jvm.Cond.code ({ cls := "LeftLacks$World", name := "hasShop", desc := "(I)Z" } : Jvm.MethodName) prog_9_method_3_code (2 : Nat) (Option.some Jvm.ClassFile.FieldType.boolean)) ∈ gtbl := gm 369 (by decide +kernel) rfl
theorem q_371 : (Jvm.Cond.methodLink "LeftLacks" (92 : Nat) ({ cls := "LeftLacks$World", name := "factOf", desc := "(II)I" } : Jvm.MethodName)) ∈ gtbl := gm 371 (by decide +kernel) rfl
theorem q_372 : (Jvm.Cond.instanceMethod ({ cls := "LeftLacks$World", name := "factOf", desc := "(II)I" } : Jvm.MethodName)) ∈ gtbl := gm 372 (by decide +kernel) rfl
theorem q_373 : (Jvm.Cond.selects "LeftLacks$World" ({ cls := "LeftLacks$World", name := "factOf", desc := "(II)I" } : Jvm.MethodName) ({ cls := "LeftLacks$World", name := "factOf", desc := "(II)I" } : Jvm.MethodName)) ∈ gtbl := gm 373 (by decide +kernel) rfl
theorem q_374 : (Jvm.Cond.code ({ cls := "LeftLacks$World", name := "factOf", desc := "(II)I" } : Jvm.MethodName) prog_9_method_6_code (4 : Nat) (Option.some Jvm.ClassFile.FieldType.int)) ∈ gtbl := gm 374 (by decide +kernel) rfl
theorem q_375 : (Jvm.Cond.methodLink "LeftLacks$World" (129 : Nat) ({ cls := "LeftLacks$World", name := "mayGoods", desc := "(I)I" } : Jvm.MethodName)) ∈ gtbl := gm 375 (by decide +kernel) rfl
theorem q_376 : (Jvm.Cond.instanceMethod ({ cls := "LeftLacks$World", name := "mayGoods", desc := "(I)I" } : Jvm.MethodName)) ∈ gtbl := gm 376 (by decide +kernel) rfl
theorem q_377 : (Jvm.Cond.selects "LeftLacks$World" ({ cls := "LeftLacks$World", name := "mayGoods", desc := "(I)I" } : Jvm.MethodName) ({ cls := "LeftLacks$World", name := "mayGoods", desc := "(I)I" } : Jvm.MethodName)) ∈ gtbl := gm 377 (by decide +kernel) rfl
theorem q_378 : (Jvm.Cond.code ({ cls := "LeftLacks$World", name := "mayGoods", desc := "(I)I" } : Jvm.MethodName) prog_9_method_10_code (4 : Nat) (Option.some Jvm.ClassFile.FieldType.int)) ∈ gtbl := gm 378 (by decide +kernel) rfl
theorem q_379 : (Jvm.Cond.methodLink "LeftLacks$World" (143 : Nat) ({ cls := "LeftLacks$World", name := "maySell", desc := "(II)Z" } : Jvm.MethodName)) ∈ gtbl := gm 379 (by decide +kernel) rfl
theorem q_380 : (Jvm.Cond.instanceMethod ({ cls := "LeftLacks$World", name := "maySell", desc := "(II)Z" } : Jvm.MethodName)) ∈ gtbl := gm 380 (by decide +kernel) rfl
theorem q_381 : (Jvm.Cond.selects "LeftLacks$World" ({ cls := "LeftLacks$World", name := "maySell", desc := "(II)Z" } : Jvm.MethodName) ({ cls := "LeftLacks$World", name := "maySell", desc := "(II)Z" } : Jvm.MethodName)) ∈ gtbl := gm 381 (by decide +kernel) rfl
theorem q_382 : (Jvm.Cond.code ({ cls := "LeftLacks$World", name := "maySell", desc := "(II)Z" } : Jvm.MethodName) prog_9_method_9_code (4 : Nat) (Option.some Jvm.ClassFile.FieldType.boolean)) ∈ gtbl := gm 382 (by decide +kernel) rfl
theorem q_383 : (Jvm.Cond.methodLink "LeftLacks$World" (133 : Nat) ({ cls := "LeftLacks$World", name := "leftOf", desc := "(I)I" } : Jvm.MethodName)) ∈ gtbl := gm 383 (by decide +kernel) rfl
theorem q_384 : (Jvm.Cond.instanceMethod ({ cls := "LeftLacks$World", name := "leftOf", desc := "(I)I" } : Jvm.MethodName)) ∈ gtbl := gm 384 (by decide +kernel) rfl
theorem q_385 : (Jvm.Cond.selects "LeftLacks$World" ({ cls := "LeftLacks$World", name := "leftOf", desc := "(I)I" } : Jvm.MethodName) ({ cls := "LeftLacks$World", name := "leftOf", desc := "(I)I" } : Jvm.MethodName)) ∈ gtbl := gm 385 (by decide +kernel) rfl
theorem q_386 : (Jvm.Cond.code ({ cls := "LeftLacks$World", name := "leftOf", desc := "(I)I" } : Jvm.MethodName) prog_9_method_7_code (2 : Nat) (Option.some Jvm.ClassFile.FieldType.int)) ∈ gtbl := gm 386 (by decide +kernel) rfl
theorem q_387 : (Jvm.Cond.methodLink "LeftLacks$World" (136 : Nat) ({ cls := "LeftLacks$World", name := "stockOf", desc := "(II)I" } : Jvm.MethodName)) ∈ gtbl := gm 387 (by decide +kernel) rfl
theorem q_388 : (Jvm.Cond.instanceMethod ({ cls := "LeftLacks$World", name := "stockOf", desc := "(II)I" } : Jvm.MethodName)) ∈ gtbl := gm 388 (by decide +kernel) rfl
theorem q_389 : (Jvm.Cond.selects "LeftLacks$World" ({ cls := "LeftLacks$World", name := "stockOf", desc := "(II)I" } : Jvm.MethodName) ({ cls := "LeftLacks$World", name := "stockOf", desc := "(II)I" } : Jvm.MethodName)) ∈ gtbl := gm 389 (by decide +kernel) rfl
theorem q_390 : (Jvm.Cond.code ({ cls := "LeftLacks$World", name := "stockOf", desc := "(II)I" } : Jvm.MethodName) prog_9_method_8_code (3 : Nat) (Option.some Jvm.ClassFile.FieldType.int)) ∈ gtbl := gm 390 (by decide +kernel) rfl
theorem q_392 : (Jvm.Cond.instanceMethod ({ cls := "LeftLacks", name := "as", desc := "(II)I" } : Jvm.MethodName)) ∈ gtbl := gm 392 (by decide +kernel) rfl
theorem q_393 : (Jvm.Cond.selects "LeftLacks" ({ cls := "LeftLacks", name := "as", desc := "(II)I" } : Jvm.MethodName) ({ cls := "LeftLacks", name := "as", desc := "(II)I" } : Jvm.MethodName)) ∈ gtbl := gm 393 (by decide +kernel) rfl
theorem q_394 : (Jvm.Cond.code ({ cls := "LeftLacks", name := "as", desc := "(II)I" } : Jvm.MethodName) prog_1_method_6_code (3 : Nat) (Option.some Jvm.ClassFile.FieldType.int)) ∈ gtbl := gm 394 (by decide +kernel) rfl
theorem q_395 : (Jvm.Cond.methodLink "LeftLacks" (99 : Nat) ({ cls := "LeftLacks", name := "isUnder", desc := "(II)Z" } : Jvm.MethodName)) ∈ gtbl := gm 395 (by decide +kernel) rfl
theorem q_396 : (Jvm.Cond.static ({ cls := "LeftLacks", name := "isUnder", desc := "(II)Z" } : Jvm.MethodName)) ∈ gtbl := gm 396 (by decide +kernel) rfl
theorem q_397 : (Jvm.Cond.code ({ cls := "LeftLacks", name := "isUnder", desc := "(II)Z" } : Jvm.MethodName) prog_1_method_51_code (4 : Nat) (Option.some Jvm.ClassFile.FieldType.boolean)) ∈ gtbl := gm 397 (by decide +kernel) rfl
theorem q_398 : (Jvm.Cond.fieldLink "LeftLacks" (330 : Nat) "LeftLacks" "ABOVE" "[I") ∈ gtbl := gm 398 (by decide +kernel) rfl
theorem q_401 : (Jvm.Cond.instanceMethod ({ cls := "LeftLacks", name := "set", desc := "(III)I" } : Jvm.MethodName)) ∈ gtbl := gm 401 (by decide +kernel) rfl
theorem q_402 : (Jvm.Cond.selects "LeftLacks" ({ cls := "LeftLacks", name := "set", desc := "(III)I" } : Jvm.MethodName) ({ cls := "LeftLacks", name := "set", desc := "(III)I" } : Jvm.MethodName)) ∈ gtbl := gm 402 (by decide +kernel) rfl
theorem q_403 : (Jvm.Cond.code ({ cls := "LeftLacks", name := "set", desc := "(III)I" } : Jvm.MethodName) prog_1_method_7_code (5 : Nat) (Option.some Jvm.ClassFile.FieldType.int)) ∈ gtbl := gm 403 (by decide +kernel) rfl
theorem q_404 : (Jvm.Cond.methodLink "LeftLacks" (106 : Nat) ({ cls := "LeftLacks", name := "mostOf", desc := "(I)I" } : Jvm.MethodName)) ∈ gtbl := gm 404 (by decide +kernel) rfl
theorem q_405 : (Jvm.Cond.static ({ cls := "LeftLacks", name := "mostOf", desc := "(I)I" } : Jvm.MethodName)) ∈ gtbl := gm 405 (by decide +kernel) rfl
theorem q_406 : (Jvm.Cond.code ({ cls := "LeftLacks", name := "mostOf", desc := "(I)I" } : Jvm.MethodName) prog_1_method_52_code (1 : Nat) (Option.some Jvm.ClassFile.FieldType.int)) ∈ gtbl := gm 406 (by decide +kernel) rfl
theorem q_407 : (Jvm.Cond.methodLink "LeftLacks" (109 : Nat) ({ cls := "LeftLacks$Shop", name := "change", desc := "(II)V" } : Jvm.MethodName)) ∈ gtbl := gm 407 (by decide +kernel) rfl
theorem q_408 : (Jvm.Cond.instanceMethod ({ cls := "LeftLacks$Shop", name := "change", desc := "(II)V" } : Jvm.MethodName)) ∈ gtbl := gm 408 (by decide +kernel) rfl
theorem q_409 : (Jvm.Cond.selects "LeftLacks$Shop" ({ cls := "LeftLacks$Shop", name := "change", desc := "(II)V" } : Jvm.MethodName) ({ cls := "LeftLacks$Shop", name := "change", desc := "(II)V" } : Jvm.MethodName)) ∈ gtbl := gm 409 (by decide +kernel) rfl
theorem q_410 : (Jvm.Cond.code ({ cls := "LeftLacks$Shop", name := "change", desc := "(II)V" } : Jvm.MethodName) prog_7_method_4_code (3 : Nat) (Option.none : Option Jvm.ClassFile.FieldType)) ∈ gtbl := gm 410 (by decide +kernel) rfl
theorem q_413 : (Jvm.Cond.instanceMethod ({ cls := "LeftLacks", name := "price", desc := "(II)I" } : Jvm.MethodName)) ∈ gtbl := gm 413 (by decide +kernel) rfl
theorem q_414 : (Jvm.Cond.selects "LeftLacks" ({ cls := "LeftLacks", name := "price", desc := "(II)I" } : Jvm.MethodName) ({ cls := "LeftLacks", name := "price", desc := "(II)I" } : Jvm.MethodName)) ∈ gtbl := gm 414 (by decide +kernel) rfl
theorem q_415 : (Jvm.Cond.code ({ cls := "LeftLacks", name := "price", desc := "(II)I" } : Jvm.MethodName) prog_1_method_8_code (3 : Nat) (Option.some Jvm.ClassFile.FieldType.int)) ∈ gtbl := gm 415 (by decide +kernel) rfl
theorem q_416 : (Jvm.Cond.methodLink "LeftLacks" (112 : Nat) ({ cls := "LeftLacks$World", name := "priceOf", desc := "(II)I" } : Jvm.MethodName)) ∈ gtbl := gm 416 (by decide +kernel) rfl
theorem q_417 : (Jvm.Cond.instanceMethod ({ cls := "LeftLacks$World", name := "priceOf", desc := "(II)I" } : Jvm.MethodName)) ∈ gtbl := gm 417 (by decide +kernel) rfl
theorem q_418 : (Jvm.Cond.selects "LeftLacks$World" ({ cls := "LeftLacks$World", name := "priceOf", desc := "(II)I" } : Jvm.MethodName) ({ cls := "LeftLacks$World", name := "priceOf", desc := "(II)I" } : Jvm.MethodName)) ∈ gtbl := gm 418 (by decide +kernel) rfl
theorem q_419 : (Jvm.Cond.code ({ cls := "LeftLacks$World", name := "priceOf", desc := "(II)I" } : Jvm.MethodName) prog_9_method_12_code (5 : Nat) (Option.some Jvm.ClassFile.FieldType.int)) ∈ gtbl := gm 419 (by decide +kernel) rfl
theorem q_420 : (Jvm.Cond.methodLink "LeftLacks$World" (152 : Nat) ({ cls := "LeftLacks$Formula", name := "isTold", desc := "()Z" } : Jvm.MethodName)) ∈ gtbl := gm 420 (by decide +kernel) rfl
theorem q_421 : (Jvm.Cond.instanceMethod ({ cls := "LeftLacks$Formula", name := "isTold", desc := "()Z" } : Jvm.MethodName)) ∈ gtbl := gm 421 (by decide +kernel) rfl
theorem q_422 : (Jvm.Cond.selects "LeftLacks$Formula" ({ cls := "LeftLacks$Formula", name := "isTold", desc := "()Z" } : Jvm.MethodName) ({ cls := "LeftLacks$Formula", name := "isTold", desc := "()Z" } : Jvm.MethodName)) ∈ gtbl := gm 422 (by decide +kernel) rfl
theorem q_423 : (Jvm.Cond.code ({ cls := "LeftLacks$Formula", name := "isTold", desc := "()Z" } : Jvm.MethodName) prog_3_method_2_code (1 : Nat) (Option.some Jvm.ClassFile.FieldType.boolean)) ∈ gtbl := gm 423 (by decide +kernel) rfl
theorem q_424 : (Jvm.Cond.methodLink "LeftLacks$World" (156 : Nat) ({ cls := "LeftLacks$Formula", name := "value", desc := "(IIII)I" } : Jvm.MethodName)) ∈ gtbl := gm 424 (by decide +kernel) rfl
theorem q_425 : (Jvm.Cond.instanceMethod ({ cls := "LeftLacks$Formula", name := "value", desc := "(IIII)I" } : Jvm.MethodName)) ∈ gtbl := gm 425 (by decide +kernel) rfl
theorem q_426 : (Jvm.Cond.selects "LeftLacks$Formula" ({ cls := "LeftLacks$Formula", name := "value", desc := "(IIII)I" } : Jvm.MethodName) ({ cls := "LeftLacks$Formula", name := "value", desc := "(IIII)I" } : Jvm.MethodName)) ∈ gtbl := gm 426 (by decide +kernel) rfl
theorem q_427 : (Jvm.Cond.code ({ cls := "LeftLacks$Formula", name := "value", desc := "(IIII)I" } : Jvm.MethodName) prog_3_method_4_code (8 : Nat) (Option.some Jvm.ClassFile.FieldType.int)) ∈ gtbl := gm 427 (by decide +kernel) rfl
theorem q_428 : (Jvm.Cond.methodLink "LeftLacks$Formula" (28 : Nat) ({ cls := "LeftLacks$Formula", name := "named", desc := "(IIIII)I" } : Jvm.MethodName)) ∈ gtbl := gm 428 (by decide +kernel) rfl
theorem q_429 : (Jvm.Cond.static ({ cls := "LeftLacks$Formula", name := "named", desc := "(IIIII)I" } : Jvm.MethodName)) ∈ gtbl := gm 429 (by decide +kernel) rfl
theorem q_430 : (Jvm.Cond.code ({ cls := "LeftLacks$Formula", name := "named", desc := "(IIIII)I" } : Jvm.MethodName) prog_3_method_5_code (5 : Nat) (Option.some Jvm.ClassFile.FieldType.int)) ∈ gtbl := gm 430 (by decide +kernel) rfl
theorem q_431 : (Jvm.Cond.methodLink "LeftLacks$Formula" (32 : Nat) ({ cls := "LeftLacks$Formula", name := "worked", desc := "(III)I" } : Jvm.MethodName)) ∈ gtbl := gm 431 (by decide +kernel) rfl
theorem q_432 : (Jvm.Cond.static ({ cls := "LeftLacks$Formula", name := "worked", desc := "(III)I" } : Jvm.MethodName)) ∈ gtbl := gm 432 (by decide +kernel) rfl
theorem q_433 : (Jvm.Cond.code ({ cls := "LeftLacks$Formula", name := "worked", desc := "(III)I" } : Jvm.MethodName) prog_3_method_6_code (3 : Nat) (Option.some Jvm.ClassFile.FieldType.int)) ∈ gtbl := gm 433 (by decide +kernel) rfl
theorem q_435 : (Jvm.Cond.static ({ cls := "LeftLacks", name := "hold", desc := "(III)I" } : Jvm.MethodName)) ∈ gtbl := gm 435 (by decide +kernel) rfl
theorem q_436 : (Jvm.Cond.code ({ cls := "LeftLacks", name := "hold", desc := "(III)I" } : Jvm.MethodName) prog_1_method_46_code (3 : Nat) (Option.some Jvm.ClassFile.FieldType.int)) ∈ gtbl := gm 436 (by decide +kernel) rfl
theorem q_438 : (Jvm.Cond.instanceMethod ({ cls := "LeftLacks", name := "fills", desc := "(II)I" } : Jvm.MethodName)) ∈ gtbl := gm 438 (by decide +kernel) rfl
theorem q_439 : (Jvm.Cond.selects "LeftLacks" ({ cls := "LeftLacks", name := "fills", desc := "(II)I" } : Jvm.MethodName) ({ cls := "LeftLacks", name := "fills", desc := "(II)I" } : Jvm.MethodName)) ∈ gtbl := gm 439 (by decide +kernel) rfl
theorem q_440 : (Jvm.Cond.code ({ cls := "LeftLacks", name := "fills", desc := "(II)I" } : Jvm.MethodName) prog_1_method_9_code (3 : Nat) (Option.some Jvm.ClassFile.FieldType.int)) ∈ gtbl := gm 440 (by decide +kernel) rfl
theorem q_441 : (Jvm.Cond.methodLink "LeftLacks" (115 : Nat) ({ cls := "LeftLacks$World", name := "fillOf", desc := "(II)I" } : Jvm.MethodName)) ∈ gtbl := gm 441 (by decide +kernel) rfl
theorem q_442 : (Jvm.Cond.instanceMethod ({ cls := "LeftLacks$World", name := "fillOf", desc := "(II)I" } : Jvm.MethodName)) ∈ gtbl := gm 442 (by decide +kernel) rfl
theorem q_443 : (Jvm.Cond.selects "LeftLacks$World" ({ cls := "LeftLacks$World", name := "fillOf", desc := "(II)I" } : Jvm.MethodName) ({ cls := "LeftLacks$World", name := "fillOf", desc := "(II)I" } : Jvm.MethodName)) ∈ gtbl := gm 443 (by decide +kernel) rfl
theorem q_444 : (Jvm.Cond.code ({ cls := "LeftLacks$World", name := "fillOf", desc := "(II)I" } : Jvm.MethodName) prog_9_method_11_code (7 : Nat) (Option.some Jvm.ClassFile.FieldType.int)) ∈ gtbl := gm 444 (by decide +kernel) rfl
theorem q_445 : (Jvm.Cond.methodLink "LeftLacks$World" (147 : Nat) ({ cls := "java/lang/Math", name := "min", desc := "(II)I" } : Jvm.MethodName)) ∈ gtbl := gm 445 (by decide +kernel) rfl
theorem q_446 : (Jvm.Cond.static ({ cls := "java/lang/Math", name := "min", desc := "(II)I" } : Jvm.MethodName)) ∈ gtbl := gm 446 (by decide +kernel) rfl
theorem q_447 : (Jvm.Cond.code ({ cls := "java/lang/Math", name := "min", desc := "(II)I" } : Jvm.MethodName) prog_14_method_69_code (2 : Nat) (Option.some Jvm.ClassFile.FieldType.int)) ∈ gtbl := gm 447 (by decide +kernel) rfl
theorem q_449 : (Jvm.Cond.instanceMethod ({ cls := "LeftLacks", name := "customer", desc := "(III)I" } : Jvm.MethodName)) ∈ gtbl := gm 449 (by decide +kernel) rfl
theorem q_450 : (Jvm.Cond.selects "LeftLacks" ({ cls := "LeftLacks", name := "customer", desc := "(III)I" } : Jvm.MethodName) ({ cls := "LeftLacks", name := "customer", desc := "(III)I" } : Jvm.MethodName)) ∈ gtbl := gm 450 (by decide +kernel) rfl
theorem q_451 : (Jvm.Cond.code ({ cls := "LeftLacks", name := "customer", desc := "(III)I" } : Jvm.MethodName) prog_1_method_10_code (4 : Nat) (Option.some Jvm.ClassFile.FieldType.int)) ∈ gtbl := gm 451 (by decide +kernel) rfl
theorem q_452 : (Jvm.Cond.methodLink "LeftLacks" (118 : Nat) ({ cls := "LeftLacks", name := "isCustomer", desc := "(III)Z" } : Jvm.MethodName)) ∈ gtbl := gm 452 (by decide +kernel) rfl
theorem q_453 : (Jvm.Cond.static ({ cls := "LeftLacks", name := "isCustomer", desc := "(III)Z" } : Jvm.MethodName)) ∈ gtbl := gm 453 (by decide +kernel) rfl
theorem q_454 : (Jvm.Cond.code ({ cls := "LeftLacks", name := "isCustomer", desc := "(III)Z" } : Jvm.MethodName) prog_1_method_50_code (4 : Nat) (Option.some Jvm.ClassFile.FieldType.boolean)) ∈ gtbl := gm 454 (by decide +kernel) rfl
theorem q_455 : (Jvm.Cond.methodLink "LeftLacks" (124 : Nat) ({ cls := "LeftLacks$World", name := "welcome", desc := "(III)V" } : Jvm.MethodName)) ∈ gtbl := gm 455 (by decide +kernel) rfl
theorem q_456 : (Jvm.Cond.instanceMethod ({ cls := "LeftLacks$World", name := "welcome", desc := "(III)V" } : Jvm.MethodName)) ∈ gtbl := gm 456 (by decide +kernel) rfl
theorem q_457 : (Jvm.Cond.selects "LeftLacks$World" ({ cls := "LeftLacks$World", name := "welcome", desc := "(III)V" } : Jvm.MethodName) ({ cls := "LeftLacks$World", name := "welcome", desc := "(III)V" } : Jvm.MethodName)) ∈ gtbl := gm 457 (by decide +kernel) rfl
theorem q_458 : (Jvm.Cond.code ({ cls := "LeftLacks$World", name := "welcome", desc := "(III)V" } : Jvm.MethodName) prog_9_method_5_code (5 : Nat) (Option.none : Option Jvm.ClassFile.FieldType)) ∈ gtbl := gm 458 (by decide +kernel) rfl
theorem q_460 : (Jvm.Cond.instanceMethod ({ cls := "LeftLacks", name := "customerIs", desc := "(II)I" } : Jvm.MethodName)) ∈ gtbl := gm 460 (by decide +kernel) rfl
theorem q_461 : (Jvm.Cond.selects "LeftLacks" ({ cls := "LeftLacks", name := "customerIs", desc := "(II)I" } : Jvm.MethodName) ({ cls := "LeftLacks", name := "customerIs", desc := "(II)I" } : Jvm.MethodName)) ∈ gtbl := gm 461 (by decide +kernel) rfl
theorem q_462 : (Jvm.Cond.code ({ cls := "LeftLacks", name := "customerIs", desc := "(II)I" } : Jvm.MethodName) prog_1_method_11_code (4 : Nat) (Option.some Jvm.ClassFile.FieldType.int)) ∈ gtbl := gm 462 (by decide +kernel) rfl
theorem q_463 : (Jvm.Cond.methodLink "LeftLacks" (128 : Nat) ({ cls := "LeftLacks$World", name := "hasCustomer", desc := "(I)Z" } : Jvm.MethodName)) ∈ gtbl := gm 463 (by decide +kernel) rfl
theorem q_464 : (Jvm.Cond.instanceMethod ({ cls := "LeftLacks$World", name := "hasCustomer", desc := "(I)Z" } : Jvm.MethodName)) ∈ gtbl := gm 464 (by decide +kernel) rfl
theorem q_465 : (Jvm.Cond.selects "LeftLacks$World" ({ cls := "LeftLacks$World", name := "hasCustomer", desc := "(I)Z" } : Jvm.MethodName) ({ cls := "LeftLacks$World", name := "hasCustomer", desc := "(I)Z" } : Jvm.MethodName)) ∈ gtbl := gm 465 (by decide +kernel) rfl
theorem q_466 : (Jvm.Cond.code ({ cls := "LeftLacks$World", name := "hasCustomer", desc := "(I)Z" } : Jvm.MethodName) prog_9_method_4_code (2 : Nat) (Option.some Jvm.ClassFile.FieldType.boolean)) ∈ gtbl := gm 466 (by decide +kernel) rfl
theorem q_468 : (Jvm.Cond.instanceMethod ({ cls := "LeftLacks", name := "leave", desc := "()I" } : Jvm.MethodName)) ∈ gtbl := gm 468 (by decide +kernel) rfl
theorem q_469 : (Jvm.Cond.selects "LeftLacks" ({ cls := "LeftLacks", name := "leave", desc := "()I" } : Jvm.MethodName) ({ cls := "LeftLacks", name := "leave", desc := "()I" } : Jvm.MethodName)) ∈ gtbl := gm 469 (by decide +kernel) rfl
theorem q_470 : (Jvm.Cond.code ({ cls := "LeftLacks", name := "leave", desc := "()I" } : Jvm.MethodName) prog_1_method_12_code (1 : Nat) (Option.some Jvm.ClassFile.FieldType.int)) ∈ gtbl := gm 470 (by decide +kernel) rfl
theorem q_472 : (Jvm.Cond.instanceMethod ({ cls := "LeftLacks", name := "feed", desc := "(JI)I" } : Jvm.MethodName)) ∈ gtbl := gm 472 (by decide +kernel) rfl
theorem q_473 : (Jvm.Cond.selects "LeftLacks" ({ cls := "LeftLacks", name := "feed", desc := "(JI)I" } : Jvm.MethodName) ({ cls := "LeftLacks", name := "feed", desc := "(JI)I" } : Jvm.MethodName)) ∈ gtbl := gm 473 (by decide +kernel) rfl
theorem q_474 : (Jvm.Cond.code ({ cls := "LeftLacks", name := "feed", desc := "(JI)I" } : Jvm.MethodName) prog_1_method_13_code (5 : Nat) (Option.some Jvm.ClassFile.FieldType.int)) ∈ gtbl := gm 474 (by decide +kernel) rfl
theorem q_476 : (Jvm.Cond.instanceMethod ({ cls := "LeftLacks", name := "text", desc := "(I)I" } : Jvm.MethodName)) ∈ gtbl := gm 476 (by decide +kernel) rfl
theorem q_477 : (Jvm.Cond.selects "LeftLacks" ({ cls := "LeftLacks", name := "text", desc := "(I)I" } : Jvm.MethodName) ({ cls := "LeftLacks", name := "text", desc := "(I)I" } : Jvm.MethodName)) ∈ gtbl := gm 477 (by decide +kernel) rfl
theorem q_478 : (Jvm.Cond.code ({ cls := "LeftLacks", name := "text", desc := "(I)I" } : Jvm.MethodName) prog_1_method_14_code (3 : Nat) (Option.some Jvm.ClassFile.FieldType.int)) ∈ gtbl := gm 478 (by decide +kernel) rfl
theorem q_479 : (Jvm.Cond.methodLink "LeftLacks" (155 : Nat) ({ cls := "LeftLacks", name := "isUse", desc := "(I)Z" } : Jvm.MethodName)) ∈ gtbl := gm 479 (by decide +kernel) rfl
theorem q_480 : (Jvm.Cond.static ({ cls := "LeftLacks", name := "isUse", desc := "(I)Z" } : Jvm.MethodName)) ∈ gtbl := gm 480 (by decide +kernel) rfl
theorem q_481 : (Jvm.Cond.code ({ cls := "LeftLacks", name := "isUse", desc := "(I)Z" } : Jvm.MethodName) prog_1_method_48_code (1 : Nat) (Option.some Jvm.ClassFile.FieldType.boolean)) ∈ gtbl := gm 481 (by decide +kernel) rfl
theorem q_482 : (Jvm.Cond.methodLink "LeftLacks" (158 : Nat) ({ cls := "LeftLacks$Reader", name := "faultIn", desc := "([III)I" } : Jvm.MethodName)) ∈ gtbl := gm 482 (by decide +kernel) rfl
theorem q_483 : (Jvm.Cond.instanceMethod ({ cls := "LeftLacks$Reader", name := "faultIn", desc := "([III)I" } : Jvm.MethodName)) ∈ gtbl := gm 483 (by decide +kernel) rfl
theorem q_484 : (Jvm.Cond.selects "LeftLacks$Reader" ({ cls := "LeftLacks$Reader", name := "faultIn", desc := "([III)I" } : Jvm.MethodName) ({ cls := "LeftLacks$Reader", name := "faultIn", desc := "([III)I" } : Jvm.MethodName)) ∈ gtbl := gm 484 (by decide +kernel) rfl
theorem q_485 : (Jvm.Cond.code ({ cls := "LeftLacks$Reader", name := "faultIn", desc := "([III)I" } : Jvm.MethodName) prog_4_method_2_code (5 : Nat) (Option.some Jvm.ClassFile.FieldType.int)) ∈ gtbl := gm 485 (by decide +kernel) rfl
theorem q_487 : (Jvm.Cond.methodLink "LeftLacks$Reader" (46 : Nat) ({ cls := "LeftLacks$Reader", name := "takes", desc := "(I)Z" } : Jvm.MethodName)) ∈ gtbl := gm 487 (by decide +kernel) rfl
theorem q_489 : (Jvm.Cond.instanceMethod ({ cls := "LeftLacks$Reader", name := "takes", desc := "(I)Z" } : Jvm.MethodName)) ∈ gtbl := gm 489 (by decide +kernel) rfl
theorem q_490 : (Jvm.Cond.code ({ cls := "LeftLacks$Reader", name := "takes", desc := "(I)Z" } : Jvm.MethodName) prog_4_method_3_code (2 : Nat) (Option.some Jvm.ClassFile.FieldType.boolean)) ∈ gtbl := gm 490 (by decide +kernel) rfl
theorem q_492 : (Jvm.Cond.methodLink "LeftLacks$Reader" (58 : Nat) ({ cls := "LeftLacks$Reader", name := "takesDigit", desc := "(I)Z" } : Jvm.MethodName)) ∈ gtbl := gm 492 (by decide +kernel) rfl
theorem q_494 : (Jvm.Cond.instanceMethod ({ cls := "LeftLacks$Reader", name := "takesDigit", desc := "(I)Z" } : Jvm.MethodName)) ∈ gtbl := gm 494 (by decide +kernel) rfl
theorem q_495 : (Jvm.Cond.code ({ cls := "LeftLacks$Reader", name := "takesDigit", desc := "(I)Z" } : Jvm.MethodName) prog_4_method_4_code (2 : Nat) (Option.some Jvm.ClassFile.FieldType.boolean)) ∈ gtbl := gm 495 (by decide +kernel) rfl
theorem q_496 : (Jvm.Cond.methodLink "LeftLacks$Reader" (74 : Nat) ({ cls := "LeftLacks$Reader", name := "emit", desc := "(I)V" } : Jvm.MethodName)) ∈ gtbl := gm 496 (by decide +kernel) rfl
theorem q_498 : (Jvm.Cond.instanceMethod ({ cls := "LeftLacks$Reader", name := "emit", desc := "(I)V" } : Jvm.MethodName)) ∈ gtbl := gm 498 (by decide +kernel) rfl
theorem q_499 : (Jvm.Cond.code ({ cls := "LeftLacks$Reader", name := "emit", desc := "(I)V" } : Jvm.MethodName) prog_4_method_10_code (2 : Nat) (Option.none : Option Jvm.ClassFile.FieldType)) ∈ gtbl := gm 499 (by decide +kernel) rfl
theorem q_500 : (Jvm.Cond.methodLink "LeftLacks$Reader" (61 : Nat) ({ cls := "LeftLacks$Reader", name := "opens", desc := "(I)Z" } : Jvm.MethodName)) ∈ gtbl := gm 500 (by decide +kernel) rfl
theorem q_502 : (Jvm.Cond.instanceMethod ({ cls := "LeftLacks$Reader", name := "opens", desc := "(I)Z" } : Jvm.MethodName)) ∈ gtbl := gm 502 (by decide +kernel) rfl
theorem q_503 : (Jvm.Cond.code ({ cls := "LeftLacks$Reader", name := "opens", desc := "(I)Z" } : Jvm.MethodName) prog_4_method_6_code (2 : Nat) (Option.some Jvm.ClassFile.FieldType.boolean)) ∈ gtbl := gm 503 (by decide +kernel) rfl
theorem q_504 : (Jvm.Cond.methodLink "LeftLacks$Reader" (83 : Nat) ({ cls := "LeftLacks$Reader", name := "push", desc := "(I)V" } : Jvm.MethodName)) ∈ gtbl := gm 504 (by decide +kernel) rfl
theorem q_506 : (Jvm.Cond.instanceMethod ({ cls := "LeftLacks$Reader", name := "push", desc := "(I)V" } : Jvm.MethodName)) ∈ gtbl := gm 506 (by decide +kernel) rfl
theorem q_507 : (Jvm.Cond.code ({ cls := "LeftLacks$Reader", name := "push", desc := "(I)V" } : Jvm.MethodName) prog_4_method_11_code (2 : Nat) (Option.none : Option Jvm.ClassFile.FieldType)) ∈ gtbl := gm 507 (by decide +kernel) rfl
theorem q_508 : (Jvm.Cond.methodLink "LeftLacks$Reader" (64 : Nat) ({ cls := "LeftLacks$Reader", name := "takesName", desc := "(I)Z" } : Jvm.MethodName)) ∈ gtbl := gm 508 (by decide +kernel) rfl
theorem q_510 : (Jvm.Cond.instanceMethod ({ cls := "LeftLacks$Reader", name := "takesName", desc := "(I)Z" } : Jvm.MethodName)) ∈ gtbl := gm 510 (by decide +kernel) rfl
theorem q_511 : (Jvm.Cond.code ({ cls := "LeftLacks$Reader", name := "takesName", desc := "(I)Z" } : Jvm.MethodName) prog_4_method_5_code (3 : Nat) (Option.some Jvm.ClassFile.FieldType.boolean)) ∈ gtbl := gm 511 (by decide +kernel) rfl
theorem q_512 : (Jvm.Cond.methodLink "LeftLacks$Reader" (77 : Nat) ({ cls := "java/lang/String", name := "indexOf", desc := "(I)I" } : Jvm.MethodName)) ∈ gtbl := gm 512 (by decide +kernel) rfl
theorem q_513 : (Jvm.Cond.instanceMethod ({ cls := "java/lang/String", name := "indexOf", desc := "(I)I" } : Jvm.MethodName)) ∈ gtbl := gm 513 (by decide +kernel) rfl
theorem q_514 : (Jvm.Cond.selects "java/lang/String" ({ cls := "java/lang/String", name := "indexOf", desc := "(I)I" } : Jvm.MethodName) ({ cls := "java/lang/String", name := "indexOf", desc := "(I)I" } : Jvm.MethodName)) ∈ gtbl := gm 514 (by decide +kernel) rfl
theorem q_515 : (Jvm.Cond.code ({ cls := "java/lang/String", name := "indexOf", desc := "(I)I" } : Jvm.MethodName) prog_15_method_79_code (2 : Nat) (Option.some Jvm.ClassFile.FieldType.int)) ∈ gtbl := gm 515 (by decide +kernel) rfl
theorem q_516 : (Jvm.Cond.methodLink "java/lang/String" (633 : Nat) ({ cls := "java/lang/String", name := "indexOf", desc := "(II)I" } : Jvm.MethodName)) ∈ gtbl := gm 516 (by decide +kernel) rfl
theorem q_517 : (Jvm.Cond.instanceMethod ({ cls := "java/lang/String", name := "indexOf", desc := "(II)I" } : Jvm.MethodName)) ∈ gtbl := gm 517 (by decide +kernel) rfl
theorem q_518 : (Jvm.Cond.selects "java/lang/String" ({ cls := "java/lang/String", name := "indexOf", desc := "(II)I" } : Jvm.MethodName) ({ cls := "java/lang/String", name := "indexOf", desc := "(II)I" } : Jvm.MethodName)) ∈ gtbl := gm 518 (by decide +kernel) rfl
theorem q_519 : (Jvm.Cond.code ({ cls := "java/lang/String", name := "indexOf", desc := "(II)I" } : Jvm.MethodName) prog_15_method_80_code (3 : Nat) (Option.some Jvm.ClassFile.FieldType.int)) ∈ gtbl := gm 519 (by decide +kernel) rfl
theorem q_520 : (Jvm.Cond.methodLink "java/lang/String" (492 : Nat) ({ cls := "java/lang/String", name := "isLatin1", desc := "()Z" } : Jvm.MethodName)) ∈ gtbl := gm 520 (by decide +kernel) rfl
theorem q_521 : (Jvm.Cond.instanceMethod ({ cls := "java/lang/String", name := "isLatin1", desc := "()Z" } : Jvm.MethodName)) ∈ gtbl := gm 521 (by decide +kernel) rfl
theorem q_522 : (Jvm.Cond.selects "java/lang/String" ({ cls := "java/lang/String", name := "isLatin1", desc := "()Z" } : Jvm.MethodName) ({ cls := "java/lang/String", name := "isLatin1", desc := "()Z" } : Jvm.MethodName)) ∈ gtbl := gm 522 (by decide +kernel) rfl
theorem q_523 : (Jvm.Cond.code ({ cls := "java/lang/String", name := "isLatin1", desc := "()Z" } : Jvm.MethodName) prog_15_method_154_code (1 : Nat) (Option.some Jvm.ClassFile.FieldType.boolean)) ∈ gtbl := gm 523 (by decide +kernel) rfl
theorem q_524 : (Jvm.Cond.fieldLink "java/lang/String" (38 : Nat) "java/lang/String" "COMPACT_STRINGS" "Z") ∈ gtbl := gm 524 (by decide +kernel) rfl
theorem q_526 : (Jvm.Cond.methodLink "java/lang/String" (505 : Nat) ({ cls := "java/lang/String", name := "length", desc := "()I" } : Jvm.MethodName)) ∈ gtbl := gm 526 (by decide +kernel) rfl
theorem q_527 : (Jvm.Cond.instanceMethod ({ cls := "java/lang/String", name := "length", desc := "()I" } : Jvm.MethodName)) ∈ gtbl := gm 527 (by decide +kernel) rfl
theorem q_528 : (Jvm.Cond.selects "java/lang/String" ({ cls := "java/lang/String", name := "length", desc := "()I" } : Jvm.MethodName) ({ cls := "java/lang/String", name := "length", desc := "()I" } : Jvm.MethodName)) ∈ gtbl := gm 528 (by decide +kernel) rfl
theorem q_529 : (Jvm.Cond.code ({ cls := "java/lang/String", name := "length", desc := "()I" } : Jvm.MethodName) prog_15_method_54_code (1 : Nat) (Option.some Jvm.ClassFile.FieldType.int)) ∈ gtbl := gm 529 (by decide +kernel) rfl
theorem q_530 : (Jvm.Cond.methodLink "java/lang/String" (335 : Nat) ({ cls := "java/lang/String", name := "coder", desc := "()B" } : Jvm.MethodName)) ∈ gtbl := gm 530 (by decide +kernel) rfl
theorem q_531 : (Jvm.Cond.instanceMethod ({ cls := "java/lang/String", name := "coder", desc := "()B" } : Jvm.MethodName)) ∈ gtbl := gm 531 (by decide +kernel) rfl
theorem q_532 : (Jvm.Cond.selects "java/lang/String" ({ cls := "java/lang/String", name := "coder", desc := "()B" } : Jvm.MethodName) ({ cls := "java/lang/String", name := "coder", desc := "()B" } : Jvm.MethodName)) ∈ gtbl := gm 532 (by decide +kernel) rfl
theorem q_533 : (Jvm.Cond.code ({ cls := "java/lang/String", name := "coder", desc := "()B" } : Jvm.MethodName) prog_15_method_152_code (1 : Nat) (Option.some Jvm.ClassFile.FieldType.byte)) ∈ gtbl := gm 533 (by decide +kernel) rfl
theorem q_534 : (Jvm.Cond.methodLink "java/lang/String" (637 : Nat) ({ cls := "java/lang/StringLatin1", name := "indexOf", desc := "([BIII)I" } : Jvm.MethodName)) ∈ gtbl := gm 534 (by decide +kernel) rfl
theorem q_535 : (Jvm.Cond.static ({ cls := "java/lang/StringLatin1", name := "indexOf", desc := "([BIII)I" } : Jvm.MethodName)) ∈ gtbl := gm 535 (by decide +kernel) rfl
theorem q_536 : (Jvm.Cond.code ({ cls := "java/lang/StringLatin1", name := "indexOf", desc := "([BIII)I" } : Jvm.MethodName) prog_16_method_22_code (4 : Nat) (Option.some Jvm.ClassFile.FieldType.int)) ∈ gtbl := gm 536 (by decide +kernel) rfl
theorem q_537 : (Jvm.Cond.methodLink "java/lang/StringLatin1" (88 : Nat) ({ cls := "java/lang/StringLatin1", name := "canEncode", desc := "(I)Z" } : Jvm.MethodName)) ∈ gtbl := gm 537 (by decide +kernel) rfl
theorem q_538 : (Jvm.Cond.static ({ cls := "java/lang/StringLatin1", name := "canEncode", desc := "(I)Z" } : Jvm.MethodName)) ∈ gtbl := gm 538 (by decide +kernel) rfl
theorem q_539 : (Jvm.Cond.code ({ cls := "java/lang/StringLatin1", name := "canEncode", desc := "(I)Z" } : Jvm.MethodName) prog_16_method_4_code (1 : Nat) (Option.some Jvm.ClassFile.FieldType.boolean)) ∈ gtbl := gm 539 (by decide +kernel) rfl
theorem q_540 : (Jvm.Cond.methodLink "java/lang/StringLatin1" (92 : Nat) ({ cls := "java/lang/Math", name := "max", desc := "(II)I" } : Jvm.MethodName)) ∈ gtbl := gm 540 (by decide +kernel) rfl
theorem q_541 : (Jvm.Cond.static ({ cls := "java/lang/Math", name := "max", desc := "(II)I" } : Jvm.MethodName)) ∈ gtbl := gm 541 (by decide +kernel) rfl
theorem q_542 : (Jvm.Cond.code ({ cls := "java/lang/Math", name := "max", desc := "(II)I" } : Jvm.MethodName) prog_14_method_65_code (2 : Nat) (Option.some Jvm.ClassFile.FieldType.int)) ∈ gtbl := gm 542 (by decide +kernel) rfl
theorem q_543 : (Jvm.Cond.methodLink "java/lang/StringLatin1" (38 : Nat) ({ cls := "java/lang/Math", name := "min", desc := "(II)I" } : Jvm.MethodName)) ∈ gtbl := gm 543 (by decide +kernel) rfl
theorem q_544 : (Jvm.Cond.methodLink "java/lang/StringLatin1" (95 : Nat) ({ cls := "java/lang/StringLatin1", name := "indexOfChar", desc := "([BIII)I" } : Jvm.MethodName)) ∈ gtbl := gm 544 (by decide +kernel) rfl
theorem q_545 : (Jvm.Cond.static ({ cls := "java/lang/StringLatin1", name := "indexOfChar", desc := "([BIII)I" } : Jvm.MethodName)) ∈ gtbl := gm 545 (by decide +kernel) rfl
theorem q_546 : (Jvm.Cond.code ({ cls := "java/lang/StringLatin1", name := "indexOfChar", desc := "([BIII)I" } : Jvm.MethodName) prog_16_method_23_code (6 : Nat) (Option.some Jvm.ClassFile.FieldType.int)) ∈ gtbl := gm 546 (by decide +kernel) rfl
theorem q_596 : (Jvm.Cond.methodLink "LeftLacks$Reader" (67 : Nat) ({ cls := "LeftLacks$Reader", name := "closes", desc := "()Z" } : Jvm.MethodName)) ∈ gtbl := gm 596 (by decide +kernel) rfl
theorem q_598 : (Jvm.Cond.instanceMethod ({ cls := "LeftLacks$Reader", name := "closes", desc := "()Z" } : Jvm.MethodName)) ∈ gtbl := gm 598 (by decide +kernel) rfl
theorem q_599 : (Jvm.Cond.code ({ cls := "LeftLacks$Reader", name := "closes", desc := "()Z" } : Jvm.MethodName) prog_4_method_7_code (1 : Nat) (Option.some Jvm.ClassFile.FieldType.boolean)) ∈ gtbl := gm 599 (by decide +kernel) rfl
theorem q_600 : (Jvm.Cond.methodLink "LeftLacks$Reader" (50 : Nat) ({ cls := "LeftLacks$Reader", name := "release", desc := "(I)V" } : Jvm.MethodName)) ∈ gtbl := gm 600 (by decide +kernel) rfl
theorem q_602 : (Jvm.Cond.instanceMethod ({ cls := "LeftLacks$Reader", name := "release", desc := "(I)V" } : Jvm.MethodName)) ∈ gtbl := gm 602 (by decide +kernel) rfl
theorem q_603 : (Jvm.Cond.code ({ cls := "LeftLacks$Reader", name := "release", desc := "(I)V" } : Jvm.MethodName) prog_4_method_9_code (5 : Nat) (Option.none : Option Jvm.ClassFile.FieldType)) ∈ gtbl := gm 603 (by decide +kernel) rfl
theorem q_604 : (Jvm.Cond.methodLink "LeftLacks$Reader" (86 : Nat) ({ cls := "LeftLacks$Reader", name := "levelOf", desc := "(I)I" } : Jvm.MethodName)) ∈ gtbl := gm 604 (by decide +kernel) rfl
theorem q_605 : (Jvm.Cond.static ({ cls := "LeftLacks$Reader", name := "levelOf", desc := "(I)I" } : Jvm.MethodName)) ∈ gtbl := gm 605 (by decide +kernel) rfl
theorem q_606 : (Jvm.Cond.code ({ cls := "LeftLacks$Reader", name := "levelOf", desc := "(I)I" } : Jvm.MethodName) prog_4_method_12_code (1 : Nat) (Option.some Jvm.ClassFile.FieldType.int)) ∈ gtbl := gm 606 (by decide +kernel) rfl
theorem q_607 : (Jvm.Cond.methodLink "LeftLacks$Reader" (71 : Nat) ({ cls := "LeftLacks$Reader", name := "takesSign", desc := "(I)Z" } : Jvm.MethodName)) ∈ gtbl := gm 607 (by decide +kernel) rfl
theorem q_609 : (Jvm.Cond.instanceMethod ({ cls := "LeftLacks$Reader", name := "takesSign", desc := "(I)Z" } : Jvm.MethodName)) ∈ gtbl := gm 609 (by decide +kernel) rfl
theorem q_610 : (Jvm.Cond.code ({ cls := "LeftLacks$Reader", name := "takesSign", desc := "(I)Z" } : Jvm.MethodName) prog_4_method_8_code (3 : Nat) (Option.some Jvm.ClassFile.FieldType.boolean)) ∈ gtbl := gm 610 (by decide +kernel) rfl
theorem q_611 : (Jvm.Cond.methodLink "LeftLacks" (172 : Nat) ({ cls := "LeftLacks$Formula", name := "take", desc := "([II)V" } : Jvm.MethodName)) ∈ gtbl := gm 611 (by decide +kernel) rfl
theorem q_612 : (Jvm.Cond.instanceMethod ({ cls := "LeftLacks$Formula", name := "take", desc := "([II)V" } : Jvm.MethodName)) ∈ gtbl := gm 612 (by decide +kernel) rfl
theorem q_613 : (Jvm.Cond.selects "LeftLacks$Formula" ({ cls := "LeftLacks$Formula", name := "take", desc := "([II)V" } : Jvm.MethodName) ({ cls := "LeftLacks$Formula", name := "take", desc := "([II)V" } : Jvm.MethodName)) ∈ gtbl := gm 613 (by decide +kernel) rfl
theorem q_614 : (Jvm.Cond.code ({ cls := "LeftLacks$Formula", name := "take", desc := "([II)V" } : Jvm.MethodName) prog_3_method_3_code (3 : Nat) (Option.none : Option Jvm.ClassFile.FieldType)) ∈ gtbl := gm 614 (by decide +kernel) rfl
theorem q_615 : (Jvm.Cond.methodLink "LeftLacks$Formula" (22 : Nat) ({ cls := "java/lang/System", name := "arraycopy", desc := "(Ljava/lang/Object;ILjava/lang/Object;II)V" } : Jvm.MethodName)) ∈ gtbl := gm 615 (by decide +kernel) rfl
theorem q_616 : (Jvm.Cond.static ({ cls := "java/lang/System", name := "arraycopy", desc := "(Ljava/lang/Object;ILjava/lang/Object;II)V" } : Jvm.MethodName)) ∈ gtbl := gm 616 (by decide +kernel) rfl
theorem q_617 : (Jvm.Cond.native ({ cls := "java/lang/System", name := "arraycopy", desc := "(Ljava/lang/Object;ILjava/lang/Object;II)V" } : Jvm.MethodName)) ∈ gtbl := gm 617 (by decide +kernel) rfl
theorem q_619 : (Jvm.Cond.instanceMethod ({ cls := "LeftLacks", name := "untell", desc := "(I)I" } : Jvm.MethodName)) ∈ gtbl := gm 619 (by decide +kernel) rfl
theorem q_620 : (Jvm.Cond.selects "LeftLacks" ({ cls := "LeftLacks", name := "untell", desc := "(I)I" } : Jvm.MethodName) ({ cls := "LeftLacks", name := "untell", desc := "(I)I" } : Jvm.MethodName)) ∈ gtbl := gm 620 (by decide +kernel) rfl
theorem q_621 : (Jvm.Cond.code ({ cls := "LeftLacks", name := "untell", desc := "(I)I" } : Jvm.MethodName) prog_1_method_15_code (3 : Nat) (Option.some Jvm.ClassFile.FieldType.int)) ∈ gtbl := gm 621 (by decide +kernel) rfl
theorem q_622 : (Jvm.Cond.methodLink "LeftLacks" (178 : Nat) ({ cls := "LeftLacks$Formula", name := "isTold", desc := "()Z" } : Jvm.MethodName)) ∈ gtbl := gm 622 (by decide +kernel) rfl
theorem q_624 : (Jvm.Cond.instanceMethod ({ cls := "LeftLacks", name := "morning", desc := "()I" } : Jvm.MethodName)) ∈ gtbl := gm 624 (by decide +kernel) rfl
theorem q_625 : (Jvm.Cond.selects "LeftLacks" ({ cls := "LeftLacks", name := "morning", desc := "()I" } : Jvm.MethodName) ({ cls := "LeftLacks", name := "morning", desc := "()I" } : Jvm.MethodName)) ∈ gtbl := gm 625 (by decide +kernel) rfl
theorem q_626 : (Jvm.Cond.code ({ cls := "LeftLacks", name := "morning", desc := "()I" } : Jvm.MethodName) prog_1_method_16_code (1 : Nat) (Option.some Jvm.ClassFile.FieldType.int)) ∈ gtbl := gm 626 (by decide +kernel) rfl
theorem q_627 : (Jvm.Cond.methodLink "LeftLacks" (185 : Nat) ({ cls := "LeftLacks$World", name := "passMorning", desc := "()V" } : Jvm.MethodName)) ∈ gtbl := gm 627 (by decide +kernel) rfl
theorem q_628 : (Jvm.Cond.instanceMethod ({ cls := "LeftLacks$World", name := "passMorning", desc := "()V" } : Jvm.MethodName)) ∈ gtbl := gm 628 (by decide +kernel) rfl
theorem q_629 : (Jvm.Cond.selects "LeftLacks$World" ({ cls := "LeftLacks$World", name := "passMorning", desc := "()V" } : Jvm.MethodName) ({ cls := "LeftLacks$World", name := "passMorning", desc := "()V" } : Jvm.MethodName)) ∈ gtbl := gm 629 (by decide +kernel) rfl
theorem q_630 : (Jvm.Cond.code ({ cls := "LeftLacks$World", name := "passMorning", desc := "()V" } : Jvm.MethodName) prog_9_method_13_code (3 : Nat) (Option.none : Option Jvm.ClassFile.FieldType)) ∈ gtbl := gm 630 (by decide +kernel) rfl
theorem q_631 : (Jvm.Cond.methodLink "LeftLacks$World" (164 : Nat) ({ cls := "LeftLacks$World", name := "fillShop", desc := "(I)V" } : Jvm.MethodName)) ∈ gtbl := gm 631 (by decide +kernel) rfl
theorem q_632 : (Jvm.Cond.instanceMethod ({ cls := "LeftLacks$World", name := "fillShop", desc := "(I)V" } : Jvm.MethodName)) ∈ gtbl := gm 632 (by decide +kernel) rfl
theorem q_633 : (Jvm.Cond.selects "LeftLacks$World" ({ cls := "LeftLacks$World", name := "fillShop", desc := "(I)V" } : Jvm.MethodName) ({ cls := "LeftLacks$World", name := "fillShop", desc := "(I)V" } : Jvm.MethodName)) ∈ gtbl := gm 633 (by decide +kernel) rfl
theorem q_634 : (Jvm.Cond.code ({ cls := "LeftLacks$World", name := "fillShop", desc := "(I)V" } : Jvm.MethodName) prog_9_method_14_code (5 : Nat) (Option.none : Option Jvm.ClassFile.FieldType)) ∈ gtbl := gm 634 (by decide +kernel) rfl
theorem q_635 : (Jvm.Cond.methodLink "LeftLacks$World" (179 : Nat) ({ cls := "LeftLacks$World", name := "fillOf", desc := "(II)I" } : Jvm.MethodName)) ∈ gtbl := gm 635 (by decide +kernel) rfl
theorem q_636 : (Jvm.Cond.methodLink "LeftLacks$World" (182 : Nat) ({ cls := "java/lang/Math", name := "max", desc := "(II)I" } : Jvm.MethodName)) ∈ gtbl := gm 636 (by decide +kernel) rfl
theorem q_637 : (Jvm.Cond.methodLink "LeftLacks$World" (185 : Nat) ({ cls := "LeftLacks$Shop", name := "earn", desc := "(I)V" } : Jvm.MethodName)) ∈ gtbl := gm 637 (by decide +kernel) rfl
theorem q_638 : (Jvm.Cond.instanceMethod ({ cls := "LeftLacks$Shop", name := "earn", desc := "(I)V" } : Jvm.MethodName)) ∈ gtbl := gm 638 (by decide +kernel) rfl
theorem q_639 : (Jvm.Cond.selects "LeftLacks$Shop" ({ cls := "LeftLacks$Shop", name := "earn", desc := "(I)V" } : Jvm.MethodName) ({ cls := "LeftLacks$Shop", name := "earn", desc := "(I)V" } : Jvm.MethodName)) ∈ gtbl := gm 639 (by decide +kernel) rfl
theorem q_640 : (Jvm.Cond.code ({ cls := "LeftLacks$Shop", name := "earn", desc := "(I)V" } : Jvm.MethodName) prog_7_method_5_code (2 : Nat) (Option.none : Option Jvm.ClassFile.FieldType)) ∈ gtbl := gm 640 (by decide +kernel) rfl
theorem q_641 : (Jvm.Cond.constant "LeftLacks$Shop" (47 : Nat) (-999999 : Int32)) ∈ gtbl := gm 641 (by decide +kernel) rfl
theorem q_642 : (Jvm.Cond.constant "LeftLacks$Shop" (48 : Nat) (999999 : Int32)) ∈ gtbl := gm 642 (by decide +kernel) rfl
theorem q_644 : (Jvm.Cond.methodLink "LeftLacks$World" (168 : Nat) ({ cls := "LeftLacks$World", name := "goodToBuy", desc := "(I)I" } : Jvm.MethodName)) ∈ gtbl := gm 644 (by decide +kernel) rfl
theorem q_645 : (Jvm.Cond.instanceMethod ({ cls := "LeftLacks$World", name := "goodToBuy", desc := "(I)I" } : Jvm.MethodName)) ∈ gtbl := gm 645 (by decide +kernel) rfl
theorem q_646 : (Jvm.Cond.selects "LeftLacks$World" ({ cls := "LeftLacks$World", name := "goodToBuy", desc := "(I)I" } : Jvm.MethodName) ({ cls := "LeftLacks$World", name := "goodToBuy", desc := "(I)I" } : Jvm.MethodName)) ∈ gtbl := gm 646 (by decide +kernel) rfl
theorem q_647 : (Jvm.Cond.code ({ cls := "LeftLacks$World", name := "goodToBuy", desc := "(I)I" } : Jvm.MethodName) prog_9_method_15_code (5 : Nat) (Option.some Jvm.ClassFile.FieldType.int)) ∈ gtbl := gm 647 (by decide +kernel) rfl
theorem q_648 : (Jvm.Cond.methodLink "LeftLacks$World" (171 : Nat) ({ cls := "LeftLacks$World", name := "buyOut", desc := "(III)V" } : Jvm.MethodName)) ∈ gtbl := gm 648 (by decide +kernel) rfl
theorem q_649 : (Jvm.Cond.instanceMethod ({ cls := "LeftLacks$World", name := "buyOut", desc := "(III)V" } : Jvm.MethodName)) ∈ gtbl := gm 649 (by decide +kernel) rfl
theorem q_650 : (Jvm.Cond.selects "LeftLacks$World" ({ cls := "LeftLacks$World", name := "buyOut", desc := "(III)V" } : Jvm.MethodName) ({ cls := "LeftLacks$World", name := "buyOut", desc := "(III)V" } : Jvm.MethodName)) ∈ gtbl := gm 650 (by decide +kernel) rfl
theorem q_651 : (Jvm.Cond.code ({ cls := "LeftLacks$World", name := "buyOut", desc := "(III)V" } : Jvm.MethodName) prog_9_method_16_code (6 : Nat) (Option.none : Option Jvm.ClassFile.FieldType)) ∈ gtbl := gm 651 (by decide +kernel) rfl
theorem q_652 : (Jvm.Cond.methodLink "LeftLacks$World" (188 : Nat) ({ cls := "LeftLacks$World", name := "priceOf", desc := "(II)I" } : Jvm.MethodName)) ∈ gtbl := gm 652 (by decide +kernel) rfl
theorem q_653 : (Jvm.Cond.methodLink "LeftLacks$World" (175 : Nat) ({ cls := "LeftLacks$Shop", name := "goodsHere", desc := "()I" } : Jvm.MethodName)) ∈ gtbl := gm 653 (by decide +kernel) rfl
theorem q_654 : (Jvm.Cond.instanceMethod ({ cls := "LeftLacks$Shop", name := "goodsHere", desc := "()I" } : Jvm.MethodName)) ∈ gtbl := gm 654 (by decide +kernel) rfl
theorem q_655 : (Jvm.Cond.selects "LeftLacks$Shop" ({ cls := "LeftLacks$Shop", name := "goodsHere", desc := "()I" } : Jvm.MethodName) ({ cls := "LeftLacks$Shop", name := "goodsHere", desc := "()I" } : Jvm.MethodName)) ∈ gtbl := gm 655 (by decide +kernel) rfl
theorem q_656 : (Jvm.Cond.code ({ cls := "LeftLacks$Shop", name := "goodsHere", desc := "()I" } : Jvm.MethodName) prog_7_method_9_code (3 : Nat) (Option.some Jvm.ClassFile.FieldType.int)) ∈ gtbl := gm 656 (by decide +kernel) rfl
theorem q_657 : (Jvm.Cond.methodLink "LeftLacks" (188 : Nat) ({ cls := "LeftLacks$World", name := "things", desc := "()I" } : Jvm.MethodName)) ∈ gtbl := gm 657 (by decide +kernel) rfl
theorem q_658 : (Jvm.Cond.instanceMethod ({ cls := "LeftLacks$World", name := "things", desc := "()I" } : Jvm.MethodName)) ∈ gtbl := gm 658 (by decide +kernel) rfl
theorem q_659 : (Jvm.Cond.selects "LeftLacks$World" ({ cls := "LeftLacks$World", name := "things", desc := "()I" } : Jvm.MethodName) ({ cls := "LeftLacks$World", name := "things", desc := "()I" } : Jvm.MethodName)) ∈ gtbl := gm 659 (by decide +kernel) rfl
theorem q_660 : (Jvm.Cond.code ({ cls := "LeftLacks$World", name := "things", desc := "()I" } : Jvm.MethodName) prog_9_method_24_code (3 : Nat) (Option.some Jvm.ClassFile.FieldType.int)) ∈ gtbl := gm 660 (by decide +kernel) rfl
theorem q_661 : (Jvm.Cond.methodLink "LeftLacks$World" (212 : Nat) ({ cls := "LeftLacks$Shop", name := "things", desc := "()I" } : Jvm.MethodName)) ∈ gtbl := gm 661 (by decide +kernel) rfl
theorem q_662 : (Jvm.Cond.instanceMethod ({ cls := "LeftLacks$Shop", name := "things", desc := "()I" } : Jvm.MethodName)) ∈ gtbl := gm 662 (by decide +kernel) rfl
theorem q_663 : (Jvm.Cond.selects "LeftLacks$Shop" ({ cls := "LeftLacks$Shop", name := "things", desc := "()I" } : Jvm.MethodName) ({ cls := "LeftLacks$Shop", name := "things", desc := "()I" } : Jvm.MethodName)) ∈ gtbl := gm 663 (by decide +kernel) rfl
theorem q_664 : (Jvm.Cond.code ({ cls := "LeftLacks$Shop", name := "things", desc := "()I" } : Jvm.MethodName) prog_7_method_8_code (3 : Nat) (Option.some Jvm.ClassFile.FieldType.int)) ∈ gtbl := gm 664 (by decide +kernel) rfl
theorem q_666 : (Jvm.Cond.instanceMethod ({ cls := "LeftLacks", name := "visit", desc := "(I)I" } : Jvm.MethodName)) ∈ gtbl := gm 666 (by decide +kernel) rfl
theorem q_667 : (Jvm.Cond.selects "LeftLacks" ({ cls := "LeftLacks", name := "visit", desc := "(I)I" } : Jvm.MethodName) ({ cls := "LeftLacks", name := "visit", desc := "(I)I" } : Jvm.MethodName)) ∈ gtbl := gm 667 (by decide +kernel) rfl
theorem q_668 : (Jvm.Cond.code ({ cls := "LeftLacks", name := "visit", desc := "(I)I" } : Jvm.MethodName) prog_1_method_17_code (2 : Nat) (Option.some Jvm.ClassFile.FieldType.int)) ∈ gtbl := gm 668 (by decide +kernel) rfl
theorem q_669 : (Jvm.Cond.methodLink "LeftLacks" (192 : Nat) ({ cls := "LeftLacks$World", name := "goAlong", desc := "(I)I" } : Jvm.MethodName)) ∈ gtbl := gm 669 (by decide +kernel) rfl
theorem q_670 : (Jvm.Cond.instanceMethod ({ cls := "LeftLacks$World", name := "goAlong", desc := "(I)I" } : Jvm.MethodName)) ∈ gtbl := gm 670 (by decide +kernel) rfl
theorem q_671 : (Jvm.Cond.selects "LeftLacks$World" ({ cls := "LeftLacks$World", name := "goAlong", desc := "(I)I" } : Jvm.MethodName) ({ cls := "LeftLacks$World", name := "goAlong", desc := "(I)I" } : Jvm.MethodName)) ∈ gtbl := gm 671 (by decide +kernel) rfl
theorem q_672 : (Jvm.Cond.code ({ cls := "LeftLacks$World", name := "goAlong", desc := "(I)I" } : Jvm.MethodName) prog_9_method_18_code (10 : Nat) (Option.some Jvm.ClassFile.FieldType.int)) ∈ gtbl := gm 672 (by decide +kernel) rfl
theorem q_673 : (Jvm.Cond.methodLink "LeftLacks$World" (191 : Nat) ({ cls := "LeftLacks$World", name := "placeOf", desc := "(II)I" } : Jvm.MethodName)) ∈ gtbl := gm 673 (by decide +kernel) rfl
theorem q_674 : (Jvm.Cond.instanceMethod ({ cls := "LeftLacks$World", name := "placeOf", desc := "(II)I" } : Jvm.MethodName)) ∈ gtbl := gm 674 (by decide +kernel) rfl
theorem q_675 : (Jvm.Cond.selects "LeftLacks$World" ({ cls := "LeftLacks$World", name := "placeOf", desc := "(II)I" } : Jvm.MethodName) ({ cls := "LeftLacks$World", name := "placeOf", desc := "(II)I" } : Jvm.MethodName)) ∈ gtbl := gm 675 (by decide +kernel) rfl
theorem q_676 : (Jvm.Cond.code ({ cls := "LeftLacks$World", name := "placeOf", desc := "(II)I" } : Jvm.MethodName) prog_9_method_17_code (4 : Nat) (Option.some Jvm.ClassFile.FieldType.int)) ∈ gtbl := gm 676 (by decide +kernel) rfl
theorem q_678 : (Jvm.Cond.instanceMethod ({ cls := "LeftLacks", name := "days", desc := "(I)I" } : Jvm.MethodName)) ∈ gtbl := gm 678 (by decide +kernel) rfl
theorem q_679 : (Jvm.Cond.selects "LeftLacks" ({ cls := "LeftLacks", name := "days", desc := "(I)I" } : Jvm.MethodName) ({ cls := "LeftLacks", name := "days", desc := "(I)I" } : Jvm.MethodName)) ∈ gtbl := gm 679 (by decide +kernel) rfl
theorem q_680 : (Jvm.Cond.code ({ cls := "LeftLacks", name := "days", desc := "(I)I" } : Jvm.MethodName) prog_1_method_18_code (3 : Nat) (Option.some Jvm.ClassFile.FieldType.int)) ∈ gtbl := gm 680 (by decide +kernel) rfl
theorem q_681 : (Jvm.Cond.methodLink "LeftLacks" (195 : Nat) ({ cls := "LeftLacks", name := "daysRefusal", desc := "(I)I" } : Jvm.MethodName)) ∈ gtbl := gm 681 (by decide +kernel) rfl
theorem q_683 : (Jvm.Cond.instanceMethod ({ cls := "LeftLacks", name := "daysRefusal", desc := "(I)I" } : Jvm.MethodName)) ∈ gtbl := gm 683 (by decide +kernel) rfl
theorem q_684 : (Jvm.Cond.code ({ cls := "LeftLacks", name := "daysRefusal", desc := "(I)I" } : Jvm.MethodName) prog_1_method_43_code (2 : Nat) (Option.some Jvm.ClassFile.FieldType.int)) ∈ gtbl := gm 684 (by decide +kernel) rfl
theorem q_685 : (Jvm.Cond.methodLink "LeftLacks" (198 : Nat) ({ cls := "LeftLacks$World", name := "pass", desc := "(IZ)V" } : Jvm.MethodName)) ∈ gtbl := gm 685 (by decide +kernel) rfl
theorem q_686 : (Jvm.Cond.instanceMethod ({ cls := "LeftLacks$World", name := "pass", desc := "(IZ)V" } : Jvm.MethodName)) ∈ gtbl := gm 686 (by decide +kernel) rfl
theorem q_687 : (Jvm.Cond.selects "LeftLacks$World" ({ cls := "LeftLacks$World", name := "pass", desc := "(IZ)V" } : Jvm.MethodName) ({ cls := "LeftLacks$World", name := "pass", desc := "(IZ)V" } : Jvm.MethodName)) ∈ gtbl := gm 687 (by decide +kernel) rfl
theorem q_688 : (Jvm.Cond.code ({ cls := "LeftLacks$World", name := "pass", desc := "(IZ)V" } : Jvm.MethodName) prog_9_method_20_code (5 : Nat) (Option.none : Option Jvm.ClassFile.FieldType)) ∈ gtbl := gm 688 (by decide +kernel) rfl
theorem q_689 : (Jvm.Cond.methodLink "LeftLacks$World" (197 : Nat) ({ cls := "LeftLacks$World", name := "passMorning", desc := "()V" } : Jvm.MethodName)) ∈ gtbl := gm 689 (by decide +kernel) rfl
theorem q_690 : (Jvm.Cond.methodLink "LeftLacks$World" (200 : Nat) ({ cls := "LeftLacks$World", name := "draw", desc := "()I" } : Jvm.MethodName)) ∈ gtbl := gm 690 (by decide +kernel) rfl
theorem q_691 : (Jvm.Cond.instanceMethod ({ cls := "LeftLacks$World", name := "draw", desc := "()I" } : Jvm.MethodName)) ∈ gtbl := gm 691 (by decide +kernel) rfl
theorem q_692 : (Jvm.Cond.selects "LeftLacks$World" ({ cls := "LeftLacks$World", name := "draw", desc := "()I" } : Jvm.MethodName) ({ cls := "LeftLacks$World", name := "draw", desc := "()I" } : Jvm.MethodName)) ∈ gtbl := gm 692 (by decide +kernel) rfl
theorem q_693 : (Jvm.Cond.code ({ cls := "LeftLacks$World", name := "draw", desc := "()I" } : Jvm.MethodName) prog_9_method_21_code (1 : Nat) (Option.some Jvm.ClassFile.FieldType.int)) ∈ gtbl := gm 693 (by decide +kernel) rfl
theorem q_694 : (Jvm.Cond.constant "LeftLacks$World" (208 : Nat) (1103515245 : Int32)) ∈ gtbl := gm 694 (by decide +kernel) rfl
theorem q_695 : (Jvm.Cond.methodLink "LeftLacks$World" (194 : Nat) ({ cls := "LeftLacks$World", name := "goAlong", desc := "(I)I" } : Jvm.MethodName)) ∈ gtbl := gm 695 (by decide +kernel) rfl
theorem q_696 : (Jvm.Cond.methodLink "LeftLacks$World" (203 : Nat) ({ cls := "java/lang/Integer", name := "bitCount", desc := "(I)I" } : Jvm.MethodName)) ∈ gtbl := gm 696 (by decide +kernel) rfl
theorem q_697 : (Jvm.Cond.static ({ cls := "java/lang/Integer", name := "bitCount", desc := "(I)I" } : Jvm.MethodName)) ∈ gtbl := gm 697 (by decide +kernel) rfl
theorem q_698 : (Jvm.Cond.code ({ cls := "java/lang/Integer", name := "bitCount", desc := "(I)I" } : Jvm.MethodName) prog_13_method_49_code (1 : Nat) (Option.some Jvm.ClassFile.FieldType.int)) ∈ gtbl := gm 698 (by decide +kernel) rfl
theorem q_699 : (Jvm.Cond.constant "java/lang/Integer" (265 : Nat) (1431655765 : Int32)) ∈ gtbl := gm 699 (by decide +kernel) rfl
theorem q_700 : (Jvm.Cond.constant "java/lang/Integer" (266 : Nat) (858993459 : Int32)) ∈ gtbl := gm 700 (by decide +kernel) rfl
theorem q_701 : (Jvm.Cond.constant "java/lang/Integer" (267 : Nat) (252645135 : Int32)) ∈ gtbl := gm 701 (by decide +kernel) rfl
theorem q_703 : (Jvm.Cond.instanceMethod ({ cls := "LeftLacks", name := "loose", desc := "(I)I" } : Jvm.MethodName)) ∈ gtbl := gm 703 (by decide +kernel) rfl
theorem q_704 : (Jvm.Cond.selects "LeftLacks" ({ cls := "LeftLacks", name := "loose", desc := "(I)I" } : Jvm.MethodName) ({ cls := "LeftLacks", name := "loose", desc := "(I)I" } : Jvm.MethodName)) ∈ gtbl := gm 704 (by decide +kernel) rfl
theorem q_705 : (Jvm.Cond.code ({ cls := "LeftLacks", name := "loose", desc := "(I)I" } : Jvm.MethodName) prog_1_method_19_code (3 : Nat) (Option.some Jvm.ClassFile.FieldType.int)) ∈ gtbl := gm 705 (by decide +kernel) rfl
theorem q_707 : (Jvm.Cond.instanceMethod ({ cls := "LeftLacks", name := "seed", desc := "(I)I" } : Jvm.MethodName)) ∈ gtbl := gm 707 (by decide +kernel) rfl
theorem q_708 : (Jvm.Cond.selects "LeftLacks" ({ cls := "LeftLacks", name := "seed", desc := "(I)I" } : Jvm.MethodName) ({ cls := "LeftLacks", name := "seed", desc := "(I)I" } : Jvm.MethodName)) ∈ gtbl := gm 708 (by decide +kernel) rfl
theorem q_709 : (Jvm.Cond.code ({ cls := "LeftLacks", name := "seed", desc := "(I)I" } : Jvm.MethodName) prog_1_method_20_code (3 : Nat) (Option.some Jvm.ClassFile.FieldType.int)) ∈ gtbl := gm 709 (by decide +kernel) rfl
theorem q_711 : (Jvm.Cond.instanceMethod ({ cls := "LeftLacks", name := "then", desc := "(III)I" } : Jvm.MethodName)) ∈ gtbl := gm 711 (by decide +kernel) rfl
theorem q_712 : (Jvm.Cond.selects "LeftLacks" ({ cls := "LeftLacks", name := "then", desc := "(III)I" } : Jvm.MethodName) ({ cls := "LeftLacks", name := "then", desc := "(III)I" } : Jvm.MethodName)) ∈ gtbl := gm 712 (by decide +kernel) rfl
theorem q_713 : (Jvm.Cond.code ({ cls := "LeftLacks", name := "then", desc := "(III)I" } : Jvm.MethodName) prog_1_method_21_code (4 : Nat) (Option.some Jvm.ClassFile.FieldType.int)) ∈ gtbl := gm 713 (by decide +kernel) rfl
theorem q_714 : (Jvm.Cond.methodLink "LeftLacks" (208 : Nat) ({ cls := "LeftLacks$World", name := "copyFrom", desc := "(LLeftLacks$World;)V" } : Jvm.MethodName)) ∈ gtbl := gm 714 (by decide +kernel) rfl
theorem q_715 : (Jvm.Cond.instanceMethod ({ cls := "LeftLacks$World", name := "copyFrom", desc := "(LLeftLacks$World;)V" } : Jvm.MethodName)) ∈ gtbl := gm 715 (by decide +kernel) rfl
theorem q_716 : (Jvm.Cond.selects "LeftLacks$World" ({ cls := "LeftLacks$World", name := "copyFrom", desc := "(LLeftLacks$World;)V" } : Jvm.MethodName) ({ cls := "LeftLacks$World", name := "copyFrom", desc := "(LLeftLacks$World;)V" } : Jvm.MethodName)) ∈ gtbl := gm 716 (by decide +kernel) rfl
theorem q_717 : (Jvm.Cond.code ({ cls := "LeftLacks$World", name := "copyFrom", desc := "(LLeftLacks$World;)V" } : Jvm.MethodName) prog_9_method_2_code (3 : Nat) (Option.none : Option Jvm.ClassFile.FieldType)) ∈ gtbl := gm 717 (by decide +kernel) rfl
theorem q_718 : (Jvm.Cond.methodLink "LeftLacks$World" (67 : Nat) ({ cls := "LeftLacks$Shop", name := "copyFrom", desc := "(LLeftLacks$Shop;)V" } : Jvm.MethodName)) ∈ gtbl := gm 718 (by decide +kernel) rfl
theorem q_719 : (Jvm.Cond.instanceMethod ({ cls := "LeftLacks$Shop", name := "copyFrom", desc := "(LLeftLacks$Shop;)V" } : Jvm.MethodName)) ∈ gtbl := gm 719 (by decide +kernel) rfl
theorem q_720 : (Jvm.Cond.selects "LeftLacks$Shop" ({ cls := "LeftLacks$Shop", name := "copyFrom", desc := "(LLeftLacks$Shop;)V" } : Jvm.MethodName) ({ cls := "LeftLacks$Shop", name := "copyFrom", desc := "(LLeftLacks$Shop;)V" } : Jvm.MethodName)) ∈ gtbl := gm 720 (by decide +kernel) rfl
theorem q_721 : (Jvm.Cond.code ({ cls := "LeftLacks$Shop", name := "copyFrom", desc := "(LLeftLacks$Shop;)V" } : Jvm.MethodName) prog_7_method_3_code (2 : Nat) (Option.none : Option Jvm.ClassFile.FieldType)) ∈ gtbl := gm 721 (by decide +kernel) rfl
theorem q_722 : (Jvm.Cond.methodLink "LeftLacks$Shop" (37 : Nat) ({ cls := "java/lang/System", name := "arraycopy", desc := "(Ljava/lang/Object;ILjava/lang/Object;II)V" } : Jvm.MethodName)) ∈ gtbl := gm 722 (by decide +kernel) rfl
theorem q_723 : (Jvm.Cond.methodLink "LeftLacks$World" (74 : Nat) ({ cls := "LeftLacks$Customer", name := "copyFrom", desc := "(LLeftLacks$Customer;)V" } : Jvm.MethodName)) ∈ gtbl := gm 723 (by decide +kernel) rfl
theorem q_724 : (Jvm.Cond.instanceMethod ({ cls := "LeftLacks$Customer", name := "copyFrom", desc := "(LLeftLacks$Customer;)V" } : Jvm.MethodName)) ∈ gtbl := gm 724 (by decide +kernel) rfl
theorem q_725 : (Jvm.Cond.selects "LeftLacks$Customer" ({ cls := "LeftLacks$Customer", name := "copyFrom", desc := "(LLeftLacks$Customer;)V" } : Jvm.MethodName) ({ cls := "LeftLacks$Customer", name := "copyFrom", desc := "(LLeftLacks$Customer;)V" } : Jvm.MethodName)) ∈ gtbl := gm 725 (by decide +kernel) rfl
theorem q_726 : (Jvm.Cond.code ({ cls := "LeftLacks$Customer", name := "copyFrom", desc := "(LLeftLacks$Customer;)V" } : Jvm.MethodName) prog_2_method_2_code (2 : Nat) (Option.none : Option Jvm.ClassFile.FieldType)) ∈ gtbl := gm 726 (by decide +kernel) rfl
theorem q_727 : (Jvm.Cond.methodLink "LeftLacks$World" (83 : Nat) ({ cls := "LeftLacks$Formula", name := "take", desc := "([II)V" } : Jvm.MethodName)) ∈ gtbl := gm 727 (by decide +kernel) rfl
theorem q_728 : (Jvm.Cond.methodLink "LeftLacks$World" (89 : Nat) ({ cls := "java/lang/System", name := "arraycopy", desc := "(Ljava/lang/Object;ILjava/lang/Object;II)V" } : Jvm.MethodName)) ∈ gtbl := gm 728 (by decide +kernel) rfl
theorem q_730 : (Jvm.Cond.instanceMethod ({ cls := "LeftLacks", name := "keep", desc := "(III)I" } : Jvm.MethodName)) ∈ gtbl := gm 730 (by decide +kernel) rfl
theorem q_731 : (Jvm.Cond.selects "LeftLacks" ({ cls := "LeftLacks", name := "keep", desc := "(III)I" } : Jvm.MethodName) ({ cls := "LeftLacks", name := "keep", desc := "(III)I" } : Jvm.MethodName)) ∈ gtbl := gm 731 (by decide +kernel) rfl
theorem q_732 : (Jvm.Cond.code ({ cls := "LeftLacks", name := "keep", desc := "(III)I" } : Jvm.MethodName) prog_1_method_22_code (7 : Nat) (Option.some Jvm.ClassFile.FieldType.int)) ∈ gtbl := gm 732 (by decide +kernel) rfl
theorem q_733 : (Jvm.Cond.constant "LeftLacks" (212 : Nat) (-1000000 : Int32)) ∈ gtbl := gm 733 (by decide +kernel) rfl
theorem q_735 : (Jvm.Cond.instanceMethod ({ cls := "LeftLacks", name := "range", desc := "(II)I" } : Jvm.MethodName)) ∈ gtbl := gm 735 (by decide +kernel) rfl
theorem q_736 : (Jvm.Cond.selects "LeftLacks" ({ cls := "LeftLacks", name := "range", desc := "(II)I" } : Jvm.MethodName) ({ cls := "LeftLacks", name := "range", desc := "(II)I" } : Jvm.MethodName)) ∈ gtbl := gm 736 (by decide +kernel) rfl
theorem q_737 : (Jvm.Cond.code ({ cls := "LeftLacks", name := "range", desc := "(II)I" } : Jvm.MethodName) prog_1_method_23_code (8 : Nat) (Option.some Jvm.ClassFile.FieldType.int)) ∈ gtbl := gm 737 (by decide +kernel) rfl
theorem q_738 : (Jvm.Cond.methodLink "LeftLacks" (216 : Nat) ({ cls := "LeftLacks$Shop", name := "keepOnly", desc := "(I)V" } : Jvm.MethodName)) ∈ gtbl := gm 738 (by decide +kernel) rfl
theorem q_739 : (Jvm.Cond.instanceMethod ({ cls := "LeftLacks$Shop", name := "keepOnly", desc := "(I)V" } : Jvm.MethodName)) ∈ gtbl := gm 739 (by decide +kernel) rfl
theorem q_740 : (Jvm.Cond.selects "LeftLacks$Shop" ({ cls := "LeftLacks$Shop", name := "keepOnly", desc := "(I)V" } : Jvm.MethodName) ({ cls := "LeftLacks$Shop", name := "keepOnly", desc := "(I)V" } : Jvm.MethodName)) ∈ gtbl := gm 740 (by decide +kernel) rfl
theorem q_741 : (Jvm.Cond.code ({ cls := "LeftLacks$Shop", name := "keepOnly", desc := "(I)V" } : Jvm.MethodName) prog_7_method_6_code (3 : Nat) (Option.none : Option Jvm.ClassFile.FieldType)) ∈ gtbl := gm 741 (by decide +kernel) rfl
theorem q_742 : (Jvm.Cond.methodLink "LeftLacks" (220 : Nat) ({ cls := "java/lang/Integer", name := "bitCount", desc := "(I)I" } : Jvm.MethodName)) ∈ gtbl := gm 742 (by decide +kernel) rfl
theorem q_744 : (Jvm.Cond.instanceMethod ({ cls := "LeftLacks", name := "turn", desc := "(II)I" } : Jvm.MethodName)) ∈ gtbl := gm 744 (by decide +kernel) rfl
theorem q_745 : (Jvm.Cond.selects "LeftLacks" ({ cls := "LeftLacks", name := "turn", desc := "(II)I" } : Jvm.MethodName) ({ cls := "LeftLacks", name := "turn", desc := "(II)I" } : Jvm.MethodName)) ∈ gtbl := gm 745 (by decide +kernel) rfl
theorem q_746 : (Jvm.Cond.code ({ cls := "LeftLacks", name := "turn", desc := "(II)I" } : Jvm.MethodName) prog_1_method_24_code (7 : Nat) (Option.some Jvm.ClassFile.FieldType.int)) ∈ gtbl := gm 746 (by decide +kernel) rfl
theorem q_747 : (Jvm.Cond.methodLink "LeftLacks" (225 : Nat) ({ cls := "LeftLacks$World", name := "turnFrom", desc := "(LLeftLacks$World;I)V" } : Jvm.MethodName)) ∈ gtbl := gm 747 (by decide +kernel) rfl
theorem q_748 : (Jvm.Cond.instanceMethod ({ cls := "LeftLacks$World", name := "turnFrom", desc := "(LLeftLacks$World;I)V" } : Jvm.MethodName)) ∈ gtbl := gm 748 (by decide +kernel) rfl
theorem q_749 : (Jvm.Cond.selects "LeftLacks$World" ({ cls := "LeftLacks$World", name := "turnFrom", desc := "(LLeftLacks$World;I)V" } : Jvm.MethodName) ({ cls := "LeftLacks$World", name := "turnFrom", desc := "(LLeftLacks$World;I)V" } : Jvm.MethodName)) ∈ gtbl := gm 749 (by decide +kernel) rfl
theorem q_750 : (Jvm.Cond.code ({ cls := "LeftLacks$World", name := "turnFrom", desc := "(LLeftLacks$World;I)V" } : Jvm.MethodName) prog_9_method_22_code (4 : Nat) (Option.none : Option Jvm.ClassFile.FieldType)) ∈ gtbl := gm 750 (by decide +kernel) rfl
theorem q_752 : (Jvm.Cond.instanceMethod ({ cls := "LeftLacks", name := "out", desc := "(II)I" } : Jvm.MethodName)) ∈ gtbl := gm 752 (by decide +kernel) rfl
theorem q_753 : (Jvm.Cond.selects "LeftLacks" ({ cls := "LeftLacks", name := "out", desc := "(II)I" } : Jvm.MethodName) ({ cls := "LeftLacks", name := "out", desc := "(II)I" } : Jvm.MethodName)) ∈ gtbl := gm 753 (by decide +kernel) rfl
theorem q_754 : (Jvm.Cond.code ({ cls := "LeftLacks", name := "out", desc := "(II)I" } : Jvm.MethodName) prog_1_method_25_code (5 : Nat) (Option.some Jvm.ClassFile.FieldType.int)) ∈ gtbl := gm 754 (by decide +kernel) rfl
theorem q_755 : (Jvm.Cond.methodLink "LeftLacks" (229 : Nat) ({ cls := "LeftLacks$World", name := "leftOf", desc := "(I)I" } : Jvm.MethodName)) ∈ gtbl := gm 755 (by decide +kernel) rfl
theorem q_756 : (Jvm.Cond.methodLink "LeftLacks" (235 : Nat) ({ cls := "LeftLacks$World", name := "allGoAlong", desc := "()V" } : Jvm.MethodName)) ∈ gtbl := gm 756 (by decide +kernel) rfl
theorem q_757 : (Jvm.Cond.instanceMethod ({ cls := "LeftLacks$World", name := "allGoAlong", desc := "()V" } : Jvm.MethodName)) ∈ gtbl := gm 757 (by decide +kernel) rfl
theorem q_758 : (Jvm.Cond.selects "LeftLacks$World" ({ cls := "LeftLacks$World", name := "allGoAlong", desc := "()V" } : Jvm.MethodName) ({ cls := "LeftLacks$World", name := "allGoAlong", desc := "()V" } : Jvm.MethodName)) ∈ gtbl := gm 758 (by decide +kernel) rfl
theorem q_759 : (Jvm.Cond.code ({ cls := "LeftLacks$World", name := "allGoAlong", desc := "()V" } : Jvm.MethodName) prog_9_method_19_code (2 : Nat) (Option.none : Option Jvm.ClassFile.FieldType)) ∈ gtbl := gm 759 (by decide +kernel) rfl
theorem q_760 : (Jvm.Cond.methodLink "LeftLacks" (238 : Nat) ({ cls := "LeftLacks$World", name := "buyOut", desc := "(III)V" } : Jvm.MethodName)) ∈ gtbl := gm 760 (by decide +kernel) rfl
theorem q_762 : (Jvm.Cond.instanceMethod ({ cls := "LeftLacks", name := "joined", desc := "(II)I" } : Jvm.MethodName)) ∈ gtbl := gm 762 (by decide +kernel) rfl
theorem q_763 : (Jvm.Cond.selects "LeftLacks" ({ cls := "LeftLacks", name := "joined", desc := "(II)I" } : Jvm.MethodName) ({ cls := "LeftLacks", name := "joined", desc := "(II)I" } : Jvm.MethodName)) ∈ gtbl := gm 763 (by decide +kernel) rfl
theorem q_764 : (Jvm.Cond.code ({ cls := "LeftLacks", name := "joined", desc := "(II)I" } : Jvm.MethodName) prog_1_method_26_code (4 : Nat) (Option.some Jvm.ClassFile.FieldType.int)) ∈ gtbl := gm 764 (by decide +kernel) rfl
theorem q_765 : (Jvm.Cond.methodLink "LeftLacks" (241 : Nat) ({ cls := "LeftLacks$World", name := "joinNext", desc := "(I)V" } : Jvm.MethodName)) ∈ gtbl := gm 765 (by decide +kernel) rfl
theorem q_766 : (Jvm.Cond.instanceMethod ({ cls := "LeftLacks$World", name := "joinNext", desc := "(I)V" } : Jvm.MethodName)) ∈ gtbl := gm 766 (by decide +kernel) rfl
theorem q_767 : (Jvm.Cond.selects "LeftLacks$World" ({ cls := "LeftLacks$World", name := "joinNext", desc := "(I)V" } : Jvm.MethodName) ({ cls := "LeftLacks$World", name := "joinNext", desc := "(I)V" } : Jvm.MethodName)) ∈ gtbl := gm 767 (by decide +kernel) rfl
theorem q_768 : (Jvm.Cond.code ({ cls := "LeftLacks$World", name := "joinNext", desc := "(I)V" } : Jvm.MethodName) prog_9_method_23_code (3 : Nat) (Option.none : Option Jvm.ClassFile.FieldType)) ∈ gtbl := gm 768 (by decide +kernel) rfl
theorem q_769 : (Jvm.Cond.methodLink "LeftLacks$World" (209 : Nat) ({ cls := "LeftLacks$Shop", name := "join", desc := "(LLeftLacks$Shop;)V" } : Jvm.MethodName)) ∈ gtbl := gm 769 (by decide +kernel) rfl
theorem q_770 : (Jvm.Cond.instanceMethod ({ cls := "LeftLacks$Shop", name := "join", desc := "(LLeftLacks$Shop;)V" } : Jvm.MethodName)) ∈ gtbl := gm 770 (by decide +kernel) rfl
theorem q_771 : (Jvm.Cond.selects "LeftLacks$Shop" ({ cls := "LeftLacks$Shop", name := "join", desc := "(LLeftLacks$Shop;)V" } : Jvm.MethodName) ({ cls := "LeftLacks$Shop", name := "join", desc := "(LLeftLacks$Shop;)V" } : Jvm.MethodName)) ∈ gtbl := gm 771 (by decide +kernel) rfl
theorem q_772 : (Jvm.Cond.code ({ cls := "LeftLacks$Shop", name := "join", desc := "(LLeftLacks$Shop;)V" } : Jvm.MethodName) prog_7_method_7_code (3 : Nat) (Option.none : Option Jvm.ClassFile.FieldType)) ∈ gtbl := gm 772 (by decide +kernel) rfl
theorem q_773 : (Jvm.Cond.methodLink "LeftLacks$Shop" (53 : Nat) ({ cls := "LeftLacks$Shop", name := "earn", desc := "(I)V" } : Jvm.MethodName)) ∈ gtbl := gm 773 (by decide +kernel) rfl
theorem q_774 : (Jvm.Cond.methodLink "LeftLacks$Shop" (57 : Nat) ({ cls := "java/lang/Math", name := "min", desc := "(II)I" } : Jvm.MethodName)) ∈ gtbl := gm 774 (by decide +kernel) rfl
theorem q_776 : (Jvm.Cond.instanceMethod ({ cls := "LeftLacks", name := "walk", desc := "(I)I" } : Jvm.MethodName)) ∈ gtbl := gm 776 (by decide +kernel) rfl
theorem q_777 : (Jvm.Cond.selects "LeftLacks" ({ cls := "LeftLacks", name := "walk", desc := "(I)I" } : Jvm.MethodName) ({ cls := "LeftLacks", name := "walk", desc := "(I)I" } : Jvm.MethodName)) ∈ gtbl := gm 777 (by decide +kernel) rfl
theorem q_778 : (Jvm.Cond.code ({ cls := "LeftLacks", name := "walk", desc := "(I)I" } : Jvm.MethodName) prog_1_method_27_code (5 : Nat) (Option.some Jvm.ClassFile.FieldType.int)) ∈ gtbl := gm 778 (by decide +kernel) rfl
theorem q_779 : (Jvm.Cond.methodLink "LeftLacks" (244 : Nat) ({ cls := "LeftLacks$World", name := "placeOf", desc := "(II)I" } : Jvm.MethodName)) ∈ gtbl := gm 779 (by decide +kernel) rfl
theorem q_780 : (Jvm.Cond.methodLink "LeftLacks" (247 : Nat) ({ cls := "LeftLacks$World", name := "mayGoods", desc := "(I)I" } : Jvm.MethodName)) ∈ gtbl := gm 780 (by decide +kernel) rfl
theorem q_782 : (Jvm.Cond.instanceMethod ({ cls := "LeftLacks", name := "voice", desc := "(III)I" } : Jvm.MethodName)) ∈ gtbl := gm 782 (by decide +kernel) rfl
theorem q_783 : (Jvm.Cond.selects "LeftLacks" ({ cls := "LeftLacks", name := "voice", desc := "(III)I" } : Jvm.MethodName) ({ cls := "LeftLacks", name := "voice", desc := "(III)I" } : Jvm.MethodName)) ∈ gtbl := gm 783 (by decide +kernel) rfl
theorem q_784 : (Jvm.Cond.code ({ cls := "LeftLacks", name := "voice", desc := "(III)I" } : Jvm.MethodName) prog_1_method_28_code (5 : Nat) (Option.some Jvm.ClassFile.FieldType.int)) ∈ gtbl := gm 784 (by decide +kernel) rfl
theorem q_785 : (Jvm.Cond.methodLink "LeftLacks" (250 : Nat) ({ cls := "LeftLacks$Speaker", name := "speak", desc := "(LLeftLacks$Shop;III)I" } : Jvm.MethodName)) ∈ gtbl := gm 785 (by decide +kernel) rfl
theorem q_786 : (Jvm.Cond.instanceMethod ({ cls := "LeftLacks$Speaker", name := "speak", desc := "(LLeftLacks$Shop;III)I" } : Jvm.MethodName)) ∈ gtbl := gm 786 (by decide +kernel) rfl
theorem q_787 : (Jvm.Cond.selects "LeftLacks$Speaker" ({ cls := "LeftLacks$Speaker", name := "speak", desc := "(LLeftLacks$Shop;III)I" } : Jvm.MethodName) ({ cls := "LeftLacks$Speaker", name := "speak", desc := "(LLeftLacks$Shop;III)I" } : Jvm.MethodName)) ∈ gtbl := gm 787 (by decide +kernel) rfl
theorem q_788 : (Jvm.Cond.code ({ cls := "LeftLacks$Speaker", name := "speak", desc := "(LLeftLacks$Shop;III)I" } : Jvm.MethodName) prog_8_method_2_code (5 : Nat) (Option.some Jvm.ClassFile.FieldType.int)) ∈ gtbl := gm 788 (by decide +kernel) rfl
theorem q_789 : (Jvm.Cond.methodLink "LeftLacks$Speaker" (36 : Nat) ({ cls := "LeftLacks$Speaker", name := "say", desc := "(IIII)I" } : Jvm.MethodName)) ∈ gtbl := gm 789 (by decide +kernel) rfl
theorem q_791 : (Jvm.Cond.instanceMethod ({ cls := "LeftLacks$Speaker", name := "say", desc := "(IIII)I" } : Jvm.MethodName)) ∈ gtbl := gm 791 (by decide +kernel) rfl
theorem q_792 : (Jvm.Cond.code ({ cls := "LeftLacks$Speaker", name := "say", desc := "(IIII)I" } : Jvm.MethodName) prog_8_method_3_code (9 : Nat) (Option.some Jvm.ClassFile.FieldType.int)) ∈ gtbl := gm 792 (by decide +kernel) rfl
theorem q_793 : (Jvm.Cond.methodLink "LeftLacks$Speaker" (40 : Nat) ({ cls := "LeftLacks$Speaker", name := "ownerOf", desc := "(II)I" } : Jvm.MethodName)) ∈ gtbl := gm 793 (by decide +kernel) rfl
theorem q_794 : (Jvm.Cond.static ({ cls := "LeftLacks$Speaker", name := "ownerOf", desc := "(II)I" } : Jvm.MethodName)) ∈ gtbl := gm 794 (by decide +kernel) rfl
theorem q_795 : (Jvm.Cond.code ({ cls := "LeftLacks$Speaker", name := "ownerOf", desc := "(II)I" } : Jvm.MethodName) prog_8_method_7_code (4 : Nat) (Option.some Jvm.ClassFile.FieldType.int)) ∈ gtbl := gm 795 (by decide +kernel) rfl
theorem q_797 : (Jvm.Cond.fieldLink "LeftLacks$Speaker" (44 : Nat) "LeftLacks$Speaker" "BODIES" "[I") ∈ gtbl := gm 797 (by decide +kernel) rfl
theorem q_800 : (Jvm.Cond.methodLink "LeftLacks$Speaker" (47 : Nat) ({ cls := "LeftLacks$Speaker", name := "note", desc := "(I)V" } : Jvm.MethodName)) ∈ gtbl := gm 800 (by decide +kernel) rfl
theorem q_802 : (Jvm.Cond.instanceMethod ({ cls := "LeftLacks$Speaker", name := "note", desc := "(I)V" } : Jvm.MethodName)) ∈ gtbl := gm 802 (by decide +kernel) rfl
theorem q_803 : (Jvm.Cond.code ({ cls := "LeftLacks$Speaker", name := "note", desc := "(I)V" } : Jvm.MethodName) prog_8_method_6_code (2 : Nat) (Option.none : Option Jvm.ClassFile.FieldType)) ∈ gtbl := gm 803 (by decide +kernel) rfl
theorem q_804 : (Jvm.Cond.methodLink "LeftLacks$Speaker" (54 : Nat) ({ cls := "LeftLacks$Speaker", name := "part", desc := "(I)I" } : Jvm.MethodName)) ∈ gtbl := gm 804 (by decide +kernel) rfl
theorem q_806 : (Jvm.Cond.instanceMethod ({ cls := "LeftLacks$Speaker", name := "part", desc := "(I)I" } : Jvm.MethodName)) ∈ gtbl := gm 806 (by decide +kernel) rfl
theorem q_807 : (Jvm.Cond.code ({ cls := "LeftLacks$Speaker", name := "part", desc := "(I)I" } : Jvm.MethodName) prog_8_method_4_code (3 : Nat) (Option.some Jvm.ClassFile.FieldType.int)) ∈ gtbl := gm 807 (by decide +kernel) rfl
theorem q_808 : (Jvm.Cond.methodLink "LeftLacks$Speaker" (58 : Nat) ({ cls := "LeftLacks$Speaker", name := "partAndFill", desc := "(III)I" } : Jvm.MethodName)) ∈ gtbl := gm 808 (by decide +kernel) rfl
theorem q_810 : (Jvm.Cond.instanceMethod ({ cls := "LeftLacks$Speaker", name := "partAndFill", desc := "(III)I" } : Jvm.MethodName)) ∈ gtbl := gm 810 (by decide +kernel) rfl
theorem q_811 : (Jvm.Cond.code ({ cls := "LeftLacks$Speaker", name := "partAndFill", desc := "(III)I" } : Jvm.MethodName) prog_8_method_5_code (5 : Nat) (Option.some Jvm.ClassFile.FieldType.int)) ∈ gtbl := gm 811 (by decide +kernel) rfl
theorem q_813 : (Jvm.Cond.instanceMethod ({ cls := "LeftLacks", name := "body", desc := "(I)I" } : Jvm.MethodName)) ∈ gtbl := gm 813 (by decide +kernel) rfl
theorem q_814 : (Jvm.Cond.selects "LeftLacks" ({ cls := "LeftLacks", name := "body", desc := "(I)I" } : Jvm.MethodName) ({ cls := "LeftLacks", name := "body", desc := "(I)I" } : Jvm.MethodName)) ∈ gtbl := gm 814 (by decide +kernel) rfl
theorem q_815 : (Jvm.Cond.code ({ cls := "LeftLacks", name := "body", desc := "(I)I" } : Jvm.MethodName) prog_1_method_29_code (2 : Nat) (Option.some Jvm.ClassFile.FieldType.int)) ∈ gtbl := gm 815 (by decide +kernel) rfl
theorem q_817 : (Jvm.Cond.instanceMethod ({ cls := "LeftLacks", name := "sheet", desc := "(III)I" } : Jvm.MethodName)) ∈ gtbl := gm 817 (by decide +kernel) rfl
theorem q_818 : (Jvm.Cond.selects "LeftLacks" ({ cls := "LeftLacks", name := "sheet", desc := "(III)I" } : Jvm.MethodName) ({ cls := "LeftLacks", name := "sheet", desc := "(III)I" } : Jvm.MethodName)) ∈ gtbl := gm 818 (by decide +kernel) rfl
theorem q_819 : (Jvm.Cond.code ({ cls := "LeftLacks", name := "sheet", desc := "(III)I" } : Jvm.MethodName) prog_1_method_30_code (4 : Nat) (Option.some Jvm.ClassFile.FieldType.int)) ∈ gtbl := gm 819 (by decide +kernel) rfl
theorem q_820 : (Jvm.Cond.methodLink "LeftLacks" (264 : Nat) ({ cls := "LeftLacks", name := "isSheet", desc := "(I)Z" } : Jvm.MethodName)) ∈ gtbl := gm 820 (by decide +kernel) rfl
theorem q_821 : (Jvm.Cond.static ({ cls := "LeftLacks", name := "isSheet", desc := "(I)Z" } : Jvm.MethodName)) ∈ gtbl := gm 821 (by decide +kernel) rfl
theorem q_822 : (Jvm.Cond.code ({ cls := "LeftLacks", name := "isSheet", desc := "(I)Z" } : Jvm.MethodName) prog_1_method_49_code (1 : Nat) (Option.some Jvm.ClassFile.FieldType.boolean)) ∈ gtbl := gm 822 (by decide +kernel) rfl
theorem q_823 : (Jvm.Cond.methodLink "LeftLacks" (267 : Nat) ({ cls := "LeftLacks$Sheet", name := "lay", desc := "(II)V" } : Jvm.MethodName)) ∈ gtbl := gm 823 (by decide +kernel) rfl
theorem q_824 : (Jvm.Cond.instanceMethod ({ cls := "LeftLacks$Sheet", name := "lay", desc := "(II)V" } : Jvm.MethodName)) ∈ gtbl := gm 824 (by decide +kernel) rfl
theorem q_825 : (Jvm.Cond.selects "LeftLacks$Sheet" ({ cls := "LeftLacks$Sheet", name := "lay", desc := "(II)V" } : Jvm.MethodName) ({ cls := "LeftLacks$Sheet", name := "lay", desc := "(II)V" } : Jvm.MethodName)) ∈ gtbl := gm 825 (by decide +kernel) rfl
theorem q_826 : (Jvm.Cond.code ({ cls := "LeftLacks$Sheet", name := "lay", desc := "(II)V" } : Jvm.MethodName) prog_6_method_3_code (3 : Nat) (Option.none : Option Jvm.ClassFile.FieldType)) ∈ gtbl := gm 826 (by decide +kernel) rfl
theorem q_827 : (Jvm.Cond.methodLink "LeftLacks$Sheet" (20 : Nat) ({ cls := "java/util/Arrays", name := "fill", desc := "([II)V" } : Jvm.MethodName)) ∈ gtbl := gm 827 (by decide +kernel) rfl
theorem q_829 : (Jvm.Cond.instanceMethod ({ cls := "LeftLacks", name := "put", desc := "(III)I" } : Jvm.MethodName)) ∈ gtbl := gm 829 (by decide +kernel) rfl
theorem q_830 : (Jvm.Cond.selects "LeftLacks" ({ cls := "LeftLacks", name := "put", desc := "(III)I" } : Jvm.MethodName) ({ cls := "LeftLacks", name := "put", desc := "(III)I" } : Jvm.MethodName)) ∈ gtbl := gm 830 (by decide +kernel) rfl
theorem q_831 : (Jvm.Cond.code ({ cls := "LeftLacks", name := "put", desc := "(III)I" } : Jvm.MethodName) prog_1_method_31_code (4 : Nat) (Option.some Jvm.ClassFile.FieldType.int)) ∈ gtbl := gm 831 (by decide +kernel) rfl
theorem q_832 : (Jvm.Cond.methodLink "LeftLacks" (270 : Nat) ({ cls := "LeftLacks$Sheet", name := "isMissing", desc := "()Z" } : Jvm.MethodName)) ∈ gtbl := gm 832 (by decide +kernel) rfl
theorem q_833 : (Jvm.Cond.instanceMethod ({ cls := "LeftLacks$Sheet", name := "isMissing", desc := "()Z" } : Jvm.MethodName)) ∈ gtbl := gm 833 (by decide +kernel) rfl
theorem q_834 : (Jvm.Cond.selects "LeftLacks$Sheet" ({ cls := "LeftLacks$Sheet", name := "isMissing", desc := "()Z" } : Jvm.MethodName) ({ cls := "LeftLacks$Sheet", name := "isMissing", desc := "()Z" } : Jvm.MethodName)) ∈ gtbl := gm 834 (by decide +kernel) rfl
theorem q_835 : (Jvm.Cond.code ({ cls := "LeftLacks$Sheet", name := "isMissing", desc := "()Z" } : Jvm.MethodName) prog_6_method_2_code (1 : Nat) (Option.some Jvm.ClassFile.FieldType.boolean)) ∈ gtbl := gm 835 (by decide +kernel) rfl
theorem q_836 : (Jvm.Cond.methodLink "LeftLacks" (274 : Nat) ({ cls := "LeftLacks$Sheet", name := "write", desc := "(II)V" } : Jvm.MethodName)) ∈ gtbl := gm 836 (by decide +kernel) rfl
theorem q_837 : (Jvm.Cond.instanceMethod ({ cls := "LeftLacks$Sheet", name := "write", desc := "(II)V" } : Jvm.MethodName)) ∈ gtbl := gm 837 (by decide +kernel) rfl
theorem q_838 : (Jvm.Cond.selects "LeftLacks$Sheet" ({ cls := "LeftLacks$Sheet", name := "write", desc := "(II)V" } : Jvm.MethodName) ({ cls := "LeftLacks$Sheet", name := "write", desc := "(II)V" } : Jvm.MethodName)) ∈ gtbl := gm 838 (by decide +kernel) rfl
theorem q_839 : (Jvm.Cond.code ({ cls := "LeftLacks$Sheet", name := "write", desc := "(II)V" } : Jvm.MethodName) prog_6_method_4_code (3 : Nat) (Option.none : Option Jvm.ClassFile.FieldType)) ∈ gtbl := gm 839 (by decide +kernel) rfl
theorem q_841 : (Jvm.Cond.instanceMethod ({ cls := "LeftLacks", name := "move", desc := "(IIIII)I" } : Jvm.MethodName)) ∈ gtbl := gm 841 (by decide +kernel) rfl
theorem q_842 : (Jvm.Cond.selects "LeftLacks" ({ cls := "LeftLacks", name := "move", desc := "(IIIII)I" } : Jvm.MethodName) ({ cls := "LeftLacks", name := "move", desc := "(IIIII)I" } : Jvm.MethodName)) ∈ gtbl := gm 842 (by decide +kernel) rfl
theorem q_843 : (Jvm.Cond.code ({ cls := "LeftLacks", name := "move", desc := "(IIIII)I" } : Jvm.MethodName) prog_1_method_32_code (8 : Nat) (Option.some Jvm.ClassFile.FieldType.int)) ∈ gtbl := gm 843 (by decide +kernel) rfl
theorem q_844 : (Jvm.Cond.methodLink "LeftLacks" (280 : Nat) ({ cls := "LeftLacks$Sheet", name := "holds", desc := "(II)Z" } : Jvm.MethodName)) ∈ gtbl := gm 844 (by decide +kernel) rfl
theorem q_845 : (Jvm.Cond.instanceMethod ({ cls := "LeftLacks$Sheet", name := "holds", desc := "(II)Z" } : Jvm.MethodName)) ∈ gtbl := gm 845 (by decide +kernel) rfl
theorem q_846 : (Jvm.Cond.selects "LeftLacks$Sheet" ({ cls := "LeftLacks$Sheet", name := "holds", desc := "(II)Z" } : Jvm.MethodName) ({ cls := "LeftLacks$Sheet", name := "holds", desc := "(II)Z" } : Jvm.MethodName)) ∈ gtbl := gm 846 (by decide +kernel) rfl
theorem q_847 : (Jvm.Cond.code ({ cls := "LeftLacks$Sheet", name := "holds", desc := "(II)Z" } : Jvm.MethodName) prog_6_method_5_code (3 : Nat) (Option.some Jvm.ClassFile.FieldType.boolean)) ∈ gtbl := gm 847 (by decide +kernel) rfl
theorem q_848 : (Jvm.Cond.methodLink "LeftLacks" (286 : Nat) ({ cls := "java/lang/System", name := "arraycopy", desc := "(Ljava/lang/Object;ILjava/lang/Object;II)V" } : Jvm.MethodName)) ∈ gtbl := gm 848 (by decide +kernel) rfl
theorem q_850 : (Jvm.Cond.instanceMethod ({ cls := "LeftLacks", name := "customers", desc := "(I)I" } : Jvm.MethodName)) ∈ gtbl := gm 850 (by decide +kernel) rfl
theorem q_851 : (Jvm.Cond.selects "LeftLacks" ({ cls := "LeftLacks", name := "customers", desc := "(I)I" } : Jvm.MethodName) ({ cls := "LeftLacks", name := "customers", desc := "(I)I" } : Jvm.MethodName)) ∈ gtbl := gm 851 (by decide +kernel) rfl
theorem q_852 : (Jvm.Cond.code ({ cls := "LeftLacks", name := "customers", desc := "(I)I" } : Jvm.MethodName) prog_1_method_33_code (7 : Nat) (Option.some Jvm.ClassFile.FieldType.int)) ∈ gtbl := gm 852 (by decide +kernel) rfl
theorem q_853 : (Jvm.Cond.methodLink "LeftLacks" (292 : Nat) ({ cls := "LeftLacks", name := "sheetRefusal", desc := "(I)I" } : Jvm.MethodName)) ∈ gtbl := gm 853 (by decide +kernel) rfl
theorem q_855 : (Jvm.Cond.instanceMethod ({ cls := "LeftLacks", name := "sheetRefusal", desc := "(I)I" } : Jvm.MethodName)) ∈ gtbl := gm 855 (by decide +kernel) rfl
theorem q_856 : (Jvm.Cond.code ({ cls := "LeftLacks", name := "sheetRefusal", desc := "(I)I" } : Jvm.MethodName) prog_1_method_44_code (2 : Nat) (Option.some Jvm.ClassFile.FieldType.int)) ∈ gtbl := gm 856 (by decide +kernel) rfl
theorem q_858 : (Jvm.Cond.instanceMethod ({ cls := "LeftLacks", name := "judge", desc := "(I)I" } : Jvm.MethodName)) ∈ gtbl := gm 858 (by decide +kernel) rfl
theorem q_859 : (Jvm.Cond.selects "LeftLacks" ({ cls := "LeftLacks", name := "judge", desc := "(I)I" } : Jvm.MethodName) ({ cls := "LeftLacks", name := "judge", desc := "(I)I" } : Jvm.MethodName)) ∈ gtbl := gm 859 (by decide +kernel) rfl
theorem q_860 : (Jvm.Cond.code ({ cls := "LeftLacks", name := "judge", desc := "(I)I" } : Jvm.MethodName) prog_1_method_34_code (8 : Nat) (Option.some Jvm.ClassFile.FieldType.int)) ∈ gtbl := gm 860 (by decide +kernel) rfl
theorem q_861 : (Jvm.Cond.methodLink "LeftLacks" (295 : Nat) ({ cls := "LeftLacks$World", name := "maySell", desc := "(II)Z" } : Jvm.MethodName)) ∈ gtbl := gm 861 (by decide +kernel) rfl
theorem q_863 : (Jvm.Cond.instanceMethod ({ cls := "LeftLacks", name := "came", desc := "(III)I" } : Jvm.MethodName)) ∈ gtbl := gm 863 (by decide +kernel) rfl
theorem q_864 : (Jvm.Cond.selects "LeftLacks" ({ cls := "LeftLacks", name := "came", desc := "(III)I" } : Jvm.MethodName) ({ cls := "LeftLacks", name := "came", desc := "(III)I" } : Jvm.MethodName)) ∈ gtbl := gm 864 (by decide +kernel) rfl
theorem q_865 : (Jvm.Cond.code ({ cls := "LeftLacks", name := "came", desc := "(III)I" } : Jvm.MethodName) prog_1_method_35_code (4 : Nat) (Option.some Jvm.ClassFile.FieldType.int)) ∈ gtbl := gm 865 (by decide +kernel) rfl
theorem q_866 : (Jvm.Cond.methodLink "LeftLacks" (298 : Nat) ({ cls := "LeftLacks$Search", name := "tryAll", desc := "(LLeftLacks$World;I[I)V" } : Jvm.MethodName)) ∈ gtbl := gm 866 (by decide +kernel) rfl
theorem q_867 : (Jvm.Cond.instanceMethod ({ cls := "LeftLacks$Search", name := "tryAll", desc := "(LLeftLacks$World;I[I)V" } : Jvm.MethodName)) ∈ gtbl := gm 867 (by decide +kernel) rfl
theorem q_868 : (Jvm.Cond.selects "LeftLacks$Search" ({ cls := "LeftLacks$Search", name := "tryAll", desc := "(LLeftLacks$World;I[I)V" } : Jvm.MethodName) ({ cls := "LeftLacks$Search", name := "tryAll", desc := "(LLeftLacks$World;I[I)V" } : Jvm.MethodName)) ∈ gtbl := gm 868 (by decide +kernel) rfl
theorem q_869 : (Jvm.Cond.code ({ cls := "LeftLacks$Search", name := "tryAll", desc := "(LLeftLacks$World;I[I)V" } : Jvm.MethodName) prog_5_method_2_code (4 : Nat) (Option.none : Option Jvm.ClassFile.FieldType)) ∈ gtbl := gm 869 (by decide +kernel) rfl
theorem q_870 : (Jvm.Cond.methodLink "LeftLacks$Search" (22 : Nat) ({ cls := "java/lang/System", name := "arraycopy", desc := "(Ljava/lang/Object;ILjava/lang/Object;II)V" } : Jvm.MethodName)) ∈ gtbl := gm 870 (by decide +kernel) rfl
theorem q_871 : (Jvm.Cond.methodLink "LeftLacks$Search" (40 : Nat) ({ cls := "LeftLacks$Search", name := "tryFrom", desc := "(LLeftLacks$World;II)V" } : Jvm.MethodName)) ∈ gtbl := gm 871 (by decide +kernel) rfl
theorem q_873 : (Jvm.Cond.instanceMethod ({ cls := "LeftLacks$Search", name := "tryFrom", desc := "(LLeftLacks$World;II)V" } : Jvm.MethodName)) ∈ gtbl := gm 873 (by decide +kernel) rfl
theorem q_874 : (Jvm.Cond.code ({ cls := "LeftLacks$Search", name := "tryFrom", desc := "(LLeftLacks$World;II)V" } : Jvm.MethodName) prog_5_method_3_code (5 : Nat) (Option.none : Option Jvm.ClassFile.FieldType)) ∈ gtbl := gm 874 (by decide +kernel) rfl
theorem q_875 : (Jvm.Cond.methodLink "LeftLacks$Search" (44 : Nat) ({ cls := "LeftLacks$World", name := "hasCustomer", desc := "(I)Z" } : Jvm.MethodName)) ∈ gtbl := gm 875 (by decide +kernel) rfl
theorem q_876 : (Jvm.Cond.methodLink "LeftLacks$Search" (50 : Nat) ({ cls := "LeftLacks$Search", name := "judgeSet", desc := "(LLeftLacks$World;I)V" } : Jvm.MethodName)) ∈ gtbl := gm 876 (by decide +kernel) rfl
theorem q_878 : (Jvm.Cond.instanceMethod ({ cls := "LeftLacks$Search", name := "judgeSet", desc := "(LLeftLacks$World;I)V" } : Jvm.MethodName)) ∈ gtbl := gm 878 (by decide +kernel) rfl
theorem q_879 : (Jvm.Cond.code ({ cls := "LeftLacks$Search", name := "judgeSet", desc := "(LLeftLacks$World;I)V" } : Jvm.MethodName) prog_5_method_5_code (4 : Nat) (Option.none : Option Jvm.ClassFile.FieldType)) ∈ gtbl := gm 879 (by decide +kernel) rfl
theorem q_880 : (Jvm.Cond.methodLink "LeftLacks$Search" (74 : Nat) ({ cls := "java/lang/Math", name := "min", desc := "(II)I" } : Jvm.MethodName)) ∈ gtbl := gm 880 (by decide +kernel) rfl
theorem q_881 : (Jvm.Cond.methodLink "LeftLacks$Search" (66 : Nat) ({ cls := "LeftLacks$Search", name := "startOf", desc := "(II)I" } : Jvm.MethodName)) ∈ gtbl := gm 881 (by decide +kernel) rfl
theorem q_882 : (Jvm.Cond.static ({ cls := "LeftLacks$Search", name := "startOf", desc := "(II)I" } : Jvm.MethodName)) ∈ gtbl := gm 882 (by decide +kernel) rfl
theorem q_883 : (Jvm.Cond.code ({ cls := "LeftLacks$Search", name := "startOf", desc := "(II)I" } : Jvm.MethodName) prog_5_method_4_code (2 : Nat) (Option.some Jvm.ClassFile.FieldType.int)) ∈ gtbl := gm 883 (by decide +kernel) rfl
theorem q_884 : (Jvm.Cond.methodLink "LeftLacks$Search" (70 : Nat) ({ cls := "LeftLacks$World", name := "goAlong", desc := "(I)I" } : Jvm.MethodName)) ∈ gtbl := gm 884 (by decide +kernel) rfl
theorem q_886 : (Jvm.Cond.instanceMethod ({ cls := "LeftLacks", name := "image", desc := "()I" } : Jvm.MethodName)) ∈ gtbl := gm 886 (by decide +kernel) rfl
theorem q_887 : (Jvm.Cond.selects "LeftLacks" ({ cls := "LeftLacks", name := "image", desc := "()I" } : Jvm.MethodName) ({ cls := "LeftLacks", name := "image", desc := "()I" } : Jvm.MethodName)) ∈ gtbl := gm 887 (by decide +kernel) rfl
theorem q_888 : (Jvm.Cond.code ({ cls := "LeftLacks", name := "image", desc := "()I" } : Jvm.MethodName) prog_1_method_36_code (1 : Nat) (Option.some Jvm.ClassFile.FieldType.int)) ∈ gtbl := gm 888 (by decide +kernel) rfl
theorem q_890 : (Jvm.Cond.instanceMethod ({ cls := "LeftLacks", name := "restore", desc := "()I" } : Jvm.MethodName)) ∈ gtbl := gm 890 (by decide +kernel) rfl
theorem q_891 : (Jvm.Cond.selects "LeftLacks" ({ cls := "LeftLacks", name := "restore", desc := "()I" } : Jvm.MethodName) ({ cls := "LeftLacks", name := "restore", desc := "()I" } : Jvm.MethodName)) ∈ gtbl := gm 891 (by decide +kernel) rfl
theorem q_892 : (Jvm.Cond.code ({ cls := "LeftLacks", name := "restore", desc := "()I" } : Jvm.MethodName) prog_1_method_37_code (1 : Nat) (Option.some Jvm.ClassFile.FieldType.int)) ∈ gtbl := gm 892 (by decide +kernel) rfl
theorem q_894 : (Jvm.Cond.instanceMethod ({ cls := "LeftLacks", name := "tell", desc := "(I)I" } : Jvm.MethodName)) ∈ gtbl := gm 894 (by decide +kernel) rfl
theorem q_895 : (Jvm.Cond.selects "LeftLacks" ({ cls := "LeftLacks", name := "tell", desc := "(I)I" } : Jvm.MethodName) ({ cls := "LeftLacks", name := "tell", desc := "(I)I" } : Jvm.MethodName)) ∈ gtbl := gm 895 (by decide +kernel) rfl
theorem q_896 : (Jvm.Cond.code ({ cls := "LeftLacks", name := "tell", desc := "(I)I" } : Jvm.MethodName) prog_1_method_38_code (2 : Nat) (Option.some Jvm.ClassFile.FieldType.int)) ∈ gtbl := gm 896 (by decide +kernel) rfl
theorem q_898 : (Jvm.Cond.instanceMethod ({ cls := "LeftLacks", name := "check", desc := "()I" } : Jvm.MethodName)) ∈ gtbl := gm 898 (by decide +kernel) rfl
theorem q_899 : (Jvm.Cond.selects "LeftLacks" ({ cls := "LeftLacks", name := "check", desc := "()I" } : Jvm.MethodName) ({ cls := "LeftLacks", name := "check", desc := "()I" } : Jvm.MethodName)) ∈ gtbl := gm 899 (by decide +kernel) rfl
theorem q_900 : (Jvm.Cond.code ({ cls := "LeftLacks", name := "check", desc := "()I" } : Jvm.MethodName) prog_1_method_39_code (3 : Nat) (Option.some Jvm.ClassFile.FieldType.int)) ∈ gtbl := gm 900 (by decide +kernel) rfl
theorem q_902 : (Jvm.Cond.instanceMethod ({ cls := "LeftLacks", name := "count", desc := "(I)I" } : Jvm.MethodName)) ∈ gtbl := gm 902 (by decide +kernel) rfl
theorem q_903 : (Jvm.Cond.selects "LeftLacks" ({ cls := "LeftLacks", name := "count", desc := "(I)I" } : Jvm.MethodName) ({ cls := "LeftLacks", name := "count", desc := "(I)I" } : Jvm.MethodName)) ∈ gtbl := gm 903 (by decide +kernel) rfl
theorem q_904 : (Jvm.Cond.code ({ cls := "LeftLacks", name := "count", desc := "(I)I" } : Jvm.MethodName) prog_1_method_40_code (2 : Nat) (Option.some Jvm.ClassFile.FieldType.int)) ∈ gtbl := gm 904 (by decide +kernel) rfl
theorem q_905 : (Jvm.Cond.methodLink "LeftLacks" (326 : Nat) ({ cls := "LeftLacks$World", name := "purses", desc := "()I" } : Jvm.MethodName)) ∈ gtbl := gm 905 (by decide +kernel) rfl
theorem q_906 : (Jvm.Cond.instanceMethod ({ cls := "LeftLacks$World", name := "purses", desc := "()I" } : Jvm.MethodName)) ∈ gtbl := gm 906 (by decide +kernel) rfl
theorem q_907 : (Jvm.Cond.selects "LeftLacks$World" ({ cls := "LeftLacks$World", name := "purses", desc := "()I" } : Jvm.MethodName) ({ cls := "LeftLacks$World", name := "purses", desc := "()I" } : Jvm.MethodName)) ∈ gtbl := gm 907 (by decide +kernel) rfl
theorem q_908 : (Jvm.Cond.code ({ cls := "LeftLacks$World", name := "purses", desc := "()I" } : Jvm.MethodName) prog_9_method_25_code (3 : Nat) (Option.some Jvm.ClassFile.FieldType.int)) ∈ gtbl := gm 908 (by decide +kernel) rfl
theorem q_910 : (Jvm.Cond.instanceMethod ({ cls := "LeftLacks", name := "told", desc := "(I)I" } : Jvm.MethodName)) ∈ gtbl := gm 910 (by decide +kernel) rfl
theorem q_911 : (Jvm.Cond.selects "LeftLacks" ({ cls := "LeftLacks", name := "told", desc := "(I)I" } : Jvm.MethodName) ({ cls := "LeftLacks", name := "told", desc := "(I)I" } : Jvm.MethodName)) ∈ gtbl := gm 911 (by decide +kernel) rfl
theorem q_912 : (Jvm.Cond.code ({ cls := "LeftLacks", name := "told", desc := "(I)I" } : Jvm.MethodName) prog_1_method_41_code (2 : Nat) (Option.some Jvm.ClassFile.FieldType.int)) ∈ gtbl := gm 912 (by decide +kernel) rfl
theorem q_919 : (Jvm.Cond.fieldLink "LeftLacksModel" (7 : Nat) "LeftLacksModel" "s" "[I") ∈ gtbl := gm 919 (by decide +kernel) rfl
theorem q_920 : (Jvm.Cond.fieldLink "LeftLacksModel" (13 : Nat) "LeftLacksModel" "kept" "[I") ∈ gtbl := gm 920 (by decide +kernel) rfl
theorem q_921 : (Jvm.Cond.fieldLink "LeftLacksModel" (16 : Nat) "LeftLacksModel" "put" "[I") ∈ gtbl := gm 921 (by decide +kernel) rfl
theorem q_922 : (Jvm.Cond.fieldLink "LeftLacksModel" (274 : Nat) "LeftLacksModel" "images" "I") ∈ gtbl := gm 922 (by decide +kernel) rfl
theorem q_923 : (Jvm.Cond.fieldLink "LeftLacksModel" (19 : Nat) "LeftLacksModel" "errors" "[I") ∈ gtbl := gm 923 (by decide +kernel) rfl
theorem q_924 : (Jvm.Cond.fieldLink "LeftLacksModel" (103 : Nat) "LeftLacksModel" "at" "I") ∈ gtbl := gm 924 (by decide +kernel) rfl
theorem q_925 : (Jvm.Cond.fieldLink "LeftLacksModel" (137 : Nat) "LeftLacksModel" "open" "I") ∈ gtbl := gm 925 (by decide +kernel) rfl
theorem q_926 : (Jvm.Cond.fieldLink "LeftLacksModel" (110 : Nat) "LeftLacksModel" "steps" "I") ∈ gtbl := gm 926 (by decide +kernel) rfl
theorem q_927 : (Jvm.Cond.fieldLink "LeftLacksModel" (107 : Nat) "LeftLacksModel" "use" "I") ∈ gtbl := gm 927 (by decide +kernel) rfl
theorem q_928 : (Jvm.Cond.fieldLink "LeftLacksModel" (22 : Nat) "LeftLacksModel" "step" "[I") ∈ gtbl := gm 928 (by decide +kernel) rfl
theorem q_929 : (Jvm.Cond.fieldLink "LeftLacksModel" (25 : Nat) "LeftLacksModel" "named" "[I") ∈ gtbl := gm 929 (by decide +kernel) rfl
theorem q_930 : (Jvm.Cond.fieldLink "LeftLacksModel" (28 : Nat) "LeftLacksModel" "pile" "[I") ∈ gtbl := gm 930 (by decide +kernel) rfl
theorem q_931 : (Jvm.Cond.fieldLink "LeftLacksModel" (31 : Nat) "LeftLacksModel" "trace" "[I") ∈ gtbl := gm 931 (by decide +kernel) rfl
theorem q_932 : (Jvm.Cond.fieldLink "LeftLacksModel" (231 : Nat) "LeftLacksModel" "traced" "I") ∈ gtbl := gm 932 (by decide +kernel) rfl
theorem q_933 : (Jvm.Cond.fieldLink "LeftLacksModel" (234 : Nat) "LeftLacksModel" "speaks" "I") ∈ gtbl := gm 933 (by decide +kernel) rfl
theorem q_934 : (Jvm.Cond.fieldLink "LeftLacksModel" (258 : Nat) "LeftLacksModel" "isParted" "Z") ∈ gtbl := gm 934 (by decide +kernel) rfl
theorem q_935 : (Jvm.Cond.fieldLink "LeftLacksModel" (34 : Nat) "LeftLacksModel" "bits" "[I") ∈ gtbl := gm 935 (by decide +kernel) rfl
theorem q_936 : (Jvm.Cond.fieldLink "LeftLacksModel" (37 : Nat) "LeftLacksModel" "sizes" "[I") ∈ gtbl := gm 936 (by decide +kernel) rfl
theorem q_937 : (Jvm.Cond.fieldLink "LeftLacksModel" (40 : Nat) "LeftLacksModel" "number" "[I") ∈ gtbl := gm 937 (by decide +kernel) rfl
theorem q_938 : (Jvm.Cond.fieldLink "LeftLacksModel" (43 : Nat) "LeftLacksModel" "aside" "[I") ∈ gtbl := gm 938 (by decide +kernel) rfl
theorem q_981 : (Jvm.Cond.instanceMethod ({ cls := "LeftLacksModel", name := "cost", desc := "(II)I" } : Jvm.MethodName)) ∈ gtbl := gm 981 (by decide +kernel) rfl
theorem q_982 : (Jvm.Cond.selects "LeftLacksModel" ({ cls := "LeftLacksModel", name := "cost", desc := "(II)I" } : Jvm.MethodName) ({ cls := "LeftLacksModel", name := "cost", desc := "(II)I" } : Jvm.MethodName)) ∈ gtbl := gm 982 (by decide +kernel) rfl
theorem q_983 : (Jvm.Cond.code ({ cls := "LeftLacksModel", name := "cost", desc := "(II)I" } : Jvm.MethodName) prog_11_method_16_code (4 : Nat) (Option.some Jvm.ClassFile.FieldType.int)) ∈ gtbl := gm 983 (by decide +kernel) rfl
theorem q_984 : (Jvm.Cond.methodLink "LeftLacksModel" (66 : Nat) ({ cls := "LeftLacksModel", name := "isGood", desc := "(I)Z" } : Jvm.MethodName)) ∈ gtbl := gm 984 (by decide +kernel) rfl
theorem q_985 : (Jvm.Cond.static ({ cls := "LeftLacksModel", name := "isGood", desc := "(I)Z" } : Jvm.MethodName)) ∈ gtbl := gm 985 (by decide +kernel) rfl
theorem q_986 : (Jvm.Cond.code ({ cls := "LeftLacksModel", name := "isGood", desc := "(I)Z" } : Jvm.MethodName) prog_11_method_7_code (1 : Nat) (Option.some Jvm.ClassFile.FieldType.boolean)) ∈ gtbl := gm 986 (by decide +kernel) rfl
theorem q_987 : (Jvm.Cond.methodLink "LeftLacksModel" (47 : Nat) ({ cls := "LeftLacksModel", name := "in", desc := "(III)Z" } : Jvm.MethodName)) ∈ gtbl := gm 987 (by decide +kernel) rfl
theorem q_988 : (Jvm.Cond.static ({ cls := "LeftLacksModel", name := "in", desc := "(III)Z" } : Jvm.MethodName)) ∈ gtbl := gm 988 (by decide +kernel) rfl
theorem q_989 : (Jvm.Cond.code ({ cls := "LeftLacksModel", name := "in", desc := "(III)Z" } : Jvm.MethodName) prog_11_method_3_code (3 : Nat) (Option.some Jvm.ClassFile.FieldType.boolean)) ∈ gtbl := gm 989 (by decide +kernel) rfl
theorem q_990 : (Jvm.Cond.methodLink "LeftLacksModel" (70 : Nat) ({ cls := "LeftLacksModel", name := "error", desc := "(I)I" } : Jvm.MethodName)) ∈ gtbl := gm 990 (by decide +kernel) rfl
theorem q_992 : (Jvm.Cond.instanceMethod ({ cls := "LeftLacksModel", name := "error", desc := "(I)I" } : Jvm.MethodName)) ∈ gtbl := gm 992 (by decide +kernel) rfl
theorem q_993 : (Jvm.Cond.code ({ cls := "LeftLacksModel", name := "error", desc := "(I)I" } : Jvm.MethodName) prog_11_method_2_code (2 : Nat) (Option.some Jvm.ClassFile.FieldType.int)) ∈ gtbl := gm 993 (by decide +kernel) rfl
theorem q_994 : (Jvm.Cond.constant "LeftLacksModel" (46 : Nat) (-1000000000 : Int32)) ∈ gtbl := gm 994 (by decide +kernel) rfl
theorem q_996 : (Jvm.Cond.instanceMethod ({ cls := "LeftLacksModel", name := "rule", desc := "(II)I" } : Jvm.MethodName)) ∈ gtbl := gm 996 (by decide +kernel) rfl
theorem q_997 : (Jvm.Cond.selects "LeftLacksModel" ({ cls := "LeftLacksModel", name := "rule", desc := "(II)I" } : Jvm.MethodName) ({ cls := "LeftLacksModel", name := "rule", desc := "(II)I" } : Jvm.MethodName)) ∈ gtbl := gm 997 (by decide +kernel) rfl
theorem q_998 : (Jvm.Cond.code ({ cls := "LeftLacksModel", name := "rule", desc := "(II)I" } : Jvm.MethodName) prog_11_method_17_code (4 : Nat) (Option.some Jvm.ClassFile.FieldType.int)) ∈ gtbl := gm 998 (by decide +kernel) rfl
theorem q_1000 : (Jvm.Cond.instanceMethod ({ cls := "LeftLacksModel", name := "shop", desc := "(I)I" } : Jvm.MethodName)) ∈ gtbl := gm 1000 (by decide +kernel) rfl
theorem q_1001 : (Jvm.Cond.selects "LeftLacksModel" ({ cls := "LeftLacksModel", name := "shop", desc := "(I)I" } : Jvm.MethodName) ({ cls := "LeftLacksModel", name := "shop", desc := "(I)I" } : Jvm.MethodName)) ∈ gtbl := gm 1001 (by decide +kernel) rfl
theorem q_1002 : (Jvm.Cond.code ({ cls := "LeftLacksModel", name := "shop", desc := "(I)I" } : Jvm.MethodName) prog_11_method_18_code (4 : Nat) (Option.some Jvm.ClassFile.FieldType.int)) ∈ gtbl := gm 1002 (by decide +kernel) rfl
theorem q_1003 : (Jvm.Cond.methodLink "LeftLacksModel" (73 : Nat) ({ cls := "LeftLacksModel", name := "lays1", desc := "(III)V" } : Jvm.MethodName)) ∈ gtbl := gm 1003 (by decide +kernel) rfl
theorem q_1005 : (Jvm.Cond.instanceMethod ({ cls := "LeftLacksModel", name := "lays1", desc := "(III)V" } : Jvm.MethodName)) ∈ gtbl := gm 1005 (by decide +kernel) rfl
theorem q_1006 : (Jvm.Cond.code ({ cls := "LeftLacksModel", name := "lays1", desc := "(III)V" } : Jvm.MethodName) prog_11_method_10_code (4 : Nat) (Option.none : Option Jvm.ClassFile.FieldType)) ∈ gtbl := gm 1006 (by decide +kernel) rfl
theorem q_1008 : (Jvm.Cond.instanceMethod ({ cls := "LeftLacksModel", name := "shopIs", desc := "(II)I" } : Jvm.MethodName)) ∈ gtbl := gm 1008 (by decide +kernel) rfl
theorem q_1009 : (Jvm.Cond.selects "LeftLacksModel" ({ cls := "LeftLacksModel", name := "shopIs", desc := "(II)I" } : Jvm.MethodName) ({ cls := "LeftLacksModel", name := "shopIs", desc := "(II)I" } : Jvm.MethodName)) ∈ gtbl := gm 1009 (by decide +kernel) rfl
theorem q_1010 : (Jvm.Cond.code ({ cls := "LeftLacksModel", name := "shopIs", desc := "(II)I" } : Jvm.MethodName) prog_11_method_20_code (3 : Nat) (Option.some Jvm.ClassFile.FieldType.int)) ∈ gtbl := gm 1010 (by decide +kernel) rfl
theorem q_1011 : (Jvm.Cond.methodLink "LeftLacksModel" (80 : Nat) ({ cls := "LeftLacksModel", name := "isShop", desc := "(I)Z" } : Jvm.MethodName)) ∈ gtbl := gm 1011 (by decide +kernel) rfl
theorem q_1013 : (Jvm.Cond.instanceMethod ({ cls := "LeftLacksModel", name := "isShop", desc := "(I)Z" } : Jvm.MethodName)) ∈ gtbl := gm 1013 (by decide +kernel) rfl
theorem q_1014 : (Jvm.Cond.code ({ cls := "LeftLacksModel", name := "isShop", desc := "(I)Z" } : Jvm.MethodName) prog_11_method_6_code (2 : Nat) (Option.some Jvm.ClassFile.FieldType.boolean)) ∈ gtbl := gm 1014 (by decide +kernel) rfl
theorem q_1015 : (Jvm.Cond.methodLink "LeftLacksModel" (83 : Nat) ({ cls := "LeftLacksModel", name := "toldShop", desc := "(II)I" } : Jvm.MethodName)) ∈ gtbl := gm 1015 (by decide +kernel) rfl
theorem q_1017 : (Jvm.Cond.instanceMethod ({ cls := "LeftLacksModel", name := "toldShop", desc := "(II)I" } : Jvm.MethodName)) ∈ gtbl := gm 1017 (by decide +kernel) rfl
theorem q_1018 : (Jvm.Cond.code ({ cls := "LeftLacksModel", name := "toldShop", desc := "(II)I" } : Jvm.MethodName) prog_11_method_19_code (3 : Nat) (Option.some Jvm.ClassFile.FieldType.int)) ∈ gtbl := gm 1018 (by decide +kernel) rfl
theorem q_1019 : (Jvm.Cond.methodLink "LeftLacksModel" (77 : Nat) ({ cls := "LeftLacksModel", name := "maySell", desc := "(I)I" } : Jvm.MethodName)) ∈ gtbl := gm 1019 (by decide +kernel) rfl
theorem q_1021 : (Jvm.Cond.instanceMethod ({ cls := "LeftLacksModel", name := "maySell", desc := "(I)I" } : Jvm.MethodName)) ∈ gtbl := gm 1021 (by decide +kernel) rfl
theorem q_1022 : (Jvm.Cond.code ({ cls := "LeftLacksModel", name := "maySell", desc := "(I)I" } : Jvm.MethodName) prog_11_method_15_code (4 : Nat) (Option.some Jvm.ClassFile.FieldType.int)) ∈ gtbl := gm 1022 (by decide +kernel) rfl
theorem q_1023 : (Jvm.Cond.methodLink "LeftLacksModel" (62 : Nat) ({ cls := "LeftLacksModel", name := "may", desc := "(II)Z" } : Jvm.MethodName)) ∈ gtbl := gm 1023 (by decide +kernel) rfl
theorem q_1025 : (Jvm.Cond.instanceMethod ({ cls := "LeftLacksModel", name := "may", desc := "(II)Z" } : Jvm.MethodName)) ∈ gtbl := gm 1025 (by decide +kernel) rfl
theorem q_1026 : (Jvm.Cond.code ({ cls := "LeftLacksModel", name := "may", desc := "(II)Z" } : Jvm.MethodName) prog_11_method_14_code (5 : Nat) (Option.some Jvm.ClassFile.FieldType.boolean)) ∈ gtbl := gm 1026 (by decide +kernel) rfl
theorem q_1027 : (Jvm.Cond.methodLink "LeftLacksModel" (55 : Nat) ({ cls := "LeftLacksModel", name := "left", desc := "(I)I" } : Jvm.MethodName)) ∈ gtbl := gm 1027 (by decide +kernel) rfl
theorem q_1029 : (Jvm.Cond.instanceMethod ({ cls := "LeftLacksModel", name := "left", desc := "(I)I" } : Jvm.MethodName)) ∈ gtbl := gm 1029 (by decide +kernel) rfl
theorem q_1030 : (Jvm.Cond.code ({ cls := "LeftLacksModel", name := "left", desc := "(I)I" } : Jvm.MethodName) prog_11_method_12_code (2 : Nat) (Option.some Jvm.ClassFile.FieldType.int)) ∈ gtbl := gm 1030 (by decide +kernel) rfl
theorem q_1031 : (Jvm.Cond.methodLink "LeftLacksModel" (51 : Nat) ({ cls := "LeftLacksModel", name := "its", desc := "(II)I" } : Jvm.MethodName)) ∈ gtbl := gm 1031 (by decide +kernel) rfl
theorem q_1033 : (Jvm.Cond.instanceMethod ({ cls := "LeftLacksModel", name := "its", desc := "(II)I" } : Jvm.MethodName)) ∈ gtbl := gm 1033 (by decide +kernel) rfl
theorem q_1034 : (Jvm.Cond.code ({ cls := "LeftLacksModel", name := "its", desc := "(II)I" } : Jvm.MethodName) prog_11_method_9_code (3 : Nat) (Option.some Jvm.ClassFile.FieldType.int)) ∈ gtbl := gm 1034 (by decide +kernel) rfl
theorem q_1035 : (Jvm.Cond.methodLink "LeftLacksModel" (59 : Nat) ({ cls := "LeftLacksModel", name := "lacks1", desc := "(III)Z" } : Jvm.MethodName)) ∈ gtbl := gm 1035 (by decide +kernel) rfl
theorem q_1037 : (Jvm.Cond.instanceMethod ({ cls := "LeftLacksModel", name := "lacks1", desc := "(III)Z" } : Jvm.MethodName)) ∈ gtbl := gm 1037 (by decide +kernel) rfl
theorem q_1038 : (Jvm.Cond.code ({ cls := "LeftLacksModel", name := "lacks1", desc := "(III)Z" } : Jvm.MethodName) prog_11_method_13_code (4 : Nat) (Option.some Jvm.ClassFile.FieldType.boolean)) ∈ gtbl := gm 1038 (by decide +kernel) rfl
theorem q_1040 : (Jvm.Cond.instanceMethod ({ cls := "LeftLacksModel", name := "as", desc := "(II)I" } : Jvm.MethodName)) ∈ gtbl := gm 1040 (by decide +kernel) rfl
theorem q_1041 : (Jvm.Cond.selects "LeftLacksModel" ({ cls := "LeftLacksModel", name := "as", desc := "(II)I" } : Jvm.MethodName) ({ cls := "LeftLacksModel", name := "as", desc := "(II)I" } : Jvm.MethodName)) ∈ gtbl := gm 1041 (by decide +kernel) rfl
theorem q_1042 : (Jvm.Cond.code ({ cls := "LeftLacksModel", name := "as", desc := "(II)I" } : Jvm.MethodName) prog_11_method_22_code (3 : Nat) (Option.some Jvm.ClassFile.FieldType.int)) ∈ gtbl := gm 1042 (by decide +kernel) rfl
theorem q_1043 : (Jvm.Cond.methodLink "LeftLacksModel" (86 : Nat) ({ cls := "LeftLacksModel", name := "isUnder", desc := "(II)Z" } : Jvm.MethodName)) ∈ gtbl := gm 1043 (by decide +kernel) rfl
theorem q_1044 : (Jvm.Cond.static ({ cls := "LeftLacksModel", name := "isUnder", desc := "(II)Z" } : Jvm.MethodName)) ∈ gtbl := gm 1044 (by decide +kernel) rfl
theorem q_1045 : (Jvm.Cond.code ({ cls := "LeftLacksModel", name := "isUnder", desc := "(II)Z" } : Jvm.MethodName) prog_11_method_21_code (2 : Nat) (Option.some Jvm.ClassFile.FieldType.boolean)) ∈ gtbl := gm 1045 (by decide +kernel) rfl
theorem q_1047 : (Jvm.Cond.instanceMethod ({ cls := "LeftLacksModel", name := "set", desc := "(III)I" } : Jvm.MethodName)) ∈ gtbl := gm 1047 (by decide +kernel) rfl
theorem q_1048 : (Jvm.Cond.selects "LeftLacksModel" ({ cls := "LeftLacksModel", name := "set", desc := "(III)I" } : Jvm.MethodName) ({ cls := "LeftLacksModel", name := "set", desc := "(III)I" } : Jvm.MethodName)) ∈ gtbl := gm 1048 (by decide +kernel) rfl
theorem q_1049 : (Jvm.Cond.code ({ cls := "LeftLacksModel", name := "set", desc := "(III)I" } : Jvm.MethodName) prog_11_method_23_code (6 : Nat) (Option.some Jvm.ClassFile.FieldType.int)) ∈ gtbl := gm 1049 (by decide +kernel) rfl
theorem q_1051 : (Jvm.Cond.instanceMethod ({ cls := "LeftLacksModel", name := "customer", desc := "(III)I" } : Jvm.MethodName)) ∈ gtbl := gm 1051 (by decide +kernel) rfl
theorem q_1052 : (Jvm.Cond.selects "LeftLacksModel" ({ cls := "LeftLacksModel", name := "customer", desc := "(III)I" } : Jvm.MethodName) ({ cls := "LeftLacksModel", name := "customer", desc := "(III)I" } : Jvm.MethodName)) ∈ gtbl := gm 1052 (by decide +kernel) rfl
theorem q_1053 : (Jvm.Cond.code ({ cls := "LeftLacksModel", name := "customer", desc := "(III)I" } : Jvm.MethodName) prog_11_method_26_code (4 : Nat) (Option.some Jvm.ClassFile.FieldType.int)) ∈ gtbl := gm 1053 (by decide +kernel) rfl
theorem q_1054 : (Jvm.Cond.methodLink "LeftLacksModel" (89 : Nat) ({ cls := "LeftLacksModel", name := "isCustomer1", desc := "(III)Z" } : Jvm.MethodName)) ∈ gtbl := gm 1054 (by decide +kernel) rfl
theorem q_1055 : (Jvm.Cond.static ({ cls := "LeftLacksModel", name := "isCustomer1", desc := "(III)Z" } : Jvm.MethodName)) ∈ gtbl := gm 1055 (by decide +kernel) rfl
theorem q_1056 : (Jvm.Cond.code ({ cls := "LeftLacksModel", name := "isCustomer1", desc := "(III)Z" } : Jvm.MethodName) prog_11_method_24_code (3 : Nat) (Option.some Jvm.ClassFile.FieldType.boolean)) ∈ gtbl := gm 1056 (by decide +kernel) rfl
theorem q_1057 : (Jvm.Cond.methodLink "LeftLacksModel" (92 : Nat) ({ cls := "LeftLacksModel", name := "addCustomer", desc := "(III)V" } : Jvm.MethodName)) ∈ gtbl := gm 1057 (by decide +kernel) rfl
theorem q_1059 : (Jvm.Cond.instanceMethod ({ cls := "LeftLacksModel", name := "addCustomer", desc := "(III)V" } : Jvm.MethodName)) ∈ gtbl := gm 1059 (by decide +kernel) rfl
theorem q_1060 : (Jvm.Cond.code ({ cls := "LeftLacksModel", name := "addCustomer", desc := "(III)V" } : Jvm.MethodName) prog_11_method_25_code (5 : Nat) (Option.none : Option Jvm.ClassFile.FieldType)) ∈ gtbl := gm 1060 (by decide +kernel) rfl
theorem q_1062 : (Jvm.Cond.instanceMethod ({ cls := "LeftLacksModel", name := "customerIs", desc := "(II)I" } : Jvm.MethodName)) ∈ gtbl := gm 1062 (by decide +kernel) rfl
theorem q_1063 : (Jvm.Cond.selects "LeftLacksModel" ({ cls := "LeftLacksModel", name := "customerIs", desc := "(II)I" } : Jvm.MethodName) ({ cls := "LeftLacksModel", name := "customerIs", desc := "(II)I" } : Jvm.MethodName)) ∈ gtbl := gm 1063 (by decide +kernel) rfl
theorem q_1064 : (Jvm.Cond.code ({ cls := "LeftLacksModel", name := "customerIs", desc := "(II)I" } : Jvm.MethodName) prog_11_method_27_code (3 : Nat) (Option.some Jvm.ClassFile.FieldType.int)) ∈ gtbl := gm 1064 (by decide +kernel) rfl
theorem q_1065 : (Jvm.Cond.methodLink "LeftLacksModel" (95 : Nat) ({ cls := "LeftLacksModel", name := "isCustomer", desc := "(I)Z" } : Jvm.MethodName)) ∈ gtbl := gm 1065 (by decide +kernel) rfl
theorem q_1067 : (Jvm.Cond.instanceMethod ({ cls := "LeftLacksModel", name := "isCustomer", desc := "(I)Z" } : Jvm.MethodName)) ∈ gtbl := gm 1067 (by decide +kernel) rfl
theorem q_1068 : (Jvm.Cond.code ({ cls := "LeftLacksModel", name := "isCustomer", desc := "(I)Z" } : Jvm.MethodName) prog_11_method_8_code (2 : Nat) (Option.some Jvm.ClassFile.FieldType.boolean)) ∈ gtbl := gm 1068 (by decide +kernel) rfl
theorem q_1069 : (Jvm.Cond.methodLink "LeftLacksModel" (98 : Nat) ({ cls := "LeftLacksModel", name := "of", desc := "(II)I" } : Jvm.MethodName)) ∈ gtbl := gm 1069 (by decide +kernel) rfl
theorem q_1071 : (Jvm.Cond.instanceMethod ({ cls := "LeftLacksModel", name := "of", desc := "(II)I" } : Jvm.MethodName)) ∈ gtbl := gm 1071 (by decide +kernel) rfl
theorem q_1072 : (Jvm.Cond.code ({ cls := "LeftLacksModel", name := "of", desc := "(II)I" } : Jvm.MethodName) prog_11_method_11_code (3 : Nat) (Option.some Jvm.ClassFile.FieldType.int)) ∈ gtbl := gm 1072 (by decide +kernel) rfl
theorem q_1074 : (Jvm.Cond.instanceMethod ({ cls := "LeftLacksModel", name := "leave", desc := "()I" } : Jvm.MethodName)) ∈ gtbl := gm 1074 (by decide +kernel) rfl
theorem q_1075 : (Jvm.Cond.selects "LeftLacksModel" ({ cls := "LeftLacksModel", name := "leave", desc := "()I" } : Jvm.MethodName) ({ cls := "LeftLacksModel", name := "leave", desc := "()I" } : Jvm.MethodName)) ∈ gtbl := gm 1075 (by decide +kernel) rfl
theorem q_1076 : (Jvm.Cond.code ({ cls := "LeftLacksModel", name := "leave", desc := "()I" } : Jvm.MethodName) prog_11_method_28_code (1 : Nat) (Option.some Jvm.ClassFile.FieldType.int)) ∈ gtbl := gm 1076 (by decide +kernel) rfl
theorem q_1078 : (Jvm.Cond.instanceMethod ({ cls := "LeftLacksModel", name := "feed", desc := "(JI)I" } : Jvm.MethodName)) ∈ gtbl := gm 1078 (by decide +kernel) rfl
theorem q_1079 : (Jvm.Cond.selects "LeftLacksModel" ({ cls := "LeftLacksModel", name := "feed", desc := "(JI)I" } : Jvm.MethodName) ({ cls := "LeftLacksModel", name := "feed", desc := "(JI)I" } : Jvm.MethodName)) ∈ gtbl := gm 1079 (by decide +kernel) rfl
theorem q_1080 : (Jvm.Cond.code ({ cls := "LeftLacksModel", name := "feed", desc := "(JI)I" } : Jvm.MethodName) prog_11_method_29_code (5 : Nat) (Option.some Jvm.ClassFile.FieldType.int)) ∈ gtbl := gm 1080 (by decide +kernel) rfl
theorem q_1081 : (Jvm.Cond.constantLong "LeftLacksModel" (101 : Nat) (255 : Int64)) ∈ gtbl := gm 1081 (by decide +kernel) rfl
theorem q_1083 : (Jvm.Cond.instanceMethod ({ cls := "LeftLacksModel", name := "text", desc := "(I)I" } : Jvm.MethodName)) ∈ gtbl := gm 1083 (by decide +kernel) rfl
theorem q_1084 : (Jvm.Cond.selects "LeftLacksModel" ({ cls := "LeftLacksModel", name := "text", desc := "(I)I" } : Jvm.MethodName) ({ cls := "LeftLacksModel", name := "text", desc := "(I)I" } : Jvm.MethodName)) ∈ gtbl := gm 1084 (by decide +kernel) rfl
theorem q_1085 : (Jvm.Cond.code ({ cls := "LeftLacksModel", name := "text", desc := "(I)I" } : Jvm.MethodName) prog_11_method_41_code (5 : Nat) (Option.some Jvm.ClassFile.FieldType.int)) ∈ gtbl := gm 1085 (by decide +kernel) rfl
theorem q_1086 : (Jvm.Cond.methodLink "LeftLacksModel" (146 : Nat) ({ cls := "LeftLacksModel", name := "whole", desc := "()Z" } : Jvm.MethodName)) ∈ gtbl := gm 1086 (by decide +kernel) rfl
theorem q_1088 : (Jvm.Cond.instanceMethod ({ cls := "LeftLacksModel", name := "whole", desc := "()Z" } : Jvm.MethodName)) ∈ gtbl := gm 1088 (by decide +kernel) rfl
theorem q_1089 : (Jvm.Cond.code ({ cls := "LeftLacksModel", name := "whole", desc := "()Z" } : Jvm.MethodName) prog_11_method_33_code (1 : Nat) (Option.some Jvm.ClassFile.FieldType.boolean)) ∈ gtbl := gm 1089 (by decide +kernel) rfl
theorem q_1090 : (Jvm.Cond.methodLink "LeftLacksModel" (113 : Nat) ({ cls := "LeftLacksModel", name := "both", desc := "()Z" } : Jvm.MethodName)) ∈ gtbl := gm 1090 (by decide +kernel) rfl
theorem q_1092 : (Jvm.Cond.instanceMethod ({ cls := "LeftLacksModel", name := "both", desc := "()Z" } : Jvm.MethodName)) ∈ gtbl := gm 1092 (by decide +kernel) rfl
theorem q_1093 : (Jvm.Cond.code ({ cls := "LeftLacksModel", name := "both", desc := "()Z" } : Jvm.MethodName) prog_11_method_34_code (1 : Nat) (Option.some Jvm.ClassFile.FieldType.boolean)) ∈ gtbl := gm 1093 (by decide +kernel) rfl
theorem q_1094 : (Jvm.Cond.methodLink "LeftLacksModel" (125 : Nat) ({ cls := "LeftLacksModel", name := "compared", desc := "()Z" } : Jvm.MethodName)) ∈ gtbl := gm 1094 (by decide +kernel) rfl
theorem q_1096 : (Jvm.Cond.instanceMethod ({ cls := "LeftLacksModel", name := "compared", desc := "()Z" } : Jvm.MethodName)) ∈ gtbl := gm 1096 (by decide +kernel) rfl
theorem q_1097 : (Jvm.Cond.code ({ cls := "LeftLacksModel", name := "compared", desc := "()Z" } : Jvm.MethodName) prog_11_method_35_code (2 : Nat) (Option.some Jvm.ClassFile.FieldType.boolean)) ∈ gtbl := gm 1097 (by decide +kernel) rfl
theorem q_1098 : (Jvm.Cond.methodLink "LeftLacksModel" (128 : Nat) ({ cls := "LeftLacksModel", name := "sum", desc := "()Z" } : Jvm.MethodName)) ∈ gtbl := gm 1098 (by decide +kernel) rfl
theorem q_1100 : (Jvm.Cond.instanceMethod ({ cls := "LeftLacksModel", name := "sum", desc := "()Z" } : Jvm.MethodName)) ∈ gtbl := gm 1100 (by decide +kernel) rfl
theorem q_1101 : (Jvm.Cond.code ({ cls := "LeftLacksModel", name := "sum", desc := "()Z" } : Jvm.MethodName) prog_11_method_36_code (2 : Nat) (Option.some Jvm.ClassFile.FieldType.boolean)) ∈ gtbl := gm 1101 (by decide +kernel) rfl
theorem q_1102 : (Jvm.Cond.methodLink "LeftLacksModel" (131 : Nat) ({ cls := "LeftLacksModel", name := "product", desc := "()Z" } : Jvm.MethodName)) ∈ gtbl := gm 1102 (by decide +kernel) rfl
theorem q_1104 : (Jvm.Cond.instanceMethod ({ cls := "LeftLacksModel", name := "product", desc := "()Z" } : Jvm.MethodName)) ∈ gtbl := gm 1104 (by decide +kernel) rfl
theorem q_1105 : (Jvm.Cond.code ({ cls := "LeftLacksModel", name := "product", desc := "()Z" } : Jvm.MethodName) prog_11_method_37_code (2 : Nat) (Option.some Jvm.ClassFile.FieldType.boolean)) ∈ gtbl := gm 1105 (by decide +kernel) rfl
theorem q_1106 : (Jvm.Cond.methodLink "LeftLacksModel" (134 : Nat) ({ cls := "LeftLacksModel", name := "one", desc := "()Z" } : Jvm.MethodName)) ∈ gtbl := gm 1106 (by decide +kernel) rfl
theorem q_1108 : (Jvm.Cond.instanceMethod ({ cls := "LeftLacksModel", name := "one", desc := "()Z" } : Jvm.MethodName)) ∈ gtbl := gm 1108 (by decide +kernel) rfl
theorem q_1109 : (Jvm.Cond.code ({ cls := "LeftLacksModel", name := "one", desc := "()Z" } : Jvm.MethodName) prog_11_method_39_code (4 : Nat) (Option.some Jvm.ClassFile.FieldType.boolean)) ∈ gtbl := gm 1109 (by decide +kernel) rfl
theorem q_1110 : (Jvm.Cond.methodLink "LeftLacksModel" (117 : Nat) ({ cls := "LeftLacksModel", name := "look", desc := "()I" } : Jvm.MethodName)) ∈ gtbl := gm 1110 (by decide +kernel) rfl
theorem q_1112 : (Jvm.Cond.instanceMethod ({ cls := "LeftLacksModel", name := "look", desc := "()I" } : Jvm.MethodName)) ∈ gtbl := gm 1112 (by decide +kernel) rfl
theorem q_1113 : (Jvm.Cond.code ({ cls := "LeftLacksModel", name := "look", desc := "()I" } : Jvm.MethodName) prog_11_method_30_code (1 : Nat) (Option.some Jvm.ClassFile.FieldType.int)) ∈ gtbl := gm 1113 (by decide +kernel) rfl
theorem q_1114 : (Jvm.Cond.methodLink "LeftLacksModel" (140 : Nat) ({ cls := "LeftLacksModel", name := "isName", desc := "(I)Z" } : Jvm.MethodName)) ∈ gtbl := gm 1114 (by decide +kernel) rfl
theorem q_1116 : (Jvm.Cond.instanceMethod ({ cls := "LeftLacksModel", name := "isName", desc := "(I)Z" } : Jvm.MethodName)) ∈ gtbl := gm 1116 (by decide +kernel) rfl
theorem q_1117 : (Jvm.Cond.code ({ cls := "LeftLacksModel", name := "isName", desc := "(I)Z" } : Jvm.MethodName) prog_11_method_31_code (2 : Nat) (Option.some Jvm.ClassFile.FieldType.boolean)) ∈ gtbl := gm 1117 (by decide +kernel) rfl
theorem q_1118 : (Jvm.Cond.methodLink "LeftLacksModel" (121 : Nat) ({ cls := "LeftLacksModel", name := "lays", desc := "(II)V" } : Jvm.MethodName)) ∈ gtbl := gm 1118 (by decide +kernel) rfl
theorem q_1120 : (Jvm.Cond.instanceMethod ({ cls := "LeftLacksModel", name := "lays", desc := "(II)V" } : Jvm.MethodName)) ∈ gtbl := gm 1120 (by decide +kernel) rfl
theorem q_1121 : (Jvm.Cond.code ({ cls := "LeftLacksModel", name := "lays", desc := "(II)V" } : Jvm.MethodName) prog_11_method_32_code (3 : Nat) (Option.none : Option Jvm.ClassFile.FieldType)) ∈ gtbl := gm 1121 (by decide +kernel) rfl
theorem q_1122 : (Jvm.Cond.methodLink "LeftLacksModel" (143 : Nat) ({ cls := "LeftLacksModel", name := "opens", desc := "()Z" } : Jvm.MethodName)) ∈ gtbl := gm 1122 (by decide +kernel) rfl
theorem q_1124 : (Jvm.Cond.instanceMethod ({ cls := "LeftLacksModel", name := "opens", desc := "()Z" } : Jvm.MethodName)) ∈ gtbl := gm 1124 (by decide +kernel) rfl
theorem q_1125 : (Jvm.Cond.code ({ cls := "LeftLacksModel", name := "opens", desc := "()Z" } : Jvm.MethodName) prog_11_method_38_code (1 : Nat) (Option.some Jvm.ClassFile.FieldType.boolean)) ∈ gtbl := gm 1125 (by decide +kernel) rfl
theorem q_1127 : (Jvm.Cond.instanceMethod ({ cls := "LeftLacksModel", name := "untell", desc := "(I)I" } : Jvm.MethodName)) ∈ gtbl := gm 1127 (by decide +kernel) rfl
theorem q_1128 : (Jvm.Cond.selects "LeftLacksModel" ({ cls := "LeftLacksModel", name := "untell", desc := "(I)I" } : Jvm.MethodName) ({ cls := "LeftLacksModel", name := "untell", desc := "(I)I" } : Jvm.MethodName)) ∈ gtbl := gm 1128 (by decide +kernel) rfl
theorem q_1129 : (Jvm.Cond.code ({ cls := "LeftLacksModel", name := "untell", desc := "(I)I" } : Jvm.MethodName) prog_11_method_42_code (3 : Nat) (Option.some Jvm.ClassFile.FieldType.int)) ∈ gtbl := gm 1129 (by decide +kernel) rfl
theorem q_1130 : (Jvm.Cond.methodLink "LeftLacksModel" (149 : Nat) ({ cls := "LeftLacksModel", name := "hasText", desc := "(I)Z" } : Jvm.MethodName)) ∈ gtbl := gm 1130 (by decide +kernel) rfl
theorem q_1132 : (Jvm.Cond.instanceMethod ({ cls := "LeftLacksModel", name := "hasText", desc := "(I)Z" } : Jvm.MethodName)) ∈ gtbl := gm 1132 (by decide +kernel) rfl
theorem q_1133 : (Jvm.Cond.code ({ cls := "LeftLacksModel", name := "hasText", desc := "(I)Z" } : Jvm.MethodName) prog_11_method_40_code (2 : Nat) (Option.some Jvm.ClassFile.FieldType.boolean)) ∈ gtbl := gm 1133 (by decide +kernel) rfl
theorem q_1135 : (Jvm.Cond.instanceMethod ({ cls := "LeftLacksModel", name := "price", desc := "(II)I" } : Jvm.MethodName)) ∈ gtbl := gm 1135 (by decide +kernel) rfl
theorem q_1136 : (Jvm.Cond.selects "LeftLacksModel" ({ cls := "LeftLacksModel", name := "price", desc := "(II)I" } : Jvm.MethodName) ({ cls := "LeftLacksModel", name := "price", desc := "(II)I" } : Jvm.MethodName)) ∈ gtbl := gm 1136 (by decide +kernel) rfl
theorem q_1137 : (Jvm.Cond.code ({ cls := "LeftLacksModel", name := "price", desc := "(II)I" } : Jvm.MethodName) prog_11_method_49_code (3 : Nat) (Option.some Jvm.ClassFile.FieldType.int)) ∈ gtbl := gm 1137 (by decide +kernel) rfl
theorem q_1138 : (Jvm.Cond.methodLink "LeftLacksModel" (168 : Nat) ({ cls := "LeftLacksModel", name := "priceOf", desc := "(II)I" } : Jvm.MethodName)) ∈ gtbl := gm 1138 (by decide +kernel) rfl
theorem q_1140 : (Jvm.Cond.instanceMethod ({ cls := "LeftLacksModel", name := "priceOf", desc := "(II)I" } : Jvm.MethodName)) ∈ gtbl := gm 1140 (by decide +kernel) rfl
theorem q_1141 : (Jvm.Cond.code ({ cls := "LeftLacksModel", name := "priceOf", desc := "(II)I" } : Jvm.MethodName) prog_11_method_48_code (5 : Nat) (Option.some Jvm.ClassFile.FieldType.int)) ∈ gtbl := gm 1141 (by decide +kernel) rfl
theorem q_1142 : (Jvm.Cond.methodLink "LeftLacksModel" (165 : Nat) ({ cls := "LeftLacksModel", name := "priceTold", desc := "(II)I" } : Jvm.MethodName)) ∈ gtbl := gm 1142 (by decide +kernel) rfl
theorem q_1144 : (Jvm.Cond.instanceMethod ({ cls := "LeftLacksModel", name := "priceTold", desc := "(II)I" } : Jvm.MethodName)) ∈ gtbl := gm 1144 (by decide +kernel) rfl
theorem q_1145 : (Jvm.Cond.code ({ cls := "LeftLacksModel", name := "priceTold", desc := "(II)I" } : Jvm.MethodName) prog_11_method_47_code (3 : Nat) (Option.some Jvm.ClassFile.FieldType.int)) ∈ gtbl := gm 1145 (by decide +kernel) rfl
theorem q_1146 : (Jvm.Cond.methodLink "LeftLacksModel" (156 : Nat) ({ cls := "LeftLacksModel", name := "worked", desc := "(I)I" } : Jvm.MethodName)) ∈ gtbl := gm 1146 (by decide +kernel) rfl
theorem q_1148 : (Jvm.Cond.instanceMethod ({ cls := "LeftLacksModel", name := "worked", desc := "(I)I" } : Jvm.MethodName)) ∈ gtbl := gm 1148 (by decide +kernel) rfl
theorem q_1149 : (Jvm.Cond.code ({ cls := "LeftLacksModel", name := "worked", desc := "(I)I" } : Jvm.MethodName) prog_11_method_44_code (7 : Nat) (Option.some Jvm.ClassFile.FieldType.int)) ∈ gtbl := gm 1149 (by decide +kernel) rfl
theorem q_1150 : (Jvm.Cond.methodLink "LeftLacksModel" (152 : Nat) ({ cls := "LeftLacksModel", name := "joined", desc := "(III)I" } : Jvm.MethodName)) ∈ gtbl := gm 1150 (by decide +kernel) rfl
theorem q_1151 : (Jvm.Cond.static ({ cls := "LeftLacksModel", name := "joined", desc := "(III)I" } : Jvm.MethodName)) ∈ gtbl := gm 1151 (by decide +kernel) rfl
theorem q_1152 : (Jvm.Cond.code ({ cls := "LeftLacksModel", name := "joined", desc := "(III)I" } : Jvm.MethodName) prog_11_method_43_code (3 : Nat) (Option.some Jvm.ClassFile.FieldType.int)) ∈ gtbl := gm 1152 (by decide +kernel) rfl
theorem q_1153 : (Jvm.Cond.methodLink "LeftLacksModel" (162 : Nat) ({ cls := "LeftLacksModel", name := "held", desc := "(III)I" } : Jvm.MethodName)) ∈ gtbl := gm 1153 (by decide +kernel) rfl
theorem q_1154 : (Jvm.Cond.static ({ cls := "LeftLacksModel", name := "held", desc := "(III)I" } : Jvm.MethodName)) ∈ gtbl := gm 1154 (by decide +kernel) rfl
theorem q_1155 : (Jvm.Cond.code ({ cls := "LeftLacksModel", name := "held", desc := "(III)I" } : Jvm.MethodName) prog_11_method_4_code (3 : Nat) (Option.some Jvm.ClassFile.FieldType.int)) ∈ gtbl := gm 1155 (by decide +kernel) rfl
theorem q_1157 : (Jvm.Cond.instanceMethod ({ cls := "LeftLacksModel", name := "fills", desc := "(II)I" } : Jvm.MethodName)) ∈ gtbl := gm 1157 (by decide +kernel) rfl
theorem q_1158 : (Jvm.Cond.selects "LeftLacksModel" ({ cls := "LeftLacksModel", name := "fills", desc := "(II)I" } : Jvm.MethodName) ({ cls := "LeftLacksModel", name := "fills", desc := "(II)I" } : Jvm.MethodName)) ∈ gtbl := gm 1158 (by decide +kernel) rfl
theorem q_1159 : (Jvm.Cond.code ({ cls := "LeftLacksModel", name := "fills", desc := "(II)I" } : Jvm.MethodName) prog_11_method_50_code (3 : Nat) (Option.some Jvm.ClassFile.FieldType.int)) ∈ gtbl := gm 1159 (by decide +kernel) rfl
theorem q_1160 : (Jvm.Cond.methodLink "LeftLacksModel" (171 : Nat) ({ cls := "LeftLacksModel", name := "fillsOf", desc := "(II)I" } : Jvm.MethodName)) ∈ gtbl := gm 1160 (by decide +kernel) rfl
theorem q_1162 : (Jvm.Cond.instanceMethod ({ cls := "LeftLacksModel", name := "fillsOf", desc := "(II)I" } : Jvm.MethodName)) ∈ gtbl := gm 1162 (by decide +kernel) rfl
theorem q_1163 : (Jvm.Cond.code ({ cls := "LeftLacksModel", name := "fillsOf", desc := "(II)I" } : Jvm.MethodName) prog_11_method_46_code (6 : Nat) (Option.some Jvm.ClassFile.FieldType.int)) ∈ gtbl := gm 1163 (by decide +kernel) rfl
theorem q_1164 : (Jvm.Cond.methodLink "LeftLacksModel" (159 : Nat) ({ cls := "LeftLacksModel", name := "fillsTold", desc := "(II)I" } : Jvm.MethodName)) ∈ gtbl := gm 1164 (by decide +kernel) rfl
theorem q_1166 : (Jvm.Cond.instanceMethod ({ cls := "LeftLacksModel", name := "fillsTold", desc := "(II)I" } : Jvm.MethodName)) ∈ gtbl := gm 1166 (by decide +kernel) rfl
theorem q_1167 : (Jvm.Cond.code ({ cls := "LeftLacksModel", name := "fillsTold", desc := "(II)I" } : Jvm.MethodName) prog_11_method_45_code (4 : Nat) (Option.some Jvm.ClassFile.FieldType.int)) ∈ gtbl := gm 1167 (by decide +kernel) rfl
theorem q_1169 : (Jvm.Cond.instanceMethod ({ cls := "LeftLacksModel", name := "morning", desc := "()I" } : Jvm.MethodName)) ∈ gtbl := gm 1169 (by decide +kernel) rfl
theorem q_1170 : (Jvm.Cond.selects "LeftLacksModel" ({ cls := "LeftLacksModel", name := "morning", desc := "()I" } : Jvm.MethodName) ({ cls := "LeftLacksModel", name := "morning", desc := "()I" } : Jvm.MethodName)) ∈ gtbl := gm 1170 (by decide +kernel) rfl
theorem q_1171 : (Jvm.Cond.code ({ cls := "LeftLacksModel", name := "morning", desc := "()I" } : Jvm.MethodName) prog_11_method_57_code (4 : Nat) (Option.some Jvm.ClassFile.FieldType.int)) ∈ gtbl := gm 1171 (by decide +kernel) rfl
theorem q_1172 : (Jvm.Cond.methodLink "LeftLacksModel" (192 : Nat) ({ cls := "LeftLacksModel", name := "dawns", desc := "()V" } : Jvm.MethodName)) ∈ gtbl := gm 1172 (by decide +kernel) rfl
theorem q_1174 : (Jvm.Cond.instanceMethod ({ cls := "LeftLacksModel", name := "dawns", desc := "()V" } : Jvm.MethodName)) ∈ gtbl := gm 1174 (by decide +kernel) rfl
theorem q_1175 : (Jvm.Cond.code ({ cls := "LeftLacksModel", name := "dawns", desc := "()V" } : Jvm.MethodName) prog_11_method_56_code (3 : Nat) (Option.none : Option Jvm.ClassFile.FieldType)) ∈ gtbl := gm 1175 (by decide +kernel) rfl
theorem q_1176 : (Jvm.Cond.methodLink "LeftLacksModel" (185 : Nat) ({ cls := "LeftLacksModel", name := "fillAll", desc := "(I)V" } : Jvm.MethodName)) ∈ gtbl := gm 1176 (by decide +kernel) rfl
theorem q_1178 : (Jvm.Cond.instanceMethod ({ cls := "LeftLacksModel", name := "fillAll", desc := "(I)V" } : Jvm.MethodName)) ∈ gtbl := gm 1178 (by decide +kernel) rfl
theorem q_1179 : (Jvm.Cond.code ({ cls := "LeftLacksModel", name := "fillAll", desc := "(I)V" } : Jvm.MethodName) prog_11_method_55_code (5 : Nat) (Option.none : Option Jvm.ClassFile.FieldType)) ∈ gtbl := gm 1179 (by decide +kernel) rfl
theorem q_1180 : (Jvm.Cond.methodLink "LeftLacksModel" (176 : Nat) ({ cls := "LeftLacksModel", name := "gets", desc := "(II)V" } : Jvm.MethodName)) ∈ gtbl := gm 1180 (by decide +kernel) rfl
theorem q_1182 : (Jvm.Cond.instanceMethod ({ cls := "LeftLacksModel", name := "gets", desc := "(II)V" } : Jvm.MethodName)) ∈ gtbl := gm 1182 (by decide +kernel) rfl
theorem q_1183 : (Jvm.Cond.code ({ cls := "LeftLacksModel", name := "gets", desc := "(II)V" } : Jvm.MethodName) prog_11_method_51_code (3 : Nat) (Option.none : Option Jvm.ClassFile.FieldType)) ∈ gtbl := gm 1183 (by decide +kernel) rfl
theorem q_1184 : (Jvm.Cond.constant "LeftLacksModel" (174 : Nat) (-999999 : Int32)) ∈ gtbl := gm 1184 (by decide +kernel) rfl
theorem q_1185 : (Jvm.Cond.constant "LeftLacksModel" (175 : Nat) (999999 : Int32)) ∈ gtbl := gm 1185 (by decide +kernel) rfl
theorem q_1186 : (Jvm.Cond.methodLink "LeftLacksModel" (189 : Nat) ({ cls := "LeftLacksModel", name := "buys", desc := "(I)V" } : Jvm.MethodName)) ∈ gtbl := gm 1186 (by decide +kernel) rfl
theorem q_1188 : (Jvm.Cond.instanceMethod ({ cls := "LeftLacksModel", name := "buys", desc := "(I)V" } : Jvm.MethodName)) ∈ gtbl := gm 1188 (by decide +kernel) rfl
theorem q_1189 : (Jvm.Cond.code ({ cls := "LeftLacksModel", name := "buys", desc := "(I)V" } : Jvm.MethodName) prog_11_method_54_code (4 : Nat) (Option.none : Option Jvm.ClassFile.FieldType)) ∈ gtbl := gm 1189 (by decide +kernel) rfl
theorem q_1190 : (Jvm.Cond.methodLink "LeftLacksModel" (179 : Nat) ({ cls := "LeftLacksModel", name := "hasOther", desc := "(I)Z" } : Jvm.MethodName)) ∈ gtbl := gm 1190 (by decide +kernel) rfl
theorem q_1192 : (Jvm.Cond.instanceMethod ({ cls := "LeftLacksModel", name := "hasOther", desc := "(I)Z" } : Jvm.MethodName)) ∈ gtbl := gm 1192 (by decide +kernel) rfl
theorem q_1193 : (Jvm.Cond.code ({ cls := "LeftLacksModel", name := "hasOther", desc := "(I)Z" } : Jvm.MethodName) prog_11_method_52_code (2 : Nat) (Option.some Jvm.ClassFile.FieldType.boolean)) ∈ gtbl := gm 1193 (by decide +kernel) rfl
theorem q_1194 : (Jvm.Cond.methodLink "LeftLacksModel" (182 : Nat) ({ cls := "LeftLacksModel", name := "buysOut", desc := "(II)V" } : Jvm.MethodName)) ∈ gtbl := gm 1194 (by decide +kernel) rfl
theorem q_1196 : (Jvm.Cond.instanceMethod ({ cls := "LeftLacksModel", name := "buysOut", desc := "(II)V" } : Jvm.MethodName)) ∈ gtbl := gm 1196 (by decide +kernel) rfl
theorem q_1197 : (Jvm.Cond.code ({ cls := "LeftLacksModel", name := "buysOut", desc := "(II)V" } : Jvm.MethodName) prog_11_method_53_code (6 : Nat) (Option.none : Option Jvm.ClassFile.FieldType)) ∈ gtbl := gm 1197 (by decide +kernel) rfl
theorem q_1199 : (Jvm.Cond.instanceMethod ({ cls := "LeftLacksModel", name := "visit", desc := "(I)I" } : Jvm.MethodName)) ∈ gtbl := gm 1199 (by decide +kernel) rfl
theorem q_1200 : (Jvm.Cond.selects "LeftLacksModel" ({ cls := "LeftLacksModel", name := "visit", desc := "(I)I" } : Jvm.MethodName) ({ cls := "LeftLacksModel", name := "visit", desc := "(I)I" } : Jvm.MethodName)) ∈ gtbl := gm 1200 (by decide +kernel) rfl
theorem q_1201 : (Jvm.Cond.code ({ cls := "LeftLacksModel", name := "visit", desc := "(I)I" } : Jvm.MethodName) prog_11_method_60_code (2 : Nat) (Option.some Jvm.ClassFile.FieldType.int)) ∈ gtbl := gm 1201 (by decide +kernel) rfl
theorem q_1202 : (Jvm.Cond.methodLink "LeftLacksModel" (198 : Nat) ({ cls := "LeftLacksModel", name := "visits", desc := "(I)I" } : Jvm.MethodName)) ∈ gtbl := gm 1202 (by decide +kernel) rfl
theorem q_1204 : (Jvm.Cond.instanceMethod ({ cls := "LeftLacksModel", name := "visits", desc := "(I)I" } : Jvm.MethodName)) ∈ gtbl := gm 1204 (by decide +kernel) rfl
theorem q_1205 : (Jvm.Cond.code ({ cls := "LeftLacksModel", name := "visits", desc := "(I)I" } : Jvm.MethodName) prog_11_method_59_code (9 : Nat) (Option.some Jvm.ClassFile.FieldType.int)) ∈ gtbl := gm 1205 (by decide +kernel) rfl
theorem q_1206 : (Jvm.Cond.methodLink "LeftLacksModel" (195 : Nat) ({ cls := "LeftLacksModel", name := "shopOn", desc := "(II)I" } : Jvm.MethodName)) ∈ gtbl := gm 1206 (by decide +kernel) rfl
theorem q_1208 : (Jvm.Cond.instanceMethod ({ cls := "LeftLacksModel", name := "shopOn", desc := "(II)I" } : Jvm.MethodName)) ∈ gtbl := gm 1208 (by decide +kernel) rfl
theorem q_1209 : (Jvm.Cond.code ({ cls := "LeftLacksModel", name := "shopOn", desc := "(II)I" } : Jvm.MethodName) prog_11_method_58_code (4 : Nat) (Option.some Jvm.ClassFile.FieldType.int)) ∈ gtbl := gm 1209 (by decide +kernel) rfl
theorem q_1211 : (Jvm.Cond.instanceMethod ({ cls := "LeftLacksModel", name := "days", desc := "(I)I" } : Jvm.MethodName)) ∈ gtbl := gm 1211 (by decide +kernel) rfl
theorem q_1212 : (Jvm.Cond.selects "LeftLacksModel" ({ cls := "LeftLacksModel", name := "days", desc := "(I)I" } : Jvm.MethodName) ({ cls := "LeftLacksModel", name := "days", desc := "(I)I" } : Jvm.MethodName)) ∈ gtbl := gm 1212 (by decide +kernel) rfl
theorem q_1213 : (Jvm.Cond.code ({ cls := "LeftLacksModel", name := "days", desc := "(I)I" } : Jvm.MethodName) prog_11_method_65_code (2 : Nat) (Option.some Jvm.ClassFile.FieldType.int)) ∈ gtbl := gm 1213 (by decide +kernel) rfl
theorem q_1214 : (Jvm.Cond.methodLink "LeftLacksModel" (212 : Nat) ({ cls := "LeftLacksModel", name := "go", desc := "(I)V" } : Jvm.MethodName)) ∈ gtbl := gm 1214 (by decide +kernel) rfl
theorem q_1216 : (Jvm.Cond.instanceMethod ({ cls := "LeftLacksModel", name := "go", desc := "(I)V" } : Jvm.MethodName)) ∈ gtbl := gm 1216 (by decide +kernel) rfl
theorem q_1217 : (Jvm.Cond.code ({ cls := "LeftLacksModel", name := "go", desc := "(I)V" } : Jvm.MethodName) prog_11_method_64_code (3 : Nat) (Option.none : Option Jvm.ClassFile.FieldType)) ∈ gtbl := gm 1217 (by decide +kernel) rfl
theorem q_1218 : (Jvm.Cond.methodLink "LeftLacksModel" (208 : Nat) ({ cls := "LeftLacksModel", name := "day", desc := "(Z)V" } : Jvm.MethodName)) ∈ gtbl := gm 1218 (by decide +kernel) rfl
theorem q_1220 : (Jvm.Cond.instanceMethod ({ cls := "LeftLacksModel", name := "day", desc := "(Z)V" } : Jvm.MethodName)) ∈ gtbl := gm 1220 (by decide +kernel) rfl
theorem q_1221 : (Jvm.Cond.code ({ cls := "LeftLacksModel", name := "day", desc := "(Z)V" } : Jvm.MethodName) prog_11_method_63_code (5 : Nat) (Option.none : Option Jvm.ClassFile.FieldType)) ∈ gtbl := gm 1221 (by decide +kernel) rfl
theorem q_1222 : (Jvm.Cond.methodLink "LeftLacksModel" (202 : Nat) ({ cls := "LeftLacksModel", name := "draw", desc := "()I" } : Jvm.MethodName)) ∈ gtbl := gm 1222 (by decide +kernel) rfl
theorem q_1224 : (Jvm.Cond.instanceMethod ({ cls := "LeftLacksModel", name := "draw", desc := "()I" } : Jvm.MethodName)) ∈ gtbl := gm 1224 (by decide +kernel) rfl
theorem q_1225 : (Jvm.Cond.code ({ cls := "LeftLacksModel", name := "draw", desc := "()I" } : Jvm.MethodName) prog_11_method_62_code (1 : Nat) (Option.some Jvm.ClassFile.FieldType.int)) ∈ gtbl := gm 1225 (by decide +kernel) rfl
theorem q_1226 : (Jvm.Cond.constant "LeftLacksModel" (201 : Nat) (1103515245 : Int32)) ∈ gtbl := gm 1226 (by decide +kernel) rfl
theorem q_1227 : (Jvm.Cond.methodLink "LeftLacksModel" (205 : Nat) ({ cls := "LeftLacksModel", name := "bitsOf", desc := "(I)I" } : Jvm.MethodName)) ∈ gtbl := gm 1227 (by decide +kernel) rfl
theorem q_1228 : (Jvm.Cond.static ({ cls := "LeftLacksModel", name := "bitsOf", desc := "(I)I" } : Jvm.MethodName)) ∈ gtbl := gm 1228 (by decide +kernel) rfl
theorem q_1229 : (Jvm.Cond.code ({ cls := "LeftLacksModel", name := "bitsOf", desc := "(I)I" } : Jvm.MethodName) prog_11_method_61_code (3 : Nat) (Option.some Jvm.ClassFile.FieldType.int)) ∈ gtbl := gm 1229 (by decide +kernel) rfl
theorem q_1231 : (Jvm.Cond.instanceMethod ({ cls := "LeftLacksModel", name := "loose", desc := "(I)I" } : Jvm.MethodName)) ∈ gtbl := gm 1231 (by decide +kernel) rfl
theorem q_1232 : (Jvm.Cond.selects "LeftLacksModel" ({ cls := "LeftLacksModel", name := "loose", desc := "(I)I" } : Jvm.MethodName) ({ cls := "LeftLacksModel", name := "loose", desc := "(I)I" } : Jvm.MethodName)) ∈ gtbl := gm 1232 (by decide +kernel) rfl
theorem q_1233 : (Jvm.Cond.code ({ cls := "LeftLacksModel", name := "loose", desc := "(I)I" } : Jvm.MethodName) prog_11_method_66_code (3 : Nat) (Option.some Jvm.ClassFile.FieldType.int)) ∈ gtbl := gm 1233 (by decide +kernel) rfl
theorem q_1235 : (Jvm.Cond.instanceMethod ({ cls := "LeftLacksModel", name := "seed", desc := "(I)I" } : Jvm.MethodName)) ∈ gtbl := gm 1235 (by decide +kernel) rfl
theorem q_1236 : (Jvm.Cond.selects "LeftLacksModel" ({ cls := "LeftLacksModel", name := "seed", desc := "(I)I" } : Jvm.MethodName) ({ cls := "LeftLacksModel", name := "seed", desc := "(I)I" } : Jvm.MethodName)) ∈ gtbl := gm 1236 (by decide +kernel) rfl
theorem q_1237 : (Jvm.Cond.code ({ cls := "LeftLacksModel", name := "seed", desc := "(I)I" } : Jvm.MethodName) prog_11_method_67_code (3 : Nat) (Option.some Jvm.ClassFile.FieldType.int)) ∈ gtbl := gm 1237 (by decide +kernel) rfl
theorem q_1239 : (Jvm.Cond.instanceMethod ({ cls := "LeftLacksModel", name := "then", desc := "(III)I" } : Jvm.MethodName)) ∈ gtbl := gm 1239 (by decide +kernel) rfl
theorem q_1240 : (Jvm.Cond.selects "LeftLacksModel" ({ cls := "LeftLacksModel", name := "then", desc := "(III)I" } : Jvm.MethodName) ({ cls := "LeftLacksModel", name := "then", desc := "(III)I" } : Jvm.MethodName)) ∈ gtbl := gm 1240 (by decide +kernel) rfl
theorem q_1241 : (Jvm.Cond.code ({ cls := "LeftLacksModel", name := "then", desc := "(III)I" } : Jvm.MethodName) prog_11_method_68_code (5 : Nat) (Option.some Jvm.ClassFile.FieldType.int)) ∈ gtbl := gm 1241 (by decide +kernel) rfl
theorem q_1242 : (Jvm.Cond.methodLink "LeftLacksModel" (215 : Nat) ({ cls := "LeftLacksModel", name := "carry", desc := "([I[I)V" } : Jvm.MethodName)) ∈ gtbl := gm 1242 (by decide +kernel) rfl
theorem q_1243 : (Jvm.Cond.static ({ cls := "LeftLacksModel", name := "carry", desc := "([I[I)V" } : Jvm.MethodName)) ∈ gtbl := gm 1243 (by decide +kernel) rfl
theorem q_1244 : (Jvm.Cond.code ({ cls := "LeftLacksModel", name := "carry", desc := "([I[I)V" } : Jvm.MethodName) prog_11_method_5_code (3 : Nat) (Option.none : Option Jvm.ClassFile.FieldType)) ∈ gtbl := gm 1244 (by decide +kernel) rfl
theorem q_1246 : (Jvm.Cond.instanceMethod ({ cls := "LeftLacksModel", name := "keep", desc := "(III)I" } : Jvm.MethodName)) ∈ gtbl := gm 1246 (by decide +kernel) rfl
theorem q_1247 : (Jvm.Cond.selects "LeftLacksModel" ({ cls := "LeftLacksModel", name := "keep", desc := "(III)I" } : Jvm.MethodName) ({ cls := "LeftLacksModel", name := "keep", desc := "(III)I" } : Jvm.MethodName)) ∈ gtbl := gm 1247 (by decide +kernel) rfl
theorem q_1248 : (Jvm.Cond.code ({ cls := "LeftLacksModel", name := "keep", desc := "(III)I" } : Jvm.MethodName) prog_11_method_69_code (8 : Nat) (Option.some Jvm.ClassFile.FieldType.int)) ∈ gtbl := gm 1248 (by decide +kernel) rfl
theorem q_1250 : (Jvm.Cond.instanceMethod ({ cls := "LeftLacksModel", name := "range", desc := "(II)I" } : Jvm.MethodName)) ∈ gtbl := gm 1250 (by decide +kernel) rfl
theorem q_1251 : (Jvm.Cond.selects "LeftLacksModel" ({ cls := "LeftLacksModel", name := "range", desc := "(II)I" } : Jvm.MethodName) ({ cls := "LeftLacksModel", name := "range", desc := "(II)I" } : Jvm.MethodName)) ∈ gtbl := gm 1251 (by decide +kernel) rfl
theorem q_1252 : (Jvm.Cond.code ({ cls := "LeftLacksModel", name := "range", desc := "(II)I" } : Jvm.MethodName) prog_11_method_71_code (7 : Nat) (Option.some Jvm.ClassFile.FieldType.int)) ∈ gtbl := gm 1252 (by decide +kernel) rfl
theorem q_1253 : (Jvm.Cond.methodLink "LeftLacksModel" (219 : Nat) ({ cls := "LeftLacksModel", name := "purseBy", desc := "(III)I" } : Jvm.MethodName)) ∈ gtbl := gm 1253 (by decide +kernel) rfl
theorem q_1255 : (Jvm.Cond.instanceMethod ({ cls := "LeftLacksModel", name := "purseBy", desc := "(III)I" } : Jvm.MethodName)) ∈ gtbl := gm 1255 (by decide +kernel) rfl
theorem q_1256 : (Jvm.Cond.code ({ cls := "LeftLacksModel", name := "purseBy", desc := "(III)I" } : Jvm.MethodName) prog_11_method_70_code (5 : Nat) (Option.some Jvm.ClassFile.FieldType.int)) ∈ gtbl := gm 1256 (by decide +kernel) rfl
theorem q_1258 : (Jvm.Cond.instanceMethod ({ cls := "LeftLacksModel", name := "turn", desc := "(II)I" } : Jvm.MethodName)) ∈ gtbl := gm 1258 (by decide +kernel) rfl
theorem q_1259 : (Jvm.Cond.selects "LeftLacksModel" ({ cls := "LeftLacksModel", name := "turn", desc := "(II)I" } : Jvm.MethodName) ({ cls := "LeftLacksModel", name := "turn", desc := "(II)I" } : Jvm.MethodName)) ∈ gtbl := gm 1259 (by decide +kernel) rfl
theorem q_1260 : (Jvm.Cond.code ({ cls := "LeftLacksModel", name := "turn", desc := "(II)I" } : Jvm.MethodName) prog_11_method_73_code (7 : Nat) (Option.some Jvm.ClassFile.FieldType.int)) ∈ gtbl := gm 1260 (by decide +kernel) rfl
theorem q_1261 : (Jvm.Cond.methodLink "LeftLacksModel" (222 : Nat) ({ cls := "LeftLacksModel", name := "turns", desc := "(I)V" } : Jvm.MethodName)) ∈ gtbl := gm 1261 (by decide +kernel) rfl
theorem q_1263 : (Jvm.Cond.instanceMethod ({ cls := "LeftLacksModel", name := "turns", desc := "(I)V" } : Jvm.MethodName)) ∈ gtbl := gm 1263 (by decide +kernel) rfl
theorem q_1264 : (Jvm.Cond.code ({ cls := "LeftLacksModel", name := "turns", desc := "(I)V" } : Jvm.MethodName) prog_11_method_72_code (5 : Nat) (Option.none : Option Jvm.ClassFile.FieldType)) ∈ gtbl := gm 1264 (by decide +kernel) rfl
theorem q_1266 : (Jvm.Cond.instanceMethod ({ cls := "LeftLacksModel", name := "out", desc := "(II)I" } : Jvm.MethodName)) ∈ gtbl := gm 1266 (by decide +kernel) rfl
theorem q_1267 : (Jvm.Cond.selects "LeftLacksModel" ({ cls := "LeftLacksModel", name := "out", desc := "(II)I" } : Jvm.MethodName) ({ cls := "LeftLacksModel", name := "out", desc := "(II)I" } : Jvm.MethodName)) ∈ gtbl := gm 1267 (by decide +kernel) rfl
theorem q_1268 : (Jvm.Cond.code ({ cls := "LeftLacksModel", name := "out", desc := "(II)I" } : Jvm.MethodName) prog_11_method_75_code (4 : Nat) (Option.some Jvm.ClassFile.FieldType.int)) ∈ gtbl := gm 1268 (by decide +kernel) rfl
theorem q_1269 : (Jvm.Cond.methodLink "LeftLacksModel" (225 : Nat) ({ cls := "LeftLacksModel", name := "behindVisits", desc := "(I)I" } : Jvm.MethodName)) ∈ gtbl := gm 1269 (by decide +kernel) rfl
theorem q_1271 : (Jvm.Cond.instanceMethod ({ cls := "LeftLacksModel", name := "behindVisits", desc := "(I)I" } : Jvm.MethodName)) ∈ gtbl := gm 1271 (by decide +kernel) rfl
theorem q_1272 : (Jvm.Cond.code ({ cls := "LeftLacksModel", name := "behindVisits", desc := "(I)I" } : Jvm.MethodName) prog_11_method_74_code (4 : Nat) (Option.some Jvm.ClassFile.FieldType.int)) ∈ gtbl := gm 1272 (by decide +kernel) rfl
theorem q_1274 : (Jvm.Cond.instanceMethod ({ cls := "LeftLacksModel", name := "joined", desc := "(II)I" } : Jvm.MethodName)) ∈ gtbl := gm 1274 (by decide +kernel) rfl
theorem q_1275 : (Jvm.Cond.selects "LeftLacksModel" ({ cls := "LeftLacksModel", name := "joined", desc := "(II)I" } : Jvm.MethodName) ({ cls := "LeftLacksModel", name := "joined", desc := "(II)I" } : Jvm.MethodName)) ∈ gtbl := gm 1275 (by decide +kernel) rfl
theorem q_1276 : (Jvm.Cond.code ({ cls := "LeftLacksModel", name := "joined", desc := "(II)I" } : Jvm.MethodName) prog_11_method_77_code (5 : Nat) (Option.some Jvm.ClassFile.FieldType.int)) ∈ gtbl := gm 1276 (by decide +kernel) rfl
theorem q_1277 : (Jvm.Cond.methodLink "LeftLacksModel" (228 : Nat) ({ cls := "LeftLacksModel", name := "joins", desc := "(I)V" } : Jvm.MethodName)) ∈ gtbl := gm 1277 (by decide +kernel) rfl
theorem q_1279 : (Jvm.Cond.instanceMethod ({ cls := "LeftLacksModel", name := "joins", desc := "(I)V" } : Jvm.MethodName)) ∈ gtbl := gm 1279 (by decide +kernel) rfl
theorem q_1280 : (Jvm.Cond.code ({ cls := "LeftLacksModel", name := "joins", desc := "(I)V" } : Jvm.MethodName) prog_11_method_76_code (4 : Nat) (Option.none : Option Jvm.ClassFile.FieldType)) ∈ gtbl := gm 1280 (by decide +kernel) rfl
theorem q_1282 : (Jvm.Cond.instanceMethod ({ cls := "LeftLacksModel", name := "walk", desc := "(I)I" } : Jvm.MethodName)) ∈ gtbl := gm 1282 (by decide +kernel) rfl
theorem q_1283 : (Jvm.Cond.selects "LeftLacksModel" ({ cls := "LeftLacksModel", name := "walk", desc := "(I)I" } : Jvm.MethodName) ({ cls := "LeftLacksModel", name := "walk", desc := "(I)I" } : Jvm.MethodName)) ∈ gtbl := gm 1283 (by decide +kernel) rfl
theorem q_1284 : (Jvm.Cond.code ({ cls := "LeftLacksModel", name := "walk", desc := "(I)I" } : Jvm.MethodName) prog_11_method_78_code (4 : Nat) (Option.some Jvm.ClassFile.FieldType.int)) ∈ gtbl := gm 1284 (by decide +kernel) rfl
theorem q_1286 : (Jvm.Cond.instanceMethod ({ cls := "LeftLacksModel", name := "voice", desc := "(III)I" } : Jvm.MethodName)) ∈ gtbl := gm 1286 (by decide +kernel) rfl
theorem q_1287 : (Jvm.Cond.selects "LeftLacksModel" ({ cls := "LeftLacksModel", name := "voice", desc := "(III)I" } : Jvm.MethodName) ({ cls := "LeftLacksModel", name := "voice", desc := "(III)I" } : Jvm.MethodName)) ∈ gtbl := gm 1287 (by decide +kernel) rfl
theorem q_1288 : (Jvm.Cond.code ({ cls := "LeftLacksModel", name := "voice", desc := "(III)I" } : Jvm.MethodName) prog_11_method_87_code (6 : Nat) (Option.some Jvm.ClassFile.FieldType.int)) ∈ gtbl := gm 1288 (by decide +kernel) rfl
theorem q_1289 : (Jvm.Cond.methodLink "LeftLacksModel" (246 : Nat) ({ cls := "LeftLacksModel", name := "kindNow", desc := "()I" } : Jvm.MethodName)) ∈ gtbl := gm 1289 (by decide +kernel) rfl
theorem q_1291 : (Jvm.Cond.instanceMethod ({ cls := "LeftLacksModel", name := "kindNow", desc := "()I" } : Jvm.MethodName)) ∈ gtbl := gm 1291 (by decide +kernel) rfl
theorem q_1292 : (Jvm.Cond.code ({ cls := "LeftLacksModel", name := "kindNow", desc := "()I" } : Jvm.MethodName) prog_11_method_81_code (1 : Nat) (Option.some Jvm.ClassFile.FieldType.int)) ∈ gtbl := gm 1292 (by decide +kernel) rfl
theorem q_1293 : (Jvm.Cond.methodLink "LeftLacksModel" (243 : Nat) ({ cls := "LeftLacksModel", name := "sellsBy", desc := "(II)I" } : Jvm.MethodName)) ∈ gtbl := gm 1293 (by decide +kernel) rfl
theorem q_1295 : (Jvm.Cond.instanceMethod ({ cls := "LeftLacksModel", name := "sellsBy", desc := "(II)I" } : Jvm.MethodName)) ∈ gtbl := gm 1295 (by decide +kernel) rfl
theorem q_1296 : (Jvm.Cond.code ({ cls := "LeftLacksModel", name := "sellsBy", desc := "(II)I" } : Jvm.MethodName) prog_11_method_83_code (3 : Nat) (Option.some Jvm.ClassFile.FieldType.int)) ∈ gtbl := gm 1296 (by decide +kernel) rfl
theorem q_1297 : (Jvm.Cond.methodLink "LeftLacksModel" (237 : Nat) ({ cls := "LeftLacksModel", name := "begins", desc := "(I)V" } : Jvm.MethodName)) ∈ gtbl := gm 1297 (by decide +kernel) rfl
theorem q_1299 : (Jvm.Cond.instanceMethod ({ cls := "LeftLacksModel", name := "begins", desc := "(I)V" } : Jvm.MethodName)) ∈ gtbl := gm 1299 (by decide +kernel) rfl
theorem q_1300 : (Jvm.Cond.code ({ cls := "LeftLacksModel", name := "begins", desc := "(I)V" } : Jvm.MethodName) prog_11_method_79_code (2 : Nat) (Option.none : Option Jvm.ClassFile.FieldType)) ∈ gtbl := gm 1300 (by decide +kernel) rfl
theorem q_1301 : (Jvm.Cond.methodLink "LeftLacksModel" (240 : Nat) ({ cls := "LeftLacksModel", name := "above", desc := "(I)I" } : Jvm.MethodName)) ∈ gtbl := gm 1301 (by decide +kernel) rfl
theorem q_1302 : (Jvm.Cond.static ({ cls := "LeftLacksModel", name := "above", desc := "(I)I" } : Jvm.MethodName)) ∈ gtbl := gm 1302 (by decide +kernel) rfl
theorem q_1303 : (Jvm.Cond.code ({ cls := "LeftLacksModel", name := "above", desc := "(I)I" } : Jvm.MethodName) prog_11_method_80_code (1 : Nat) (Option.some Jvm.ClassFile.FieldType.int)) ∈ gtbl := gm 1303 (by decide +kernel) rfl
theorem q_1304 : (Jvm.Cond.methodLink "LeftLacksModel" (249 : Nat) ({ cls := "LeftLacksModel", name := "fillsBy", desc := "(II)I" } : Jvm.MethodName)) ∈ gtbl := gm 1304 (by decide +kernel) rfl
theorem q_1306 : (Jvm.Cond.instanceMethod ({ cls := "LeftLacksModel", name := "fillsBy", desc := "(II)I" } : Jvm.MethodName)) ∈ gtbl := gm 1306 (by decide +kernel) rfl
theorem q_1307 : (Jvm.Cond.code ({ cls := "LeftLacksModel", name := "fillsBy", desc := "(II)I" } : Jvm.MethodName) prog_11_method_84_code (3 : Nat) (Option.some Jvm.ClassFile.FieldType.int)) ∈ gtbl := gm 1307 (by decide +kernel) rfl
theorem q_1308 : (Jvm.Cond.methodLink "LeftLacksModel" (252 : Nat) ({ cls := "LeftLacksModel", name := "mNow", desc := "()I" } : Jvm.MethodName)) ∈ gtbl := gm 1308 (by decide +kernel) rfl
theorem q_1310 : (Jvm.Cond.instanceMethod ({ cls := "LeftLacksModel", name := "mNow", desc := "()I" } : Jvm.MethodName)) ∈ gtbl := gm 1310 (by decide +kernel) rfl
theorem q_1311 : (Jvm.Cond.code ({ cls := "LeftLacksModel", name := "mNow", desc := "()I" } : Jvm.MethodName) prog_11_method_82_code (1 : Nat) (Option.some Jvm.ClassFile.FieldType.int)) ∈ gtbl := gm 1311 (by decide +kernel) rfl
theorem q_1312 : (Jvm.Cond.methodLink "LeftLacksModel" (255 : Nat) ({ cls := "LeftLacksModel", name := "owesBy", desc := "(II)I" } : Jvm.MethodName)) ∈ gtbl := gm 1312 (by decide +kernel) rfl
theorem q_1314 : (Jvm.Cond.instanceMethod ({ cls := "LeftLacksModel", name := "owesBy", desc := "(II)I" } : Jvm.MethodName)) ∈ gtbl := gm 1314 (by decide +kernel) rfl
theorem q_1315 : (Jvm.Cond.code ({ cls := "LeftLacksModel", name := "owesBy", desc := "(II)I" } : Jvm.MethodName) prog_11_method_85_code (3 : Nat) (Option.some Jvm.ClassFile.FieldType.int)) ∈ gtbl := gm 1315 (by decide +kernel) rfl
theorem q_1316 : (Jvm.Cond.methodLink "LeftLacksModel" (262 : Nat) ({ cls := "LeftLacksModel", name := "partsBy", desc := "(II)I" } : Jvm.MethodName)) ∈ gtbl := gm 1316 (by decide +kernel) rfl
theorem q_1318 : (Jvm.Cond.instanceMethod ({ cls := "LeftLacksModel", name := "partsBy", desc := "(II)I" } : Jvm.MethodName)) ∈ gtbl := gm 1318 (by decide +kernel) rfl
theorem q_1319 : (Jvm.Cond.code ({ cls := "LeftLacksModel", name := "partsBy", desc := "(II)I" } : Jvm.MethodName) prog_11_method_86_code (5 : Nat) (Option.some Jvm.ClassFile.FieldType.int)) ∈ gtbl := gm 1319 (by decide +kernel) rfl
theorem q_1321 : (Jvm.Cond.instanceMethod ({ cls := "LeftLacksModel", name := "body", desc := "(I)I" } : Jvm.MethodName)) ∈ gtbl := gm 1321 (by decide +kernel) rfl
theorem q_1322 : (Jvm.Cond.selects "LeftLacksModel" ({ cls := "LeftLacksModel", name := "body", desc := "(I)I" } : Jvm.MethodName) ({ cls := "LeftLacksModel", name := "body", desc := "(I)I" } : Jvm.MethodName)) ∈ gtbl := gm 1322 (by decide +kernel) rfl
theorem q_1323 : (Jvm.Cond.code ({ cls := "LeftLacksModel", name := "body", desc := "(I)I" } : Jvm.MethodName) prog_11_method_88_code (2 : Nat) (Option.some Jvm.ClassFile.FieldType.int)) ∈ gtbl := gm 1323 (by decide +kernel) rfl
theorem q_1325 : (Jvm.Cond.instanceMethod ({ cls := "LeftLacksModel", name := "sheet", desc := "(III)I" } : Jvm.MethodName)) ∈ gtbl := gm 1325 (by decide +kernel) rfl
theorem q_1326 : (Jvm.Cond.selects "LeftLacksModel" ({ cls := "LeftLacksModel", name := "sheet", desc := "(III)I" } : Jvm.MethodName) ({ cls := "LeftLacksModel", name := "sheet", desc := "(III)I" } : Jvm.MethodName)) ∈ gtbl := gm 1326 (by decide +kernel) rfl
theorem q_1327 : (Jvm.Cond.code ({ cls := "LeftLacksModel", name := "sheet", desc := "(III)I" } : Jvm.MethodName) prog_11_method_90_code (5 : Nat) (Option.some Jvm.ClassFile.FieldType.int)) ∈ gtbl := gm 1327 (by decide +kernel) rfl
theorem q_1328 : (Jvm.Cond.methodLink "LeftLacksModel" (265 : Nat) ({ cls := "LeftLacksModel", name := "isSheet", desc := "(I)Z" } : Jvm.MethodName)) ∈ gtbl := gm 1328 (by decide +kernel) rfl
theorem q_1329 : (Jvm.Cond.static ({ cls := "LeftLacksModel", name := "isSheet", desc := "(I)Z" } : Jvm.MethodName)) ∈ gtbl := gm 1329 (by decide +kernel) rfl
theorem q_1330 : (Jvm.Cond.code ({ cls := "LeftLacksModel", name := "isSheet", desc := "(I)Z" } : Jvm.MethodName) prog_11_method_89_code (1 : Nat) (Option.some Jvm.ClassFile.FieldType.boolean)) ∈ gtbl := gm 1330 (by decide +kernel) rfl
theorem q_1332 : (Jvm.Cond.instanceMethod ({ cls := "LeftLacksModel", name := "put", desc := "(III)I" } : Jvm.MethodName)) ∈ gtbl := gm 1332 (by decide +kernel) rfl
theorem q_1333 : (Jvm.Cond.selects "LeftLacksModel" ({ cls := "LeftLacksModel", name := "put", desc := "(III)I" } : Jvm.MethodName) ({ cls := "LeftLacksModel", name := "put", desc := "(III)I" } : Jvm.MethodName)) ∈ gtbl := gm 1333 (by decide +kernel) rfl
theorem q_1334 : (Jvm.Cond.code ({ cls := "LeftLacksModel", name := "put", desc := "(III)I" } : Jvm.MethodName) prog_11_method_91_code (5 : Nat) (Option.some Jvm.ClassFile.FieldType.int)) ∈ gtbl := gm 1334 (by decide +kernel) rfl
theorem q_1336 : (Jvm.Cond.instanceMethod ({ cls := "LeftLacksModel", name := "move", desc := "(IIIII)I" } : Jvm.MethodName)) ∈ gtbl := gm 1336 (by decide +kernel) rfl
theorem q_1337 : (Jvm.Cond.selects "LeftLacksModel" ({ cls := "LeftLacksModel", name := "move", desc := "(IIIII)I" } : Jvm.MethodName) ({ cls := "LeftLacksModel", name := "move", desc := "(IIIII)I" } : Jvm.MethodName)) ∈ gtbl := gm 1337 (by decide +kernel) rfl
theorem q_1338 : (Jvm.Cond.code ({ cls := "LeftLacksModel", name := "move", desc := "(IIIII)I" } : Jvm.MethodName) prog_11_method_92_code (7 : Nat) (Option.some Jvm.ClassFile.FieldType.int)) ∈ gtbl := gm 1338 (by decide +kernel) rfl
theorem q_1340 : (Jvm.Cond.instanceMethod ({ cls := "LeftLacksModel", name := "customers", desc := "(I)I" } : Jvm.MethodName)) ∈ gtbl := gm 1340 (by decide +kernel) rfl
theorem q_1341 : (Jvm.Cond.selects "LeftLacksModel" ({ cls := "LeftLacksModel", name := "customers", desc := "(I)I" } : Jvm.MethodName) ({ cls := "LeftLacksModel", name := "customers", desc := "(I)I" } : Jvm.MethodName)) ∈ gtbl := gm 1341 (by decide +kernel) rfl
theorem q_1342 : (Jvm.Cond.code ({ cls := "LeftLacksModel", name := "customers", desc := "(I)I" } : Jvm.MethodName) prog_11_method_94_code (5 : Nat) (Option.some Jvm.ClassFile.FieldType.int)) ∈ gtbl := gm 1342 (by decide +kernel) rfl
theorem q_1343 : (Jvm.Cond.methodLink "LeftLacksModel" (268 : Nat) ({ cls := "LeftLacksModel", name := "lacks", desc := "(I)I" } : Jvm.MethodName)) ∈ gtbl := gm 1343 (by decide +kernel) rfl
theorem q_1345 : (Jvm.Cond.instanceMethod ({ cls := "LeftLacksModel", name := "lacks", desc := "(I)I" } : Jvm.MethodName)) ∈ gtbl := gm 1345 (by decide +kernel) rfl
theorem q_1346 : (Jvm.Cond.code ({ cls := "LeftLacksModel", name := "lacks", desc := "(I)I" } : Jvm.MethodName) prog_11_method_93_code (2 : Nat) (Option.some Jvm.ClassFile.FieldType.int)) ∈ gtbl := gm 1346 (by decide +kernel) rfl
theorem q_1348 : (Jvm.Cond.instanceMethod ({ cls := "LeftLacksModel", name := "judge", desc := "(I)I" } : Jvm.MethodName)) ∈ gtbl := gm 1348 (by decide +kernel) rfl
theorem q_1349 : (Jvm.Cond.selects "LeftLacksModel" ({ cls := "LeftLacksModel", name := "judge", desc := "(I)I" } : Jvm.MethodName) ({ cls := "LeftLacksModel", name := "judge", desc := "(I)I" } : Jvm.MethodName)) ∈ gtbl := gm 1349 (by decide +kernel) rfl
theorem q_1350 : (Jvm.Cond.code ({ cls := "LeftLacksModel", name := "judge", desc := "(I)I" } : Jvm.MethodName) prog_11_method_95_code (7 : Nat) (Option.some Jvm.ClassFile.FieldType.int)) ∈ gtbl := gm 1350 (by decide +kernel) rfl
theorem q_1352 : (Jvm.Cond.instanceMethod ({ cls := "LeftLacksModel", name := "came", desc := "(III)I" } : Jvm.MethodName)) ∈ gtbl := gm 1352 (by decide +kernel) rfl
theorem q_1353 : (Jvm.Cond.selects "LeftLacksModel" ({ cls := "LeftLacksModel", name := "came", desc := "(III)I" } : Jvm.MethodName) ({ cls := "LeftLacksModel", name := "came", desc := "(III)I" } : Jvm.MethodName)) ∈ gtbl := gm 1353 (by decide +kernel) rfl
theorem q_1354 : (Jvm.Cond.code ({ cls := "LeftLacksModel", name := "came", desc := "(III)I" } : Jvm.MethodName) prog_11_method_97_code (10 : Nat) (Option.some Jvm.ClassFile.FieldType.int)) ∈ gtbl := gm 1354 (by decide +kernel) rfl
theorem q_1355 : (Jvm.Cond.methodLink "LeftLacksModel" (271 : Nat) ({ cls := "LeftLacksModel", name := "leaves", desc := "(III)Z" } : Jvm.MethodName)) ∈ gtbl := gm 1355 (by decide +kernel) rfl
theorem q_1357 : (Jvm.Cond.instanceMethod ({ cls := "LeftLacksModel", name := "leaves", desc := "(III)Z" } : Jvm.MethodName)) ∈ gtbl := gm 1357 (by decide +kernel) rfl
theorem q_1358 : (Jvm.Cond.code ({ cls := "LeftLacksModel", name := "leaves", desc := "(III)Z" } : Jvm.MethodName) prog_11_method_96_code (6 : Nat) (Option.some Jvm.ClassFile.FieldType.boolean)) ∈ gtbl := gm 1358 (by decide +kernel) rfl
theorem q_1360 : (Jvm.Cond.instanceMethod ({ cls := "LeftLacksModel", name := "image", desc := "()I" } : Jvm.MethodName)) ∈ gtbl := gm 1360 (by decide +kernel) rfl
theorem q_1361 : (Jvm.Cond.selects "LeftLacksModel" ({ cls := "LeftLacksModel", name := "image", desc := "()I" } : Jvm.MethodName) ({ cls := "LeftLacksModel", name := "image", desc := "()I" } : Jvm.MethodName)) ∈ gtbl := gm 1361 (by decide +kernel) rfl
theorem q_1362 : (Jvm.Cond.code ({ cls := "LeftLacksModel", name := "image", desc := "()I" } : Jvm.MethodName) prog_11_method_98_code (1 : Nat) (Option.some Jvm.ClassFile.FieldType.int)) ∈ gtbl := gm 1362 (by decide +kernel) rfl
theorem q_1364 : (Jvm.Cond.instanceMethod ({ cls := "LeftLacksModel", name := "restore", desc := "()I" } : Jvm.MethodName)) ∈ gtbl := gm 1364 (by decide +kernel) rfl
theorem q_1365 : (Jvm.Cond.selects "LeftLacksModel" ({ cls := "LeftLacksModel", name := "restore", desc := "()I" } : Jvm.MethodName) ({ cls := "LeftLacksModel", name := "restore", desc := "()I" } : Jvm.MethodName)) ∈ gtbl := gm 1365 (by decide +kernel) rfl
theorem q_1366 : (Jvm.Cond.code ({ cls := "LeftLacksModel", name := "restore", desc := "()I" } : Jvm.MethodName) prog_11_method_99_code (1 : Nat) (Option.some Jvm.ClassFile.FieldType.int)) ∈ gtbl := gm 1366 (by decide +kernel) rfl
theorem q_1368 : (Jvm.Cond.instanceMethod ({ cls := "LeftLacksModel", name := "tell", desc := "(I)I" } : Jvm.MethodName)) ∈ gtbl := gm 1368 (by decide +kernel) rfl
theorem q_1369 : (Jvm.Cond.selects "LeftLacksModel" ({ cls := "LeftLacksModel", name := "tell", desc := "(I)I" } : Jvm.MethodName) ({ cls := "LeftLacksModel", name := "tell", desc := "(I)I" } : Jvm.MethodName)) ∈ gtbl := gm 1369 (by decide +kernel) rfl
theorem q_1370 : (Jvm.Cond.code ({ cls := "LeftLacksModel", name := "tell", desc := "(I)I" } : Jvm.MethodName) prog_11_method_100_code (2 : Nat) (Option.some Jvm.ClassFile.FieldType.int)) ∈ gtbl := gm 1370 (by decide +kernel) rfl
theorem q_1372 : (Jvm.Cond.instanceMethod ({ cls := "LeftLacksModel", name := "check", desc := "()I" } : Jvm.MethodName)) ∈ gtbl := gm 1372 (by decide +kernel) rfl
theorem q_1373 : (Jvm.Cond.selects "LeftLacksModel" ({ cls := "LeftLacksModel", name := "check", desc := "()I" } : Jvm.MethodName) ({ cls := "LeftLacksModel", name := "check", desc := "()I" } : Jvm.MethodName)) ∈ gtbl := gm 1373 (by decide +kernel) rfl
theorem q_1374 : (Jvm.Cond.code ({ cls := "LeftLacksModel", name := "check", desc := "()I" } : Jvm.MethodName) prog_11_method_101_code (4 : Nat) (Option.some Jvm.ClassFile.FieldType.int)) ∈ gtbl := gm 1374 (by decide +kernel) rfl
theorem q_1376 : (Jvm.Cond.instanceMethod ({ cls := "LeftLacksModel", name := "count", desc := "(I)I" } : Jvm.MethodName)) ∈ gtbl := gm 1376 (by decide +kernel) rfl
theorem q_1377 : (Jvm.Cond.selects "LeftLacksModel" ({ cls := "LeftLacksModel", name := "count", desc := "(I)I" } : Jvm.MethodName) ({ cls := "LeftLacksModel", name := "count", desc := "(I)I" } : Jvm.MethodName)) ∈ gtbl := gm 1377 (by decide +kernel) rfl
theorem q_1378 : (Jvm.Cond.code ({ cls := "LeftLacksModel", name := "count", desc := "(I)I" } : Jvm.MethodName) prog_11_method_102_code (4 : Nat) (Option.some Jvm.ClassFile.FieldType.int)) ∈ gtbl := gm 1378 (by decide +kernel) rfl
theorem q_1380 : (Jvm.Cond.instanceMethod ({ cls := "LeftLacksModel", name := "told", desc := "(I)I" } : Jvm.MethodName)) ∈ gtbl := gm 1380 (by decide +kernel) rfl
theorem q_1381 : (Jvm.Cond.selects "LeftLacksModel" ({ cls := "LeftLacksModel", name := "told", desc := "(I)I" } : Jvm.MethodName) ({ cls := "LeftLacksModel", name := "told", desc := "(I)I" } : Jvm.MethodName)) ∈ gtbl := gm 1381 (by decide +kernel) rfl
theorem q_1382 : (Jvm.Cond.code ({ cls := "LeftLacksModel", name := "told", desc := "(I)I" } : Jvm.MethodName) prog_11_method_103_code (2 : Nat) (Option.some Jvm.ClassFile.FieldType.int)) ∈ gtbl := gm 1382 (by decide +kernel) rfl
theorem q_1384 : (Jvm.Cond.fieldLink "java/lang/String" (15 : Nat) "java/lang/String" "coder" "B") ∈ gtbl := gm 1384 (by decide +kernel) rfl
theorem q_1385 : (Jvm.Cond.fieldLink "java/lang/String" (9 : Nat) "java/lang/String" "value" "[B") ∈ gtbl := gm 1385 (by decide +kernel) rfl
theorem Fx0 : Fx 0 RX0 TX0 4 tyX0 := ⟨by decide, rfl, gps [98, 100, 102, 104] (by decide +kernel) (by decide +kernel), tyX0_ok, nmX0, by decide⟩
theorem Fx1 : Fx 1 RX1 TX1 3 tyX1 := ⟨by decide, rfl, gps [118, 120, 122] (by decide +kernel) (by decide +kernel), tyX1_ok, nmX1, by decide⟩
theorem Fx2 : Fx 2 RX2 TX2 9 tyX2 := ⟨by decide, rfl, gps [208, 210, 212, 214, 216, 218, 220, 222, 224] (by decide +kernel) (by decide +kernel), tyX2_ok, nmX2, by decide⟩
theorem Fx3 : Fx 3 RX3 TX3 7 tyX3 := ⟨by decide, rfl, gps [273, 275, 277, 279, 281, 283, 285] (by decide +kernel) (by decide +kernel), tyX3_ok, nmX3, by decide⟩
theorem Fx4 : Fx 4 RX4 TX4 3 tyX4 := ⟨by decide, rfl, gps [299, 301, 303] (by decide +kernel) (by decide +kernel), tyX4_ok, nmX4, by decide⟩
theorem Fx5 : Fx 5 RX5 TX5 6 tyX5 := ⟨by decide, rfl, gps [67, 69, 71, 73, 75, 77] (by decide +kernel) (by decide +kernel), tyX5_ok, nmX5, by decide⟩
theorem Fx6 : Fx 6 RX6 TX6 6 tyX6 := ⟨by decide, rfl, gps [243, 245, 247, 249, 251, 253] (by decide +kernel) (by decide +kernel), tyX6_ok, nmX6, by decide⟩
theorem Fx7 : Fx 7 RX7 TX7 15 tyX7 := ⟨by decide, rfl, gps [157, 159, 161, 163, 165, 167, 169, 171, 173, 175, 177, 179, 181, 183, 185] (by decide +kernel) (by decide +kernel), tyX7_ok, nmX7, by decide⟩
theorem Fx8 : Fx 8 RX8 TX8 9 tyX8 := ⟨by decide, rfl, gps [315, 317, 319, 321, 323, 325, 327, 329, 331] (by decide +kernel) (by decide +kernel), tyX8_ok, nmX8, by decide⟩
theorem Fx9 : Fx 9 RX9 TX9 20 tyX9 := ⟨by decide, rfl, gps [939, 941, 943, 945, 947, 949, 951, 953, 955, 957, 959, 961, 963, 965, 967, 969, 971, 973, 975, 977] (by decide +kernel) (by decide +kernel), tyX9_ok, nmX9, by decide⟩
theorem cl_1_0 {l : Nat} (h : tg l = 1) : tg (l + 1) = 100 + 60 := (by decide +kernel : ∀ l, l < 155 → tg l = 1 → tg (l + 1) = 100 + 60) l (tg_ltO h (by decide)) h
theorem cl_1_2 {l : Nat} (h : tg l = 1) : tg (l + 2) = 100 + 60 := (by decide +kernel : ∀ l, l < 155 → tg l = 1 → tg (l + 2) = 100 + 60) l (tg_ltO h (by decide)) h
theorem cl_2_0 {l : Nat} (h : tg l = 2) : tg (l + 1) = 100 + 60 := (by decide +kernel : ∀ l, l < 155 → tg l = 2 → tg (l + 1) = 100 + 60) l (tg_ltO h (by decide)) h
theorem cl_2_2 {l : Nat} (h : tg l = 2) : tg (l + 2) = 100 + 60 := (by decide +kernel : ∀ l, l < 155 → tg l = 2 → tg (l + 2) = 100 + 60) l (tg_ltO h (by decide)) h
theorem cl_3_5 {l : Nat} (h : tg l = 3) : tg (l + 1) = 100 + 6 := (by decide +kernel : ∀ l, l < 155 → tg l = 3 → tg (l + 1) = 100 + 6) l (tg_ltO h (by decide)) h
theorem cl_3_6 {l : Nat} (h : tg l = 3) : tg (l + 2) = 100 + 360 := (by decide +kernel : ∀ l, l < 155 → tg l = 3 → tg (l + 2) = 100 + 360) l (tg_ltO h (by decide)) h
theorem cl_4_2 {l : Nat} (h : tg l = 4) : tg (l + 1) = 100 + 24 := (by decide +kernel : ∀ l, l < 155 → tg l = 4 → tg (l + 1) = 100 + 24) l (tg_ltO h (by decide)) h
theorem cl_5_3 {l : Nat} (h : tg l = 5) : tg (l + 1) = 100 + 6 := (by decide +kernel : ∀ l, l < 155 → tg l = 5 → tg (l + 1) = 100 + 6) l (tg_ltO h (by decide)) h
theorem cl_5_4 {l : Nat} (h : tg l = 5) : tg (l + 2) = 100 + 6 := (by decide +kernel : ∀ l, l < 155 → tg l = 5 → tg (l + 2) = 100 + 6) l (tg_ltO h (by decide)) h
theorem cl_6_0 {l : Nat} (h : tg l = 6) : tg (l + 1) = 100 + 30 := (by decide +kernel : ∀ l, l < 155 → tg l = 6 → tg (l + 1) = 100 + 30) l (tg_ltO h (by decide)) h
theorem cl_7_0 {l : Nat} (h : tg l = 7) : tg (l + 1) = 100 + 6 := (by decide +kernel : ∀ l, l < 155 → tg l = 7 → tg (l + 1) = 100 + 6) l (tg_ltO h (by decide)) h
theorem cl_7_3 {l : Nat} (h : tg l = 7) : tg (l + 2) = 10 := (by decide +kernel : ∀ l, l < 155 → tg l = 7 → tg (l + 2) = 10) l (tg_ltO h (by decide)) h
theorem cl_7_5 {l : Nat} (h : tg l = 7) : tg (l + 3) = 11 := (by decide +kernel : ∀ l, l < 155 → tg l = 7 → tg (l + 3) = 11) l (tg_ltO h (by decide)) h
theorem cl_7_10 {l : Nat} (h : tg l = 7) : tg (l + 4) = 12 := (by decide +kernel : ∀ l, l < 155 → tg l = 7 → tg (l + 4) = 12) l (tg_ltO h (by decide)) h
theorem cl_7_11 {l : Nat} (h : tg l = 7) : tg (l + 5) = 100 + 60 := (by decide +kernel : ∀ l, l < 155 → tg l = 7 → tg (l + 5) = 100 + 60) l (tg_ltO h (by decide)) h
theorem cl_7_13 {l : Nat} (h : tg l = 7) : tg (l + 6) = 100 + 24 := (by decide +kernel : ∀ l, l < 155 → tg l = 7 → tg (l + 6) = 100 + 24) l (tg_ltO h (by decide)) h
theorem cl_8_0 {l : Nat} (h : tg l = 8) : tg (l + 1) = 7 := (by decide +kernel : ∀ l, l < 155 → tg l = 8 → tg (l + 1) = 7) l (tg_ltO h (by decide)) h
theorem cl_8_1 {l : Nat} (h : tg l = 8) : tg (l + 42) = 7 := (by decide +kernel : ∀ l, l < 155 → tg l = 8 → tg (l + 42) = 7) l (tg_ltO h (by decide)) h
theorem cl_8_2 {l : Nat} (h : tg l = 8) : tg (l + 83) = 7 := (by decide +kernel : ∀ l, l < 155 → tg l = 8 → tg (l + 83) = 7) l (tg_ltO h (by decide)) h
theorem cl_8_3 {l : Nat} (h : tg l = 8) : tg (l + 124) = 13 := (by decide +kernel : ∀ l, l < 155 → tg l = 8 → tg (l + 124) = 13) l (tg_ltO h (by decide)) h
theorem cl_8_4 {l : Nat} (h : tg l = 8) : tg (l + 125) = 2 := (by decide +kernel : ∀ l, l < 155 → tg l = 8 → tg (l + 125) = 2) l (tg_ltO h (by decide)) h
theorem cl_8_5 {l : Nat} (h : tg l = 8) : tg (l + 128) = 6 := (by decide +kernel : ∀ l, l < 155 → tg l = 8 → tg (l + 128) = 6) l (tg_ltO h (by decide)) h
theorem cl_8_6 {l : Nat} (h : tg l = 8) : tg (l + 130) = 3 := (by decide +kernel : ∀ l, l < 155 → tg l = 8 → tg (l + 130) = 3) l (tg_ltO h (by decide)) h
theorem cl_8_7 {l : Nat} (h : tg l = 8) : tg (l + 133) = 100 + 7 := (by decide +kernel : ∀ l, l < 155 → tg l = 8 → tg (l + 133) = 100 + 7) l (tg_ltO h (by decide)) h
theorem cl_9_0 {l : Nat} (h : tg l = 9) : tg (l + 1) = 100 + 516 := (by decide +kernel : ∀ l, l < 155 → tg l = 9 → tg (l + 1) = 100 + 516) l (tg_ltO h (by decide)) h
theorem cl_9_1 {l : Nat} (h : tg l = 9) : tg (l + 2) = 100 + 516 := (by decide +kernel : ∀ l, l < 155 → tg l = 9 → tg (l + 2) = 100 + 516) l (tg_ltO h (by decide)) h
theorem cl_9_2 {l : Nat} (h : tg l = 9) : tg (l + 3) = 100 + 516 := (by decide +kernel : ∀ l, l < 155 → tg l = 9 → tg (l + 3) = 100 + 516) l (tg_ltO h (by decide)) h
theorem cl_9_4 {l : Nat} (h : tg l = 9) : tg (l + 4) = 100 + 7 := (by decide +kernel : ∀ l, l < 155 → tg l = 9 → tg (l + 4) = 100 + 7) l (tg_ltO h (by decide)) h
theorem cl_9_9 {l : Nat} (h : tg l = 9) : tg (l + 5) = 100 + 124 := (by decide +kernel : ∀ l, l < 155 → tg l = 9 → tg (l + 5) = 100 + 124) l (tg_ltO h (by decide)) h
theorem cl_9_10 {l : Nat} (h : tg l = 9) : tg (l + 6) = 100 + 128 := (by decide +kernel : ∀ l, l < 155 → tg l = 9 → tg (l + 6) = 100 + 128) l (tg_ltO h (by decide)) h
theorem cl_9_11 {l : Nat} (h : tg l = 9) : tg (l + 7) = 100 + 64 := (by decide +kernel : ∀ l, l < 155 → tg l = 9 → tg (l + 7) = 100 + 64) l (tg_ltO h (by decide)) h
theorem cl_9_12 {l : Nat} (h : tg l = 9) : tg (l + 8) = 100 + 30 := (by decide +kernel : ∀ l, l < 155 → tg l = 9 → tg (l + 8) = 100 + 30) l (tg_ltO h (by decide)) h
theorem cl_9_16 {l : Nat} (h : tg l = 9) : tg (l + 9) = 100 + 4 := (by decide +kernel : ∀ l, l < 155 → tg l = 9 → tg (l + 9) = 100 + 4) l (tg_ltO h (by decide)) h
theorem cl_9_17 {l : Nat} (h : tg l = 9) : tg (l + 10) = 100 + 4 := (by decide +kernel : ∀ l, l < 155 → tg l = 9 → tg (l + 10) = 100 + 4) l (tg_ltO h (by decide)) h
theorem cl_9_18 {l : Nat} (h : tg l = 9) : tg (l + 11) = 100 + 96 := (by decide +kernel : ∀ l, l < 155 → tg l = 9 → tg (l + 11) = 100 + 96) l (tg_ltO h (by decide)) h
theorem cl_9_19 {l : Nat} (h : tg l = 9) : tg (l + 12) = 100 + 24 := (by decide +kernel : ∀ l, l < 155 → tg l = 9 → tg (l + 12) = 100 + 24) l (tg_ltO h (by decide)) h
theorem cv_J0_isLatin1_aae02 : Cv yJ0_isLatin1_aae02 cJ0_isLatin1_aae02 1 (some .boolean) 0 := ⟨q_523, q_13, by decide +kernel, by decide⟩
theorem cv_J0_coder_7d493 : Cv yJ0_coder_7d493 cJ0_coder_7d493 1 (some .byte) 0 := ⟨q_533, q_13, by decide +kernel, by decide⟩
theorem cv_J0_length_8abf5 : Cv yJ0_length_8abf5 cJ0_length_8abf5 1 (some .int) 0 := ⟨q_529, q_13, by decide +kernel, by decide⟩
theorem cv_J1_canEncode_9a6ad : Cv yJ1_canEncode_9a6ad cJ1_canEncode_9a6ad 1 (some .boolean) 1 := ⟨q_539, q_14, by decide +kernel, by decide⟩
theorem cv_J1_indexOfChar_4cfef : Cv yJ1_indexOfChar_4cfef cJ1_indexOfChar_4cfef 6 (some .int) 4 := ⟨q_546, q_14, by decide +kernel, by decide⟩
theorem cv_J1_indexOf_4cfef : Cv yJ1_indexOf_4cfef cJ1_indexOf_4cfef 4 (some .int) 4 := ⟨q_536, q_14, by decide +kernel, by decide⟩
theorem cv_J0_indexOf_7cf53 : Cv yJ0_indexOf_7cf53 cJ0_indexOf_7cf53 3 (some .int) 2 := ⟨q_519, q_13, by decide +kernel, by decide⟩
theorem cv_J0_indexOf_0f7a4 : Cv yJ0_indexOf_0f7a4 cJ0_indexOf_0f7a4 2 (some .int) 1 := ⟨q_515, q_13, by decide +kernel, by decide⟩
theorem cv_X0_copyFrom : CvV yX0_copyFrom cX0_copyFrom 2 none 1 0 := ⟨⟨q_726, q_5, by decide +kernel, by decide⟩, q_724, q_725, by decide, rfl⟩
theorem cv_X1_isTold : CvV yX1_isTold cX1_isTold 1 (some .boolean) 0 1 := ⟨⟨q_423, q_6, by decide +kernel, by decide⟩, q_421, q_422, by decide, rfl⟩
theorem cv_X1_take : CvV yX1_take cX1_take 3 none 2 1 := ⟨⟨q_614, q_6, by decide +kernel, by decide⟩, q_612, q_613, by decide, rfl⟩
theorem cv_X1_worked : Cv yX1_worked cX1_worked 3 (some .int) 3 := ⟨q_433, q_6, by decide +kernel, by decide⟩
theorem cv_X1_named : Cv yX1_named cX1_named 5 (some .int) 5 := ⟨q_430, q_6, by decide +kernel, by decide⟩
theorem cv_X1_value : CvV yX1_value cX1_value 8 (some .int) 4 1 := ⟨⟨q_427, q_6, by decide +kernel, by decide⟩, q_425, q_426, by decide, rfl⟩
theorem cv_X2_levelOf : Cv yX2_levelOf cX2_levelOf 1 (some .int) 1 := ⟨q_606, q_7, by decide +kernel, by decide⟩
theorem cv_X2_emit : CvV yX2_emit cX2_emit 2 none 1 2 := ⟨⟨q_499, q_7, by decide +kernel, by decide⟩, q_498, (gs (n := 9) 3 (by decide +kernel)), by decide, rfl⟩
theorem cv_X2_release : CvV yX2_release cX2_release 5 none 1 2 := ⟨⟨q_603, q_7, by decide +kernel, by decide⟩, q_602, (gs (n := 9) 8 (by decide +kernel)), by decide, rfl⟩
theorem cv_X8_within : Cv yX8_within cX8_within 3 (some .boolean) 3 := ⟨q_343, q_1, by decide +kernel, by decide⟩
theorem cv_X2_push : CvV yX2_push cX2_push 2 none 1 2 := ⟨⟨q_507, q_7, by decide +kernel, by decide⟩, q_506, (gs (n := 9) 5 (by decide +kernel)), by decide, rfl⟩
theorem cv_X2_takesSign : CvV yX2_takesSign cX2_takesSign 3 (some .boolean) 1 2 := ⟨⟨q_610, q_7, by decide +kernel, by decide⟩, q_609, (gs (n := 9) 9 (by decide +kernel)), by decide, rfl⟩
theorem cv_X2_closes : CvV yX2_closes cX2_closes 1 (some .boolean) 0 2 := ⟨⟨q_599, q_7, by decide +kernel, by decide⟩, q_598, (gs (n := 9) 7 (by decide +kernel)), by decide, rfl⟩
theorem cv_X2_opens : CvV yX2_opens cX2_opens 2 (some .boolean) 1 2 := ⟨⟨q_503, q_7, by decide +kernel, by decide⟩, q_502, (gs (n := 9) 4 (by decide +kernel)), by decide, rfl⟩
theorem cv_X2_takesName : CvV yX2_takesName cX2_takesName 3 (some .boolean) 1 2 := ⟨⟨q_511, q_7, by decide +kernel, by decide⟩, q_510, (gs (n := 9) 6 (by decide +kernel)), by decide, rfl⟩
theorem cv_X2_takesDigit : CvV yX2_takesDigit cX2_takesDigit 2 (some .boolean) 1 2 := ⟨⟨q_495, q_7, by decide +kernel, by decide⟩, q_494, (gs (n := 9) 2 (by decide +kernel)), by decide, rfl⟩
theorem cv_X2_takes : CvV yX2_takes cX2_takes 2 (some .boolean) 1 2 := ⟨⟨q_490, q_7, by decide +kernel, by decide⟩, q_489, (gs (n := 9) 1 (by decide +kernel)), by decide, rfl⟩
theorem cv_X2_faultIn : CvV yX2_faultIn cX2_faultIn 5 (some .int) 3 2 := ⟨⟨q_485, q_7, by decide +kernel, by decide⟩, q_483, q_484, by decide, rfl⟩
theorem cv_X7_hasCustomer : CvV yX7_hasCustomer cX7_hasCustomer 2 (some .boolean) 1 7 := ⟨⟨q_466, q_2, by decide +kernel, by decide⟩, q_464, q_465, by decide, rfl⟩
theorem cv_X7_placeOf : CvV yX7_placeOf cX7_placeOf 4 (some .int) 2 7 := ⟨⟨q_676, q_2, by decide +kernel, by decide⟩, q_674, q_675, by decide, rfl⟩
theorem cv_X7_leftOf : CvV yX7_leftOf cX7_leftOf 2 (some .int) 1 7 := ⟨⟨q_386, q_2, by decide +kernel, by decide⟩, q_384, q_385, by decide, rfl⟩
theorem cv_X7_stockOf : CvV yX7_stockOf cX7_stockOf 3 (some .int) 2 7 := ⟨⟨q_390, q_2, by decide +kernel, by decide⟩, q_388, q_389, by decide, rfl⟩
theorem cv_X7_maySell : CvV yX7_maySell cX7_maySell 4 (some .boolean) 2 7 := ⟨⟨q_382, q_2, by decide +kernel, by decide⟩, q_380, q_381, by decide, rfl⟩
theorem cv_X8_hold : Cv yX8_hold cX8_hold 3 (some .int) 3 := ⟨q_436, q_1, by decide +kernel, by decide⟩
theorem cv_X7_priceOf : CvV yX7_priceOf cX7_priceOf 5 (some .int) 2 7 := ⟨⟨q_419, q_2, by decide +kernel, by decide⟩, q_417, q_418, by decide, rfl⟩
theorem cv_X5_earn : CvV yX5_earn cX5_earn 2 none 1 5 := ⟨⟨q_640, q_4, by decide +kernel, by decide⟩, q_638, q_639, by decide, rfl⟩
theorem cv_X7_goAlong : CvV yX7_goAlong cX7_goAlong 10 (some .int) 1 7 := ⟨⟨q_672, q_2, by decide +kernel, by decide⟩, q_670, q_671, by decide, rfl⟩
theorem cv_X3_startOf : Cv yX3_startOf cX3_startOf 2 (some .int) 2 := ⟨q_883, q_9, by decide +kernel, by decide⟩
theorem cv_X3_judgeSet : CvV yX3_judgeSet cX3_judgeSet 4 none 2 3 := ⟨⟨q_879, q_9, by decide +kernel, by decide⟩, q_878, (gs (n := 7) 17 (by decide +kernel)), by decide, rfl⟩
theorem cv_X3_tryFrom : CvV yX3_tryFrom cX3_tryFrom 5 none 3 3 := ⟨⟨q_874, q_9, by decide +kernel, by decide⟩, q_873, (gs (n := 7) 16 (by decide +kernel)), by decide, rfl⟩
theorem cv_X3_tryAll : CvV yX3_tryAll cX3_tryAll 4 none 3 3 := ⟨⟨q_869, q_9, by decide +kernel, by decide⟩, q_867, q_868, by decide, rfl⟩
theorem cv_X4_isMissing : CvV yX4_isMissing cX4_isMissing 1 (some .boolean) 0 4 := ⟨⟨q_835, q_10, by decide +kernel, by decide⟩, q_833, q_834, by decide, rfl⟩
theorem cv_J7_fill_53178 : Cv yJ7_fill_53178 cJ7_fill_53178 4 none 2 := ⟨q_42, q_3, by decide +kernel, by decide⟩
theorem cv_X4_lay : CvV yX4_lay cX4_lay 3 none 2 4 := ⟨⟨q_826, q_10, by decide +kernel, by decide⟩, q_824, q_825, by decide, rfl⟩
theorem cv_X4_write : CvV yX4_write cX4_write 3 none 2 4 := ⟨⟨q_839, q_10, by decide +kernel, by decide⟩, q_837, q_838, by decide, rfl⟩
theorem cv_X4_holds : CvV yX4_holds cX4_holds 3 (some .boolean) 2 4 := ⟨⟨q_847, q_10, by decide +kernel, by decide⟩, q_845, q_846, by decide, rfl⟩
theorem cv_X5_open : CvV yX5_open cX5_open 3 none 2 5 := ⟨⟨q_360, q_4, by decide +kernel, by decide⟩, q_358, q_359, by decide, rfl⟩
theorem cv_X5_copyFrom : CvV yX5_copyFrom cX5_copyFrom 2 none 1 5 := ⟨⟨q_721, q_4, by decide +kernel, by decide⟩, q_719, q_720, by decide, rfl⟩
theorem cv_X5_change : CvV yX5_change cX5_change 3 none 2 5 := ⟨⟨q_410, q_4, by decide +kernel, by decide⟩, q_408, q_409, by decide, rfl⟩
theorem cv_X5_keepOnly : CvV yX5_keepOnly cX5_keepOnly 3 none 1 5 := ⟨⟨q_741, q_4, by decide +kernel, by decide⟩, q_739, q_740, by decide, rfl⟩
theorem cv_X5_join : CvV yX5_join cX5_join 3 none 1 5 := ⟨⟨q_772, q_4, by decide +kernel, by decide⟩, q_770, q_771, by decide, rfl⟩
theorem cv_X5_things : CvV yX5_things cX5_things 3 (some .int) 0 5 := ⟨⟨q_664, q_4, by decide +kernel, by decide⟩, q_662, q_663, by decide, rfl⟩
theorem cv_X5_goodsHere : CvV yX5_goodsHere cX5_goodsHere 3 (some .int) 0 5 := ⟨⟨q_656, q_4, by decide +kernel, by decide⟩, q_654, q_655, by decide, rfl⟩
theorem cv_X6_ownerOf : Cv yX6_ownerOf cX6_ownerOf 4 (some .int) 2 := ⟨q_795, q_8, by decide +kernel, by decide⟩
theorem cv_X6_note : CvV yX6_note cX6_note 2 none 1 6 := ⟨⟨q_803, q_8, by decide +kernel, by decide⟩, q_802, (gs (n := 6) 12 (by decide +kernel)), by decide, rfl⟩
theorem cv_X6_part : CvV yX6_part cX6_part 3 (some .int) 1 6 := ⟨⟨q_807, q_8, by decide +kernel, by decide⟩, q_806, (gs (n := 6) 13 (by decide +kernel)), by decide, rfl⟩
theorem cv_X6_partAndFill : CvV yX6_partAndFill cX6_partAndFill 5 (some .int) 3 6 := ⟨⟨q_811, q_8, by decide +kernel, by decide⟩, q_810, (gs (n := 6) 14 (by decide +kernel)), by decide, rfl⟩
theorem cv_X6_say : CvV yX6_say cX6_say 9 (some .int) 4 6 := ⟨⟨q_792, q_8, by decide +kernel, by decide⟩, q_791, (gs (n := 6) 11 (by decide +kernel)), by decide, rfl⟩
theorem cv_X6_speak : CvV yX6_speak cX6_speak 5 (some .int) 4 6 := ⟨⟨q_788, q_8, by decide +kernel, by decide⟩, q_786, q_787, by decide, rfl⟩
theorem cv_X7_copyFrom : CvV yX7_copyFrom cX7_copyFrom 3 none 1 7 := ⟨⟨q_717, q_2, by decide +kernel, by decide⟩, q_715, q_716, by decide, rfl⟩
theorem cv_X7_hasShop : CvV yX7_hasShop cX7_hasShop 2 (some .boolean) 1 7 := ⟨⟨q_369, q_2, by decide +kernel, by decide⟩, q_367, q_368, by decide, rfl⟩
theorem cv_X7_welcome : CvV yX7_welcome cX7_welcome 5 none 3 7 := ⟨⟨q_458, q_2, by decide +kernel, by decide⟩, q_456, q_457, by decide, rfl⟩
theorem cv_X7_mayGoods : CvV yX7_mayGoods cX7_mayGoods 4 (some .int) 1 7 := ⟨⟨q_378, q_2, by decide +kernel, by decide⟩, q_376, q_377, by decide, rfl⟩
theorem cv_X7_factOf : CvV yX7_factOf cX7_factOf 4 (some .int) 2 7 := ⟨⟨q_374, q_2, by decide +kernel, by decide⟩, q_372, q_373, by decide, rfl⟩
theorem cv_X7_fillOf : CvV yX7_fillOf cX7_fillOf 7 (some .int) 2 7 := ⟨⟨q_444, q_2, by decide +kernel, by decide⟩, q_442, q_443, by decide, rfl⟩
theorem cv_X7_goodToBuy : CvV yX7_goodToBuy cX7_goodToBuy 5 (some .int) 1 7 := ⟨⟨q_647, q_2, by decide +kernel, by decide⟩, q_645, q_646, by decide, rfl⟩
theorem cv_X7_buyOut : CvV yX7_buyOut cX7_buyOut 6 none 3 7 := ⟨⟨q_651, q_2, by decide +kernel, by decide⟩, q_649, q_650, by decide, rfl⟩
theorem cv_X7_fillShop : CvV yX7_fillShop cX7_fillShop 5 none 1 7 := ⟨⟨q_634, q_2, by decide +kernel, by decide⟩, q_632, q_633, by decide, rfl⟩
theorem cv_X7_passMorning : CvV yX7_passMorning cX7_passMorning 3 none 0 7 := ⟨⟨q_630, q_2, by decide +kernel, by decide⟩, q_628, q_629, by decide, rfl⟩
theorem cv_X7_allGoAlong : CvV yX7_allGoAlong cX7_allGoAlong 2 none 0 7 := ⟨⟨q_759, q_2, by decide +kernel, by decide⟩, q_757, q_758, by decide, rfl⟩
theorem cv_J6_bitCount_0f7a4 : Cv yJ6_bitCount_0f7a4 cJ6_bitCount_0f7a4 1 (some .int) 1 := ⟨q_698, q_19, by decide +kernel, by decide⟩
theorem cv_X7_draw : CvV yX7_draw cX7_draw 1 (some .int) 0 7 := ⟨⟨q_693, q_2, by decide +kernel, by decide⟩, q_691, q_692, by decide, rfl⟩
theorem cv_X7_pass : CvV yX7_pass cX7_pass 5 none 2 7 := ⟨⟨q_688, q_2, by decide +kernel, by decide⟩, q_686, q_687, by decide, rfl⟩
theorem cv_X7_turnFrom : CvV yX7_turnFrom cX7_turnFrom 4 none 2 7 := ⟨⟨q_750, q_2, by decide +kernel, by decide⟩, q_748, q_749, by decide, rfl⟩
theorem cv_X7_joinNext : CvV yX7_joinNext cX7_joinNext 3 none 1 7 := ⟨⟨q_768, q_2, by decide +kernel, by decide⟩, q_766, q_767, by decide, rfl⟩
theorem cv_X7_things : CvV yX7_things cX7_things 3 (some .int) 0 7 := ⟨⟨q_660, q_2, by decide +kernel, by decide⟩, q_658, q_659, by decide, rfl⟩
theorem cv_X7_purses : CvV yX7_purses cX7_purses 3 (some .int) 0 7 := ⟨⟨q_908, q_2, by decide +kernel, by decide⟩, q_906, q_907, by decide, rfl⟩
theorem cv_X8_isGood : Cv yX8_isGood cX8_isGood 1 (some .boolean) 1 := ⟨q_340, q_1, by decide +kernel, by decide⟩
theorem cv_X8_error : CvV yX8_error cX8_error 2 (some .int) 1 8 := ⟨⟨q_347, q_1, by decide +kernel, by decide⟩, q_346, (gs (n := 9) 0 (by decide +kernel)), by decide, rfl⟩
theorem cv_X8_cost : CvV yX8_cost cX8_cost 4 (some .int) 2 8 := ⟨⟨q_337, q_1, by decide +kernel, by decide⟩, q_335, q_336, by decide, rfl⟩
theorem cv_X8_rule : CvV yX8_rule cX8_rule 4 (some .int) 2 8 := ⟨⟨q_352, q_1, by decide +kernel, by decide⟩, q_350, q_351, by decide, rfl⟩
theorem cv_X8_shop : CvV yX8_shop cX8_shop 2 (some .int) 1 8 := ⟨⟨q_356, q_1, by decide +kernel, by decide⟩, q_354, q_355, by decide, rfl⟩
theorem cv_X8_shopIs : CvV yX8_shopIs cX8_shopIs 3 (some .int) 2 8 := ⟨⟨q_365, q_1, by decide +kernel, by decide⟩, q_363, q_364, by decide, rfl⟩
theorem cv_X8_isUnder : Cv yX8_isUnder cX8_isUnder 4 (some .boolean) 2 := ⟨q_397, q_1, by decide +kernel, by decide⟩
theorem cv_X8_as : CvV yX8_as cX8_as 3 (some .int) 2 8 := ⟨⟨q_394, q_1, by decide +kernel, by decide⟩, q_392, q_393, by decide, rfl⟩
theorem cv_X8_mostOf : Cv yX8_mostOf cX8_mostOf 1 (some .int) 1 := ⟨q_406, q_1, by decide +kernel, by decide⟩
theorem cv_X8_set : CvV yX8_set cX8_set 5 (some .int) 3 8 := ⟨⟨q_403, q_1, by decide +kernel, by decide⟩, q_401, q_402, by decide, rfl⟩
theorem cv_X8_price : CvV yX8_price cX8_price 3 (some .int) 2 8 := ⟨⟨q_415, q_1, by decide +kernel, by decide⟩, q_413, q_414, by decide, rfl⟩
theorem cv_X8_fills : CvV yX8_fills cX8_fills 3 (some .int) 2 8 := ⟨⟨q_440, q_1, by decide +kernel, by decide⟩, q_438, q_439, by decide, rfl⟩
theorem cv_X8_isCustomer : Cv yX8_isCustomer cX8_isCustomer 4 (some .boolean) 3 := ⟨q_454, q_1, by decide +kernel, by decide⟩
theorem cv_X8_customer : CvV yX8_customer cX8_customer 4 (some .int) 3 8 := ⟨⟨q_451, q_1, by decide +kernel, by decide⟩, q_449, q_450, by decide, rfl⟩
theorem cv_X8_customerIs : CvV yX8_customerIs cX8_customerIs 4 (some .int) 2 8 := ⟨⟨q_462, q_1, by decide +kernel, by decide⟩, q_460, q_461, by decide, rfl⟩
theorem cv_X8_leave : CvV yX8_leave cX8_leave 1 (some .int) 0 8 := ⟨⟨q_470, q_1, by decide +kernel, by decide⟩, q_468, q_469, by decide, rfl⟩
theorem cv_X8_feed : CvV yX8_feed cX8_feed 5 (some .int) 2 8 := ⟨⟨q_474, q_1, by decide +kernel, by decide⟩, q_472, q_473, by decide, rfl⟩
theorem cv_X8_isUse : Cv yX8_isUse cX8_isUse 1 (some .boolean) 1 := ⟨q_481, q_1, by decide +kernel, by decide⟩
theorem cv_X8_text : CvV yX8_text cX8_text 3 (some .int) 1 8 := ⟨⟨q_478, q_1, by decide +kernel, by decide⟩, q_476, q_477, by decide, rfl⟩
theorem cv_X8_untell : CvV yX8_untell cX8_untell 3 (some .int) 1 8 := ⟨⟨q_621, q_1, by decide +kernel, by decide⟩, q_619, q_620, by decide, rfl⟩
theorem cv_X8_morning : CvV yX8_morning cX8_morning 1 (some .int) 0 8 := ⟨⟨q_626, q_1, by decide +kernel, by decide⟩, q_624, q_625, by decide, rfl⟩
theorem cv_X8_visit : CvV yX8_visit cX8_visit 2 (some .int) 1 8 := ⟨⟨q_668, q_1, by decide +kernel, by decide⟩, q_666, q_667, by decide, rfl⟩
theorem cv_X8_daysRefusal : CvV yX8_daysRefusal cX8_daysRefusal 2 (some .int) 1 8 := ⟨⟨q_684, q_1, by decide +kernel, by decide⟩, q_683, (gs (n := 9) 10 (by decide +kernel)), by decide, rfl⟩
theorem cv_X8_days : CvV yX8_days cX8_days 3 (some .int) 1 8 := ⟨⟨q_680, q_1, by decide +kernel, by decide⟩, q_678, q_679, by decide, rfl⟩
theorem cv_X8_loose : CvV yX8_loose cX8_loose 3 (some .int) 1 8 := ⟨⟨q_705, q_1, by decide +kernel, by decide⟩, q_703, q_704, by decide, rfl⟩
theorem cv_X8_seed : CvV yX8_seed cX8_seed 3 (some .int) 1 8 := ⟨⟨q_709, q_1, by decide +kernel, by decide⟩, q_707, q_708, by decide, rfl⟩
theorem cv_X8_then : CvV yX8_then cX8_then 4 (some .int) 3 8 := ⟨⟨q_713, q_1, by decide +kernel, by decide⟩, q_711, q_712, by decide, rfl⟩
theorem cv_X8_keep : CvV yX8_keep cX8_keep 7 (some .int) 3 8 := ⟨⟨q_732, q_1, by decide +kernel, by decide⟩, q_730, q_731, by decide, rfl⟩
theorem cv_X8_range : CvV yX8_range cX8_range 8 (some .int) 2 8 := ⟨⟨q_737, q_1, by decide +kernel, by decide⟩, q_735, q_736, by decide, rfl⟩
theorem cv_X8_turn : CvV yX8_turn cX8_turn 7 (some .int) 2 8 := ⟨⟨q_746, q_1, by decide +kernel, by decide⟩, q_744, q_745, by decide, rfl⟩
theorem cv_X8_out : CvV yX8_out cX8_out 5 (some .int) 2 8 := ⟨⟨q_754, q_1, by decide +kernel, by decide⟩, q_752, q_753, by decide, rfl⟩
theorem cv_X8_joined : CvV yX8_joined cX8_joined 4 (some .int) 2 8 := ⟨⟨q_764, q_1, by decide +kernel, by decide⟩, q_762, q_763, by decide, rfl⟩
theorem cv_X8_walk : CvV yX8_walk cX8_walk 5 (some .int) 1 8 := ⟨⟨q_778, q_1, by decide +kernel, by decide⟩, q_776, q_777, by decide, rfl⟩
theorem cv_X8_voice : CvV yX8_voice cX8_voice 5 (some .int) 3 8 := ⟨⟨q_784, q_1, by decide +kernel, by decide⟩, q_782, q_783, by decide, rfl⟩
theorem cv_X8_body : CvV yX8_body cX8_body 2 (some .int) 1 8 := ⟨⟨q_815, q_1, by decide +kernel, by decide⟩, q_813, q_814, by decide, rfl⟩
theorem cv_X8_isSheet : Cv yX8_isSheet cX8_isSheet 1 (some .boolean) 1 := ⟨q_822, q_1, by decide +kernel, by decide⟩
theorem cv_X8_sheet : CvV yX8_sheet cX8_sheet 4 (some .int) 3 8 := ⟨⟨q_819, q_1, by decide +kernel, by decide⟩, q_817, q_818, by decide, rfl⟩
theorem cv_X8_put : CvV yX8_put cX8_put 4 (some .int) 3 8 := ⟨⟨q_831, q_1, by decide +kernel, by decide⟩, q_829, q_830, by decide, rfl⟩
theorem cv_X8_move : CvV yX8_move cX8_move 8 (some .int) 5 8 := ⟨⟨q_843, q_1, by decide +kernel, by decide⟩, q_841, q_842, by decide, rfl⟩
theorem cv_X8_sheetRefusal : CvV yX8_sheetRefusal cX8_sheetRefusal 2 (some .int) 1 8 := ⟨⟨q_856, q_1, by decide +kernel, by decide⟩, q_855, (gs (n := 9) 15 (by decide +kernel)), by decide, rfl⟩
theorem cv_X8_customers : CvV yX8_customers cX8_customers 7 (some .int) 1 8 := ⟨⟨q_852, q_1, by decide +kernel, by decide⟩, q_850, q_851, by decide, rfl⟩
theorem cv_X8_judge : CvV yX8_judge cX8_judge 8 (some .int) 1 8 := ⟨⟨q_860, q_1, by decide +kernel, by decide⟩, q_858, q_859, by decide, rfl⟩
theorem cv_X8_came : CvV yX8_came cX8_came 4 (some .int) 3 8 := ⟨⟨q_865, q_1, by decide +kernel, by decide⟩, q_863, q_864, by decide, rfl⟩
theorem cv_X8_image : CvV yX8_image cX8_image 1 (some .int) 0 8 := ⟨⟨q_888, q_1, by decide +kernel, by decide⟩, q_886, q_887, by decide, rfl⟩
theorem cv_X8_restore : CvV yX8_restore cX8_restore 1 (some .int) 0 8 := ⟨⟨q_892, q_1, by decide +kernel, by decide⟩, q_890, q_891, by decide, rfl⟩
theorem cv_X8_tell : CvV yX8_tell cX8_tell 2 (some .int) 1 8 := ⟨⟨q_896, q_1, by decide +kernel, by decide⟩, q_894, q_895, by decide, rfl⟩
theorem cv_X8_check : CvV yX8_check cX8_check 3 (some .int) 0 8 := ⟨⟨q_900, q_1, by decide +kernel, by decide⟩, q_898, q_899, by decide, rfl⟩
theorem cv_X8_count : CvV yX8_count cX8_count 2 (some .int) 1 8 := ⟨⟨q_904, q_1, by decide +kernel, by decide⟩, q_902, q_903, by decide, rfl⟩
theorem cv_X8_told : CvV yX8_told cX8_told 2 (some .int) 1 8 := ⟨⟨q_912, q_1, by decide +kernel, by decide⟩, q_910, q_911, by decide, rfl⟩
theorem cv_X9_error : CvV yX9_error cX9_error 2 (some .int) 1 9 := ⟨⟨q_993, q_11, by decide +kernel, by decide⟩, q_992, (gs (n := 20) 18 (by decide +kernel)), by decide, rfl⟩
theorem cv_X9_in : Cv yX9_in cX9_in 3 (some .boolean) 3 := ⟨q_989, q_11, by decide +kernel, by decide⟩
theorem cv_X9_held : Cv yX9_held cX9_held 3 (some .int) 3 := ⟨q_1155, q_11, by decide +kernel, by decide⟩
theorem cv_X9_carry : Cv yX9_carry cX9_carry 3 none 2 := ⟨q_1244, q_11, by decide +kernel, by decide⟩
theorem cv_X9_isShop : CvV yX9_isShop cX9_isShop 2 (some .boolean) 1 9 := ⟨⟨q_1014, q_11, by decide +kernel, by decide⟩, q_1013, (gs (n := 20) 20 (by decide +kernel)), by decide, rfl⟩
theorem cv_X9_isGood : Cv yX9_isGood cX9_isGood 1 (some .boolean) 1 := ⟨q_986, q_11, by decide +kernel, by decide⟩
theorem cv_X9_isCustomer : CvV yX9_isCustomer cX9_isCustomer 2 (some .boolean) 1 9 := ⟨⟨q_1068, q_11, by decide +kernel, by decide⟩, q_1067, (gs (n := 20) 28 (by decide +kernel)), by decide, rfl⟩
theorem cv_X9_its : CvV yX9_its cX9_its 3 (some .int) 2 9 := ⟨⟨q_1034, q_11, by decide +kernel, by decide⟩, q_1033, (gs (n := 20) 25 (by decide +kernel)), by decide, rfl⟩
theorem cv_X9_lays1 : CvV yX9_lays1 cX9_lays1 4 none 3 9 := ⟨⟨q_1006, q_11, by decide +kernel, by decide⟩, q_1005, (gs (n := 20) 19 (by decide +kernel)), by decide, rfl⟩
theorem cv_X9_of : CvV yX9_of cX9_of 3 (some .int) 2 9 := ⟨⟨q_1072, q_11, by decide +kernel, by decide⟩, q_1071, (gs (n := 20) 29 (by decide +kernel)), by decide, rfl⟩
theorem cv_X9_left : CvV yX9_left cX9_left 2 (some .int) 1 9 := ⟨⟨q_1030, q_11, by decide +kernel, by decide⟩, q_1029, (gs (n := 20) 24 (by decide +kernel)), by decide, rfl⟩
theorem cv_X9_lacks1 : CvV yX9_lacks1 cX9_lacks1 4 (some .boolean) 3 9 := ⟨⟨q_1038, q_11, by decide +kernel, by decide⟩, q_1037, (gs (n := 20) 26 (by decide +kernel)), by decide, rfl⟩
theorem cv_X9_may : CvV yX9_may cX9_may 5 (some .boolean) 2 9 := ⟨⟨q_1026, q_11, by decide +kernel, by decide⟩, q_1025, (gs (n := 20) 23 (by decide +kernel)), by decide, rfl⟩
theorem cv_X9_maySell : CvV yX9_maySell cX9_maySell 4 (some .int) 1 9 := ⟨⟨q_1022, q_11, by decide +kernel, by decide⟩, q_1021, (gs (n := 20) 22 (by decide +kernel)), by decide, rfl⟩
theorem cv_X9_cost : CvV yX9_cost cX9_cost 4 (some .int) 2 9 := ⟨⟨q_983, q_11, by decide +kernel, by decide⟩, q_981, q_982, by decide, rfl⟩
theorem cv_X9_rule : CvV yX9_rule cX9_rule 4 (some .int) 2 9 := ⟨⟨q_998, q_11, by decide +kernel, by decide⟩, q_996, q_997, by decide, rfl⟩
theorem cv_X9_shop : CvV yX9_shop cX9_shop 4 (some .int) 1 9 := ⟨⟨q_1002, q_11, by decide +kernel, by decide⟩, q_1000, q_1001, by decide, rfl⟩
theorem cv_X9_toldShop : CvV yX9_toldShop cX9_toldShop 3 (some .int) 2 9 := ⟨⟨q_1018, q_11, by decide +kernel, by decide⟩, q_1017, (gs (n := 20) 21 (by decide +kernel)), by decide, rfl⟩
theorem cv_X9_shopIs : CvV yX9_shopIs cX9_shopIs 3 (some .int) 2 9 := ⟨⟨q_1010, q_11, by decide +kernel, by decide⟩, q_1008, q_1009, by decide, rfl⟩
theorem cv_X9_isUnder : Cv yX9_isUnder cX9_isUnder 2 (some .boolean) 2 := ⟨q_1045, q_11, by decide +kernel, by decide⟩
theorem cv_X9_as : CvV yX9_as cX9_as 3 (some .int) 2 9 := ⟨⟨q_1042, q_11, by decide +kernel, by decide⟩, q_1040, q_1041, by decide, rfl⟩
theorem cv_X9_set : CvV yX9_set cX9_set 6 (some .int) 3 9 := ⟨⟨q_1049, q_11, by decide +kernel, by decide⟩, q_1047, q_1048, by decide, rfl⟩
theorem cv_X9_isCustomer1 : Cv yX9_isCustomer1 cX9_isCustomer1 3 (some .boolean) 3 := ⟨q_1056, q_11, by decide +kernel, by decide⟩
theorem cv_X9_addCustomer : CvV yX9_addCustomer cX9_addCustomer 5 none 3 9 := ⟨⟨q_1060, q_11, by decide +kernel, by decide⟩, q_1059, (gs (n := 20) 27 (by decide +kernel)), by decide, rfl⟩
theorem cv_X9_customer : CvV yX9_customer cX9_customer 4 (some .int) 3 9 := ⟨⟨q_1053, q_11, by decide +kernel, by decide⟩, q_1051, q_1052, by decide, rfl⟩
theorem cv_X9_customerIs : CvV yX9_customerIs cX9_customerIs 3 (some .int) 2 9 := ⟨⟨q_1064, q_11, by decide +kernel, by decide⟩, q_1062, q_1063, by decide, rfl⟩
theorem cv_X9_leave : CvV yX9_leave cX9_leave 1 (some .int) 0 9 := ⟨⟨q_1076, q_11, by decide +kernel, by decide⟩, q_1074, q_1075, by decide, rfl⟩
theorem cv_X9_feed : CvV yX9_feed cX9_feed 5 (some .int) 2 9 := ⟨⟨q_1080, q_11, by decide +kernel, by decide⟩, q_1078, q_1079, by decide, rfl⟩
theorem cv_X9_look : CvV yX9_look cX9_look 1 (some .int) 0 9 := ⟨⟨q_1113, q_11, by decide +kernel, by decide⟩, q_1112, (gs (n := 20) 36 (by decide +kernel)), by decide, rfl⟩
theorem cv_X9_isName : CvV yX9_isName cX9_isName 2 (some .boolean) 1 9 := ⟨⟨q_1117, q_11, by decide +kernel, by decide⟩, q_1116, (gs (n := 20) 37 (by decide +kernel)), by decide, rfl⟩
theorem cv_X9_lays : CvV yX9_lays cX9_lays 3 none 2 9 := ⟨⟨q_1121, q_11, by decide +kernel, by decide⟩, q_1120, (gs (n := 20) 38 (by decide +kernel)), by decide, rfl⟩
theorem cv_X9_product : CvV yX9_product cX9_product 2 (some .boolean) 0 9 := ⟨⟨q_1105, q_11, by decide +kernel, by decide⟩, q_1104, (gs (n := 20) 34 (by decide +kernel)), by decide, rfl⟩
theorem cv_X9_sum : CvV yX9_sum cX9_sum 2 (some .boolean) 0 9 := ⟨⟨q_1101, q_11, by decide +kernel, by decide⟩, q_1100, (gs (n := 20) 33 (by decide +kernel)), by decide, rfl⟩
theorem cv_X9_compared : CvV yX9_compared cX9_compared 2 (some .boolean) 0 9 := ⟨⟨q_1097, q_11, by decide +kernel, by decide⟩, q_1096, (gs (n := 20) 32 (by decide +kernel)), by decide, rfl⟩
theorem cv_X9_both : CvV yX9_both cX9_both 1 (some .boolean) 0 9 := ⟨⟨q_1093, q_11, by decide +kernel, by decide⟩, q_1092, (gs (n := 20) 31 (by decide +kernel)), by decide, rfl⟩
theorem cv_X9_whole : CvV yX9_whole cX9_whole 1 (some .boolean) 0 9 := ⟨⟨q_1089, q_11, by decide +kernel, by decide⟩, q_1088, (gs (n := 20) 30 (by decide +kernel)), by decide, rfl⟩
theorem cv_X9_opens : CvV yX9_opens cX9_opens 1 (some .boolean) 0 9 := ⟨⟨q_1125, q_11, by decide +kernel, by decide⟩, q_1124, (gs (n := 20) 39 (by decide +kernel)), by decide, rfl⟩
theorem cv_X9_one : CvV yX9_one cX9_one 4 (some .boolean) 0 9 := ⟨⟨q_1109, q_11, by decide +kernel, by decide⟩, q_1108, (gs (n := 20) 35 (by decide +kernel)), by decide, rfl⟩
theorem cv_X9_hasText : CvV yX9_hasText cX9_hasText 2 (some .boolean) 1 9 := ⟨⟨q_1133, q_11, by decide +kernel, by decide⟩, q_1132, (gs (n := 20) 40 (by decide +kernel)), by decide, rfl⟩
theorem cv_X9_text : CvV yX9_text cX9_text 5 (some .int) 1 9 := ⟨⟨q_1085, q_11, by decide +kernel, by decide⟩, q_1083, q_1084, by decide, rfl⟩
theorem cv_X9_untell : CvV yX9_untell cX9_untell 3 (some .int) 1 9 := ⟨⟨q_1129, q_11, by decide +kernel, by decide⟩, q_1127, q_1128, by decide, rfl⟩
theorem cv_X9_joined : Cv yX9_joined cX9_joined 3 (some .int) 3 := ⟨q_1152, q_11, by decide +kernel, by decide⟩
theorem cv_X9_worked : CvV yX9_worked cX9_worked 7 (some .int) 1 9 := ⟨⟨q_1149, q_11, by decide +kernel, by decide⟩, q_1148, (gs (n := 20) 43 (by decide +kernel)), by decide, rfl⟩
theorem cv_X9_fillsTold : CvV yX9_fillsTold cX9_fillsTold 4 (some .int) 2 9 := ⟨⟨q_1167, q_11, by decide +kernel, by decide⟩, q_1166, (gs (n := 20) 45 (by decide +kernel)), by decide, rfl⟩
theorem cv_X9_fillsOf : CvV yX9_fillsOf cX9_fillsOf 6 (some .int) 2 9 := ⟨⟨q_1163, q_11, by decide +kernel, by decide⟩, q_1162, (gs (n := 20) 44 (by decide +kernel)), by decide, rfl⟩
theorem cv_X9_priceTold : CvV yX9_priceTold cX9_priceTold 3 (some .int) 2 9 := ⟨⟨q_1145, q_11, by decide +kernel, by decide⟩, q_1144, (gs (n := 20) 42 (by decide +kernel)), by decide, rfl⟩
theorem cv_X9_priceOf : CvV yX9_priceOf cX9_priceOf 5 (some .int) 2 9 := ⟨⟨q_1141, q_11, by decide +kernel, by decide⟩, q_1140, (gs (n := 20) 41 (by decide +kernel)), by decide, rfl⟩
theorem cv_X9_price : CvV yX9_price cX9_price 3 (some .int) 2 9 := ⟨⟨q_1137, q_11, by decide +kernel, by decide⟩, q_1135, q_1136, by decide, rfl⟩
theorem cv_X9_fills : CvV yX9_fills cX9_fills 3 (some .int) 2 9 := ⟨⟨q_1159, q_11, by decide +kernel, by decide⟩, q_1157, q_1158, by decide, rfl⟩
theorem cv_X9_gets : CvV yX9_gets cX9_gets 3 none 2 9 := ⟨⟨q_1183, q_11, by decide +kernel, by decide⟩, q_1182, (gs (n := 20) 48 (by decide +kernel)), by decide, rfl⟩
theorem cv_X9_hasOther : CvV yX9_hasOther cX9_hasOther 2 (some .boolean) 1 9 := ⟨⟨q_1193, q_11, by decide +kernel, by decide⟩, q_1192, (gs (n := 20) 50 (by decide +kernel)), by decide, rfl⟩
theorem cv_X9_buysOut : CvV yX9_buysOut cX9_buysOut 6 none 2 9 := ⟨⟨q_1197, q_11, by decide +kernel, by decide⟩, q_1196, (gs (n := 20) 51 (by decide +kernel)), by decide, rfl⟩
theorem cv_X9_buys : CvV yX9_buys cX9_buys 4 none 1 9 := ⟨⟨q_1189, q_11, by decide +kernel, by decide⟩, q_1188, (gs (n := 20) 49 (by decide +kernel)), by decide, rfl⟩
theorem cv_X9_fillAll : CvV yX9_fillAll cX9_fillAll 5 none 1 9 := ⟨⟨q_1179, q_11, by decide +kernel, by decide⟩, q_1178, (gs (n := 20) 47 (by decide +kernel)), by decide, rfl⟩
theorem cv_X9_dawns : CvV yX9_dawns cX9_dawns 3 none 0 9 := ⟨⟨q_1175, q_11, by decide +kernel, by decide⟩, q_1174, (gs (n := 20) 46 (by decide +kernel)), by decide, rfl⟩
theorem cv_X9_morning : CvV yX9_morning cX9_morning 4 (some .int) 0 9 := ⟨⟨q_1171, q_11, by decide +kernel, by decide⟩, q_1169, q_1170, by decide, rfl⟩
theorem cv_X9_shopOn : CvV yX9_shopOn cX9_shopOn 4 (some .int) 2 9 := ⟨⟨q_1209, q_11, by decide +kernel, by decide⟩, q_1208, (gs (n := 20) 53 (by decide +kernel)), by decide, rfl⟩
theorem cv_X9_visits : CvV yX9_visits cX9_visits 9 (some .int) 1 9 := ⟨⟨q_1205, q_11, by decide +kernel, by decide⟩, q_1204, (gs (n := 20) 52 (by decide +kernel)), by decide, rfl⟩
theorem cv_X9_visit : CvV yX9_visit cX9_visit 2 (some .int) 1 9 := ⟨⟨q_1201, q_11, by decide +kernel, by decide⟩, q_1199, q_1200, by decide, rfl⟩
theorem cv_X9_bitsOf : Cv yX9_bitsOf cX9_bitsOf 3 (some .int) 1 := ⟨q_1229, q_11, by decide +kernel, by decide⟩
theorem cv_X9_draw : CvV yX9_draw cX9_draw 1 (some .int) 0 9 := ⟨⟨q_1225, q_11, by decide +kernel, by decide⟩, q_1224, (gs (n := 20) 56 (by decide +kernel)), by decide, rfl⟩
theorem cv_X9_day : CvV yX9_day cX9_day 5 none 1 9 := ⟨⟨q_1221, q_11, by decide +kernel, by decide⟩, q_1220, (gs (n := 20) 55 (by decide +kernel)), by decide, rfl⟩
theorem cv_X9_go : CvV yX9_go cX9_go 3 none 1 9 := ⟨⟨q_1217, q_11, by decide +kernel, by decide⟩, q_1216, (gs (n := 20) 54 (by decide +kernel)), by decide, rfl⟩
theorem cv_X9_days : CvV yX9_days cX9_days 2 (some .int) 1 9 := ⟨⟨q_1213, q_11, by decide +kernel, by decide⟩, q_1211, q_1212, by decide, rfl⟩
theorem cv_X9_loose : CvV yX9_loose cX9_loose 3 (some .int) 1 9 := ⟨⟨q_1233, q_11, by decide +kernel, by decide⟩, q_1231, q_1232, by decide, rfl⟩
theorem cv_X9_seed : CvV yX9_seed cX9_seed 3 (some .int) 1 9 := ⟨⟨q_1237, q_11, by decide +kernel, by decide⟩, q_1235, q_1236, by decide, rfl⟩
theorem cv_X9_then : CvV yX9_then cX9_then 5 (some .int) 3 9 := ⟨⟨q_1241, q_11, by decide +kernel, by decide⟩, q_1239, q_1240, by decide, rfl⟩
theorem cv_X9_keep : CvV yX9_keep cX9_keep 8 (some .int) 3 9 := ⟨⟨q_1248, q_11, by decide +kernel, by decide⟩, q_1246, q_1247, by decide, rfl⟩
theorem cv_X9_purseBy : CvV yX9_purseBy cX9_purseBy 5 (some .int) 3 9 := ⟨⟨q_1256, q_11, by decide +kernel, by decide⟩, q_1255, (gs (n := 20) 57 (by decide +kernel)), by decide, rfl⟩
theorem cv_X9_range : CvV yX9_range cX9_range 7 (some .int) 2 9 := ⟨⟨q_1252, q_11, by decide +kernel, by decide⟩, q_1250, q_1251, by decide, rfl⟩
theorem cv_X9_turns : CvV yX9_turns cX9_turns 5 none 1 9 := ⟨⟨q_1264, q_11, by decide +kernel, by decide⟩, q_1263, (gs (n := 20) 58 (by decide +kernel)), by decide, rfl⟩
theorem cv_X9_turn : CvV yX9_turn cX9_turn 7 (some .int) 2 9 := ⟨⟨q_1260, q_11, by decide +kernel, by decide⟩, q_1258, q_1259, by decide, rfl⟩
theorem cv_X9_behindVisits : CvV yX9_behindVisits cX9_behindVisits 4 (some .int) 1 9 := ⟨⟨q_1272, q_11, by decide +kernel, by decide⟩, q_1271, (gs (n := 20) 59 (by decide +kernel)), by decide, rfl⟩
theorem cv_X9_out : CvV yX9_out cX9_out 4 (some .int) 2 9 := ⟨⟨q_1268, q_11, by decide +kernel, by decide⟩, q_1266, q_1267, by decide, rfl⟩
theorem cv_X9_joins : CvV yX9_joins cX9_joins 4 none 1 9 := ⟨⟨q_1280, q_11, by decide +kernel, by decide⟩, q_1279, (gs (n := 20) 60 (by decide +kernel)), by decide, rfl⟩
theorem cv_X9_joined_ : CvV yX9_joined_ cX9_joined_ 5 (some .int) 2 9 := ⟨⟨q_1276, q_11, by decide +kernel, by decide⟩, q_1274, q_1275, by decide, rfl⟩
theorem cv_X9_walk : CvV yX9_walk cX9_walk 4 (some .int) 1 9 := ⟨⟨q_1284, q_11, by decide +kernel, by decide⟩, q_1282, q_1283, by decide, rfl⟩
theorem cv_X9_begins : CvV yX9_begins cX9_begins 2 none 1 9 := ⟨⟨q_1300, q_11, by decide +kernel, by decide⟩, q_1299, (gs (n := 20) 63 (by decide +kernel)), by decide, rfl⟩
theorem cv_X9_above : Cv yX9_above cX9_above 1 (some .int) 1 := ⟨q_1303, q_11, by decide +kernel, by decide⟩
theorem cv_X9_kindNow : CvV yX9_kindNow cX9_kindNow 1 (some .int) 0 9 := ⟨⟨q_1292, q_11, by decide +kernel, by decide⟩, q_1291, (gs (n := 20) 61 (by decide +kernel)), by decide, rfl⟩
theorem cv_X9_mNow : CvV yX9_mNow cX9_mNow 1 (some .int) 0 9 := ⟨⟨q_1311, q_11, by decide +kernel, by decide⟩, q_1310, (gs (n := 20) 65 (by decide +kernel)), by decide, rfl⟩
theorem cv_X9_sellsBy : CvV yX9_sellsBy cX9_sellsBy 3 (some .int) 2 9 := ⟨⟨q_1296, q_11, by decide +kernel, by decide⟩, q_1295, (gs (n := 20) 62 (by decide +kernel)), by decide, rfl⟩
theorem cv_X9_fillsBy : CvV yX9_fillsBy cX9_fillsBy 3 (some .int) 2 9 := ⟨⟨q_1307, q_11, by decide +kernel, by decide⟩, q_1306, (gs (n := 20) 64 (by decide +kernel)), by decide, rfl⟩
theorem cv_X9_owesBy : CvV yX9_owesBy cX9_owesBy 3 (some .int) 2 9 := ⟨⟨q_1315, q_11, by decide +kernel, by decide⟩, q_1314, (gs (n := 20) 66 (by decide +kernel)), by decide, rfl⟩
theorem cv_X9_partsBy : CvV yX9_partsBy cX9_partsBy 5 (some .int) 2 9 := ⟨⟨q_1319, q_11, by decide +kernel, by decide⟩, q_1318, (gs (n := 20) 67 (by decide +kernel)), by decide, rfl⟩
theorem cv_X9_voice : CvV yX9_voice cX9_voice 6 (some .int) 3 9 := ⟨⟨q_1288, q_11, by decide +kernel, by decide⟩, q_1286, q_1287, by decide, rfl⟩
theorem cv_X9_body : CvV yX9_body cX9_body 2 (some .int) 1 9 := ⟨⟨q_1323, q_11, by decide +kernel, by decide⟩, q_1321, q_1322, by decide, rfl⟩
theorem cv_X9_isSheet : Cv yX9_isSheet cX9_isSheet 1 (some .boolean) 1 := ⟨q_1330, q_11, by decide +kernel, by decide⟩
theorem cv_X9_sheet : CvV yX9_sheet cX9_sheet 5 (some .int) 3 9 := ⟨⟨q_1327, q_11, by decide +kernel, by decide⟩, q_1325, q_1326, by decide, rfl⟩
theorem cv_X9_put : CvV yX9_put cX9_put 5 (some .int) 3 9 := ⟨⟨q_1334, q_11, by decide +kernel, by decide⟩, q_1332, q_1333, by decide, rfl⟩
theorem cv_X9_move : CvV yX9_move cX9_move 7 (some .int) 5 9 := ⟨⟨q_1338, q_11, by decide +kernel, by decide⟩, q_1336, q_1337, by decide, rfl⟩
theorem cv_X9_lacks : CvV yX9_lacks cX9_lacks 2 (some .int) 1 9 := ⟨⟨q_1346, q_11, by decide +kernel, by decide⟩, q_1345, (gs (n := 20) 68 (by decide +kernel)), by decide, rfl⟩
theorem cv_X9_customers : CvV yX9_customers cX9_customers 5 (some .int) 1 9 := ⟨⟨q_1342, q_11, by decide +kernel, by decide⟩, q_1340, q_1341, by decide, rfl⟩
theorem cv_X9_judge : CvV yX9_judge cX9_judge 7 (some .int) 1 9 := ⟨⟨q_1350, q_11, by decide +kernel, by decide⟩, q_1348, q_1349, by decide, rfl⟩
theorem cv_X9_leaves : CvV yX9_leaves cX9_leaves 6 (some .boolean) 3 9 := ⟨⟨q_1358, q_11, by decide +kernel, by decide⟩, q_1357, (gs (n := 20) 69 (by decide +kernel)), by decide, rfl⟩
theorem cv_X9_came : CvV yX9_came cX9_came 10 (some .int) 3 9 := ⟨⟨q_1354, q_11, by decide +kernel, by decide⟩, q_1352, q_1353, by decide, rfl⟩
theorem cv_X9_image : CvV yX9_image cX9_image 1 (some .int) 0 9 := ⟨⟨q_1362, q_11, by decide +kernel, by decide⟩, q_1360, q_1361, by decide, rfl⟩
theorem cv_X9_restore : CvV yX9_restore cX9_restore 1 (some .int) 0 9 := ⟨⟨q_1366, q_11, by decide +kernel, by decide⟩, q_1364, q_1365, by decide, rfl⟩
theorem cv_X9_tell : CvV yX9_tell cX9_tell 2 (some .int) 1 9 := ⟨⟨q_1370, q_11, by decide +kernel, by decide⟩, q_1368, q_1369, by decide, rfl⟩
theorem cv_X9_check : CvV yX9_check cX9_check 4 (some .int) 0 9 := ⟨⟨q_1374, q_11, by decide +kernel, by decide⟩, q_1372, q_1373, by decide, rfl⟩
theorem cv_X9_count : CvV yX9_count cX9_count 4 (some .int) 1 9 := ⟨⟨q_1378, q_11, by decide +kernel, by decide⟩, q_1376, q_1377, by decide, rfl⟩
theorem cv_X9_told : CvV yX9_told cX9_told 2 (some .int) 1 9 := ⟨⟨q_1382, q_11, by decide +kernel, by decide⟩, q_1380, q_1381, by decide, rfl⟩
