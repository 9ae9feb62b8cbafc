abbrev b_Mo_determinant : ByteArray := prog_11_method_21_code
def y_Mo_determinant : MethodName := ⟨R_Mo, "determinant", "(I)J"⟩
def ws_Mo_determinant : List Cond := .code y_Mo_determinant b_Mo_determinant 11 (some .long) :: lw_g
theorem wi_Mo_determinant : ∀ w ∈ ws_Mo_determinant, w ∈ lw_g := wi_of m_4_35
abbrev rm_Mo_determinant : Room := { frames := 0, cells := 0, slots := 0, locals := 0 }
theorem hd_Mo_determinant : y_Mo_determinant.cls = R_Mo ∧ y_Mo_determinant.cls ≠ "java/lang/invoke/MethodHandle" ∧ y_Mo_determinant.cls ≠ "java/lang/invoke/VarHandle" ∧ (parseMethodDescriptor y_Mo_determinant.desc).map (fun d => d.parameters.length) = some 1 := by decide +kernel
theorem d_Mo_determinant_0 : decode b_Mo_determinant 0 = .ok (.lconst 1, 1) := by decide +kernel
theorem d_Mo_determinant_1 : decode b_Mo_determinant 1 = .ok (.lstore_n 2, 1) := by decide +kernel
theorem d_Mo_determinant_2 : decode b_Mo_determinant 2 = .ok (.lconst 1, 1) := by decide +kernel
theorem d_Mo_determinant_3 : decode b_Mo_determinant 3 = .ok (.lstore 4, 2) := by decide +kernel
theorem d_Mo_determinant_5 : decode b_Mo_determinant 5 = .ok (.iconst 0, 1) := by decide +kernel
theorem d_Mo_determinant_6 : decode b_Mo_determinant 6 = .ok (.istore 6, 2) := by decide +kernel
theorem d_Mo_determinant_8 : decode b_Mo_determinant 8 = .ok (.iload 6, 2) := by decide +kernel
theorem d_Mo_determinant_10 : decode b_Mo_determinant 10 = .ok (.iload_n 1, 1) := by decide +kernel
theorem d_Mo_determinant_11 : decode b_Mo_determinant 11 = .ok (.if_icmp .ge 254, 3) := by decide +kernel
theorem d_Mo_determinant_14 : decode b_Mo_determinant 14 = .ok (.iload 6, 2) := by decide +kernel
theorem d_Mo_determinant_16 : decode b_Mo_determinant 16 = .ok (.istore 7, 2) := by decide +kernel
theorem d_Mo_determinant_18 : decode b_Mo_determinant 18 = .ok (.iload 7, 2) := by decide +kernel
theorem d_Mo_determinant_20 : decode b_Mo_determinant 20 = .ok (.iload_n 1, 1) := by decide +kernel
theorem d_Mo_determinant_21 : decode b_Mo_determinant 21 = .ok (.if_icmp .ge 27, 3) := by decide +kernel
theorem d_Mo_determinant_24 : decode b_Mo_determinant 24 = .ok (.aload_n 0, 1) := by decide +kernel
theorem d_Mo_determinant_25 : decode b_Mo_determinant 25 = .ok (.getfield 26, 3) := by decide +kernel
theorem d_Mo_determinant_28 : decode b_Mo_determinant 28 = .ok (.bipush 10, 2) := by decide +kernel
theorem d_Mo_determinant_30 : decode b_Mo_determinant 30 = .ok (.iload 7, 2) := by decide +kernel
theorem d_Mo_determinant_32 : decode b_Mo_determinant 32 = .ok (.imul, 1) := by decide +kernel
theorem d_Mo_determinant_33 : decode b_Mo_determinant 33 = .ok (.iload 6, 2) := by decide +kernel
theorem d_Mo_determinant_35 : decode b_Mo_determinant 35 = .ok (.iadd, 1) := by decide +kernel
theorem d_Mo_determinant_36 : decode b_Mo_determinant 36 = .ok (.laload, 1) := by decide +kernel
theorem d_Mo_determinant_37 : decode b_Mo_determinant 37 = .ok (.lconst 0, 1) := by decide +kernel
theorem d_Mo_determinant_38 : decode b_Mo_determinant 38 = .ok (.lcmp, 1) := by decide +kernel
theorem d_Mo_determinant_39 : decode b_Mo_determinant 39 = .ok (.ifCond .ne 9, 3) := by decide +kernel
theorem d_Mo_determinant_42 : decode b_Mo_determinant 42 = .ok (.iinc 7 1, 3) := by decide +kernel
theorem d_Mo_determinant_45 : decode b_Mo_determinant 45 = .ok (.goto (-27), 3) := by decide +kernel
theorem d_Mo_determinant_48 : decode b_Mo_determinant 48 = .ok (.iload 7, 2) := by decide +kernel
theorem d_Mo_determinant_50 : decode b_Mo_determinant 50 = .ok (.iload_n 1, 1) := by decide +kernel
theorem d_Mo_determinant_51 : decode b_Mo_determinant 51 = .ok (.if_icmp .ne 5, 3) := by decide +kernel
theorem d_Mo_determinant_54 : decode b_Mo_determinant 54 = .ok (.lconst 0, 1) := by decide +kernel
theorem d_Mo_determinant_55 : decode b_Mo_determinant 55 = .ok (.lreturn, 1) := by decide +kernel
theorem d_Mo_determinant_56 : decode b_Mo_determinant 56 = .ok (.iload 7, 2) := by decide +kernel
theorem d_Mo_determinant_58 : decode b_Mo_determinant 58 = .ok (.iload 6, 2) := by decide +kernel
theorem d_Mo_determinant_60 : decode b_Mo_determinant 60 = .ok (.if_icmp .eq 79, 3) := by decide +kernel
theorem d_Mo_determinant_63 : decode b_Mo_determinant 63 = .ok (.lload 4, 2) := by decide +kernel
theorem d_Mo_determinant_65 : decode b_Mo_determinant 65 = .ok (.lneg, 1) := by decide +kernel
theorem d_Mo_determinant_66 : decode b_Mo_determinant 66 = .ok (.lstore 4, 2) := by decide +kernel
theorem d_Mo_determinant_68 : decode b_Mo_determinant 68 = .ok (.iconst 0, 1) := by decide +kernel
theorem d_Mo_determinant_69 : decode b_Mo_determinant 69 = .ok (.istore 8, 2) := by decide +kernel
theorem d_Mo_determinant_71 : decode b_Mo_determinant 71 = .ok (.iload 8, 2) := by decide +kernel
theorem d_Mo_determinant_73 : decode b_Mo_determinant 73 = .ok (.iload_n 1, 1) := by decide +kernel
theorem d_Mo_determinant_74 : decode b_Mo_determinant 74 = .ok (.if_icmp .ge 65, 3) := by decide +kernel
theorem d_Mo_determinant_77 : decode b_Mo_determinant 77 = .ok (.aload_n 0, 1) := by decide +kernel
theorem d_Mo_determinant_78 : decode b_Mo_determinant 78 = .ok (.getfield 26, 3) := by decide +kernel
theorem d_Mo_determinant_81 : decode b_Mo_determinant 81 = .ok (.bipush 10, 2) := by decide +kernel
theorem d_Mo_determinant_83 : decode b_Mo_determinant 83 = .ok (.iload 7, 2) := by decide +kernel
theorem d_Mo_determinant_85 : decode b_Mo_determinant 85 = .ok (.imul, 1) := by decide +kernel
theorem d_Mo_determinant_86 : decode b_Mo_determinant 86 = .ok (.iload 8, 2) := by decide +kernel
theorem d_Mo_determinant_88 : decode b_Mo_determinant 88 = .ok (.iadd, 1) := by decide +kernel
theorem d_Mo_determinant_89 : decode b_Mo_determinant 89 = .ok (.laload, 1) := by decide +kernel
theorem d_Mo_determinant_90 : decode b_Mo_determinant 90 = .ok (.lstore 9, 2) := by decide +kernel
theorem d_Mo_determinant_92 : decode b_Mo_determinant 92 = .ok (.aload_n 0, 1) := by decide +kernel
theorem d_Mo_determinant_93 : decode b_Mo_determinant 93 = .ok (.getfield 26, 3) := by decide +kernel
theorem d_Mo_determinant_96 : decode b_Mo_determinant 96 = .ok (.bipush 10, 2) := by decide +kernel
theorem d_Mo_determinant_98 : decode b_Mo_determinant 98 = .ok (.iload 7, 2) := by decide +kernel
theorem d_Mo_determinant_100 : decode b_Mo_determinant 100 = .ok (.imul, 1) := by decide +kernel
theorem d_Mo_determinant_101 : decode b_Mo_determinant 101 = .ok (.iload 8, 2) := by decide +kernel
theorem d_Mo_determinant_103 : decode b_Mo_determinant 103 = .ok (.iadd, 1) := by decide +kernel
theorem d_Mo_determinant_104 : decode b_Mo_determinant 104 = .ok (.aload_n 0, 1) := by decide +kernel
theorem d_Mo_determinant_105 : decode b_Mo_determinant 105 = .ok (.getfield 26, 3) := by decide +kernel
theorem d_Mo_determinant_108 : decode b_Mo_determinant 108 = .ok (.bipush 10, 2) := by decide +kernel
theorem d_Mo_determinant_110 : decode b_Mo_determinant 110 = .ok (.iload 6, 2) := by decide +kernel
theorem d_Mo_determinant_112 : decode b_Mo_determinant 112 = .ok (.imul, 1) := by decide +kernel
theorem d_Mo_determinant_113 : decode b_Mo_determinant 113 = .ok (.iload 8, 2) := by decide +kernel
theorem d_Mo_determinant_115 : decode b_Mo_determinant 115 = .ok (.iadd, 1) := by decide +kernel
theorem d_Mo_determinant_116 : decode b_Mo_determinant 116 = .ok (.laload, 1) := by decide +kernel
theorem d_Mo_determinant_117 : decode b_Mo_determinant 117 = .ok (.lastore, 1) := by decide +kernel
theorem d_Mo_determinant_118 : decode b_Mo_determinant 118 = .ok (.aload_n 0, 1) := by decide +kernel
theorem d_Mo_determinant_119 : decode b_Mo_determinant 119 = .ok (.getfield 26, 3) := by decide +kernel
theorem d_Mo_determinant_122 : decode b_Mo_determinant 122 = .ok (.bipush 10, 2) := by decide +kernel
theorem d_Mo_determinant_124 : decode b_Mo_determinant 124 = .ok (.iload 6, 2) := by decide +kernel
theorem d_Mo_determinant_126 : decode b_Mo_determinant 126 = .ok (.imul, 1) := by decide +kernel
theorem d_Mo_determinant_127 : decode b_Mo_determinant 127 = .ok (.iload 8, 2) := by decide +kernel
theorem d_Mo_determinant_129 : decode b_Mo_determinant 129 = .ok (.iadd, 1) := by decide +kernel
theorem d_Mo_determinant_130 : decode b_Mo_determinant 130 = .ok (.lload 9, 2) := by decide +kernel
theorem d_Mo_determinant_132 : decode b_Mo_determinant 132 = .ok (.lastore, 1) := by decide +kernel
theorem d_Mo_determinant_133 : decode b_Mo_determinant 133 = .ok (.iinc 8 1, 3) := by decide +kernel
theorem d_Mo_determinant_136 : decode b_Mo_determinant 136 = .ok (.goto (-65), 3) := by decide +kernel
theorem d_Mo_determinant_139 : decode b_Mo_determinant 139 = .ok (.iload 6, 2) := by decide +kernel
theorem d_Mo_determinant_141 : decode b_Mo_determinant 141 = .ok (.iconst 1, 1) := by decide +kernel
theorem d_Mo_determinant_142 : decode b_Mo_determinant 142 = .ok (.iadd, 1) := by decide +kernel
theorem d_Mo_determinant_143 : decode b_Mo_determinant 143 = .ok (.istore 8, 2) := by decide +kernel
theorem d_Mo_determinant_145 : decode b_Mo_determinant 145 = .ok (.iload 8, 2) := by decide +kernel
theorem d_Mo_determinant_147 : decode b_Mo_determinant 147 = .ok (.iload_n 1, 1) := by decide +kernel
theorem d_Mo_determinant_148 : decode b_Mo_determinant 148 = .ok (.if_icmp .ge 97, 3) := by decide +kernel
theorem d_Mo_determinant_151 : decode b_Mo_determinant 151 = .ok (.iload 6, 2) := by decide +kernel
theorem d_Mo_determinant_153 : decode b_Mo_determinant 153 = .ok (.iconst 1, 1) := by decide +kernel
theorem d_Mo_determinant_154 : decode b_Mo_determinant 154 = .ok (.iadd, 1) := by decide +kernel
theorem d_Mo_determinant_155 : decode b_Mo_determinant 155 = .ok (.istore 9, 2) := by decide +kernel
theorem d_Mo_determinant_157 : decode b_Mo_determinant 157 = .ok (.iload 9, 2) := by decide +kernel
theorem d_Mo_determinant_159 : decode b_Mo_determinant 159 = .ok (.iload_n 1, 1) := by decide +kernel
theorem d_Mo_determinant_160 : decode b_Mo_determinant 160 = .ok (.if_icmp .ge 79, 3) := by decide +kernel
theorem d_Mo_determinant_163 : decode b_Mo_determinant 163 = .ok (.aload_n 0, 1) := by decide +kernel
theorem d_Mo_determinant_164 : decode b_Mo_determinant 164 = .ok (.getfield 26, 3) := by decide +kernel
theorem d_Mo_determinant_167 : decode b_Mo_determinant 167 = .ok (.bipush 10, 2) := by decide +kernel
theorem d_Mo_determinant_169 : decode b_Mo_determinant 169 = .ok (.iload 8, 2) := by decide +kernel
theorem d_Mo_determinant_171 : decode b_Mo_determinant 171 = .ok (.imul, 1) := by decide +kernel
theorem d_Mo_determinant_172 : decode b_Mo_determinant 172 = .ok (.iload 9, 2) := by decide +kernel
theorem d_Mo_determinant_174 : decode b_Mo_determinant 174 = .ok (.iadd, 1) := by decide +kernel
theorem d_Mo_determinant_175 : decode b_Mo_determinant 175 = .ok (.aload_n 0, 1) := by decide +kernel
theorem d_Mo_determinant_176 : decode b_Mo_determinant 176 = .ok (.getfield 26, 3) := by decide +kernel
theorem d_Mo_determinant_179 : decode b_Mo_determinant 179 = .ok (.bipush 10, 2) := by decide +kernel
theorem d_Mo_determinant_181 : decode b_Mo_determinant 181 = .ok (.iload 8, 2) := by decide +kernel
theorem d_Mo_determinant_183 : decode b_Mo_determinant 183 = .ok (.imul, 1) := by decide +kernel
theorem d_Mo_determinant_184 : decode b_Mo_determinant 184 = .ok (.iload 9, 2) := by decide +kernel
theorem d_Mo_determinant_186 : decode b_Mo_determinant 186 = .ok (.iadd, 1) := by decide +kernel
theorem d_Mo_determinant_187 : decode b_Mo_determinant 187 = .ok (.laload, 1) := by decide +kernel
theorem d_Mo_determinant_188 : decode b_Mo_determinant 188 = .ok (.aload_n 0, 1) := by decide +kernel
theorem d_Mo_determinant_189 : decode b_Mo_determinant 189 = .ok (.getfield 26, 3) := by decide +kernel
theorem d_Mo_determinant_192 : decode b_Mo_determinant 192 = .ok (.bipush 10, 2) := by decide +kernel
theorem d_Mo_determinant_194 : decode b_Mo_determinant 194 = .ok (.iload 6, 2) := by decide +kernel
theorem d_Mo_determinant_196 : decode b_Mo_determinant 196 = .ok (.imul, 1) := by decide +kernel
theorem d_Mo_determinant_197 : decode b_Mo_determinant 197 = .ok (.iload 6, 2) := by decide +kernel
theorem d_Mo_determinant_199 : decode b_Mo_determinant 199 = .ok (.iadd, 1) := by decide +kernel
theorem d_Mo_determinant_200 : decode b_Mo_determinant 200 = .ok (.laload, 1) := by decide +kernel
theorem d_Mo_determinant_201 : decode b_Mo_determinant 201 = .ok (.lmul, 1) := by decide +kernel
theorem d_Mo_determinant_202 : decode b_Mo_determinant 202 = .ok (.aload_n 0, 1) := by decide +kernel
theorem d_Mo_determinant_203 : decode b_Mo_determinant 203 = .ok (.getfield 26, 3) := by decide +kernel
theorem d_Mo_determinant_206 : decode b_Mo_determinant 206 = .ok (.bipush 10, 2) := by decide +kernel
theorem d_Mo_determinant_208 : decode b_Mo_determinant 208 = .ok (.iload 8, 2) := by decide +kernel
theorem d_Mo_determinant_210 : decode b_Mo_determinant 210 = .ok (.imul, 1) := by decide +kernel
theorem d_Mo_determinant_211 : decode b_Mo_determinant 211 = .ok (.iload 6, 2) := by decide +kernel
theorem d_Mo_determinant_213 : decode b_Mo_determinant 213 = .ok (.iadd, 1) := by decide +kernel
theorem d_Mo_determinant_214 : decode b_Mo_determinant 214 = .ok (.laload, 1) := by decide +kernel
theorem d_Mo_determinant_215 : decode b_Mo_determinant 215 = .ok (.aload_n 0, 1) := by decide +kernel
theorem d_Mo_determinant_216 : decode b_Mo_determinant 216 = .ok (.getfield 26, 3) := by decide +kernel
theorem d_Mo_determinant_219 : decode b_Mo_determinant 219 = .ok (.bipush 10, 2) := by decide +kernel
theorem d_Mo_determinant_221 : decode b_Mo_determinant 221 = .ok (.iload 6, 2) := by decide +kernel
theorem d_Mo_determinant_223 : decode b_Mo_determinant 223 = .ok (.imul, 1) := by decide +kernel
theorem d_Mo_determinant_224 : decode b_Mo_determinant 224 = .ok (.iload 9, 2) := by decide +kernel
theorem d_Mo_determinant_226 : decode b_Mo_determinant 226 = .ok (.iadd, 1) := by decide +kernel
theorem d_Mo_determinant_227 : decode b_Mo_determinant 227 = .ok (.laload, 1) := by decide +kernel
theorem d_Mo_determinant_228 : decode b_Mo_determinant 228 = .ok (.lmul, 1) := by decide +kernel
theorem d_Mo_determinant_229 : decode b_Mo_determinant 229 = .ok (.lsub, 1) := by decide +kernel
theorem d_Mo_determinant_230 : decode b_Mo_determinant 230 = .ok (.lload_n 2, 1) := by decide +kernel
theorem d_Mo_determinant_231 : decode b_Mo_determinant 231 = .ok (.ldiv, 1) := by decide +kernel
theorem d_Mo_determinant_232 : decode b_Mo_determinant 232 = .ok (.lastore, 1) := by decide +kernel
theorem d_Mo_determinant_233 : decode b_Mo_determinant 233 = .ok (.iinc 9 1, 3) := by decide +kernel
theorem d_Mo_determinant_236 : decode b_Mo_determinant 236 = .ok (.goto (-79), 3) := by decide +kernel
theorem d_Mo_determinant_239 : decode b_Mo_determinant 239 = .ok (.iinc 8 1, 3) := by decide +kernel
theorem d_Mo_determinant_242 : decode b_Mo_determinant 242 = .ok (.goto (-97), 3) := by decide +kernel
theorem d_Mo_determinant_245 : decode b_Mo_determinant 245 = .ok (.aload_n 0, 1) := by decide +kernel
theorem d_Mo_determinant_246 : decode b_Mo_determinant 246 = .ok (.getfield 26, 3) := by decide +kernel
theorem d_Mo_determinant_249 : decode b_Mo_determinant 249 = .ok (.bipush 10, 2) := by decide +kernel
theorem d_Mo_determinant_251 : decode b_Mo_determinant 251 = .ok (.iload 6, 2) := by decide +kernel
theorem d_Mo_determinant_253 : decode b_Mo_determinant 253 = .ok (.imul, 1) := by decide +kernel
theorem d_Mo_determinant_254 : decode b_Mo_determinant 254 = .ok (.iload 6, 2) := by decide +kernel
theorem d_Mo_determinant_256 : decode b_Mo_determinant 256 = .ok (.iadd, 1) := by decide +kernel
theorem d_Mo_determinant_257 : decode b_Mo_determinant 257 = .ok (.laload, 1) := by decide +kernel
theorem d_Mo_determinant_258 : decode b_Mo_determinant 258 = .ok (.lstore_n 2, 1) := by decide +kernel
theorem d_Mo_determinant_259 : decode b_Mo_determinant 259 = .ok (.iinc 6 1, 3) := by decide +kernel
theorem d_Mo_determinant_262 : decode b_Mo_determinant 262 = .ok (.goto (-254), 3) := by decide +kernel
theorem d_Mo_determinant_265 : decode b_Mo_determinant 265 = .ok (.lload 4, 2) := by decide +kernel
theorem d_Mo_determinant_267 : decode b_Mo_determinant 267 = .ok (.lload_n 2, 1) := by decide +kernel
theorem d_Mo_determinant_268 : decode b_Mo_determinant 268 = .ok (.lmul, 1) := by decide +kernel
theorem d_Mo_determinant_269 : decode b_Mo_determinant 269 = .ok (.lreturn, 1) := by decide +kernel
def g_Mo_determinant_157 (p1 : Int32) (k8 : Int64 → Int64 → Int32 → (Nat → Int64) → Option (Int64 × (Nat → Int64))) (k145 : Int64 → Int64 → Int32 → Int32 → (Nat → Int64) → Option (Int64 × (Nat → Int64))) (k157 : Int64 → Int64 → Int32 → Int32 → Int32 → (Nat → Int64) → Option (Int64 × (Nat → Int64))) (v2 : Int64) (v4 : Int64) (v6 : Int32) (v8 : Int32) (v9 : Int32) (t_matrix : Nat → Int64) : Option (Int64 × (Nat → Int64)) :=
  if p1 ≤ v9 then
    bn (v8 + (1 : Int32)) fun x1 =>
    k145 v2 v4 v6 x1 t_matrix
  else
    gd (inb (((10 : Int32) * v8) + v9) 100) <|
    gd (inb (((10 : Int32) * v6) + v6) 100) <|
    gd (inb (((10 : Int32) * v8) + v6) 100) <|
    gd (inb (((10 : Int32) * v6) + v9) 100) <|
    gd (nzL v2) <|
    gd (inb (((10 : Int32) * v8) + v9) 100) <|
    bn (v9 + (1 : Int32)) fun x2 =>
    k157 v2 v4 v6 v8 x2 (vp_updL t_matrix (((10 : Int32) * v8) + v9).toNatClampNeg ((((t_matrix (((10 : Int32) * v8) + v9).toNatClampNeg) * (t_matrix (((10 : Int32) * v6) + v6).toNatClampNeg)) - ((t_matrix (((10 : Int32) * v8) + v6).toNatClampNeg) * (t_matrix (((10 : Int32) * v6) + v9).toNatClampNeg))) / v2))
def g_Mo_determinant_145 (N : Nat) (p1 : Int32) (k8 : Int64 → Int64 → Int32 → (Nat → Int64) → Option (Int64 × (Nat → Int64))) (k145 : Int64 → Int64 → Int32 → Int32 → (Nat → Int64) → Option (Int64 × (Nat → Int64))) (v2 : Int64) (v4 : Int64) (v6 : Int32) (v8 : Int32) (t_matrix : Nat → Int64) : Option (Int64 × (Nat → Int64)) :=
  if p1 ≤ v8 then
    gd (inb (((10 : Int32) * v6) + v6) 100) <|
    bn (t_matrix (((10 : Int32) * v6) + v6).toNatClampNeg) fun x1 =>
    bn (v6 + (1 : Int32)) fun x2 =>
    k8 x1 v4 x2 t_matrix
  else
    bn (v6 + (1 : Int32)) fun x3 =>
    lo6 (g_Mo_determinant_157 p1 k8 k145) N v2 v4 v6 v8 x3 t_matrix
def g_Mo_determinant_71 (N : Nat) (p1 : Int32) (k8 : Int64 → Int64 → Int32 → (Nat → Int64) → Option (Int64 × (Nat → Int64))) (k71 : Int64 → Int64 → Int32 → Int32 → Int32 → (Nat → Int64) → Option (Int64 × (Nat → Int64))) (v2 : Int64) (v4 : Int64) (v6 : Int32) (v7 : Int32) (v8 : Int32) (t_matrix : Nat → Int64) : Option (Int64 × (Nat → Int64)) :=
  if p1 ≤ v8 then
    bn (v6 + (1 : Int32)) fun x1 =>
    lo5 (g_Mo_determinant_145 N p1 k8) N v2 v4 v6 x1 t_matrix
  else
    gd (inb (((10 : Int32) * v7) + v8) 100) <|
    bn (t_matrix (((10 : Int32) * v7) + v8).toNatClampNeg) fun x2 =>
    gd (inb (((10 : Int32) * v6) + v8) 100) <|
    gd (inb (((10 : Int32) * v7) + v8) 100) <|
    gd (inb (((10 : Int32) * v6) + v8) 100) <|
    bn (v8 + (1 : Int32)) fun x3 =>
    k71 v2 v4 v6 v7 x3 (vp_updL (vp_updL t_matrix (((10 : Int32) * v7) + v8).toNatClampNeg (t_matrix (((10 : Int32) * v6) + v8).toNatClampNeg)) (((10 : Int32) * v6) + v8).toNatClampNeg x2)
def g_Mo_determinant_48 (N : Nat) (p1 : Int32) (k8 : Int64 → Int64 → Int32 → (Nat → Int64) → Option (Int64 × (Nat → Int64))) (v2 : Int64) (v4 : Int64) (v6 : Int32) (v7 : Int32) (t_matrix : Nat → Int64) : Option (Int64 × (Nat → Int64)) :=
  if v7 = p1 then
    some ((0 : Int64), t_matrix)
  else
    if v7 = v6 then
      bn (v6 + (1 : Int32)) fun x1 =>
      lo5 (g_Mo_determinant_145 N p1 k8) N v2 v4 v6 x1 t_matrix
    else
      bn (-v4) fun x2 =>
      lo6 (g_Mo_determinant_71 N p1 k8) N v2 x2 v6 v7 (0 : Int32) t_matrix
def g_Mo_determinant_18 (N : Nat) (p1 : Int32) (k8 : Int64 → Int64 → Int32 → (Nat → Int64) → Option (Int64 × (Nat → Int64))) (k18 : Int64 → Int64 → Int32 → Int32 → (Nat → Int64) → Option (Int64 × (Nat → Int64))) (v2 : Int64) (v4 : Int64) (v6 : Int32) (v7 : Int32) (t_matrix : Nat → Int64) : Option (Int64 × (Nat → Int64)) :=
  if p1 ≤ v7 then
    g_Mo_determinant_48 N p1 k8 v2 v4 v6 v7 t_matrix
  else
    gd (inb (((10 : Int32) * v7) + v6) 100) <|
    if (lg_cmp (t_matrix (((10 : Int32) * v7) + v6).toNatClampNeg) (0 : Int64)) = 0 then
      bn (v7 + (1 : Int32)) fun x1 =>
      k18 v2 v4 v6 x1 t_matrix
    else
      g_Mo_determinant_48 N p1 k8 v2 v4 v6 v7 t_matrix
def g_Mo_determinant_8 (N : Nat) (p1 : Int32) (k8 : Int64 → Int64 → Int32 → (Nat → Int64) → Option (Int64 × (Nat → Int64))) (v2 : Int64) (v4 : Int64) (v6 : Int32) (t_matrix : Nat → Int64) : Option (Int64 × (Nat → Int64)) :=
  if p1 ≤ v6 then
    some (v4 * v2, t_matrix)
  else
    lo5 (g_Mo_determinant_18 N p1 k8) N v2 v4 v6 v6 t_matrix
def f_Mo_determinant (N : Nat) (p1 : Int32) (t_matrix0 : Nat → Int64) : Option (Int64 × (Nat → Int64)) :=
  lo4 (g_Mo_determinant_8 N p1) N (1 : Int64) (1 : Int64) (0 : Int32) t_matrix0
set_option maxRecDepth 100000 in
set_option maxHeartbeats 4000000 in
theorem w_Mo_determinant_157 {p : Program} {l : Launch} {e : Env} {R : Room} {s : State} {m : MethodId} {args : Array Value} {below : List Frame} {meth : Method} {c : Code} {D : va_G} {cI cJ cG cZ : ClassId} {A : Nat → Prop} {Q : State → Prop} {q_t q_t_froms q_t_tos q_t_weights q_t_there q_t_part q_t_matrix q_t_row q_t_low q_t_own q_t_chosen q_t_degrees q_t_fixed q_t_grown q_t_costs q_t_order : Nat} {t_nodes : Int32} {t_arcs : Int32} {t_left : Int32} {t_swapIn : Int32} {t_swapOut : Int32} {t_boundedSet : Int64} {t_joinedSet : Int64} {p1 : Int32} {RR : Int64 × (Nat → Int64)} (C0 : CX p R s m args meth c b_Mo_determinant 11 R_Mo lw_g D CL (TYs cI cJ cG cZ) A 0 0) (hret : ∀ (pc : Nat) (ls : Array Slot) (H : Heap) (locs : List Loc) (v : Int64) (t_matrix : Nat → Int64), decode b_Mo_determinant pc = .ok (.lreturn, 1) → va_P D CL [(q_t, .inr (8, [.int t_nodes, .int t_arcs, .int t_left, .ref q_t_froms, .ref q_t_tos, .ref q_t_weights, .ref q_t_there, .ref q_t_part, .ref q_t_matrix, .ref q_t_row, .ref q_t_low, .int t_swapIn, .int t_swapOut, .ref q_t_own, .ref q_t_chosen, .ref q_t_degrees, .long t_boundedSet, .ref q_t_fixed, .ref q_t_grown, .ref q_t_costs, .ref q_t_order, .long t_joinedSet])), (q_t_matrix, .inl (cJ, 100, .inr (.inl t_matrix)))] H → va_D A [(q_t, .inr (8, [.int t_nodes, .int t_arcs, .int t_left, .ref q_t_froms, .ref q_t_tos, .ref q_t_weights, .ref q_t_there, .ref q_t_part, .ref q_t_matrix, .ref q_t_row, .ref q_t_low, .int t_swapIn, .int t_swapOut, .ref q_t_own, .ref q_t_chosen, .ref q_t_degrees, .long t_boundedSet, .ref q_t_fixed, .ref q_t_grown, .ref q_t_costs, .ref q_t_order, .long t_joinedSet])), (q_t_matrix, .inl (cJ, 100, .inr (.inl t_matrix)))] → va_S A s.heap H locs → some (v, t_matrix) = some RR → W p l e R s m args below meth c H locs 0 0 Q (F0 m pc ls [.long v])) (k8 : Int64 → Int64 → Int32 → (Nat → Int64) → Option (Int64 × (Nat → Int64))) (hk8 : ∀ (v2 : Int64) (v4 : Int64) (v6 : Int32) (t_matrix : Nat → Int64) (H : Heap) (locs : List Loc) (ls : Array Slot), va_P D CL [(q_t, .inr (8, [.int t_nodes, .int t_arcs, .int t_left, .ref q_t_froms, .ref q_t_tos, .ref q_t_weights, .ref q_t_there, .ref q_t_part, .ref q_t_matrix, .ref q_t_row, .ref q_t_low, .int t_swapIn, .int t_swapOut, .ref q_t_own, .ref q_t_chosen, .ref q_t_degrees, .long t_boundedSet, .ref q_t_fixed, .ref q_t_grown, .ref q_t_costs, .ref q_t_order, .long t_joinedSet])), (q_t_matrix, .inl (cJ, 100, .inr (.inl t_matrix)))] H → va_D A [(q_t, .inr (8, [.int t_nodes, .int t_arcs, .int t_left, .ref q_t_froms, .ref q_t_tos, .ref q_t_weights, .ref q_t_there, .ref q_t_part, .ref q_t_matrix, .ref q_t_row, .ref q_t_low, .int t_swapIn, .int t_swapOut, .ref q_t_own, .ref q_t_chosen, .ref q_t_degrees, .long t_boundedSet, .ref q_t_fixed, .ref q_t_grown, .ref q_t_costs, .ref q_t_order, .long t_joinedSet])), (q_t_matrix, .inl (cJ, 100, .inr (.inl t_matrix)))] → va_S A s.heap H locs → lv_has ls 11 [(0, .ref q_t), (1, .int p1), (2, .long v2), (4, .long v4), (6, .int v6)] → k8 v2 v4 v6 t_matrix = some RR → W p l e R s m args below meth c H locs 0 0 Q (F0 m 8 ls [])) (k145 : Int64 → Int64 → Int32 → Int32 → (Nat → Int64) → Option (Int64 × (Nat → Int64))) (hk145 : ∀ (v2 : Int64) (v4 : Int64) (v6 : Int32) (v8 : Int32) (t_matrix : Nat → Int64) (H : Heap) (locs : List Loc) (ls : Array Slot), va_P D CL [(q_t, .inr (8, [.int t_nodes, .int t_arcs, .int t_left, .ref q_t_froms, .ref q_t_tos, .ref q_t_weights, .ref q_t_there, .ref q_t_part, .ref q_t_matrix, .ref q_t_row, .ref q_t_low, .int t_swapIn, .int t_swapOut, .ref q_t_own, .ref q_t_chosen, .ref q_t_degrees, .long t_boundedSet, .ref q_t_fixed, .ref q_t_grown, .ref q_t_costs, .ref q_t_order, .long t_joinedSet])), (q_t_matrix, .inl (cJ, 100, .inr (.inl t_matrix)))] H → va_D A [(q_t, .inr (8, [.int t_nodes, .int t_arcs, .int t_left, .ref q_t_froms, .ref q_t_tos, .ref q_t_weights, .ref q_t_there, .ref q_t_part, .ref q_t_matrix, .ref q_t_row, .ref q_t_low, .int t_swapIn, .int t_swapOut, .ref q_t_own, .ref q_t_chosen, .ref q_t_degrees, .long t_boundedSet, .ref q_t_fixed, .ref q_t_grown, .ref q_t_costs, .ref q_t_order, .long t_joinedSet])), (q_t_matrix, .inl (cJ, 100, .inr (.inl t_matrix)))] → va_S A s.heap H locs → lv_has ls 11 [(0, .ref q_t), (1, .int p1), (2, .long v2), (4, .long v4), (6, .int v6), (8, .int v8)] → k145 v2 v4 v6 v8 t_matrix = some RR → W p l e R s m args below meth c H locs 0 0 Q (F0 m 145 ls [])) (k157 : Int64 → Int64 → Int32 → Int32 → Int32 → (Nat → Int64) → Option (Int64 × (Nat → Int64))) (hk157 : ∀ (v2 : Int64) (v4 : Int64) (v6 : Int32) (v8 : Int32) (v9 : Int32) (t_matrix : Nat → Int64) (H : Heap) (locs : List Loc) (ls : Array Slot), va_P D CL [(q_t, .inr (8, [.int t_nodes, .int t_arcs, .int t_left, .ref q_t_froms, .ref q_t_tos, .ref q_t_weights, .ref q_t_there, .ref q_t_part, .ref q_t_matrix, .ref q_t_row, .ref q_t_low, .int t_swapIn, .int t_swapOut, .ref q_t_own, .ref q_t_chosen, .ref q_t_degrees, .long t_boundedSet, .ref q_t_fixed, .ref q_t_grown, .ref q_t_costs, .ref q_t_order, .long t_joinedSet])), (q_t_matrix, .inl (cJ, 100, .inr (.inl t_matrix)))] H → va_D A [(q_t, .inr (8, [.int t_nodes, .int t_arcs, .int t_left, .ref q_t_froms, .ref q_t_tos, .ref q_t_weights, .ref q_t_there, .ref q_t_part, .ref q_t_matrix, .ref q_t_row, .ref q_t_low, .int t_swapIn, .int t_swapOut, .ref q_t_own, .ref q_t_chosen, .ref q_t_degrees, .long t_boundedSet, .ref q_t_fixed, .ref q_t_grown, .ref q_t_costs, .ref q_t_order, .long t_joinedSet])), (q_t_matrix, .inl (cJ, 100, .inr (.inl t_matrix)))] → va_S A s.heap H locs → lv_has ls 11 [(0, .ref q_t), (1, .int p1), (2, .long v2), (4, .long v4), (6, .int v6), (8, .int v8), (9, .int v9)] → k157 v2 v4 v6 v8 v9 t_matrix = some RR → W p l e R s m args below meth c H locs 0 0 Q (F0 m 157 ls [])) : ∀ (v2 : Int64) (v4 : Int64) (v6 : Int32) (v8 : Int32) (v9 : Int32) (t_matrix : Nat → Int64) (H : Heap) (locs : List Loc) (ls : Array Slot), va_P D CL [(q_t, .inr (8, [.int t_nodes, .int t_arcs, .int t_left, .ref q_t_froms, .ref q_t_tos, .ref q_t_weights, .ref q_t_there, .ref q_t_part, .ref q_t_matrix, .ref q_t_row, .ref q_t_low, .int t_swapIn, .int t_swapOut, .ref q_t_own, .ref q_t_chosen, .ref q_t_degrees, .long t_boundedSet, .ref q_t_fixed, .ref q_t_grown, .ref q_t_costs, .ref q_t_order, .long t_joinedSet])), (q_t_matrix, .inl (cJ, 100, .inr (.inl t_matrix)))] H → va_D A [(q_t, .inr (8, [.int t_nodes, .int t_arcs, .int t_left, .ref q_t_froms, .ref q_t_tos, .ref q_t_weights, .ref q_t_there, .ref q_t_part, .ref q_t_matrix, .ref q_t_row, .ref q_t_low, .int t_swapIn, .int t_swapOut, .ref q_t_own, .ref q_t_chosen, .ref q_t_degrees, .long t_boundedSet, .ref q_t_fixed, .ref q_t_grown, .ref q_t_costs, .ref q_t_order, .long t_joinedSet])), (q_t_matrix, .inl (cJ, 100, .inr (.inl t_matrix)))] → va_S A s.heap H locs → lv_has ls 11 [(0, .ref q_t), (1, .int p1), (2, .long v2), (4, .long v4), (6, .int v6), (8, .int v8), (9, .int v9)] → g_Mo_determinant_157 p1 k8 k145 k157 v2 v4 v6 v8 v9 t_matrix = some RR → W p l e R s m args below meth c H locs 0 0 Q (F0 m 157 ls []) := by
  intro v2 v4 v6 v8 v9 t_matrix H locs ls hP hD hS hl hf
  obtain ⟨hx, hb, hml, hown, hts, hK, hA, hfr, hlo, hlk⟩ := id C0
  unfold g_Mo_determinant_157 at hf
  refine lv_iload hx hb d_Mo_determinant_157 (lv_at hl 6 rfl) ?_
  refine lv_iload_n hx hb d_Mo_determinant_159 rfl (lv_at hl 1 rfl) ?_
  refine lv_icmp_ge (tgt := 239) hx hb d_Mo_determinant_160 (by decide) (fun hc1 => ?_) (fun hc1 => ?_)
  · have hf := if_t hc1 hf
    obtain ⟨x1, ex1⟩ : ∃ y : Int32, y = v8 + (1 : Int32) := ⟨_, rfl⟩
    have hf := bn_e ex1 hf
    refine lv_iinc (v := x1) (lv' := [(8, .int x1), (0, .ref q_t), (1, .int p1), (2, .long v2), (4, .long v4), (6, .int v6), (9, .int v9)]) hx hb d_Mo_determinant_239 hl (k := 5) rfl (by rw [ex1]; rfl) (by decide) rfl (fun ls hl => ?_)
    refine lv_goto (tgt := 145) hx hb d_Mo_determinant_242 (by decide) ?_
    exact hk145 v2 v4 v6 x1 t_matrix _ _ _ hP hD hS (lv_sub hl [1, 2, 3, 4, 5, 0] rfl) hf
  · have hf := if_f hc1 hf
    refine lv_aload_n hx hb d_Mo_determinant_163 rfl (lv_at hl 0 rfl) ?_
    refine va_get (D := D) (ci := 8) (v := .ref q_t_matrix) (C := R_Mo) (T := F_Mo) (N := 22) hx hb hts i_Mo hown hK hP 0 rfl rfl 8 (by decide) (hts _ m_3_136) (fun _ h9 => h9) rfl d_Mo_determinant_164 ?_
    refine lv_bipush (v := 10) hx hb d_Mo_determinant_167 (by decide) ?_
    refine lv_iload hx hb d_Mo_determinant_169 (lv_at hl 5 rfl) ?_
    refine lv_imul hx hb d_Mo_determinant_171 ?_
    refine lv_iload hx hb d_Mo_determinant_172 (lv_at hl 6 rfl) ?_
    refine lv_iadd hx hb d_Mo_determinant_174 ?_
    refine lv_aload_n hx hb d_Mo_determinant_175 rfl (lv_at hl 0 rfl) ?_
    refine va_get (D := D) (ci := 8) (v := .ref q_t_matrix) (C := R_Mo) (T := F_Mo) (N := 22) hx hb hts i_Mo hown hK hP 0 rfl rfl 8 (by decide) (hts _ m_3_136) (fun _ h9 => h9) rfl d_Mo_determinant_176 ?_
    refine lv_bipush (v := 10) hx hb d_Mo_determinant_179 (by decide) ?_
    refine lv_iload hx hb d_Mo_determinant_181 (lv_at hl 5 rfl) ?_
    refine lv_imul hx hb d_Mo_determinant_183 ?_
    refine lv_iload hx hb d_Mo_determinant_184 (lv_at hl 6 rfl) ?_
    refine lv_iadd hx hb d_Mo_determinant_186 ?_
    obtain ⟨hg1, hf⟩ := gd_e hf
    refine va_lald hx hb hK hP 1 1 rfl rfl (inb_e hg1) d_Mo_determinant_187 ?_
    refine lv_aload_n hx hb d_Mo_determinant_188 rfl (lv_at hl 0 rfl) ?_
    refine va_get (D := D) (ci := 8) (v := .ref q_t_matrix) (C := R_Mo) (T := F_Mo) (N := 22) hx hb hts i_Mo hown hK hP 0 rfl rfl 8 (by decide) (hts _ m_3_136) (fun _ h9 => h9) rfl d_Mo_determinant_189 ?_
    refine lv_bipush (v := 10) hx hb d_Mo_determinant_192 (by decide) ?_
    refine lv_iload hx hb d_Mo_determinant_194 (lv_at hl 4 rfl) ?_
    refine lv_imul hx hb d_Mo_determinant_196 ?_
    refine lv_iload hx hb d_Mo_determinant_197 (lv_at hl 4 rfl) ?_
    refine lv_iadd hx hb d_Mo_determinant_199 ?_
    obtain ⟨hg2, hf⟩ := gd_e hf
    refine va_lald hx hb hK hP 1 1 rfl rfl (inb_e hg2) d_Mo_determinant_200 ?_
    refine lv_lmul hx hb d_Mo_determinant_201 ?_
    refine lv_aload_n hx hb d_Mo_determinant_202 rfl (lv_at hl 0 rfl) ?_
    refine va_get (D := D) (ci := 8) (v := .ref q_t_matrix) (C := R_Mo) (T := F_Mo) (N := 22) hx hb hts i_Mo hown hK hP 0 rfl rfl 8 (by decide) (hts _ m_3_136) (fun _ h9 => h9) rfl d_Mo_determinant_203 ?_
    refine lv_bipush (v := 10) hx hb d_Mo_determinant_206 (by decide) ?_
    refine lv_iload hx hb d_Mo_determinant_208 (lv_at hl 5 rfl) ?_
    refine lv_imul hx hb d_Mo_determinant_210 ?_
    refine lv_iload hx hb d_Mo_determinant_211 (lv_at hl 4 rfl) ?_
    refine lv_iadd hx hb d_Mo_determinant_213 ?_
    obtain ⟨hg3, hf⟩ := gd_e hf
    refine va_lald hx hb hK hP 1 1 rfl rfl (inb_e hg3) d_Mo_determinant_214 ?_
    refine lv_aload_n hx hb d_Mo_determinant_215 rfl (lv_at hl 0 rfl) ?_
    refine va_get (D := D) (ci := 8) (v := .ref q_t_matrix) (C := R_Mo) (T := F_Mo) (N := 22) hx hb hts i_Mo hown hK hP 0 rfl rfl 8 (by decide) (hts _ m_3_136) (fun _ h9 => h9) rfl d_Mo_determinant_216 ?_
    refine lv_bipush (v := 10) hx hb d_Mo_determinant_219 (by decide) ?_
    refine lv_iload hx hb d_Mo_determinant_221 (lv_at hl 4 rfl) ?_
    refine lv_imul hx hb d_Mo_determinant_223 ?_
    refine lv_iload hx hb d_Mo_determinant_224 (lv_at hl 6 rfl) ?_
    refine lv_iadd hx hb d_Mo_determinant_226 ?_
    obtain ⟨hg4, hf⟩ := gd_e hf
    refine va_lald hx hb hK hP 1 1 rfl rfl (inb_e hg4) d_Mo_determinant_227 ?_
    refine lv_lmul hx hb d_Mo_determinant_228 ?_
    refine lv_lsub hx hb d_Mo_determinant_229 ?_
    refine lv_lload_n hx hb d_Mo_determinant_230 rfl (lv_at hl 2 rfl) ?_
    obtain ⟨hg5, hf⟩ := gd_e hf
    refine lv_ldiv hx hb d_Mo_determinant_231 (nz_eL hg5) ?_
    obtain ⟨hg6, hf⟩ := gd_e hf
    refine va_last hx hb hK hP hD hS 1 1 rfl rfl (inb_e hg6) d_Mo_determinant_232 (fun H locs hP hD hS => ?_)
    have hP : va_P D CL [(q_t, .inr (8, [.int t_nodes, .int t_arcs, .int t_left, .ref q_t_froms, .ref q_t_tos, .ref q_t_weights, .ref q_t_there, .ref q_t_part, .ref q_t_matrix, .ref q_t_row, .ref q_t_low, .int t_swapIn, .int t_swapOut, .ref q_t_own, .ref q_t_chosen, .ref q_t_degrees, .long t_boundedSet, .ref q_t_fixed, .ref q_t_grown, .ref q_t_costs, .ref q_t_order, .long t_joinedSet])), (q_t_matrix, .inl (cJ, 100, .inr (.inl (vp_updL t_matrix (((10 : Int32) * v8) + v9).toNatClampNeg ((((t_matrix (((10 : Int32) * v8) + v9).toNatClampNeg) * (t_matrix (((10 : Int32) * v6) + v6).toNatClampNeg)) - ((t_matrix (((10 : Int32) * v8) + v6).toNatClampNeg) * (t_matrix (((10 : Int32) * v6) + v9).toNatClampNeg))) / v2)))))] H := hP
    have hD : va_D A [(q_t, .inr (8, [.int t_nodes, .int t_arcs, .int t_left, .ref q_t_froms, .ref q_t_tos, .ref q_t_weights, .ref q_t_there, .ref q_t_part, .ref q_t_matrix, .ref q_t_row, .ref q_t_low, .int t_swapIn, .int t_swapOut, .ref q_t_own, .ref q_t_chosen, .ref q_t_degrees, .long t_boundedSet, .ref q_t_fixed, .ref q_t_grown, .ref q_t_costs, .ref q_t_order, .long t_joinedSet])), (q_t_matrix, .inl (cJ, 100, .inr (.inl (vp_updL t_matrix (((10 : Int32) * v8) + v9).toNatClampNeg ((((t_matrix (((10 : Int32) * v8) + v9).toNatClampNeg) * (t_matrix (((10 : Int32) * v6) + v6).toNatClampNeg)) - ((t_matrix (((10 : Int32) * v8) + v6).toNatClampNeg) * (t_matrix (((10 : Int32) * v6) + v9).toNatClampNeg))) / v2)))))] := hD
    obtain ⟨x2, ex2⟩ : ∃ y : Int32, y = v9 + (1 : Int32) := ⟨_, rfl⟩
    have hf := bn_e ex2 hf
    refine lv_iinc (v := x2) (lv' := [(9, .int x2), (0, .ref q_t), (1, .int p1), (2, .long v2), (4, .long v4), (6, .int v6), (8, .int v8)]) hx hb d_Mo_determinant_233 hl (k := 6) rfl (by rw [ex2]; rfl) (by decide) rfl (fun ls hl => ?_)
    refine lv_goto (tgt := 157) hx hb d_Mo_determinant_236 (by decide) ?_
    exact hk157 v2 v4 v6 v8 x2 (vp_updL t_matrix (((10 : Int32) * v8) + v9).toNatClampNeg ((((t_matrix (((10 : Int32) * v8) + v9).toNatClampNeg) * (t_matrix (((10 : Int32) * v6) + v6).toNatClampNeg)) - ((t_matrix (((10 : Int32) * v8) + v6).toNatClampNeg) * (t_matrix (((10 : Int32) * v6) + v9).toNatClampNeg))) / v2)) _ _ _ hP hD hS (lv_sub hl [1, 2, 3, 4, 5, 6, 0] rfl) hf
set_option maxRecDepth 100000 in
set_option maxHeartbeats 4000000 in
theorem w_Mo_determinant_157_l {p : Program} {l : Launch} {e : Env} {R : Room} {s : State} {m : MethodId} {args : Array Value} {below : List Frame} {meth : Method} {c : Code} {D : va_G} {cI cJ cG cZ : ClassId} {A : Nat → Prop} {Q : State → Prop} {q_t q_t_froms q_t_tos q_t_weights q_t_there q_t_part q_t_matrix q_t_row q_t_low q_t_own q_t_chosen q_t_degrees q_t_fixed q_t_grown q_t_costs q_t_order : Nat} {t_nodes : Int32} {t_arcs : Int32} {t_left : Int32} {t_swapIn : Int32} {t_swapOut : Int32} {t_boundedSet : Int64} {t_joinedSet : Int64} {p1 : Int32} {RR : Int64 × (Nat → Int64)} (C0 : CX p R s m args meth c b_Mo_determinant 11 R_Mo lw_g D CL (TYs cI cJ cG cZ) A 0 0) (hret : ∀ (pc : Nat) (ls : Array Slot) (H : Heap) (locs : List Loc) (v : Int64) (t_matrix : Nat → Int64), decode b_Mo_determinant pc = .ok (.lreturn, 1) → va_P D CL [(q_t, .inr (8, [.int t_nodes, .int t_arcs, .int t_left, .ref q_t_froms, .ref q_t_tos, .ref q_t_weights, .ref q_t_there, .ref q_t_part, .ref q_t_matrix, .ref q_t_row, .ref q_t_low, .int t_swapIn, .int t_swapOut, .ref q_t_own, .ref q_t_chosen, .ref q_t_degrees, .long t_boundedSet, .ref q_t_fixed, .ref q_t_grown, .ref q_t_costs, .ref q_t_order, .long t_joinedSet])), (q_t_matrix, .inl (cJ, 100, .inr (.inl t_matrix)))] H → va_D A [(q_t, .inr (8, [.int t_nodes, .int t_arcs, .int t_left, .ref q_t_froms, .ref q_t_tos, .ref q_t_weights, .ref q_t_there, .ref q_t_part, .ref q_t_matrix, .ref q_t_row, .ref q_t_low, .int t_swapIn, .int t_swapOut, .ref q_t_own, .ref q_t_chosen, .ref q_t_degrees, .long t_boundedSet, .ref q_t_fixed, .ref q_t_grown, .ref q_t_costs, .ref q_t_order, .long t_joinedSet])), (q_t_matrix, .inl (cJ, 100, .inr (.inl t_matrix)))] → va_S A s.heap H locs → some (v, t_matrix) = some RR → W p l e R s m args below meth c H locs 0 0 Q (F0 m pc ls [.long v])) (k8 : Int64 → Int64 → Int32 → (Nat → Int64) → Option (Int64 × (Nat → Int64))) (hk8 : ∀ (v2 : Int64) (v4 : Int64) (v6 : Int32) (t_matrix : Nat → Int64) (H : Heap) (locs : List Loc) (ls : Array Slot), va_P D CL [(q_t, .inr (8, [.int t_nodes, .int t_arcs, .int t_left, .ref q_t_froms, .ref q_t_tos, .ref q_t_weights, .ref q_t_there, .ref q_t_part, .ref q_t_matrix, .ref q_t_row, .ref q_t_low, .int t_swapIn, .int t_swapOut, .ref q_t_own, .ref q_t_chosen, .ref q_t_degrees, .long t_boundedSet, .ref q_t_fixed, .ref q_t_grown, .ref q_t_costs, .ref q_t_order, .long t_joinedSet])), (q_t_matrix, .inl (cJ, 100, .inr (.inl t_matrix)))] H → va_D A [(q_t, .inr (8, [.int t_nodes, .int t_arcs, .int t_left, .ref q_t_froms, .ref q_t_tos, .ref q_t_weights, .ref q_t_there, .ref q_t_part, .ref q_t_matrix, .ref q_t_row, .ref q_t_low, .int t_swapIn, .int t_swapOut, .ref q_t_own, .ref q_t_chosen, .ref q_t_degrees, .long t_boundedSet, .ref q_t_fixed, .ref q_t_grown, .ref q_t_costs, .ref q_t_order, .long t_joinedSet])), (q_t_matrix, .inl (cJ, 100, .inr (.inl t_matrix)))] → va_S A s.heap H locs → lv_has ls 11 [(0, .ref q_t), (1, .int p1), (2, .long v2), (4, .long v4), (6, .int v6)] → k8 v2 v4 v6 t_matrix = some RR → W p l e R s m args below meth c H locs 0 0 Q (F0 m 8 ls [])) (k145 : Int64 → Int64 → Int32 → Int32 → (Nat → Int64) → Option (Int64 × (Nat → Int64))) (hk145 : ∀ (v2 : Int64) (v4 : Int64) (v6 : Int32) (v8 : Int32) (t_matrix : Nat → Int64) (H : Heap) (locs : List Loc) (ls : Array Slot), va_P D CL [(q_t, .inr (8, [.int t_nodes, .int t_arcs, .int t_left, .ref q_t_froms, .ref q_t_tos, .ref q_t_weights, .ref q_t_there, .ref q_t_part, .ref q_t_matrix, .ref q_t_row, .ref q_t_low, .int t_swapIn, .int t_swapOut, .ref q_t_own, .ref q_t_chosen, .ref q_t_degrees, .long t_boundedSet, .ref q_t_fixed, .ref q_t_grown, .ref q_t_costs, .ref q_t_order, .long t_joinedSet])), (q_t_matrix, .inl (cJ, 100, .inr (.inl t_matrix)))] H → va_D A [(q_t, .inr (8, [.int t_nodes, .int t_arcs, .int t_left, .ref q_t_froms, .ref q_t_tos, .ref q_t_weights, .ref q_t_there, .ref q_t_part, .ref q_t_matrix, .ref q_t_row, .ref q_t_low, .int t_swapIn, .int t_swapOut, .ref q_t_own, .ref q_t_chosen, .ref q_t_degrees, .long t_boundedSet, .ref q_t_fixed, .ref q_t_grown, .ref q_t_costs, .ref q_t_order, .long t_joinedSet])), (q_t_matrix, .inl (cJ, 100, .inr (.inl t_matrix)))] → va_S A s.heap H locs → lv_has ls 11 [(0, .ref q_t), (1, .int p1), (2, .long v2), (4, .long v4), (6, .int v6), (8, .int v8)] → k145 v2 v4 v6 v8 t_matrix = some RR → W p l e R s m args below meth c H locs 0 0 Q (F0 m 145 ls [])) : ∀ (n : Nat) (v2 : Int64) (v4 : Int64) (v6 : Int32) (v8 : Int32) (v9 : Int32) (t_matrix : Nat → Int64) (H : Heap) (locs : List Loc) (ls : Array Slot), va_P D CL [(q_t, .inr (8, [.int t_nodes, .int t_arcs, .int t_left, .ref q_t_froms, .ref q_t_tos, .ref q_t_weights, .ref q_t_there, .ref q_t_part, .ref q_t_matrix, .ref q_t_row, .ref q_t_low, .int t_swapIn, .int t_swapOut, .ref q_t_own, .ref q_t_chosen, .ref q_t_degrees, .long t_boundedSet, .ref q_t_fixed, .ref q_t_grown, .ref q_t_costs, .ref q_t_order, .long t_joinedSet])), (q_t_matrix, .inl (cJ, 100, .inr (.inl t_matrix)))] H → va_D A [(q_t, .inr (8, [.int t_nodes, .int t_arcs, .int t_left, .ref q_t_froms, .ref q_t_tos, .ref q_t_weights, .ref q_t_there, .ref q_t_part, .ref q_t_matrix, .ref q_t_row, .ref q_t_low, .int t_swapIn, .int t_swapOut, .ref q_t_own, .ref q_t_chosen, .ref q_t_degrees, .long t_boundedSet, .ref q_t_fixed, .ref q_t_grown, .ref q_t_costs, .ref q_t_order, .long t_joinedSet])), (q_t_matrix, .inl (cJ, 100, .inr (.inl t_matrix)))] → va_S A s.heap H locs → lv_has ls 11 [(0, .ref q_t), (1, .int p1), (2, .long v2), (4, .long v4), (6, .int v6), (8, .int v8), (9, .int v9)] → lo6 (g_Mo_determinant_157 p1 k8 k145) n v2 v4 v6 v8 v9 t_matrix = some RR → W p l e R s m args below meth c H locs 0 0 Q (F0 m 157 ls []) := by
  intro n
  induction n with
  | zero =>
    intro v2 v4 v6 v8 v9 t_matrix H locs ls hP hD hS hl hf
    exact absurd hf (by simp [lo6])
  | succ n ih =>
    intro v2 v4 v6 v8 v9 t_matrix H locs ls hP hD hS hl hf
    exact w_Mo_determinant_157 C0 hret k8 hk8 k145 hk145 (lo6 (g_Mo_determinant_157 p1 k8 k145) n) ih v2 v4 v6 v8 v9 t_matrix H locs ls hP hD hS hl hf
set_option maxRecDepth 100000 in
set_option maxHeartbeats 4000000 in
theorem w_Mo_determinant_145 {p : Program} {l : Launch} {e : Env} {R : Room} {s : State} {m : MethodId} {args : Array Value} {below : List Frame} {meth : Method} {c : Code} {D : va_G} {cI cJ cG cZ : ClassId} {A : Nat → Prop} {Q : State → Prop} {q_t q_t_froms q_t_tos q_t_weights q_t_there q_t_part q_t_matrix q_t_row q_t_low q_t_own q_t_chosen q_t_degrees q_t_fixed q_t_grown q_t_costs q_t_order : Nat} {t_nodes : Int32} {t_arcs : Int32} {t_left : Int32} {t_swapIn : Int32} {t_swapOut : Int32} {t_boundedSet : Int64} {t_joinedSet : Int64} {p1 : Int32} {N : Nat} {RR : Int64 × (Nat → Int64)} (C0 : CX p R s m args meth c b_Mo_determinant 11 R_Mo lw_g D CL (TYs cI cJ cG cZ) A 0 0) (hret : ∀ (pc : Nat) (ls : Array Slot) (H : Heap) (locs : List Loc) (v : Int64) (t_matrix : Nat → Int64), decode b_Mo_determinant pc = .ok (.lreturn, 1) → va_P D CL [(q_t, .inr (8, [.int t_nodes, .int t_arcs, .int t_left, .ref q_t_froms, .ref q_t_tos, .ref q_t_weights, .ref q_t_there, .ref q_t_part, .ref q_t_matrix, .ref q_t_row, .ref q_t_low, .int t_swapIn, .int t_swapOut, .ref q_t_own, .ref q_t_chosen, .ref q_t_degrees, .long t_boundedSet, .ref q_t_fixed, .ref q_t_grown, .ref q_t_costs, .ref q_t_order, .long t_joinedSet])), (q_t_matrix, .inl (cJ, 100, .inr (.inl t_matrix)))] H → va_D A [(q_t, .inr (8, [.int t_nodes, .int t_arcs, .int t_left, .ref q_t_froms, .ref q_t_tos, .ref q_t_weights, .ref q_t_there, .ref q_t_part, .ref q_t_matrix, .ref q_t_row, .ref q_t_low, .int t_swapIn, .int t_swapOut, .ref q_t_own, .ref q_t_chosen, .ref q_t_degrees, .long t_boundedSet, .ref q_t_fixed, .ref q_t_grown, .ref q_t_costs, .ref q_t_order, .long t_joinedSet])), (q_t_matrix, .inl (cJ, 100, .inr (.inl t_matrix)))] → va_S A s.heap H locs → some (v, t_matrix) = some RR → W p l e R s m args below meth c H locs 0 0 Q (F0 m pc ls [.long v])) (k8 : Int64 → Int64 → Int32 → (Nat → Int64) → Option (Int64 × (Nat → Int64))) (hk8 : ∀ (v2 : Int64) (v4 : Int64) (v6 : Int32) (t_matrix : Nat → Int64) (H : Heap) (locs : List Loc) (ls : Array Slot), va_P D CL [(q_t, .inr (8, [.int t_nodes, .int t_arcs, .int t_left, .ref q_t_froms, .ref q_t_tos, .ref q_t_weights, .ref q_t_there, .ref q_t_part, .ref q_t_matrix, .ref q_t_row, .ref q_t_low, .int t_swapIn, .int t_swapOut, .ref q_t_own, .ref q_t_chosen, .ref q_t_degrees, .long t_boundedSet, .ref q_t_fixed, .ref q_t_grown, .ref q_t_costs, .ref q_t_order, .long t_joinedSet])), (q_t_matrix, .inl (cJ, 100, .inr (.inl t_matrix)))] H → va_D A [(q_t, .inr (8, [.int t_nodes, .int t_arcs, .int t_left, .ref q_t_froms, .ref q_t_tos, .ref q_t_weights, .ref q_t_there, .ref q_t_part, .ref q_t_matrix, .ref q_t_row, .ref q_t_low, .int t_swapIn, .int t_swapOut, .ref q_t_own, .ref q_t_chosen, .ref q_t_degrees, .long t_boundedSet, .ref q_t_fixed, .ref q_t_grown, .ref q_t_costs, .ref q_t_order, .long t_joinedSet])), (q_t_matrix, .inl (cJ, 100, .inr (.inl t_matrix)))] → va_S A s.heap H locs → lv_has ls 11 [(0, .ref q_t), (1, .int p1), (2, .long v2), (4, .long v4), (6, .int v6)] → k8 v2 v4 v6 t_matrix = some RR → W p l e R s m args below meth c H locs 0 0 Q (F0 m 8 ls [])) (k145 : Int64 → Int64 → Int32 → Int32 → (Nat → Int64) → Option (Int64 × (Nat → Int64))) (hk145 : ∀ (v2 : Int64) (v4 : Int64) (v6 : Int32) (v8 : Int32) (t_matrix : Nat → Int64) (H : Heap) (locs : List Loc) (ls : Array Slot), va_P D CL [(q_t, .inr (8, [.int t_nodes, .int t_arcs, .int t_left, .ref q_t_froms, .ref q_t_tos, .ref q_t_weights, .ref q_t_there, .ref q_t_part, .ref q_t_matrix, .ref q_t_row, .ref q_t_low, .int t_swapIn, .int t_swapOut, .ref q_t_own, .ref q_t_chosen, .ref q_t_degrees, .long t_boundedSet, .ref q_t_fixed, .ref q_t_grown, .ref q_t_costs, .ref q_t_order, .long t_joinedSet])), (q_t_matrix, .inl (cJ, 100, .inr (.inl t_matrix)))] H → va_D A [(q_t, .inr (8, [.int t_nodes, .int t_arcs, .int t_left, .ref q_t_froms, .ref q_t_tos, .ref q_t_weights, .ref q_t_there, .ref q_t_part, .ref q_t_matrix, .ref q_t_row, .ref q_t_low, .int t_swapIn, .int t_swapOut, .ref q_t_own, .ref q_t_chosen, .ref q_t_degrees, .long t_boundedSet, .ref q_t_fixed, .ref q_t_grown, .ref q_t_costs, .ref q_t_order, .long t_joinedSet])), (q_t_matrix, .inl (cJ, 100, .inr (.inl t_matrix)))] → va_S A s.heap H locs → lv_has ls 11 [(0, .ref q_t), (1, .int p1), (2, .long v2), (4, .long v4), (6, .int v6), (8, .int v8)] → k145 v2 v4 v6 v8 t_matrix = some RR → W p l e R s m args below meth c H locs 0 0 Q (F0 m 145 ls [])) : ∀ (v2 : Int64) (v4 : Int64) (v6 : Int32) (v8 : Int32) (t_matrix : Nat → Int64) (H : Heap) (locs : List Loc) (ls : Array Slot), va_P D CL [(q_t, .inr (8, [.int t_nodes, .int t_arcs, .int t_left, .ref q_t_froms, .ref q_t_tos, .ref q_t_weights, .ref q_t_there, .ref q_t_part, .ref q_t_matrix, .ref q_t_row, .ref q_t_low, .int t_swapIn, .int t_swapOut, .ref q_t_own, .ref q_t_chosen, .ref q_t_degrees, .long t_boundedSet, .ref q_t_fixed, .ref q_t_grown, .ref q_t_costs, .ref q_t_order, .long t_joinedSet])), (q_t_matrix, .inl (cJ, 100, .inr (.inl t_matrix)))] H → va_D A [(q_t, .inr (8, [.int t_nodes, .int t_arcs, .int t_left, .ref q_t_froms, .ref q_t_tos, .ref q_t_weights, .ref q_t_there, .ref q_t_part, .ref q_t_matrix, .ref q_t_row, .ref q_t_low, .int t_swapIn, .int t_swapOut, .ref q_t_own, .ref q_t_chosen, .ref q_t_degrees, .long t_boundedSet, .ref q_t_fixed, .ref q_t_grown, .ref q_t_costs, .ref q_t_order, .long t_joinedSet])), (q_t_matrix, .inl (cJ, 100, .inr (.inl t_matrix)))] → va_S A s.heap H locs → lv_has ls 11 [(0, .ref q_t), (1, .int p1), (2, .long v2), (4, .long v4), (6, .int v6), (8, .int v8)] → g_Mo_determinant_145 N p1 k8 k145 v2 v4 v6 v8 t_matrix = some RR → W p l e R s m args below meth c H locs 0 0 Q (F0 m 145 ls []) := by
  intro v2 v4 v6 v8 t_matrix H locs ls hP hD hS hl hf
  obtain ⟨hx, hb, hml, hown, hts, hK, hA, hfr, hlo, hlk⟩ := id C0
  unfold g_Mo_determinant_145 at hf
  refine lv_iload hx hb d_Mo_determinant_145 (lv_at hl 5 rfl) ?_
  refine lv_iload_n hx hb d_Mo_determinant_147 rfl (lv_at hl 1 rfl) ?_
  refine lv_icmp_ge (tgt := 245) hx hb d_Mo_determinant_148 (by decide) (fun hc1 => ?_) (fun hc1 => ?_)
  · have hf := if_t hc1 hf
    refine lv_aload_n hx hb d_Mo_determinant_245 rfl (lv_at hl 0 rfl) ?_
    refine va_get (D := D) (ci := 8) (v := .ref q_t_matrix) (C := R_Mo) (T := F_Mo) (N := 22) hx hb hts i_Mo hown hK hP 0 rfl rfl 8 (by decide) (hts _ m_3_136) (fun _ h9 => h9) rfl d_Mo_determinant_246 ?_
    refine lv_bipush (v := 10) hx hb d_Mo_determinant_249 (by decide) ?_
    refine lv_iload hx hb d_Mo_determinant_251 (lv_at hl 4 rfl) ?_
    refine lv_imul hx hb d_Mo_determinant_253 ?_
    refine lv_iload hx hb d_Mo_determinant_254 (lv_at hl 4 rfl) ?_
    refine lv_iadd hx hb d_Mo_determinant_256 ?_
    obtain ⟨hg1, hf⟩ := gd_e hf
    refine va_lald hx hb hK hP 1 1 rfl rfl (inb_e hg1) d_Mo_determinant_257 ?_
    refine lv_topl (fun x1 ex1 => ?_)
    have hf := bn_e ex1 hf
    refine lv_lstore_n (lv' := [(2, .long x1), (0, .ref q_t), (1, .int p1), (4, .long v4), (6, .int v6), (8, .int v8)]) hx hb d_Mo_determinant_258 rfl hl (by decide) rfl (fun ls hl => ?_)
    obtain ⟨x2, ex2⟩ : ∃ y : Int32, y = v6 + (1 : Int32) := ⟨_, rfl⟩
    have hf := bn_e ex2 hf
    refine lv_iinc (v := x2) (lv' := [(6, .int x2), (2, .long x1), (0, .ref q_t), (1, .int p1), (4, .long v4), (8, .int v8)]) hx hb d_Mo_determinant_259 hl (k := 4) rfl (by rw [ex2]; rfl) (by decide) rfl (fun ls hl => ?_)
    refine lv_goto (tgt := 8) hx hb d_Mo_determinant_262 (by decide) ?_
    exact hk8 x1 v4 x2 t_matrix _ _ _ hP hD hS (lv_sub hl [2, 3, 1, 4, 0] rfl) hf
  · have hf := if_f hc1 hf
    refine lv_iload hx hb d_Mo_determinant_151 (lv_at hl 4 rfl) ?_
    refine lv_iconst (v := 1) hx hb d_Mo_determinant_153 (by decide) ?_
    refine lv_iadd hx hb d_Mo_determinant_154 ?_
    refine lv_topi (fun x3 ex3 => ?_)
    have hf := bn_e ex3 hf
    refine lv_istore (lv' := [(9, .int x3), (0, .ref q_t), (1, .int p1), (2, .long v2), (4, .long v4), (6, .int v6), (8, .int v8)]) hx hb d_Mo_determinant_155 hl (by decide) rfl (fun ls hl => ?_)
    exact w_Mo_determinant_157_l C0 hret k8 hk8 k145 hk145 N v2 v4 v6 v8 x3 t_matrix _ _ _ hP hD hS (lv_sub hl [1, 2, 3, 4, 5, 6, 0] rfl) hf
set_option maxRecDepth 100000 in
set_option maxHeartbeats 4000000 in
theorem w_Mo_determinant_145_l {p : Program} {l : Launch} {e : Env} {R : Room} {s : State} {m : MethodId} {args : Array Value} {below : List Frame} {meth : Method} {c : Code} {D : va_G} {cI cJ cG cZ : ClassId} {A : Nat → Prop} {Q : State → Prop} {q_t q_t_froms q_t_tos q_t_weights q_t_there q_t_part q_t_matrix q_t_row q_t_low q_t_own q_t_chosen q_t_degrees q_t_fixed q_t_grown q_t_costs q_t_order : Nat} {t_nodes : Int32} {t_arcs : Int32} {t_left : Int32} {t_swapIn : Int32} {t_swapOut : Int32} {t_boundedSet : Int64} {t_joinedSet : Int64} {p1 : Int32} {N : Nat} {RR : Int64 × (Nat → Int64)} (C0 : CX p R s m args meth c b_Mo_determinant 11 R_Mo lw_g D CL (TYs cI cJ cG cZ) A 0 0) (hret : ∀ (pc : Nat) (ls : Array Slot) (H : Heap) (locs : List Loc) (v : Int64) (t_matrix : Nat → Int64), decode b_Mo_determinant pc = .ok (.lreturn, 1) → va_P D CL [(q_t, .inr (8, [.int t_nodes, .int t_arcs, .int t_left, .ref q_t_froms, .ref q_t_tos, .ref q_t_weights, .ref q_t_there, .ref q_t_part, .ref q_t_matrix, .ref q_t_row, .ref q_t_low, .int t_swapIn, .int t_swapOut, .ref q_t_own, .ref q_t_chosen, .ref q_t_degrees, .long t_boundedSet, .ref q_t_fixed, .ref q_t_grown, .ref q_t_costs, .ref q_t_order, .long t_joinedSet])), (q_t_matrix, .inl (cJ, 100, .inr (.inl t_matrix)))] H → va_D A [(q_t, .inr (8, [.int t_nodes, .int t_arcs, .int t_left, .ref q_t_froms, .ref q_t_tos, .ref q_t_weights, .ref q_t_there, .ref q_t_part, .ref q_t_matrix, .ref q_t_row, .ref q_t_low, .int t_swapIn, .int t_swapOut, .ref q_t_own, .ref q_t_chosen, .ref q_t_degrees, .long t_boundedSet, .ref q_t_fixed, .ref q_t_grown, .ref q_t_costs, .ref q_t_order, .long t_joinedSet])), (q_t_matrix, .inl (cJ, 100, .inr (.inl t_matrix)))] → va_S A s.heap H locs → some (v, t_matrix) = some RR → W p l e R s m args below meth c H locs 0 0 Q (F0 m pc ls [.long v])) (k8 : Int64 → Int64 → Int32 → (Nat → Int64) → Option (Int64 × (Nat → Int64))) (hk8 : ∀ (v2 : Int64) (v4 : Int64) (v6 : Int32) (t_matrix : Nat → Int64) (H : Heap) (locs : List Loc) (ls : Array Slot), va_P D CL [(q_t, .inr (8, [.int t_nodes, .int t_arcs, .int t_left, .ref q_t_froms, .ref q_t_tos, .ref q_t_weights, .ref q_t_there, .ref q_t_part, .ref q_t_matrix, .ref q_t_row, .ref q_t_low, .int t_swapIn, .int t_swapOut, .ref q_t_own, .ref q_t_chosen, .ref q_t_degrees, .long t_boundedSet, .ref q_t_fixed, .ref q_t_grown, .ref q_t_costs, .ref q_t_order, .long t_joinedSet])), (q_t_matrix, .inl (cJ, 100, .inr (.inl t_matrix)))] H → va_D A [(q_t, .inr (8, [.int t_nodes, .int t_arcs, .int t_left, .ref q_t_froms, .ref q_t_tos, .ref q_t_weights, .ref q_t_there, .ref q_t_part, .ref q_t_matrix, .ref q_t_row, .ref q_t_low, .int t_swapIn, .int t_swapOut, .ref q_t_own, .ref q_t_chosen, .ref q_t_degrees, .long t_boundedSet, .ref q_t_fixed, .ref q_t_grown, .ref q_t_costs, .ref q_t_order, .long t_joinedSet])), (q_t_matrix, .inl (cJ, 100, .inr (.inl t_matrix)))] → va_S A s.heap H locs → lv_has ls 11 [(0, .ref q_t), (1, .int p1), (2, .long v2), (4, .long v4), (6, .int v6)] → k8 v2 v4 v6 t_matrix = some RR → W p l e R s m args below meth c H locs 0 0 Q (F0 m 8 ls [])) : ∀ (n : Nat) (v2 : Int64) (v4 : Int64) (v6 : Int32) (v8 : Int32) (t_matrix : Nat → Int64) (H : Heap) (locs : List Loc) (ls : Array Slot), va_P D CL [(q_t, .inr (8, [.int t_nodes, .int t_arcs, .int t_left, .ref q_t_froms, .ref q_t_tos, .ref q_t_weights, .ref q_t_there, .ref q_t_part, .ref q_t_matrix, .ref q_t_row, .ref q_t_low, .int t_swapIn, .int t_swapOut, .ref q_t_own, .ref q_t_chosen, .ref q_t_degrees, .long t_boundedSet, .ref q_t_fixed, .ref q_t_grown, .ref q_t_costs, .ref q_t_order, .long t_joinedSet])), (q_t_matrix, .inl (cJ, 100, .inr (.inl t_matrix)))] H → va_D A [(q_t, .inr (8, [.int t_nodes, .int t_arcs, .int t_left, .ref q_t_froms, .ref q_t_tos, .ref q_t_weights, .ref q_t_there, .ref q_t_part, .ref q_t_matrix, .ref q_t_row, .ref q_t_low, .int t_swapIn, .int t_swapOut, .ref q_t_own, .ref q_t_chosen, .ref q_t_degrees, .long t_boundedSet, .ref q_t_fixed, .ref q_t_grown, .ref q_t_costs, .ref q_t_order, .long t_joinedSet])), (q_t_matrix, .inl (cJ, 100, .inr (.inl t_matrix)))] → va_S A s.heap H locs → lv_has ls 11 [(0, .ref q_t), (1, .int p1), (2, .long v2), (4, .long v4), (6, .int v6), (8, .int v8)] → lo5 (g_Mo_determinant_145 N p1 k8) n v2 v4 v6 v8 t_matrix = some RR → W p l e R s m args below meth c H locs 0 0 Q (F0 m 145 ls []) := by
  intro n
  induction n with
  | zero =>
    intro v2 v4 v6 v8 t_matrix H locs ls hP hD hS hl hf
    exact absurd hf (by simp [lo5])
  | succ n ih =>
    intro v2 v4 v6 v8 t_matrix H locs ls hP hD hS hl hf
    exact w_Mo_determinant_145 C0 hret k8 hk8 (lo5 (g_Mo_determinant_145 N p1 k8) n) ih v2 v4 v6 v8 t_matrix H locs ls hP hD hS hl hf
set_option maxRecDepth 100000 in
set_option maxHeartbeats 4000000 in
theorem w_Mo_determinant_71 {p : Program} {l : Launch} {e : Env} {R : Room} {s : State} {m : MethodId} {args : Array Value} {below : List Frame} {meth : Method} {c : Code} {D : va_G} {cI cJ cG cZ : ClassId} {A : Nat → Prop} {Q : State → Prop} {q_t q_t_froms q_t_tos q_t_weights q_t_there q_t_part q_t_matrix q_t_row q_t_low q_t_own q_t_chosen q_t_degrees q_t_fixed q_t_grown q_t_costs q_t_order : Nat} {t_nodes : Int32} {t_arcs : Int32} {t_left : Int32} {t_swapIn : Int32} {t_swapOut : Int32} {t_boundedSet : Int64} {t_joinedSet : Int64} {p1 : Int32} {N : Nat} {RR : Int64 × (Nat → Int64)} (C0 : CX p R s m args meth c b_Mo_determinant 11 R_Mo lw_g D CL (TYs cI cJ cG cZ) A 0 0) (hret : ∀ (pc : Nat) (ls : Array Slot) (H : Heap) (locs : List Loc) (v : Int64) (t_matrix : Nat → Int64), decode b_Mo_determinant pc = .ok (.lreturn, 1) → va_P D CL [(q_t, .inr (8, [.int t_nodes, .int t_arcs, .int t_left, .ref q_t_froms, .ref q_t_tos, .ref q_t_weights, .ref q_t_there, .ref q_t_part, .ref q_t_matrix, .ref q_t_row, .ref q_t_low, .int t_swapIn, .int t_swapOut, .ref q_t_own, .ref q_t_chosen, .ref q_t_degrees, .long t_boundedSet, .ref q_t_fixed, .ref q_t_grown, .ref q_t_costs, .ref q_t_order, .long t_joinedSet])), (q_t_matrix, .inl (cJ, 100, .inr (.inl t_matrix)))] H → va_D A [(q_t, .inr (8, [.int t_nodes, .int t_arcs, .int t_left, .ref q_t_froms, .ref q_t_tos, .ref q_t_weights, .ref q_t_there, .ref q_t_part, .ref q_t_matrix, .ref q_t_row, .ref q_t_low, .int t_swapIn, .int t_swapOut, .ref q_t_own, .ref q_t_chosen, .ref q_t_degrees, .long t_boundedSet, .ref q_t_fixed, .ref q_t_grown, .ref q_t_costs, .ref q_t_order, .long t_joinedSet])), (q_t_matrix, .inl (cJ, 100, .inr (.inl t_matrix)))] → va_S A s.heap H locs → some (v, t_matrix) = some RR → W p l e R s m args below meth c H locs 0 0 Q (F0 m pc ls [.long v])) (k8 : Int64 → Int64 → Int32 → (Nat → Int64) → Option (Int64 × (Nat → Int64))) (hk8 : ∀ (v2 : Int64) (v4 : Int64) (v6 : Int32) (t_matrix : Nat → Int64) (H : Heap) (locs : List Loc) (ls : Array Slot), va_P D CL [(q_t, .inr (8, [.int t_nodes, .int t_arcs, .int t_left, .ref q_t_froms, .ref q_t_tos, .ref q_t_weights, .ref q_t_there, .ref q_t_part, .ref q_t_matrix, .ref q_t_row, .ref q_t_low, .int t_swapIn, .int t_swapOut, .ref q_t_own, .ref q_t_chosen, .ref q_t_degrees, .long t_boundedSet, .ref q_t_fixed, .ref q_t_grown, .ref q_t_costs, .ref q_t_order, .long t_joinedSet])), (q_t_matrix, .inl (cJ, 100, .inr (.inl t_matrix)))] H → va_D A [(q_t, .inr (8, [.int t_nodes, .int t_arcs, .int t_left, .ref q_t_froms, .ref q_t_tos, .ref q_t_weights, .ref q_t_there, .ref q_t_part, .ref q_t_matrix, .ref q_t_row, .ref q_t_low, .int t_swapIn, .int t_swapOut, .ref q_t_own, .ref q_t_chosen, .ref q_t_degrees, .long t_boundedSet, .ref q_t_fixed, .ref q_t_grown, .ref q_t_costs, .ref q_t_order, .long t_joinedSet])), (q_t_matrix, .inl (cJ, 100, .inr (.inl t_matrix)))] → va_S A s.heap H locs → lv_has ls 11 [(0, .ref q_t), (1, .int p1), (2, .long v2), (4, .long v4), (6, .int v6)] → k8 v2 v4 v6 t_matrix = some RR → W p l e R s m args below meth c H locs 0 0 Q (F0 m 8 ls [])) (k71 : Int64 → Int64 → Int32 → Int32 → Int32 → (Nat → Int64) → Option (Int64 × (Nat → Int64))) (hk71 : ∀ (v2 : Int64) (v4 : Int64) (v6 : Int32) (v7 : Int32) (v8 : Int32) (t_matrix : Nat → Int64) (H : Heap) (locs : List Loc) (ls : Array Slot), va_P D CL [(q_t, .inr (8, [.int t_nodes, .int t_arcs, .int t_left, .ref q_t_froms, .ref q_t_tos, .ref q_t_weights, .ref q_t_there, .ref q_t_part, .ref q_t_matrix, .ref q_t_row, .ref q_t_low, .int t_swapIn, .int t_swapOut, .ref q_t_own, .ref q_t_chosen, .ref q_t_degrees, .long t_boundedSet, .ref q_t_fixed, .ref q_t_grown, .ref q_t_costs, .ref q_t_order, .long t_joinedSet])), (q_t_matrix, .inl (cJ, 100, .inr (.inl t_matrix)))] H → va_D A [(q_t, .inr (8, [.int t_nodes, .int t_arcs, .int t_left, .ref q_t_froms, .ref q_t_tos, .ref q_t_weights, .ref q_t_there, .ref q_t_part, .ref q_t_matrix, .ref q_t_row, .ref q_t_low, .int t_swapIn, .int t_swapOut, .ref q_t_own, .ref q_t_chosen, .ref q_t_degrees, .long t_boundedSet, .ref q_t_fixed, .ref q_t_grown, .ref q_t_costs, .ref q_t_order, .long t_joinedSet])), (q_t_matrix, .inl (cJ, 100, .inr (.inl t_matrix)))] → va_S A s.heap H locs → lv_has ls 11 [(0, .ref q_t), (1, .int p1), (2, .long v2), (4, .long v4), (6, .int v6), (7, .int v7), (8, .int v8)] → k71 v2 v4 v6 v7 v8 t_matrix = some RR → W p l e R s m args below meth c H locs 0 0 Q (F0 m 71 ls [])) : ∀ (v2 : Int64) (v4 : Int64) (v6 : Int32) (v7 : Int32) (v8 : Int32) (t_matrix : Nat → Int64) (H : Heap) (locs : List Loc) (ls : Array Slot), va_P D CL [(q_t, .inr (8, [.int t_nodes, .int t_arcs, .int t_left, .ref q_t_froms, .ref q_t_tos, .ref q_t_weights, .ref q_t_there, .ref q_t_part, .ref q_t_matrix, .ref q_t_row, .ref q_t_low, .int t_swapIn, .int t_swapOut, .ref q_t_own, .ref q_t_chosen, .ref q_t_degrees, .long t_boundedSet, .ref q_t_fixed, .ref q_t_grown, .ref q_t_costs, .ref q_t_order, .long t_joinedSet])), (q_t_matrix, .inl (cJ, 100, .inr (.inl t_matrix)))] H → va_D A [(q_t, .inr (8, [.int t_nodes, .int t_arcs, .int t_left, .ref q_t_froms, .ref q_t_tos, .ref q_t_weights, .ref q_t_there, .ref q_t_part, .ref q_t_matrix, .ref q_t_row, .ref q_t_low, .int t_swapIn, .int t_swapOut, .ref q_t_own, .ref q_t_chosen, .ref q_t_degrees, .long t_boundedSet, .ref q_t_fixed, .ref q_t_grown, .ref q_t_costs, .ref q_t_order, .long t_joinedSet])), (q_t_matrix, .inl (cJ, 100, .inr (.inl t_matrix)))] → va_S A s.heap H locs → lv_has ls 11 [(0, .ref q_t), (1, .int p1), (2, .long v2), (4, .long v4), (6, .int v6), (7, .int v7), (8, .int v8)] → g_Mo_determinant_71 N p1 k8 k71 v2 v4 v6 v7 v8 t_matrix = some RR → W p l e R s m args below meth c H locs 0 0 Q (F0 m 71 ls []) := by
  intro v2 v4 v6 v7 v8 t_matrix H locs ls hP hD hS hl hf
  obtain ⟨hx, hb, hml, hown, hts, hK, hA, hfr, hlo, hlk⟩ := id C0
  unfold g_Mo_determinant_71 at hf
  refine lv_iload hx hb d_Mo_determinant_71 (lv_at hl 6 rfl) ?_
  refine lv_iload_n hx hb d_Mo_determinant_73 rfl (lv_at hl 1 rfl) ?_
  refine lv_icmp_ge (tgt := 139) hx hb d_Mo_determinant_74 (by decide) (fun hc1 => ?_) (fun hc1 => ?_)
  · have hf := if_t hc1 hf
    refine lv_iload hx hb d_Mo_determinant_139 (lv_at hl 4 rfl) ?_
    refine lv_iconst (v := 1) hx hb d_Mo_determinant_141 (by decide) ?_
    refine lv_iadd hx hb d_Mo_determinant_142 ?_
    refine lv_topi (fun x1 ex1 => ?_)
    have hf := bn_e ex1 hf
    refine lv_istore (lv' := [(8, .int x1), (0, .ref q_t), (1, .int p1), (2, .long v2), (4, .long v4), (6, .int v6), (7, .int v7)]) hx hb d_Mo_determinant_143 hl (by decide) rfl (fun ls hl => ?_)
    exact w_Mo_determinant_145_l C0 hret k8 hk8 N v2 v4 v6 x1 t_matrix _ _ _ hP hD hS (lv_sub hl [1, 2, 3, 4, 5, 0] rfl) hf
  · have hf := if_f hc1 hf
    refine lv_aload_n hx hb d_Mo_determinant_77 rfl (lv_at hl 0 rfl) ?_
    refine va_get (D := D) (ci := 8) (v := .ref q_t_matrix) (C := R_Mo) (T := F_Mo) (N := 22) hx hb hts i_Mo hown hK hP 0 rfl rfl 8 (by decide) (hts _ m_3_136) (fun _ h9 => h9) rfl d_Mo_determinant_78 ?_
    refine lv_bipush (v := 10) hx hb d_Mo_determinant_81 (by decide) ?_
    refine lv_iload hx hb d_Mo_determinant_83 (lv_at hl 5 rfl) ?_
    refine lv_imul hx hb d_Mo_determinant_85 ?_
    refine lv_iload hx hb d_Mo_determinant_86 (lv_at hl 6 rfl) ?_
    refine lv_iadd hx hb d_Mo_determinant_88 ?_
    obtain ⟨hg1, hf⟩ := gd_e hf
    refine va_lald hx hb hK hP 1 1 rfl rfl (inb_e hg1) d_Mo_determinant_89 ?_
    refine lv_topl (fun x2 ex2 => ?_)
    have hf := bn_e ex2 hf
    refine lv_lstore (lv' := [(9, .long x2), (0, .ref q_t), (1, .int p1), (2, .long v2), (4, .long v4), (6, .int v6), (7, .int v7), (8, .int v8)]) hx hb d_Mo_determinant_90 hl (by decide) rfl (fun ls hl => ?_)
    refine lv_aload_n hx hb d_Mo_determinant_92 rfl (lv_at hl 1 rfl) ?_
    refine va_get (D := D) (ci := 8) (v := .ref q_t_matrix) (C := R_Mo) (T := F_Mo) (N := 22) hx hb hts i_Mo hown hK hP 0 rfl rfl 8 (by decide) (hts _ m_3_136) (fun _ h9 => h9) rfl d_Mo_determinant_93 ?_
    refine lv_bipush (v := 10) hx hb d_Mo_determinant_96 (by decide) ?_
    refine lv_iload hx hb d_Mo_determinant_98 (lv_at hl 6 rfl) ?_
    refine lv_imul hx hb d_Mo_determinant_100 ?_
    refine lv_iload hx hb d_Mo_determinant_101 (lv_at hl 7 rfl) ?_
    refine lv_iadd hx hb d_Mo_determinant_103 ?_
    refine lv_aload_n hx hb d_Mo_determinant_104 rfl (lv_at hl 1 rfl) ?_
    refine va_get (D := D) (ci := 8) (v := .ref q_t_matrix) (C := R_Mo) (T := F_Mo) (N := 22) hx hb hts i_Mo hown hK hP 0 rfl rfl 8 (by decide) (hts _ m_3_136) (fun _ h9 => h9) rfl d_Mo_determinant_105 ?_
    refine lv_bipush (v := 10) hx hb d_Mo_determinant_108 (by decide) ?_
    refine lv_iload hx hb d_Mo_determinant_110 (lv_at hl 5 rfl) ?_
    refine lv_imul hx hb d_Mo_determinant_112 ?_
    refine lv_iload hx hb d_Mo_determinant_113 (lv_at hl 7 rfl) ?_
    refine lv_iadd hx hb d_Mo_determinant_115 ?_
    obtain ⟨hg2, hf⟩ := gd_e hf
    refine va_lald hx hb hK hP 1 1 rfl rfl (inb_e hg2) d_Mo_determinant_116 ?_
    obtain ⟨hg3, hf⟩ := gd_e hf
    refine va_last hx hb hK hP hD hS 1 1 rfl rfl (inb_e hg3) d_Mo_determinant_117 (fun H locs hP hD hS => ?_)
    have hP : va_P D CL [(q_t, .inr (8, [.int t_nodes, .int t_arcs, .int t_left, .ref q_t_froms, .ref q_t_tos, .ref q_t_weights, .ref q_t_there, .ref q_t_part, .ref q_t_matrix, .ref q_t_row, .ref q_t_low, .int t_swapIn, .int t_swapOut, .ref q_t_own, .ref q_t_chosen, .ref q_t_degrees, .long t_boundedSet, .ref q_t_fixed, .ref q_t_grown, .ref q_t_costs, .ref q_t_order, .long t_joinedSet])), (q_t_matrix, .inl (cJ, 100, .inr (.inl (vp_updL t_matrix (((10 : Int32) * v7) + v8).toNatClampNeg (t_matrix (((10 : Int32) * v6) + v8).toNatClampNeg)))))] H := hP
    have hD : va_D A [(q_t, .inr (8, [.int t_nodes, .int t_arcs, .int t_left, .ref q_t_froms, .ref q_t_tos, .ref q_t_weights, .ref q_t_there, .ref q_t_part, .ref q_t_matrix, .ref q_t_row, .ref q_t_low, .int t_swapIn, .int t_swapOut, .ref q_t_own, .ref q_t_chosen, .ref q_t_degrees, .long t_boundedSet, .ref q_t_fixed, .ref q_t_grown, .ref q_t_costs, .ref q_t_order, .long t_joinedSet])), (q_t_matrix, .inl (cJ, 100, .inr (.inl (vp_updL t_matrix (((10 : Int32) * v7) + v8).toNatClampNeg (t_matrix (((10 : Int32) * v6) + v8).toNatClampNeg)))))] := hD
    refine lv_aload_n hx hb d_Mo_determinant_118 rfl (lv_at hl 1 rfl) ?_
    refine va_get (D := D) (ci := 8) (v := .ref q_t_matrix) (C := R_Mo) (T := F_Mo) (N := 22) hx hb hts i_Mo hown hK hP 0 rfl rfl 8 (by decide) (hts _ m_3_136) (fun _ h9 => h9) rfl d_Mo_determinant_119 ?_
    refine lv_bipush (v := 10) hx hb d_Mo_determinant_122 (by decide) ?_
    refine lv_iload hx hb d_Mo_determinant_124 (lv_at hl 5 rfl) ?_
    refine lv_imul hx hb d_Mo_determinant_126 ?_
    refine lv_iload hx hb d_Mo_determinant_127 (lv_at hl 7 rfl) ?_
    refine lv_iadd hx hb d_Mo_determinant_129 ?_
    refine lv_lload hx hb d_Mo_determinant_130 (lv_at hl 0 rfl) ?_
    obtain ⟨hg4, hf⟩ := gd_e hf
    refine va_last hx hb hK hP hD hS 1 1 rfl rfl (inb_e hg4) d_Mo_determinant_132 (fun H locs hP hD hS => ?_)
    have hP : va_P D CL [(q_t, .inr (8, [.int t_nodes, .int t_arcs, .int t_left, .ref q_t_froms, .ref q_t_tos, .ref q_t_weights, .ref q_t_there, .ref q_t_part, .ref q_t_matrix, .ref q_t_row, .ref q_t_low, .int t_swapIn, .int t_swapOut, .ref q_t_own, .ref q_t_chosen, .ref q_t_degrees, .long t_boundedSet, .ref q_t_fixed, .ref q_t_grown, .ref q_t_costs, .ref q_t_order, .long t_joinedSet])), (q_t_matrix, .inl (cJ, 100, .inr (.inl (vp_updL (vp_updL t_matrix (((10 : Int32) * v7) + v8).toNatClampNeg (t_matrix (((10 : Int32) * v6) + v8).toNatClampNeg)) (((10 : Int32) * v6) + v8).toNatClampNeg x2))))] H := hP
    have hD : va_D A [(q_t, .inr (8, [.int t_nodes, .int t_arcs, .int t_left, .ref q_t_froms, .ref q_t_tos, .ref q_t_weights, .ref q_t_there, .ref q_t_part, .ref q_t_matrix, .ref q_t_row, .ref q_t_low, .int t_swapIn, .int t_swapOut, .ref q_t_own, .ref q_t_chosen, .ref q_t_degrees, .long t_boundedSet, .ref q_t_fixed, .ref q_t_grown, .ref q_t_costs, .ref q_t_order, .long t_joinedSet])), (q_t_matrix, .inl (cJ, 100, .inr (.inl (vp_updL (vp_updL t_matrix (((10 : Int32) * v7) + v8).toNatClampNeg (t_matrix (((10 : Int32) * v6) + v8).toNatClampNeg)) (((10 : Int32) * v6) + v8).toNatClampNeg x2))))] := hD
    obtain ⟨x3, ex3⟩ : ∃ y : Int32, y = v8 + (1 : Int32) := ⟨_, rfl⟩
    have hf := bn_e ex3 hf
    refine lv_iinc (v := x3) (lv' := [(8, .int x3), (9, .long x2), (0, .ref q_t), (1, .int p1), (2, .long v2), (4, .long v4), (6, .int v6), (7, .int v7)]) hx hb d_Mo_determinant_133 hl (k := 7) rfl (by rw [ex3]; rfl) (by decide) rfl (fun ls hl => ?_)
    refine lv_goto (tgt := 71) hx hb d_Mo_determinant_136 (by decide) ?_
    exact hk71 v2 v4 v6 v7 x3 (vp_updL (vp_updL t_matrix (((10 : Int32) * v7) + v8).toNatClampNeg (t_matrix (((10 : Int32) * v6) + v8).toNatClampNeg)) (((10 : Int32) * v6) + v8).toNatClampNeg x2) _ _ _ hP hD hS (lv_sub hl [2, 3, 4, 5, 6, 7, 0] rfl) hf
set_option maxRecDepth 100000 in
set_option maxHeartbeats 4000000 in
theorem w_Mo_determinant_71_l {p : Program} {l : Launch} {e : Env} {R : Room} {s : State} {m : MethodId} {args : Array Value} {below : List Frame} {meth : Method} {c : Code} {D : va_G} {cI cJ cG cZ : ClassId} {A : Nat → Prop} {Q : State → Prop} {q_t q_t_froms q_t_tos q_t_weights q_t_there q_t_part q_t_matrix q_t_row q_t_low q_t_own q_t_chosen q_t_degrees q_t_fixed q_t_grown q_t_costs q_t_order : Nat} {t_nodes : Int32} {t_arcs : Int32} {t_left : Int32} {t_swapIn : Int32} {t_swapOut : Int32} {t_boundedSet : Int64} {t_joinedSet : Int64} {p1 : Int32} {N : Nat} {RR : Int64 × (Nat → Int64)} (C0 : CX p R s m args meth c b_Mo_determinant 11 R_Mo lw_g D CL (TYs cI cJ cG cZ) A 0 0) (hret : ∀ (pc : Nat) (ls : Array Slot) (H : Heap) (locs : List Loc) (v : Int64) (t_matrix : Nat → Int64), decode b_Mo_determinant pc = .ok (.lreturn, 1) → va_P D CL [(q_t, .inr (8, [.int t_nodes, .int t_arcs, .int t_left, .ref q_t_froms, .ref q_t_tos, .ref q_t_weights, .ref q_t_there, .ref q_t_part, .ref q_t_matrix, .ref q_t_row, .ref q_t_low, .int t_swapIn, .int t_swapOut, .ref q_t_own, .ref q_t_chosen, .ref q_t_degrees, .long t_boundedSet, .ref q_t_fixed, .ref q_t_grown, .ref q_t_costs, .ref q_t_order, .long t_joinedSet])), (q_t_matrix, .inl (cJ, 100, .inr (.inl t_matrix)))] H → va_D A [(q_t, .inr (8, [.int t_nodes, .int t_arcs, .int t_left, .ref q_t_froms, .ref q_t_tos, .ref q_t_weights, .ref q_t_there, .ref q_t_part, .ref q_t_matrix, .ref q_t_row, .ref q_t_low, .int t_swapIn, .int t_swapOut, .ref q_t_own, .ref q_t_chosen, .ref q_t_degrees, .long t_boundedSet, .ref q_t_fixed, .ref q_t_grown, .ref q_t_costs, .ref q_t_order, .long t_joinedSet])), (q_t_matrix, .inl (cJ, 100, .inr (.inl t_matrix)))] → va_S A s.heap H locs → some (v, t_matrix) = some RR → W p l e R s m args below meth c H locs 0 0 Q (F0 m pc ls [.long v])) (k8 : Int64 → Int64 → Int32 → (Nat → Int64) → Option (Int64 × (Nat → Int64))) (hk8 : ∀ (v2 : Int64) (v4 : Int64) (v6 : Int32) (t_matrix : Nat → Int64) (H : Heap) (locs : List Loc) (ls : Array Slot), va_P D CL [(q_t, .inr (8, [.int t_nodes, .int t_arcs, .int t_left, .ref q_t_froms, .ref q_t_tos, .ref q_t_weights, .ref q_t_there, .ref q_t_part, .ref q_t_matrix, .ref q_t_row, .ref q_t_low, .int t_swapIn, .int t_swapOut, .ref q_t_own, .ref q_t_chosen, .ref q_t_degrees, .long t_boundedSet, .ref q_t_fixed, .ref q_t_grown, .ref q_t_costs, .ref q_t_order, .long t_joinedSet])), (q_t_matrix, .inl (cJ, 100, .inr (.inl t_matrix)))] H → va_D A [(q_t, .inr (8, [.int t_nodes, .int t_arcs, .int t_left, .ref q_t_froms, .ref q_t_tos, .ref q_t_weights, .ref q_t_there, .ref q_t_part, .ref q_t_matrix, .ref q_t_row, .ref q_t_low, .int t_swapIn, .int t_swapOut, .ref q_t_own, .ref q_t_chosen, .ref q_t_degrees, .long t_boundedSet, .ref q_t_fixed, .ref q_t_grown, .ref q_t_costs, .ref q_t_order, .long t_joinedSet])), (q_t_matrix, .inl (cJ, 100, .inr (.inl t_matrix)))] → va_S A s.heap H locs → lv_has ls 11 [(0, .ref q_t), (1, .int p1), (2, .long v2), (4, .long v4), (6, .int v6)] → k8 v2 v4 v6 t_matrix = some RR → W p l e R s m args below meth c H locs 0 0 Q (F0 m 8 ls [])) : ∀ (n : Nat) (v2 : Int64) (v4 : Int64) (v6 : Int32) (v7 : Int32) (v8 : Int32) (t_matrix : Nat → Int64) (H : Heap) (locs : List Loc) (ls : Array Slot), va_P D CL [(q_t, .inr (8, [.int t_nodes, .int t_arcs, .int t_left, .ref q_t_froms, .ref q_t_tos, .ref q_t_weights, .ref q_t_there, .ref q_t_part, .ref q_t_matrix, .ref q_t_row, .ref q_t_low, .int t_swapIn, .int t_swapOut, .ref q_t_own, .ref q_t_chosen, .ref q_t_degrees, .long t_boundedSet, .ref q_t_fixed, .ref q_t_grown, .ref q_t_costs, .ref q_t_order, .long t_joinedSet])), (q_t_matrix, .inl (cJ, 100, .inr (.inl t_matrix)))] H → va_D A [(q_t, .inr (8, [.int t_nodes, .int t_arcs, .int t_left, .ref q_t_froms, .ref q_t_tos, .ref q_t_weights, .ref q_t_there, .ref q_t_part, .ref q_t_matrix, .ref q_t_row, .ref q_t_low, .int t_swapIn, .int t_swapOut, .ref q_t_own, .ref q_t_chosen, .ref q_t_degrees, .long t_boundedSet, .ref q_t_fixed, .ref q_t_grown, .ref q_t_costs, .ref q_t_order, .long t_joinedSet])), (q_t_matrix, .inl (cJ, 100, .inr (.inl t_matrix)))] → va_S A s.heap H locs → lv_has ls 11 [(0, .ref q_t), (1, .int p1), (2, .long v2), (4, .long v4), (6, .int v6), (7, .int v7), (8, .int v8)] → lo6 (g_Mo_determinant_71 N p1 k8) n v2 v4 v6 v7 v8 t_matrix = some RR → W p l e R s m args below meth c H locs 0 0 Q (F0 m 71 ls []) := by
  intro n
  induction n with
  | zero =>
    intro v2 v4 v6 v7 v8 t_matrix H locs ls hP hD hS hl hf
    exact absurd hf (by simp [lo6])
  | succ n ih =>
    intro v2 v4 v6 v7 v8 t_matrix H locs ls hP hD hS hl hf
    exact w_Mo_determinant_71 C0 hret k8 hk8 (lo6 (g_Mo_determinant_71 N p1 k8) n) ih v2 v4 v6 v7 v8 t_matrix H locs ls hP hD hS hl hf
set_option maxRecDepth 100000 in
set_option maxHeartbeats 4000000 in
theorem w_Mo_determinant_48 {p : Program} {l : Launch} {e : Env} {R : Room} {s : State} {m : MethodId} {args : Array Value} {below : List Frame} {meth : Method} {c : Code} {D : va_G} {cI cJ cG cZ : ClassId} {A : Nat → Prop} {Q : State → Prop} {q_t q_t_froms q_t_tos q_t_weights q_t_there q_t_part q_t_matrix q_t_row q_t_low q_t_own q_t_chosen q_t_degrees q_t_fixed q_t_grown q_t_costs q_t_order : Nat} {t_nodes : Int32} {t_arcs : Int32} {t_left : Int32} {t_swapIn : Int32} {t_swapOut : Int32} {t_boundedSet : Int64} {t_joinedSet : Int64} {p1 : Int32} {N : Nat} {RR : Int64 × (Nat → Int64)} (C0 : CX p R s m args meth c b_Mo_determinant 11 R_Mo lw_g D CL (TYs cI cJ cG cZ) A 0 0) (hret : ∀ (pc : Nat) (ls : Array Slot) (H : Heap) (locs : List Loc) (v : Int64) (t_matrix : Nat → Int64), decode b_Mo_determinant pc = .ok (.lreturn, 1) → va_P D CL [(q_t, .inr (8, [.int t_nodes, .int t_arcs, .int t_left, .ref q_t_froms, .ref q_t_tos, .ref q_t_weights, .ref q_t_there, .ref q_t_part, .ref q_t_matrix, .ref q_t_row, .ref q_t_low, .int t_swapIn, .int t_swapOut, .ref q_t_own, .ref q_t_chosen, .ref q_t_degrees, .long t_boundedSet, .ref q_t_fixed, .ref q_t_grown, .ref q_t_costs, .ref q_t_order, .long t_joinedSet])), (q_t_matrix, .inl (cJ, 100, .inr (.inl t_matrix)))] H → va_D A [(q_t, .inr (8, [.int t_nodes, .int t_arcs, .int t_left, .ref q_t_froms, .ref q_t_tos, .ref q_t_weights, .ref q_t_there, .ref q_t_part, .ref q_t_matrix, .ref q_t_row, .ref q_t_low, .int t_swapIn, .int t_swapOut, .ref q_t_own, .ref q_t_chosen, .ref q_t_degrees, .long t_boundedSet, .ref q_t_fixed, .ref q_t_grown, .ref q_t_costs, .ref q_t_order, .long t_joinedSet])), (q_t_matrix, .inl (cJ, 100, .inr (.inl t_matrix)))] → va_S A s.heap H locs → some (v, t_matrix) = some RR → W p l e R s m args below meth c H locs 0 0 Q (F0 m pc ls [.long v])) (k8 : Int64 → Int64 → Int32 → (Nat → Int64) → Option (Int64 × (Nat → Int64))) (hk8 : ∀ (v2 : Int64) (v4 : Int64) (v6 : Int32) (t_matrix : Nat → Int64) (H : Heap) (locs : List Loc) (ls : Array Slot), va_P D CL [(q_t, .inr (8, [.int t_nodes, .int t_arcs, .int t_left, .ref q_t_froms, .ref q_t_tos, .ref q_t_weights, .ref q_t_there, .ref q_t_part, .ref q_t_matrix, .ref q_t_row, .ref q_t_low, .int t_swapIn, .int t_swapOut, .ref q_t_own, .ref q_t_chosen, .ref q_t_degrees, .long t_boundedSet, .ref q_t_fixed, .ref q_t_grown, .ref q_t_costs, .ref q_t_order, .long t_joinedSet])), (q_t_matrix, .inl (cJ, 100, .inr (.inl t_matrix)))] H → va_D A [(q_t, .inr (8, [.int t_nodes, .int t_arcs, .int t_left, .ref q_t_froms, .ref q_t_tos, .ref q_t_weights, .ref q_t_there, .ref q_t_part, .ref q_t_matrix, .ref q_t_row, .ref q_t_low, .int t_swapIn, .int t_swapOut, .ref q_t_own, .ref q_t_chosen, .ref q_t_degrees, .long t_boundedSet, .ref q_t_fixed, .ref q_t_grown, .ref q_t_costs, .ref q_t_order, .long t_joinedSet])), (q_t_matrix, .inl (cJ, 100, .inr (.inl t_matrix)))] → va_S A s.heap H locs → lv_has ls 11 [(0, .ref q_t), (1, .int p1), (2, .long v2), (4, .long v4), (6, .int v6)] → k8 v2 v4 v6 t_matrix = some RR → W p l e R s m args below meth c H locs 0 0 Q (F0 m 8 ls [])) : ∀ (v2 : Int64) (v4 : Int64) (v6 : Int32) (v7 : Int32) (t_matrix : Nat → Int64) (H : Heap) (locs : List Loc) (ls : Array Slot), va_P D CL [(q_t, .inr (8, [.int t_nodes, .int t_arcs, .int t_left, .ref q_t_froms, .ref q_t_tos, .ref q_t_weights, .ref q_t_there, .ref q_t_part, .ref q_t_matrix, .ref q_t_row, .ref q_t_low, .int t_swapIn, .int t_swapOut, .ref q_t_own, .ref q_t_chosen, .ref q_t_degrees, .long t_boundedSet, .ref q_t_fixed, .ref q_t_grown, .ref q_t_costs, .ref q_t_order, .long t_joinedSet])), (q_t_matrix, .inl (cJ, 100, .inr (.inl t_matrix)))] H → va_D A [(q_t, .inr (8, [.int t_nodes, .int t_arcs, .int t_left, .ref q_t_froms, .ref q_t_tos, .ref q_t_weights, .ref q_t_there, .ref q_t_part, .ref q_t_matrix, .ref q_t_row, .ref q_t_low, .int t_swapIn, .int t_swapOut, .ref q_t_own, .ref q_t_chosen, .ref q_t_degrees, .long t_boundedSet, .ref q_t_fixed, .ref q_t_grown, .ref q_t_costs, .ref q_t_order, .long t_joinedSet])), (q_t_matrix, .inl (cJ, 100, .inr (.inl t_matrix)))] → va_S A s.heap H locs → lv_has ls 11 [(0, .ref q_t), (1, .int p1), (2, .long v2), (4, .long v4), (6, .int v6), (7, .int v7)] → g_Mo_determinant_48 N p1 k8 v2 v4 v6 v7 t_matrix = some RR → W p l e R s m args below meth c H locs 0 0 Q (F0 m 48 ls []) := by
  intro v2 v4 v6 v7 t_matrix H locs ls hP hD hS hl hf
  obtain ⟨hx, hb, hml, hown, hts, hK, hA, hfr, hlo, hlk⟩ := id C0
  unfold g_Mo_determinant_48 at hf
  refine lv_iload hx hb d_Mo_determinant_48 (lv_at hl 5 rfl) ?_
  refine lv_iload_n hx hb d_Mo_determinant_50 rfl (lv_at hl 1 rfl) ?_
  refine lv_icmp_ne (tgt := 56) hx hb d_Mo_determinant_51 (by decide) (fun hc1 => ?_) (fun hc1 => ?_)
  · have hf := if_f hc1 hf
    refine lv_iload hx hb d_Mo_determinant_56 (lv_at hl 5 rfl) ?_
    refine lv_iload hx hb d_Mo_determinant_58 (lv_at hl 4 rfl) ?_
    refine lv_icmp_eq (tgt := 139) hx hb d_Mo_determinant_60 (by decide) (fun hc2 => ?_) (fun hc2 => ?_)
    · have hf := if_t hc2 hf
      refine lv_iload hx hb d_Mo_determinant_139 (lv_at hl 4 rfl) ?_
      refine lv_iconst (v := 1) hx hb d_Mo_determinant_141 (by decide) ?_
      refine lv_iadd hx hb d_Mo_determinant_142 ?_
      refine lv_topi (fun x1 ex1 => ?_)
      have hf := bn_e ex1 hf
      refine lv_istore (lv' := [(8, .int x1), (0, .ref q_t), (1, .int p1), (2, .long v2), (4, .long v4), (6, .int v6), (7, .int v7)]) hx hb d_Mo_determinant_143 hl (by decide) rfl (fun ls hl => ?_)
      exact w_Mo_determinant_145_l C0 hret k8 hk8 N v2 v4 v6 x1 t_matrix _ _ _ hP hD hS (lv_sub hl [1, 2, 3, 4, 5, 0] rfl) hf
    · have hf := if_f hc2 hf
      refine lv_lload hx hb d_Mo_determinant_63 (lv_at hl 3 rfl) ?_
      refine lv_lneg hx hb d_Mo_determinant_65 ?_
      refine lv_topl (fun x2 ex2 => ?_)
      have hf := bn_e ex2 hf
      refine lv_lstore (lv' := [(4, .long x2), (0, .ref q_t), (1, .int p1), (2, .long v2), (6, .int v6), (7, .int v7)]) hx hb d_Mo_determinant_66 hl (by decide) rfl (fun ls hl => ?_)
      refine lv_iconst (v := 0) hx hb d_Mo_determinant_68 (by decide) ?_
      refine lv_istore (lv' := [(8, .int (0 : Int32)), (4, .long x2), (0, .ref q_t), (1, .int p1), (2, .long v2), (6, .int v6), (7, .int v7)]) hx hb d_Mo_determinant_69 hl (by decide) rfl (fun ls hl => ?_)
      exact w_Mo_determinant_71_l C0 hret k8 hk8 N v2 x2 v6 v7 (0 : Int32) t_matrix _ _ _ hP hD hS (lv_sub hl [2, 3, 4, 1, 5, 6, 0] rfl) hf
  · have hf := if_t hc1 hf
    refine lv_lconst (v := 0) hx hb d_Mo_determinant_54 (by decide) ?_
    exact hret 55 _ _ _ (0 : Int64) t_matrix d_Mo_determinant_55 hP hD hS hf
set_option maxRecDepth 100000 in
set_option maxHeartbeats 4000000 in
theorem w_Mo_determinant_18 {p : Program} {l : Launch} {e : Env} {R : Room} {s : State} {m : MethodId} {args : Array Value} {below : List Frame} {meth : Method} {c : Code} {D : va_G} {cI cJ cG cZ : ClassId} {A : Nat → Prop} {Q : State → Prop} {q_t q_t_froms q_t_tos q_t_weights q_t_there q_t_part q_t_matrix q_t_row q_t_low q_t_own q_t_chosen q_t_degrees q_t_fixed q_t_grown q_t_costs q_t_order : Nat} {t_nodes : Int32} {t_arcs : Int32} {t_left : Int32} {t_swapIn : Int32} {t_swapOut : Int32} {t_boundedSet : Int64} {t_joinedSet : Int64} {p1 : Int32} {N : Nat} {RR : Int64 × (Nat → Int64)} (C0 : CX p R s m args meth c b_Mo_determinant 11 R_Mo lw_g D CL (TYs cI cJ cG cZ) A 0 0) (hret : ∀ (pc : Nat) (ls : Array Slot) (H : Heap) (locs : List Loc) (v : Int64) (t_matrix : Nat → Int64), decode b_Mo_determinant pc = .ok (.lreturn, 1) → va_P D CL [(q_t, .inr (8, [.int t_nodes, .int t_arcs, .int t_left, .ref q_t_froms, .ref q_t_tos, .ref q_t_weights, .ref q_t_there, .ref q_t_part, .ref q_t_matrix, .ref q_t_row, .ref q_t_low, .int t_swapIn, .int t_swapOut, .ref q_t_own, .ref q_t_chosen, .ref q_t_degrees, .long t_boundedSet, .ref q_t_fixed, .ref q_t_grown, .ref q_t_costs, .ref q_t_order, .long t_joinedSet])), (q_t_matrix, .inl (cJ, 100, .inr (.inl t_matrix)))] H → va_D A [(q_t, .inr (8, [.int t_nodes, .int t_arcs, .int t_left, .ref q_t_froms, .ref q_t_tos, .ref q_t_weights, .ref q_t_there, .ref q_t_part, .ref q_t_matrix, .ref q_t_row, .ref q_t_low, .int t_swapIn, .int t_swapOut, .ref q_t_own, .ref q_t_chosen, .ref q_t_degrees, .long t_boundedSet, .ref q_t_fixed, .ref q_t_grown, .ref q_t_costs, .ref q_t_order, .long t_joinedSet])), (q_t_matrix, .inl (cJ, 100, .inr (.inl t_matrix)))] → va_S A s.heap H locs → some (v, t_matrix) = some RR → W p l e R s m args below meth c H locs 0 0 Q (F0 m pc ls [.long v])) (k8 : Int64 → Int64 → Int32 → (Nat → Int64) → Option (Int64 × (Nat → Int64))) (hk8 : ∀ (v2 : Int64) (v4 : Int64) (v6 : Int32) (t_matrix : Nat → Int64) (H : Heap) (locs : List Loc) (ls : Array Slot), va_P D CL [(q_t, .inr (8, [.int t_nodes, .int t_arcs, .int t_left, .ref q_t_froms, .ref q_t_tos, .ref q_t_weights, .ref q_t_there, .ref q_t_part, .ref q_t_matrix, .ref q_t_row, .ref q_t_low, .int t_swapIn, .int t_swapOut, .ref q_t_own, .ref q_t_chosen, .ref q_t_degrees, .long t_boundedSet, .ref q_t_fixed, .ref q_t_grown, .ref q_t_costs, .ref q_t_order, .long t_joinedSet])), (q_t_matrix, .inl (cJ, 100, .inr (.inl t_matrix)))] H → va_D A [(q_t, .inr (8, [.int t_nodes, .int t_arcs, .int t_left, .ref q_t_froms, .ref q_t_tos, .ref q_t_weights, .ref q_t_there, .ref q_t_part, .ref q_t_matrix, .ref q_t_row, .ref q_t_low, .int t_swapIn, .int t_swapOut, .ref q_t_own, .ref q_t_chosen, .ref q_t_degrees, .long t_boundedSet, .ref q_t_fixed, .ref q_t_grown, .ref q_t_costs, .ref q_t_order, .long t_joinedSet])), (q_t_matrix, .inl (cJ, 100, .inr (.inl t_matrix)))] → va_S A s.heap H locs → lv_has ls 11 [(0, .ref q_t), (1, .int p1), (2, .long v2), (4, .long v4), (6, .int v6)] → k8 v2 v4 v6 t_matrix = some RR → W p l e R s m args below meth c H locs 0 0 Q (F0 m 8 ls [])) (k18 : Int64 → Int64 → Int32 → Int32 → (Nat → Int64) → Option (Int64 × (Nat → Int64))) (hk18 : ∀ (v2 : Int64) (v4 : Int64) (v6 : Int32) (v7 : Int32) (t_matrix : Nat → Int64) (H : Heap) (locs : List Loc) (ls : Array Slot), va_P D CL [(q_t, .inr (8, [.int t_nodes, .int t_arcs, .int t_left, .ref q_t_froms, .ref q_t_tos, .ref q_t_weights, .ref q_t_there, .ref q_t_part, .ref q_t_matrix, .ref q_t_row, .ref q_t_low, .int t_swapIn, .int t_swapOut, .ref q_t_own, .ref q_t_chosen, .ref q_t_degrees, .long t_boundedSet, .ref q_t_fixed, .ref q_t_grown, .ref q_t_costs, .ref q_t_order, .long t_joinedSet])), (q_t_matrix, .inl (cJ, 100, .inr (.inl t_matrix)))] H → va_D A [(q_t, .inr (8, [.int t_nodes, .int t_arcs, .int t_left, .ref q_t_froms, .ref q_t_tos, .ref q_t_weights, .ref q_t_there, .ref q_t_part, .ref q_t_matrix, .ref q_t_row, .ref q_t_low, .int t_swapIn, .int t_swapOut, .ref q_t_own, .ref q_t_chosen, .ref q_t_degrees, .long t_boundedSet, .ref q_t_fixed, .ref q_t_grown, .ref q_t_costs, .ref q_t_order, .long t_joinedSet])), (q_t_matrix, .inl (cJ, 100, .inr (.inl t_matrix)))] → va_S A s.heap H locs → lv_has ls 11 [(0, .ref q_t), (1, .int p1), (2, .long v2), (4, .long v4), (6, .int v6), (7, .int v7)] → k18 v2 v4 v6 v7 t_matrix = some RR → W p l e R s m args below meth c H locs 0 0 Q (F0 m 18 ls [])) : ∀ (v2 : Int64) (v4 : Int64) (v6 : Int32) (v7 : Int32) (t_matrix : Nat → Int64) (H : Heap) (locs : List Loc) (ls : Array Slot), va_P D CL [(q_t, .inr (8, [.int t_nodes, .int t_arcs, .int t_left, .ref q_t_froms, .ref q_t_tos, .ref q_t_weights, .ref q_t_there, .ref q_t_part, .ref q_t_matrix, .ref q_t_row, .ref q_t_low, .int t_swapIn, .int t_swapOut, .ref q_t_own, .ref q_t_chosen, .ref q_t_degrees, .long t_boundedSet, .ref q_t_fixed, .ref q_t_grown, .ref q_t_costs, .ref q_t_order, .long t_joinedSet])), (q_t_matrix, .inl (cJ, 100, .inr (.inl t_matrix)))] H → va_D A [(q_t, .inr (8, [.int t_nodes, .int t_arcs, .int t_left, .ref q_t_froms, .ref q_t_tos, .ref q_t_weights, .ref q_t_there, .ref q_t_part, .ref q_t_matrix, .ref q_t_row, .ref q_t_low, .int t_swapIn, .int t_swapOut, .ref q_t_own, .ref q_t_chosen, .ref q_t_degrees, .long t_boundedSet, .ref q_t_fixed, .ref q_t_grown, .ref q_t_costs, .ref q_t_order, .long t_joinedSet])), (q_t_matrix, .inl (cJ, 100, .inr (.inl t_matrix)))] → va_S A s.heap H locs → lv_has ls 11 [(0, .ref q_t), (1, .int p1), (2, .long v2), (4, .long v4), (6, .int v6), (7, .int v7)] → g_Mo_determinant_18 N p1 k8 k18 v2 v4 v6 v7 t_matrix = some RR → W p l e R s m args below meth c H locs 0 0 Q (F0 m 18 ls []) := by
  intro v2 v4 v6 v7 t_matrix H locs ls hP hD hS hl hf
  obtain ⟨hx, hb, hml, hown, hts, hK, hA, hfr, hlo, hlk⟩ := id C0
  unfold g_Mo_determinant_18 at hf
  refine lv_iload hx hb d_Mo_determinant_18 (lv_at hl 5 rfl) ?_
  refine lv_iload_n hx hb d_Mo_determinant_20 rfl (lv_at hl 1 rfl) ?_
  refine lv_icmp_ge (tgt := 48) hx hb d_Mo_determinant_21 (by decide) (fun hc1 => ?_) (fun hc1 => ?_)
  · have hf := if_t hc1 hf
    exact w_Mo_determinant_48 C0 hret k8 hk8  v2 v4 v6 v7 t_matrix _ _ _ hP hD hS (lv_sub hl [0, 1, 2, 3, 4, 5] rfl) hf
  · have hf := if_f hc1 hf
    refine lv_aload_n hx hb d_Mo_determinant_24 rfl (lv_at hl 0 rfl) ?_
    refine va_get (D := D) (ci := 8) (v := .ref q_t_matrix) (C := R_Mo) (T := F_Mo) (N := 22) hx hb hts i_Mo hown hK hP 0 rfl rfl 8 (by decide) (hts _ m_3_136) (fun _ h9 => h9) rfl d_Mo_determinant_25 ?_
    refine lv_bipush (v := 10) hx hb d_Mo_determinant_28 (by decide) ?_
    refine lv_iload hx hb d_Mo_determinant_30 (lv_at hl 5 rfl) ?_
    refine lv_imul hx hb d_Mo_determinant_32 ?_
    refine lv_iload hx hb d_Mo_determinant_33 (lv_at hl 4 rfl) ?_
    refine lv_iadd hx hb d_Mo_determinant_35 ?_
    obtain ⟨hg1, hf⟩ := gd_e hf
    refine va_lald hx hb hK hP 1 1 rfl rfl (inb_e hg1) d_Mo_determinant_36 ?_
    refine lv_lconst (v := 0) hx hb d_Mo_determinant_37 (by decide) ?_
    refine W.lcmp hx hb d_Mo_determinant_38 ?_
    refine lv_if_ne (tgt := 48) hx hb d_Mo_determinant_39 (by decide) (fun hc2 => ?_) (fun hc2 => ?_)
    · have hf := if_f hc2 hf
      exact w_Mo_determinant_48 C0 hret k8 hk8  v2 v4 v6 v7 t_matrix _ _ _ hP hD hS (lv_sub hl [0, 1, 2, 3, 4, 5] rfl) hf
    · have hf := if_t hc2 hf
      obtain ⟨x1, ex1⟩ : ∃ y : Int32, y = v7 + (1 : Int32) := ⟨_, rfl⟩
      have hf := bn_e ex1 hf
      refine lv_iinc (v := x1) (lv' := [(7, .int x1), (0, .ref q_t), (1, .int p1), (2, .long v2), (4, .long v4), (6, .int v6)]) hx hb d_Mo_determinant_42 hl (k := 5) rfl (by rw [ex1]; rfl) (by decide) rfl (fun ls hl => ?_)
      refine lv_goto (tgt := 18) hx hb d_Mo_determinant_45 (by decide) ?_
      exact hk18 v2 v4 v6 x1 t_matrix _ _ _ hP hD hS (lv_sub hl [1, 2, 3, 4, 5, 0] rfl) hf
set_option maxRecDepth 100000 in
set_option maxHeartbeats 4000000 in
theorem w_Mo_determinant_18_l {p : Program} {l : Launch} {e : Env} {R : Room} {s : State} {m : MethodId} {args : Array Value} {below : List Frame} {meth : Method} {c : Code} {D : va_G} {cI cJ cG cZ : ClassId} {A : Nat → Prop} {Q : State → Prop} {q_t q_t_froms q_t_tos q_t_weights q_t_there q_t_part q_t_matrix q_t_row q_t_low q_t_own q_t_chosen q_t_degrees q_t_fixed q_t_grown q_t_costs q_t_order : Nat} {t_nodes : Int32} {t_arcs : Int32} {t_left : Int32} {t_swapIn : Int32} {t_swapOut : Int32} {t_boundedSet : Int64} {t_joinedSet : Int64} {p1 : Int32} {N : Nat} {RR : Int64 × (Nat → Int64)} (C0 : CX p R s m args meth c b_Mo_determinant 11 R_Mo lw_g D CL (TYs cI cJ cG cZ) A 0 0) (hret : ∀ (pc : Nat) (ls : Array Slot) (H : Heap) (locs : List Loc) (v : Int64) (t_matrix : Nat → Int64), decode b_Mo_determinant pc = .ok (.lreturn, 1) → va_P D CL [(q_t, .inr (8, [.int t_nodes, .int t_arcs, .int t_left, .ref q_t_froms, .ref q_t_tos, .ref q_t_weights, .ref q_t_there, .ref q_t_part, .ref q_t_matrix, .ref q_t_row, .ref q_t_low, .int t_swapIn, .int t_swapOut, .ref q_t_own, .ref q_t_chosen, .ref q_t_degrees, .long t_boundedSet, .ref q_t_fixed, .ref q_t_grown, .ref q_t_costs, .ref q_t_order, .long t_joinedSet])), (q_t_matrix, .inl (cJ, 100, .inr (.inl t_matrix)))] H → va_D A [(q_t, .inr (8, [.int t_nodes, .int t_arcs, .int t_left, .ref q_t_froms, .ref q_t_tos, .ref q_t_weights, .ref q_t_there, .ref q_t_part, .ref q_t_matrix, .ref q_t_row, .ref q_t_low, .int t_swapIn, .int t_swapOut, .ref q_t_own, .ref q_t_chosen, .ref q_t_degrees, .long t_boundedSet, .ref q_t_fixed, .ref q_t_grown, .ref q_t_costs, .ref q_t_order, .long t_joinedSet])), (q_t_matrix, .inl (cJ, 100, .inr (.inl t_matrix)))] → va_S A s.heap H locs → some (v, t_matrix) = some RR → W p l e R s m args below meth c H locs 0 0 Q (F0 m pc ls [.long v])) (k8 : Int64 → Int64 → Int32 → (Nat → Int64) → Option (Int64 × (Nat → Int64))) (hk8 : ∀ (v2 : Int64) (v4 : Int64) (v6 : Int32) (t_matrix : Nat → Int64) (H : Heap) (locs : List Loc) (ls : Array Slot), va_P D CL [(q_t, .inr (8, [.int t_nodes, .int t_arcs, .int t_left, .ref q_t_froms, .ref q_t_tos, .ref q_t_weights, .ref q_t_there, .ref q_t_part, .ref q_t_matrix, .ref q_t_row, .ref q_t_low, .int t_swapIn, .int t_swapOut, .ref q_t_own, .ref q_t_chosen, .ref q_t_degrees, .long t_boundedSet, .ref q_t_fixed, .ref q_t_grown, .ref q_t_costs, .ref q_t_order, .long t_joinedSet])), (q_t_matrix, .inl (cJ, 100, .inr (.inl t_matrix)))] H → va_D A [(q_t, .inr (8, [.int t_nodes, .int t_arcs, .int t_left, .ref q_t_froms, .ref q_t_tos, .ref q_t_weights, .ref q_t_there, .ref q_t_part, .ref q_t_matrix, .ref q_t_row, .ref q_t_low, .int t_swapIn, .int t_swapOut, .ref q_t_own, .ref q_t_chosen, .ref q_t_degrees, .long t_boundedSet, .ref q_t_fixed, .ref q_t_grown, .ref q_t_costs, .ref q_t_order, .long t_joinedSet])), (q_t_matrix, .inl (cJ, 100, .inr (.inl t_matrix)))] → va_S A s.heap H locs → lv_has ls 11 [(0, .ref q_t), (1, .int p1), (2, .long v2), (4, .long v4), (6, .int v6)] → k8 v2 v4 v6 t_matrix = some RR → W p l e R s m args below meth c H locs 0 0 Q (F0 m 8 ls [])) : ∀ (n : Nat) (v2 : Int64) (v4 : Int64) (v6 : Int32) (v7 : Int32) (t_matrix : Nat → Int64) (H : Heap) (locs : List Loc) (ls : Array Slot), va_P D CL [(q_t, .inr (8, [.int t_nodes, .int t_arcs, .int t_left, .ref q_t_froms, .ref q_t_tos, .ref q_t_weights, .ref q_t_there, .ref q_t_part, .ref q_t_matrix, .ref q_t_row, .ref q_t_low, .int t_swapIn, .int t_swapOut, .ref q_t_own, .ref q_t_chosen, .ref q_t_degrees, .long t_boundedSet, .ref q_t_fixed, .ref q_t_grown, .ref q_t_costs, .ref q_t_order, .long t_joinedSet])), (q_t_matrix, .inl (cJ, 100, .inr (.inl t_matrix)))] H → va_D A [(q_t, .inr (8, [.int t_nodes, .int t_arcs, .int t_left, .ref q_t_froms, .ref q_t_tos, .ref q_t_weights, .ref q_t_there, .ref q_t_part, .ref q_t_matrix, .ref q_t_row, .ref q_t_low, .int t_swapIn, .int t_swapOut, .ref q_t_own, .ref q_t_chosen, .ref q_t_degrees, .long t_boundedSet, .ref q_t_fixed, .ref q_t_grown, .ref q_t_costs, .ref q_t_order, .long t_joinedSet])), (q_t_matrix, .inl (cJ, 100, .inr (.inl t_matrix)))] → va_S A s.heap H locs → lv_has ls 11 [(0, .ref q_t), (1, .int p1), (2, .long v2), (4, .long v4), (6, .int v6), (7, .int v7)] → lo5 (g_Mo_determinant_18 N p1 k8) n v2 v4 v6 v7 t_matrix = some RR → W p l e R s m args below meth c H locs 0 0 Q (F0 m 18 ls []) := by
  intro n
  induction n with
  | zero =>
    intro v2 v4 v6 v7 t_matrix H locs ls hP hD hS hl hf
    exact absurd hf (by simp [lo5])
  | succ n ih =>
    intro v2 v4 v6 v7 t_matrix H locs ls hP hD hS hl hf
    exact w_Mo_determinant_18 C0 hret k8 hk8 (lo5 (g_Mo_determinant_18 N p1 k8) n) ih v2 v4 v6 v7 t_matrix H locs ls hP hD hS hl hf
set_option maxRecDepth 100000 in
set_option maxHeartbeats 4000000 in
theorem w_Mo_determinant_8 {p : Program} {l : Launch} {e : Env} {R : Room} {s : State} {m : MethodId} {args : Array Value} {below : List Frame} {meth : Method} {c : Code} {D : va_G} {cI cJ cG cZ : ClassId} {A : Nat → Prop} {Q : State → Prop} {q_t q_t_froms q_t_tos q_t_weights q_t_there q_t_part q_t_matrix q_t_row q_t_low q_t_own q_t_chosen q_t_degrees q_t_fixed q_t_grown q_t_costs q_t_order : Nat} {t_nodes : Int32} {t_arcs : Int32} {t_left : Int32} {t_swapIn : Int32} {t_swapOut : Int32} {t_boundedSet : Int64} {t_joinedSet : Int64} {p1 : Int32} {N : Nat} {RR : Int64 × (Nat → Int64)} (C0 : CX p R s m args meth c b_Mo_determinant 11 R_Mo lw_g D CL (TYs cI cJ cG cZ) A 0 0) (hret : ∀ (pc : Nat) (ls : Array Slot) (H : Heap) (locs : List Loc) (v : Int64) (t_matrix : Nat → Int64), decode b_Mo_determinant pc = .ok (.lreturn, 1) → va_P D CL [(q_t, .inr (8, [.int t_nodes, .int t_arcs, .int t_left, .ref q_t_froms, .ref q_t_tos, .ref q_t_weights, .ref q_t_there, .ref q_t_part, .ref q_t_matrix, .ref q_t_row, .ref q_t_low, .int t_swapIn, .int t_swapOut, .ref q_t_own, .ref q_t_chosen, .ref q_t_degrees, .long t_boundedSet, .ref q_t_fixed, .ref q_t_grown, .ref q_t_costs, .ref q_t_order, .long t_joinedSet])), (q_t_matrix, .inl (cJ, 100, .inr (.inl t_matrix)))] H → va_D A [(q_t, .inr (8, [.int t_nodes, .int t_arcs, .int t_left, .ref q_t_froms, .ref q_t_tos, .ref q_t_weights, .ref q_t_there, .ref q_t_part, .ref q_t_matrix, .ref q_t_row, .ref q_t_low, .int t_swapIn, .int t_swapOut, .ref q_t_own, .ref q_t_chosen, .ref q_t_degrees, .long t_boundedSet, .ref q_t_fixed, .ref q_t_grown, .ref q_t_costs, .ref q_t_order, .long t_joinedSet])), (q_t_matrix, .inl (cJ, 100, .inr (.inl t_matrix)))] → va_S A s.heap H locs → some (v, t_matrix) = some RR → W p l e R s m args below meth c H locs 0 0 Q (F0 m pc ls [.long v])) (k8 : Int64 → Int64 → Int32 → (Nat → Int64) → Option (Int64 × (Nat → Int64))) (hk8 : ∀ (v2 : Int64) (v4 : Int64) (v6 : Int32) (t_matrix : Nat → Int64) (H : Heap) (locs : List Loc) (ls : Array Slot), va_P D CL [(q_t, .inr (8, [.int t_nodes, .int t_arcs, .int t_left, .ref q_t_froms, .ref q_t_tos, .ref q_t_weights, .ref q_t_there, .ref q_t_part, .ref q_t_matrix, .ref q_t_row, .ref q_t_low, .int t_swapIn, .int t_swapOut, .ref q_t_own, .ref q_t_chosen, .ref q_t_degrees, .long t_boundedSet, .ref q_t_fixed, .ref q_t_grown, .ref q_t_costs, .ref q_t_order, .long t_joinedSet])), (q_t_matrix, .inl (cJ, 100, .inr (.inl t_matrix)))] H → va_D A [(q_t, .inr (8, [.int t_nodes, .int t_arcs, .int t_left, .ref q_t_froms, .ref q_t_tos, .ref q_t_weights, .ref q_t_there, .ref q_t_part, .ref q_t_matrix, .ref q_t_row, .ref q_t_low, .int t_swapIn, .int t_swapOut, .ref q_t_own, .ref q_t_chosen, .ref q_t_degrees, .long t_boundedSet, .ref q_t_fixed, .ref q_t_grown, .ref q_t_costs, .ref q_t_order, .long t_joinedSet])), (q_t_matrix, .inl (cJ, 100, .inr (.inl t_matrix)))] → va_S A s.heap H locs → lv_has ls 11 [(0, .ref q_t), (1, .int p1), (2, .long v2), (4, .long v4), (6, .int v6)] → k8 v2 v4 v6 t_matrix = some RR → W p l e R s m args below meth c H locs 0 0 Q (F0 m 8 ls [])) : ∀ (v2 : Int64) (v4 : Int64) (v6 : Int32) (t_matrix : Nat → Int64) (H : Heap) (locs : List Loc) (ls : Array Slot), va_P D CL [(q_t, .inr (8, [.int t_nodes, .int t_arcs, .int t_left, .ref q_t_froms, .ref q_t_tos, .ref q_t_weights, .ref q_t_there, .ref q_t_part, .ref q_t_matrix, .ref q_t_row, .ref q_t_low, .int t_swapIn, .int t_swapOut, .ref q_t_own, .ref q_t_chosen, .ref q_t_degrees, .long t_boundedSet, .ref q_t_fixed, .ref q_t_grown, .ref q_t_costs, .ref q_t_order, .long t_joinedSet])), (q_t_matrix, .inl (cJ, 100, .inr (.inl t_matrix)))] H → va_D A [(q_t, .inr (8, [.int t_nodes, .int t_arcs, .int t_left, .ref q_t_froms, .ref q_t_tos, .ref q_t_weights, .ref q_t_there, .ref q_t_part, .ref q_t_matrix, .ref q_t_row, .ref q_t_low, .int t_swapIn, .int t_swapOut, .ref q_t_own, .ref q_t_chosen, .ref q_t_degrees, .long t_boundedSet, .ref q_t_fixed, .ref q_t_grown, .ref q_t_costs, .ref q_t_order, .long t_joinedSet])), (q_t_matrix, .inl (cJ, 100, .inr (.inl t_matrix)))] → va_S A s.heap H locs → lv_has ls 11 [(0, .ref q_t), (1, .int p1), (2, .long v2), (4, .long v4), (6, .int v6)] → g_Mo_determinant_8 N p1 k8 v2 v4 v6 t_matrix = some RR → W p l e R s m args below meth c H locs 0 0 Q (F0 m 8 ls []) := by
  intro v2 v4 v6 t_matrix H locs ls hP hD hS hl hf
  obtain ⟨hx, hb, hml, hown, hts, hK, hA, hfr, hlo, hlk⟩ := id C0
  unfold g_Mo_determinant_8 at hf
  refine lv_iload hx hb d_Mo_determinant_8 (lv_at hl 4 rfl) ?_
  refine lv_iload_n hx hb d_Mo_determinant_10 rfl (lv_at hl 1 rfl) ?_
  refine lv_icmp_ge (tgt := 265) hx hb d_Mo_determinant_11 (by decide) (fun hc1 => ?_) (fun hc1 => ?_)
  · have hf := if_t hc1 hf
    refine lv_lload hx hb d_Mo_determinant_265 (lv_at hl 3 rfl) ?_
    refine lv_lload_n hx hb d_Mo_determinant_267 rfl (lv_at hl 2 rfl) ?_
    refine lv_lmul hx hb d_Mo_determinant_268 ?_
    exact hret 269 _ _ _ (v4 * v2) t_matrix d_Mo_determinant_269 hP hD hS hf
  · have hf := if_f hc1 hf
    refine lv_iload hx hb d_Mo_determinant_14 (lv_at hl 4 rfl) ?_
    refine lv_istore (lv' := [(7, .int v6), (0, .ref q_t), (1, .int p1), (2, .long v2), (4, .long v4), (6, .int v6)]) hx hb d_Mo_determinant_16 hl (by decide) rfl (fun ls hl => ?_)
    exact w_Mo_determinant_18_l C0 hret k8 hk8 N v2 v4 v6 v6 t_matrix _ _ _ hP hD hS (lv_sub hl [1, 2, 3, 4, 5, 0] rfl) hf
set_option maxRecDepth 100000 in
set_option maxHeartbeats 4000000 in
theorem w_Mo_determinant_8_l {p : Program} {l : Launch} {e : Env} {R : Room} {s : State} {m : MethodId} {args : Array Value} {below : List Frame} {meth : Method} {c : Code} {D : va_G} {cI cJ cG cZ : ClassId} {A : Nat → Prop} {Q : State → Prop} {q_t q_t_froms q_t_tos q_t_weights q_t_there q_t_part q_t_matrix q_t_row q_t_low q_t_own q_t_chosen q_t_degrees q_t_fixed q_t_grown q_t_costs q_t_order : Nat} {t_nodes : Int32} {t_arcs : Int32} {t_left : Int32} {t_swapIn : Int32} {t_swapOut : Int32} {t_boundedSet : Int64} {t_joinedSet : Int64} {p1 : Int32} {N : Nat} {RR : Int64 × (Nat → Int64)} (C0 : CX p R s m args meth c b_Mo_determinant 11 R_Mo lw_g D CL (TYs cI cJ cG cZ) A 0 0) (hret : ∀ (pc : Nat) (ls : Array Slot) (H : Heap) (locs : List Loc) (v : Int64) (t_matrix : Nat → Int64), decode b_Mo_determinant pc = .ok (.lreturn, 1) → va_P D CL [(q_t, .inr (8, [.int t_nodes, .int t_arcs, .int t_left, .ref q_t_froms, .ref q_t_tos, .ref q_t_weights, .ref q_t_there, .ref q_t_part, .ref q_t_matrix, .ref q_t_row, .ref q_t_low, .int t_swapIn, .int t_swapOut, .ref q_t_own, .ref q_t_chosen, .ref q_t_degrees, .long t_boundedSet, .ref q_t_fixed, .ref q_t_grown, .ref q_t_costs, .ref q_t_order, .long t_joinedSet])), (q_t_matrix, .inl (cJ, 100, .inr (.inl t_matrix)))] H → va_D A [(q_t, .inr (8, [.int t_nodes, .int t_arcs, .int t_left, .ref q_t_froms, .ref q_t_tos, .ref q_t_weights, .ref q_t_there, .ref q_t_part, .ref q_t_matrix, .ref q_t_row, .ref q_t_low, .int t_swapIn, .int t_swapOut, .ref q_t_own, .ref q_t_chosen, .ref q_t_degrees, .long t_boundedSet, .ref q_t_fixed, .ref q_t_grown, .ref q_t_costs, .ref q_t_order, .long t_joinedSet])), (q_t_matrix, .inl (cJ, 100, .inr (.inl t_matrix)))] → va_S A s.heap H locs → some (v, t_matrix) = some RR → W p l e R s m args below meth c H locs 0 0 Q (F0 m pc ls [.long v]))  : ∀ (n : Nat) (v2 : Int64) (v4 : Int64) (v6 : Int32) (t_matrix : Nat → Int64) (H : Heap) (locs : List Loc) (ls : Array Slot), va_P D CL [(q_t, .inr (8, [.int t_nodes, .int t_arcs, .int t_left, .ref q_t_froms, .ref q_t_tos, .ref q_t_weights, .ref q_t_there, .ref q_t_part, .ref q_t_matrix, .ref q_t_row, .ref q_t_low, .int t_swapIn, .int t_swapOut, .ref q_t_own, .ref q_t_chosen, .ref q_t_degrees, .long t_boundedSet, .ref q_t_fixed, .ref q_t_grown, .ref q_t_costs, .ref q_t_order, .long t_joinedSet])), (q_t_matrix, .inl (cJ, 100, .inr (.inl t_matrix)))] H → va_D A [(q_t, .inr (8, [.int t_nodes, .int t_arcs, .int t_left, .ref q_t_froms, .ref q_t_tos, .ref q_t_weights, .ref q_t_there, .ref q_t_part, .ref q_t_matrix, .ref q_t_row, .ref q_t_low, .int t_swapIn, .int t_swapOut, .ref q_t_own, .ref q_t_chosen, .ref q_t_degrees, .long t_boundedSet, .ref q_t_fixed, .ref q_t_grown, .ref q_t_costs, .ref q_t_order, .long t_joinedSet])), (q_t_matrix, .inl (cJ, 100, .inr (.inl t_matrix)))] → va_S A s.heap H locs → lv_has ls 11 [(0, .ref q_t), (1, .int p1), (2, .long v2), (4, .long v4), (6, .int v6)] → lo4 (g_Mo_determinant_8 N p1) n v2 v4 v6 t_matrix = some RR → W p l e R s m args below meth c H locs 0 0 Q (F0 m 8 ls []) := by
  intro n
  induction n with
  | zero =>
    intro v2 v4 v6 t_matrix H locs ls hP hD hS hl hf
    exact absurd hf (by simp [lo4])
  | succ n ih =>
    intro v2 v4 v6 t_matrix H locs ls hP hD hS hl hf
    exact w_Mo_determinant_8 C0 hret  (lo4 (g_Mo_determinant_8 N p1) n) ih v2 v4 v6 t_matrix H locs ls hP hD hS hl hf
set_option maxRecDepth 100000 in
set_option maxHeartbeats 4000000 in
theorem w_Mo_determinant_e {p : Program} {l : Launch} {e : Env} {R : Room} {s : State} {m : MethodId} {args : Array Value} {below : List Frame} {meth : Method} {c : Code} {D : va_G} {cI cJ cG cZ : ClassId} {A : Nat → Prop} {Q : State → Prop} {q_t q_t_froms q_t_tos q_t_weights q_t_there q_t_part q_t_matrix q_t_row q_t_low q_t_own q_t_chosen q_t_degrees q_t_fixed q_t_grown q_t_costs q_t_order : Nat} {t_nodes : Int32} {t_arcs : Int32} {t_left : Int32} {t_swapIn : Int32} {t_swapOut : Int32} {t_boundedSet : Int64} {t_joinedSet : Int64} {t_matrix0 : Nat → Int64} {p1 : Int32} {N : Nat} {RR : Int64 × (Nat → Int64)} (C0 : CX p R s m args meth c b_Mo_determinant 11 R_Mo lw_g D CL (TYs cI cJ cG cZ) A 0 0) (hret : ∀ (pc : Nat) (ls : Array Slot) (H : Heap) (locs : List Loc) (v : Int64) (t_matrix : Nat → Int64), decode b_Mo_determinant pc = .ok (.lreturn, 1) → va_P D CL [(q_t, .inr (8, [.int t_nodes, .int t_arcs, .int t_left, .ref q_t_froms, .ref q_t_tos, .ref q_t_weights, .ref q_t_there, .ref q_t_part, .ref q_t_matrix, .ref q_t_row, .ref q_t_low, .int t_swapIn, .int t_swapOut, .ref q_t_own, .ref q_t_chosen, .ref q_t_degrees, .long t_boundedSet, .ref q_t_fixed, .ref q_t_grown, .ref q_t_costs, .ref q_t_order, .long t_joinedSet])), (q_t_matrix, .inl (cJ, 100, .inr (.inl t_matrix)))] H → va_D A [(q_t, .inr (8, [.int t_nodes, .int t_arcs, .int t_left, .ref q_t_froms, .ref q_t_tos, .ref q_t_weights, .ref q_t_there, .ref q_t_part, .ref q_t_matrix, .ref q_t_row, .ref q_t_low, .int t_swapIn, .int t_swapOut, .ref q_t_own, .ref q_t_chosen, .ref q_t_degrees, .long t_boundedSet, .ref q_t_fixed, .ref q_t_grown, .ref q_t_costs, .ref q_t_order, .long t_joinedSet])), (q_t_matrix, .inl (cJ, 100, .inr (.inl t_matrix)))] → va_S A s.heap H locs → some (v, t_matrix) = some RR → W p l e R s m args below meth c H locs 0 0 Q (F0 m pc ls [.long v])) : ∀ (H : Heap) (locs : List Loc) (ls : Array Slot), va_P D CL [(q_t, .inr (8, [.int t_nodes, .int t_arcs, .int t_left, .ref q_t_froms, .ref q_t_tos, .ref q_t_weights, .ref q_t_there, .ref q_t_part, .ref q_t_matrix, .ref q_t_row, .ref q_t_low, .int t_swapIn, .int t_swapOut, .ref q_t_own, .ref q_t_chosen, .ref q_t_degrees, .long t_boundedSet, .ref q_t_fixed, .ref q_t_grown, .ref q_t_costs, .ref q_t_order, .long t_joinedSet])), (q_t_matrix, .inl (cJ, 100, .inr (.inl t_matrix0)))] H → va_D A [(q_t, .inr (8, [.int t_nodes, .int t_arcs, .int t_left, .ref q_t_froms, .ref q_t_tos, .ref q_t_weights, .ref q_t_there, .ref q_t_part, .ref q_t_matrix, .ref q_t_row, .ref q_t_low, .int t_swapIn, .int t_swapOut, .ref q_t_own, .ref q_t_chosen, .ref q_t_degrees, .long t_boundedSet, .ref q_t_fixed, .ref q_t_grown, .ref q_t_costs, .ref q_t_order, .long t_joinedSet])), (q_t_matrix, .inl (cJ, 100, .inr (.inl t_matrix0)))] → va_S A s.heap H locs → lv_has ls 11 [(0, .ref q_t), (1, .int p1)] → f_Mo_determinant N p1 t_matrix0 = some RR → W p l e R s m args below meth c H locs 0 0 Q (F0 m 0 ls []) := by
  intro H locs ls hP hD hS hl hf
  obtain ⟨hx, hb, hml, hown, hts, hK, hA, hfr, hlo, hlk⟩ := id C0
  unfold f_Mo_determinant at hf
  refine lv_lconst (v := 1) hx hb d_Mo_determinant_0 (by decide) ?_
  refine lv_lstore_n (lv' := [(2, .long (1 : Int64)), (0, .ref q_t), (1, .int p1)]) hx hb d_Mo_determinant_1 rfl hl (by decide) rfl (fun ls hl => ?_)
  refine lv_lconst (v := 1) hx hb d_Mo_determinant_2 (by decide) ?_
  refine lv_lstore (lv' := [(4, .long (1 : Int64)), (2, .long (1 : Int64)), (0, .ref q_t), (1, .int p1)]) hx hb d_Mo_determinant_3 hl (by decide) rfl (fun ls hl => ?_)
  refine lv_iconst (v := 0) hx hb d_Mo_determinant_5 (by decide) ?_
  refine lv_istore (lv' := [(6, .int (0 : Int32)), (4, .long (1 : Int64)), (2, .long (1 : Int64)), (0, .ref q_t), (1, .int p1)]) hx hb d_Mo_determinant_6 hl (by decide) rfl (fun ls hl => ?_)
  exact w_Mo_determinant_8_l C0 hret N (1 : Int64) (1 : Int64) (0 : Int32) t_matrix0 _ _ _ hP hD hS (lv_sub hl [3, 4, 2, 1, 0] rfl) hf
set_option maxRecDepth 100000 in
set_option maxHeartbeats 4000000 in
theorem c_Mo_determinant (l : Launch) (D : va_G) (cI cJ cG cZ : ClassId) (q_t q_t_froms q_t_tos q_t_weights q_t_there q_t_part q_t_matrix q_t_row q_t_low q_t_own q_t_chosen q_t_degrees q_t_fixed q_t_grown q_t_costs q_t_order : Nat) (t_nodes : Int32) (t_arcs : Int32) (t_left : Int32) (t_swapIn : Int32) (t_swapOut : Int32) (t_boundedSet : Int64) (t_joinedSet : Int64) (t_matrix0 : Nat → Int64) (p1 : Int32) {N : Nat} {r : Int64} {t_matrix' : Nat → Int64} (hf : f_Mo_determinant N p1 t_matrix0 = some (r, t_matrix')) : MeG l D CL (TYs cI cJ cG cZ) y_Mo_determinant ws_Mo_determinant (rm_Mo_determinant) [.ref q_t, .int p1] [(q_t, .inr (8, [.int t_nodes, .int t_arcs, .int t_left, .ref q_t_froms, .ref q_t_tos, .ref q_t_weights, .ref q_t_there, .ref q_t_part, .ref q_t_matrix, .ref q_t_row, .ref q_t_low, .int t_swapIn, .int t_swapOut, .ref q_t_own, .ref q_t_chosen, .ref q_t_degrees, .long t_boundedSet, .ref q_t_fixed, .ref q_t_grown, .ref q_t_costs, .ref q_t_order, .long t_joinedSet])), (q_t_matrix, .inl (cJ, 100, .inr (.inl t_matrix0)))] (some (.long r)) [(q_t, .inr (8, [.int t_nodes, .int t_arcs, .int t_left, .ref q_t_froms, .ref q_t_tos, .ref q_t_weights, .ref q_t_there, .ref q_t_part, .ref q_t_matrix, .ref q_t_row, .ref q_t_low, .int t_swapIn, .int t_swapOut, .ref q_t_own, .ref q_t_chosen, .ref q_t_degrees, .long t_boundedSet, .ref q_t_fixed, .ref q_t_grown, .ref q_t_costs, .ref q_t_order, .long t_joinedSet])), (q_t_matrix, .inl (cJ, 100, .inr (.inl t_matrix')))] := by
  intro sz
  refine Met.ofW (cc := b_Mo_determinant) (maxL := 11) (ret := (some .long)) (by decide) rfl ?_
  intro p e s m args below meth c s₁ B hml hv
  obtain ⟨rfl, hsz, hP, hK, hD0⟩ := hv
  subst hsz
  have hD := hD0.self (sz := s.heap.size)
  generalize hAe : va_A [(q_t, .inr (8, [.int t_nodes, .int t_arcs, .int t_left, .ref q_t_froms, .ref q_t_tos, .ref q_t_weights, .ref q_t_there, .ref q_t_part, .ref q_t_matrix, .ref q_t_row, .ref q_t_low, .int t_swapIn, .int t_swapOut, .ref q_t_own, .ref q_t_chosen, .ref q_t_degrees, .long t_boundedSet, .ref q_t_fixed, .ref q_t_grown, .ref q_t_costs, .ref q_t_order, .long t_joinedSet])), (q_t_matrix, .inl (cJ, 100, .inr (.inl t_matrix0)))] s.heap.size = A at hD ⊢
  have C0 : CX p (headSpec ws_Mo_determinant (rm_Mo_determinant)).room s m _ meth c b_Mo_determinant 11 R_Mo lw_g D CL (TYs cI cJ cG cZ) A 0 0 := ⟨B.exec, B.bytes, hml, findClass_of_methodNamed B.named, fun w h => atoms_spec (ws := ws_Mo_determinant) B.pre w (List.mem_cons_of_mem _ h), hK, fun q h => by rw [← hAe]; exact Or.inr h, Nat.le_of_ble_eq_true rfl, Nat.le_of_ble_eq_true rfl, B.notSynchronized⟩
  have hl := lv_entry ([.ref q_t, .int p1]) (n := 11) (Nat.le_of_ble_eq_true rfl)
  rw [lg_entry_eq]
  generalize (lg_sl ([.ref q_t, .int p1]) ++ List.replicate (11 - (lg_sl ([.ref q_t, .int p1])).length) Slot.unset).toArray = ls at hl ⊢
  have hl : lv_has ls 11 [(0, .ref q_t), (1, .int p1)] := hl
  exact w_Mo_determinant_e C0 (fun pc ls H locs v t_matrix hdg hP hD hS e => by cases e; exact W.lret B.exec B.bytes B.returns (fun t ht hW => ⟨⟨rfl, by rw [ht]; exact hP, va_K.moved hW.alike hK, hD⟩, hS.F ht⟩) hS.2.2 hdg) _ _ _ hP hD va_S.rf (lv_sub hl [0, 1] rfl) hf
