abbrev b_Mo_judge : ByteArray := prog_11_method_26_code
def y_Mo_judge : MethodName := ⟨R_Mo, "judge", "(J)I"⟩
def ws_Mo_judge : List Cond := .code y_Mo_judge b_Mo_judge 5 (some .int) :: lw_g
theorem wi_Mo_judge : ∀ w ∈ ws_Mo_judge, w ∈ lw_g := wi_of m_4_56
abbrev rm_Mo_judge : Room := { frames := 2, cells := 0, slots := 0, locals := 52 }
theorem hd_Mo_judge : y_Mo_judge.cls = R_Mo ∧ y_Mo_judge.cls ≠ "java/lang/invoke/MethodHandle" ∧ y_Mo_judge.cls ≠ "java/lang/invoke/VarHandle" ∧ (parseMethodDescriptor y_Mo_judge.desc).map (fun d => d.parameters.length) = some 1 := by decide +kernel
theorem d_Mo_judge_0 : decode b_Mo_judge 0 = .ok (.iconst 0, 1) := by decide +kernel
theorem d_Mo_judge_1 : decode b_Mo_judge 1 = .ok (.istore_n 3, 1) := by decide +kernel
theorem d_Mo_judge_2 : decode b_Mo_judge 2 = .ok (.iload_n 3, 1) := by decide +kernel
theorem d_Mo_judge_3 : decode b_Mo_judge 3 = .ok (.bipush 64, 2) := by decide +kernel
theorem d_Mo_judge_5 : decode b_Mo_judge 5 = .ok (.if_icmp .ge 29, 3) := by decide +kernel
theorem d_Mo_judge_8 : decode b_Mo_judge 8 = .ok (.lload_n 1, 1) := by decide +kernel
theorem d_Mo_judge_9 : decode b_Mo_judge 9 = .ok (.iload_n 3, 1) := by decide +kernel
theorem d_Mo_judge_10 : decode b_Mo_judge 10 = .ok (.lushr, 1) := by decide +kernel
theorem d_Mo_judge_11 : decode b_Mo_judge 11 = .ok (.lconst 1, 1) := by decide +kernel
theorem d_Mo_judge_12 : decode b_Mo_judge 12 = .ok (.land, 1) := by decide +kernel
theorem d_Mo_judge_13 : decode b_Mo_judge 13 = .ok (.lconst 1, 1) := by decide +kernel
theorem d_Mo_judge_14 : decode b_Mo_judge 14 = .ok (.lcmp, 1) := by decide +kernel
theorem d_Mo_judge_15 : decode b_Mo_judge 15 = .ok (.ifCond .ne 13, 3) := by decide +kernel
theorem d_Mo_judge_18 : decode b_Mo_judge 18 = .ok (.aload_n 0, 1) := by decide +kernel
theorem d_Mo_judge_19 : decode b_Mo_judge 19 = .ok (.iload_n 3, 1) := by decide +kernel
theorem d_Mo_judge_20 : decode b_Mo_judge 20 = .ok (.invokevirtual 71, 3) := by decide +kernel
theorem d_Mo_judge_23 : decode b_Mo_judge 23 = .ok (.ifCond .ne 5, 3) := by decide +kernel
theorem d_Mo_judge_26 : decode b_Mo_judge 26 = .ok (.iconst 1, 1) := by decide +kernel
theorem d_Mo_judge_27 : decode b_Mo_judge 27 = .ok (.ireturn, 1) := by decide +kernel
theorem d_Mo_judge_28 : decode b_Mo_judge 28 = .ok (.iinc 3 1, 3) := by decide +kernel
theorem d_Mo_judge_31 : decode b_Mo_judge 31 = .ok (.goto (-29), 3) := by decide +kernel
theorem d_Mo_judge_34 : decode b_Mo_judge 34 = .ok (.aload_n 0, 1) := by decide +kernel
theorem d_Mo_judge_35 : decode b_Mo_judge 35 = .ok (.invokevirtual 74, 3) := by decide +kernel
theorem d_Mo_judge_38 : decode b_Mo_judge 38 = .ok (.iconst 0, 1) := by decide +kernel
theorem d_Mo_judge_39 : decode b_Mo_judge 39 = .ok (.istore_n 3, 1) := by decide +kernel
theorem d_Mo_judge_40 : decode b_Mo_judge 40 = .ok (.iload_n 3, 1) := by decide +kernel
theorem d_Mo_judge_41 : decode b_Mo_judge 41 = .ok (.aload_n 0, 1) := by decide +kernel
theorem d_Mo_judge_42 : decode b_Mo_judge 42 = .ok (.getfield 61, 3) := by decide +kernel
theorem d_Mo_judge_45 : decode b_Mo_judge 45 = .ok (.if_icmp .ge 29, 3) := by decide +kernel
theorem d_Mo_judge_48 : decode b_Mo_judge 48 = .ok (.lload_n 1, 1) := by decide +kernel
theorem d_Mo_judge_49 : decode b_Mo_judge 49 = .ok (.iload_n 3, 1) := by decide +kernel
theorem d_Mo_judge_50 : decode b_Mo_judge 50 = .ok (.lshr, 1) := by decide +kernel
theorem d_Mo_judge_51 : decode b_Mo_judge 51 = .ok (.lconst 1, 1) := by decide +kernel
theorem d_Mo_judge_52 : decode b_Mo_judge 52 = .ok (.land, 1) := by decide +kernel
theorem d_Mo_judge_53 : decode b_Mo_judge 53 = .ok (.lconst 1, 1) := by decide +kernel
theorem d_Mo_judge_54 : decode b_Mo_judge 54 = .ok (.lcmp, 1) := by decide +kernel
theorem d_Mo_judge_55 : decode b_Mo_judge 55 = .ok (.ifCond .ne 13, 3) := by decide +kernel
theorem d_Mo_judge_58 : decode b_Mo_judge 58 = .ok (.aload_n 0, 1) := by decide +kernel
theorem d_Mo_judge_59 : decode b_Mo_judge 59 = .ok (.iload_n 3, 1) := by decide +kernel
theorem d_Mo_judge_60 : decode b_Mo_judge 60 = .ok (.invokevirtual 77, 3) := by decide +kernel
theorem d_Mo_judge_63 : decode b_Mo_judge 63 = .ok (.ifCond .ne 5, 3) := by decide +kernel
theorem d_Mo_judge_66 : decode b_Mo_judge 66 = .ok (.iconst 2, 1) := by decide +kernel
theorem d_Mo_judge_67 : decode b_Mo_judge 67 = .ok (.ireturn, 1) := by decide +kernel
theorem d_Mo_judge_68 : decode b_Mo_judge 68 = .ok (.iinc 3 1, 3) := by decide +kernel
theorem d_Mo_judge_71 : decode b_Mo_judge 71 = .ok (.goto (-31), 3) := by decide +kernel
theorem d_Mo_judge_74 : decode b_Mo_judge 74 = .ok (.iconst 0, 1) := by decide +kernel
theorem d_Mo_judge_75 : decode b_Mo_judge 75 = .ok (.istore_n 3, 1) := by decide +kernel
theorem d_Mo_judge_76 : decode b_Mo_judge 76 = .ok (.iload_n 3, 1) := by decide +kernel
theorem d_Mo_judge_77 : decode b_Mo_judge 77 = .ok (.aload_n 0, 1) := by decide +kernel
theorem d_Mo_judge_78 : decode b_Mo_judge 78 = .ok (.getfield 61, 3) := by decide +kernel
theorem d_Mo_judge_81 : decode b_Mo_judge 81 = .ok (.if_icmp .ge 45, 3) := by decide +kernel
theorem d_Mo_judge_84 : decode b_Mo_judge 84 = .ok (.aload_n 0, 1) := by decide +kernel
theorem d_Mo_judge_85 : decode b_Mo_judge 85 = .ok (.getfield 19, 3) := by decide +kernel
theorem d_Mo_judge_88 : decode b_Mo_judge 88 = .ok (.iload_n 3, 1) := by decide +kernel
theorem d_Mo_judge_89 : decode b_Mo_judge 89 = .ok (.baload, 1) := by decide +kernel
theorem d_Mo_judge_90 : decode b_Mo_judge 90 = .ok (.ifCond .eq 30, 3) := by decide +kernel
theorem d_Mo_judge_93 : decode b_Mo_judge 93 = .ok (.aload_n 0, 1) := by decide +kernel
theorem d_Mo_judge_94 : decode b_Mo_judge 94 = .ok (.getfield 23, 3) := by decide +kernel
theorem d_Mo_judge_97 : decode b_Mo_judge 97 = .ok (.aload_n 0, 1) := by decide +kernel
theorem d_Mo_judge_98 : decode b_Mo_judge 98 = .ok (.getfield 7, 3) := by decide +kernel
theorem d_Mo_judge_101 : decode b_Mo_judge 101 = .ok (.iload_n 3, 1) := by decide +kernel
theorem d_Mo_judge_102 : decode b_Mo_judge 102 = .ok (.iaload, 1) := by decide +kernel
theorem d_Mo_judge_103 : decode b_Mo_judge 103 = .ok (.iaload, 1) := by decide +kernel
theorem d_Mo_judge_104 : decode b_Mo_judge 104 = .ok (.aload_n 0, 1) := by decide +kernel
theorem d_Mo_judge_105 : decode b_Mo_judge 105 = .ok (.getfield 23, 3) := by decide +kernel
theorem d_Mo_judge_108 : decode b_Mo_judge 108 = .ok (.aload_n 0, 1) := by decide +kernel
theorem d_Mo_judge_109 : decode b_Mo_judge 109 = .ok (.getfield 13, 3) := by decide +kernel
theorem d_Mo_judge_112 : decode b_Mo_judge 112 = .ok (.iload_n 3, 1) := by decide +kernel
theorem d_Mo_judge_113 : decode b_Mo_judge 113 = .ok (.iaload, 1) := by decide +kernel
theorem d_Mo_judge_114 : decode b_Mo_judge 114 = .ok (.iaload, 1) := by decide +kernel
theorem d_Mo_judge_115 : decode b_Mo_judge 115 = .ok (.if_icmp .eq 5, 3) := by decide +kernel
theorem d_Mo_judge_118 : decode b_Mo_judge 118 = .ok (.iconst 3, 1) := by decide +kernel
theorem d_Mo_judge_119 : decode b_Mo_judge 119 = .ok (.ireturn, 1) := by decide +kernel
theorem d_Mo_judge_120 : decode b_Mo_judge 120 = .ok (.iinc 3 1, 3) := by decide +kernel
theorem d_Mo_judge_123 : decode b_Mo_judge 123 = .ok (.goto (-47), 3) := by decide +kernel
theorem d_Mo_judge_126 : decode b_Mo_judge 126 = .ok (.iconst 0, 1) := by decide +kernel
theorem d_Mo_judge_127 : decode b_Mo_judge 127 = .ok (.istore_n 3, 1) := by decide +kernel
theorem d_Mo_judge_128 : decode b_Mo_judge 128 = .ok (.iload_n 3, 1) := by decide +kernel
theorem d_Mo_judge_129 : decode b_Mo_judge 129 = .ok (.aload_n 0, 1) := by decide +kernel
theorem d_Mo_judge_130 : decode b_Mo_judge 130 = .ok (.getfield 61, 3) := by decide +kernel
theorem d_Mo_judge_133 : decode b_Mo_judge 133 = .ok (.if_icmp .ge 110, 3) := by decide +kernel
theorem d_Mo_judge_136 : decode b_Mo_judge 136 = .ok (.aload_n 0, 1) := by decide +kernel
theorem d_Mo_judge_137 : decode b_Mo_judge 137 = .ok (.getfield 19, 3) := by decide +kernel
theorem d_Mo_judge_140 : decode b_Mo_judge 140 = .ok (.iload_n 3, 1) := by decide +kernel
theorem d_Mo_judge_141 : decode b_Mo_judge 141 = .ok (.baload, 1) := by decide +kernel
theorem d_Mo_judge_142 : decode b_Mo_judge 142 = .ok (.ifCond .eq 95, 3) := by decide +kernel
theorem d_Mo_judge_145 : decode b_Mo_judge 145 = .ok (.lload_n 1, 1) := by decide +kernel
theorem d_Mo_judge_146 : decode b_Mo_judge 146 = .ok (.iload_n 3, 1) := by decide +kernel
theorem d_Mo_judge_147 : decode b_Mo_judge 147 = .ok (.lshr, 1) := by decide +kernel
theorem d_Mo_judge_148 : decode b_Mo_judge 148 = .ok (.lconst 1, 1) := by decide +kernel
theorem d_Mo_judge_149 : decode b_Mo_judge 149 = .ok (.land, 1) := by decide +kernel
theorem d_Mo_judge_150 : decode b_Mo_judge 150 = .ok (.lconst 1, 1) := by decide +kernel
theorem d_Mo_judge_151 : decode b_Mo_judge 151 = .ok (.lcmp, 1) := by decide +kernel
theorem d_Mo_judge_152 : decode b_Mo_judge 152 = .ok (.ifCond .ne 6, 3) := by decide +kernel
theorem d_Mo_judge_155 : decode b_Mo_judge 155 = .ok (.goto 82, 3) := by decide +kernel
theorem d_Mo_judge_158 : decode b_Mo_judge 158 = .ok (.iconst 0, 1) := by decide +kernel
theorem d_Mo_judge_159 : decode b_Mo_judge 159 = .ok (.istore 4, 2) := by decide +kernel
theorem d_Mo_judge_161 : decode b_Mo_judge 161 = .ok (.iload 4, 2) := by decide +kernel
theorem d_Mo_judge_163 : decode b_Mo_judge 163 = .ok (.aload_n 0, 1) := by decide +kernel
theorem d_Mo_judge_164 : decode b_Mo_judge 164 = .ok (.getfield 61, 3) := by decide +kernel
theorem d_Mo_judge_167 : decode b_Mo_judge 167 = .ok (.if_icmp .ge 70, 3) := by decide +kernel
theorem d_Mo_judge_170 : decode b_Mo_judge 170 = .ok (.lload_n 1, 1) := by decide +kernel
theorem d_Mo_judge_171 : decode b_Mo_judge 171 = .ok (.iload 4, 2) := by decide +kernel
theorem d_Mo_judge_173 : decode b_Mo_judge 173 = .ok (.lshr, 1) := by decide +kernel
theorem d_Mo_judge_174 : decode b_Mo_judge 174 = .ok (.lconst 1, 1) := by decide +kernel
theorem d_Mo_judge_175 : decode b_Mo_judge 175 = .ok (.land, 1) := by decide +kernel
theorem d_Mo_judge_176 : decode b_Mo_judge 176 = .ok (.lconst 1, 1) := by decide +kernel
theorem d_Mo_judge_177 : decode b_Mo_judge 177 = .ok (.lcmp, 1) := by decide +kernel
theorem d_Mo_judge_178 : decode b_Mo_judge 178 = .ok (.ifCond .ne 53, 3) := by decide +kernel
theorem d_Mo_judge_181 : decode b_Mo_judge 181 = .ok (.aload_n 0, 1) := by decide +kernel
theorem d_Mo_judge_182 : decode b_Mo_judge 182 = .ok (.getfield 16, 3) := by decide +kernel
theorem d_Mo_judge_185 : decode b_Mo_judge 185 = .ok (.iload 4, 2) := by decide +kernel
theorem d_Mo_judge_187 : decode b_Mo_judge 187 = .ok (.iaload, 1) := by decide +kernel
theorem d_Mo_judge_188 : decode b_Mo_judge 188 = .ok (.aload_n 0, 1) := by decide +kernel
theorem d_Mo_judge_189 : decode b_Mo_judge 189 = .ok (.getfield 16, 3) := by decide +kernel
theorem d_Mo_judge_192 : decode b_Mo_judge 192 = .ok (.iload_n 3, 1) := by decide +kernel
theorem d_Mo_judge_193 : decode b_Mo_judge 193 = .ok (.iaload, 1) := by decide +kernel
theorem d_Mo_judge_194 : decode b_Mo_judge 194 = .ok (.if_icmp .le 37, 3) := by decide +kernel
theorem d_Mo_judge_197 : decode b_Mo_judge 197 = .ok (.aload_n 0, 1) := by decide +kernel
theorem d_Mo_judge_198 : decode b_Mo_judge 198 = .ok (.lload_n 1, 1) := by decide +kernel
theorem d_Mo_judge_199 : decode b_Mo_judge 199 = .ok (.lconst 1, 1) := by decide +kernel
theorem d_Mo_judge_200 : decode b_Mo_judge 200 = .ok (.iload 4, 2) := by decide +kernel
theorem d_Mo_judge_202 : decode b_Mo_judge 202 = .ok (.lshl, 1) := by decide +kernel
theorem d_Mo_judge_203 : decode b_Mo_judge 203 = .ok (.ldc2_w 106, 3) := by decide +kernel
theorem d_Mo_judge_206 : decode b_Mo_judge 206 = .ok (.lxor, 1) := by decide +kernel
theorem d_Mo_judge_207 : decode b_Mo_judge 207 = .ok (.land, 1) := by decide +kernel
theorem d_Mo_judge_208 : decode b_Mo_judge 208 = .ok (.aload_n 0, 1) := by decide +kernel
theorem d_Mo_judge_209 : decode b_Mo_judge 209 = .ok (.getfield 7, 3) := by decide +kernel
theorem d_Mo_judge_212 : decode b_Mo_judge 212 = .ok (.iload_n 3, 1) := by decide +kernel
theorem d_Mo_judge_213 : decode b_Mo_judge 213 = .ok (.iaload, 1) := by decide +kernel
theorem d_Mo_judge_214 : decode b_Mo_judge 214 = .ok (.aload_n 0, 1) := by decide +kernel
theorem d_Mo_judge_215 : decode b_Mo_judge 215 = .ok (.getfield 13, 3) := by decide +kernel
theorem d_Mo_judge_218 : decode b_Mo_judge 218 = .ok (.iload_n 3, 1) := by decide +kernel
theorem d_Mo_judge_219 : decode b_Mo_judge 219 = .ok (.iaload, 1) := by decide +kernel
theorem d_Mo_judge_220 : decode b_Mo_judge 220 = .ok (.invokevirtual 108, 3) := by decide +kernel
theorem d_Mo_judge_223 : decode b_Mo_judge 223 = .ok (.ifCond .ne 8, 3) := by decide +kernel
theorem d_Mo_judge_226 : decode b_Mo_judge 226 = .ok (.bipush 100, 2) := by decide +kernel
theorem d_Mo_judge_228 : decode b_Mo_judge 228 = .ok (.iload_n 3, 1) := by decide +kernel
theorem d_Mo_judge_229 : decode b_Mo_judge 229 = .ok (.iadd, 1) := by decide +kernel
theorem d_Mo_judge_230 : decode b_Mo_judge 230 = .ok (.ireturn, 1) := by decide +kernel
theorem d_Mo_judge_231 : decode b_Mo_judge 231 = .ok (.iinc 4 1, 3) := by decide +kernel
theorem d_Mo_judge_234 : decode b_Mo_judge 234 = .ok (.goto (-73), 3) := by decide +kernel
theorem d_Mo_judge_237 : decode b_Mo_judge 237 = .ok (.iinc 3 1, 3) := by decide +kernel
theorem d_Mo_judge_240 : decode b_Mo_judge 240 = .ok (.goto (-112), 3) := by decide +kernel
theorem d_Mo_judge_243 : decode b_Mo_judge 243 = .ok (.iconst 0, 1) := by decide +kernel
theorem d_Mo_judge_244 : decode b_Mo_judge 244 = .ok (.ireturn, 1) := by decide +kernel
def g_Mo_judge_161 (N : Nat) (p1 : Int64) (t_arcs : Int32) (t_froms : Nat → Int32) (t_tos : Nat → Int32) (t_weights : Nat → Int32) (k128 : Int32 → (Nat → Int32) → Option (Int32 × (Nat → Int32))) (k161 : Int32 → Int32 → (Nat → Int32) → Option (Int32 × (Nat → Int32))) (v3 : Int32) (v4 : Int32) (t_part : Nat → Int32) : Option (Int32 × (Nat → Int32)) :=
  if t_arcs ≤ v4 then
    bn (v3 + (1 : Int32)) fun x1 =>
    k128 x1 t_part
  else
    if (lg_cmp ((p1 >>> (v4.toInt64 &&& 63)) &&& (1 : Int64)) (1 : Int64)) = 0 then
      gd (inb v4 30) <|
      gd (inb v3 30) <|
      if (t_weights v4.toNatClampNeg) ≤ (t_weights v3.toNatClampNeg) then
        bn (v4 + (1 : Int32)) fun x3 =>
        k161 v3 x3 t_part
      else
        gd (inb v3 30) <|
        gd (inb v3 30) <|
        bk2 (f_Mo_hangs N (p1 &&& (((1 : Int64) <<< (v4.toInt64 &&& 63)) ^^^ (-1 : Int64))) (t_froms v3.toNatClampNeg) (t_tos v3.toNatClampNeg) t_arcs t_part t_froms t_tos) fun r4 c5 =>
        if r4 = 0 then
          some ((100 : Int32) + v3, c5)
        else
          bn (v4 + (1 : Int32)) fun x6 =>
          k161 v3 x6 c5
    else
      bn (v4 + (1 : Int32)) fun x2 =>
      k161 v3 x2 t_part
def g_Mo_judge_128 (N : Nat) (p1 : Int64) (t_arcs : Int32) (t_there : Nat → Int32) (t_froms : Nat → Int32) (t_tos : Nat → Int32) (t_weights : Nat → Int32) (k128 : Int32 → (Nat → Int32) → Option (Int32 × (Nat → Int32))) (v3 : Int32) (t_part : Nat → Int32) : Option (Int32 × (Nat → Int32)) :=
  if t_arcs ≤ v3 then
    some ((0 : Int32), t_part)
  else
    gd (inb v3 30) <|
    if (t_there v3.toNatClampNeg) = 0 then
      bn (v3 + (1 : Int32)) fun x1 =>
      k128 x1 t_part
    else
      if (lg_cmp ((p1 >>> (v3.toInt64 &&& 63)) &&& (1 : Int64)) (1 : Int64)) = 0 then
        bn (v3 + (1 : Int32)) fun x2 =>
        k128 x2 t_part
      else
        lo3 (g_Mo_judge_161 N p1 t_arcs t_froms t_tos t_weights k128) N v3 (0 : Int32) t_part
def g_Mo_judge_76 (N : Nat) (p1 : Int64) (t_arcs : Int32) (t_there : Nat → Int32) (t_froms : Nat → Int32) (t_tos : Nat → Int32) (t_weights : Nat → Int32) (k76 : Int32 → (Nat → Int32) → Option (Int32 × (Nat → Int32))) (v3 : Int32) (t_part : Nat → Int32) : Option (Int32 × (Nat → Int32)) :=
  if t_arcs ≤ v3 then
    lo2 (g_Mo_judge_128 N p1 t_arcs t_there t_froms t_tos t_weights) N (0 : Int32) t_part
  else
    gd (inb v3 30) <|
    if (t_there v3.toNatClampNeg) = 0 then
      bn (v3 + (1 : Int32)) fun x1 =>
      k76 x1 t_part
    else
      gd (inb v3 30) <|
      gd (inb (t_froms v3.toNatClampNeg) 10) <|
      gd (inb v3 30) <|
      gd (inb (t_tos v3.toNatClampNeg) 10) <|
      if (t_part (t_froms v3.toNatClampNeg).toNatClampNeg) = (t_part (t_tos v3.toNatClampNeg).toNatClampNeg) then
        bn (v3 + (1 : Int32)) fun x2 =>
        k76 x2 t_part
      else
        some ((3 : Int32), t_part)
def g_Mo_judge_40 (N : Nat) (p1 : Int64) (t_arcs : Int32) (t_there : Nat → Int32) (t_froms : Nat → Int32) (t_tos : Nat → Int32) (t_weights : Nat → Int32) (k40 : Int32 → (Nat → Int32) → Option (Int32 × (Nat → Int32))) (v3 : Int32) (t_part : Nat → Int32) : Option (Int32 × (Nat → Int32)) :=
  if t_arcs ≤ v3 then
    lo2 (g_Mo_judge_76 N p1 t_arcs t_there t_froms t_tos t_weights) N (0 : Int32) t_part
  else
    if (lg_cmp ((p1 >>> (v3.toInt64 &&& 63)) &&& (1 : Int64)) (1 : Int64)) = 0 then
      bk2 (f_Mo_join N v3 t_froms t_part t_tos) fun r2 c3 =>
      if r2 = 0 then
        some ((2 : Int32), c3)
      else
        bn (v3 + (1 : Int32)) fun x4 =>
        k40 x4 c3
    else
      bn (v3 + (1 : Int32)) fun x1 =>
      k40 x1 t_part
def g_Mo_judge_2 (N : Nat) (p1 : Int64) (t_arcs : Int32) (t_there : Nat → Int32) (t_froms : Nat → Int32) (t_tos : Nat → Int32) (t_weights : Nat → Int32) (k2 : Int32 → (Nat → Int32) → Option (Int32 × (Nat → Int32))) (v3 : Int32) (t_part : Nat → Int32) : Option (Int32 × (Nat → Int32)) :=
  if (64 : Int32) ≤ v3 then
    bk1 (f_Mo_alone N t_part) fun c1 =>
    lo2 (g_Mo_judge_40 N p1 t_arcs t_there t_froms t_tos t_weights) N (0 : Int32) c1
  else
    if (lg_cmp (((p1.toUInt64 >>> (v3.toInt64.toUInt64 &&& Int64.toUInt64 63)).toInt64) &&& (1 : Int64)) (1 : Int64)) = 0 then
      bk1 (f_Mo_isArc v3 t_arcs t_there) fun r3 =>
      if r3 = 0 then
        some ((1 : Int32), t_part)
      else
        bn (v3 + (1 : Int32)) fun x4 =>
        k2 x4 t_part
    else
      bn (v3 + (1 : Int32)) fun x2 =>
      k2 x2 t_part
def f_Mo_judge (N : Nat) (p1 : Int64) (t_arcs : Int32) (t_there : Nat → Int32) (t_part0 : Nat → Int32) (t_froms : Nat → Int32) (t_tos : Nat → Int32) (t_weights : Nat → Int32) : Option (Int32 × (Nat → Int32)) :=
  lo2 (g_Mo_judge_2 N p1 t_arcs t_there t_froms t_tos t_weights) N (0 : Int32) t_part0
set_option maxRecDepth 100000 in
set_option maxHeartbeats 4000000 in
theorem w_Mo_judge_161 {p : Program} {l : Launch} {e : Env} {R : Room} {s : State} {m : MethodId} {args : Array Value} {below : List Frame} {meth : Method} {c : Code} {D : va_G} {cI cJ cG cZ : ClassId} {A : Nat → Prop} {Q : State → Prop} {q_t q_t_froms q_t_tos q_t_weights q_t_there q_t_part q_t_matrix q_t_row q_t_low q_t_own q_t_chosen q_t_degrees q_t_fixed q_t_grown q_t_costs q_t_order : Nat} {t_nodes : Int32} {t_arcs : Int32} {t_left : Int32} {t_swapIn : Int32} {t_swapOut : Int32} {t_boundedSet : Int64} {t_joinedSet : Int64} {t_there : Nat → Int32} {t_froms : Nat → Int32} {t_tos : Nat → Int32} {t_weights : Nat → Int32} {p1 : Int64} {N : Nat} {RR : Int32 × (Nat → Int32)} (C0 : CX p R s m args meth c b_Mo_judge 5 R_Mo lw_g D CL (TYs cI cJ cG cZ) A 2 52) (hret : ∀ (pc : Nat) (ls : Array Slot) (H : Heap) (locs : List Loc) (v : Int32) (t_part : Nat → Int32), decode b_Mo_judge pc = .ok (.ireturn, 1) → va_P D CL [(q_t, .inr (8, [.int t_nodes, .int t_arcs, .int t_left, .ref q_t_froms, .ref q_t_tos, .ref q_t_weights, .ref q_t_there, .ref q_t_part, .ref q_t_matrix, .ref q_t_row, .ref q_t_low, .int t_swapIn, .int t_swapOut, .ref q_t_own, .ref q_t_chosen, .ref q_t_degrees, .long t_boundedSet, .ref q_t_fixed, .ref q_t_grown, .ref q_t_costs, .ref q_t_order, .long t_joinedSet])), (q_t_there, .inl (cZ, 30, .inl t_there)), (q_t_part, .inl (cI, 10, .inl t_part)), (q_t_froms, .inl (cI, 30, .inl t_froms)), (q_t_tos, .inl (cI, 30, .inl t_tos)), (q_t_weights, .inl (cI, 30, .inl t_weights))] H → va_D A [(q_t, .inr (8, [.int t_nodes, .int t_arcs, .int t_left, .ref q_t_froms, .ref q_t_tos, .ref q_t_weights, .ref q_t_there, .ref q_t_part, .ref q_t_matrix, .ref q_t_row, .ref q_t_low, .int t_swapIn, .int t_swapOut, .ref q_t_own, .ref q_t_chosen, .ref q_t_degrees, .long t_boundedSet, .ref q_t_fixed, .ref q_t_grown, .ref q_t_costs, .ref q_t_order, .long t_joinedSet])), (q_t_there, .inl (cZ, 30, .inl t_there)), (q_t_part, .inl (cI, 10, .inl t_part)), (q_t_froms, .inl (cI, 30, .inl t_froms)), (q_t_tos, .inl (cI, 30, .inl t_tos)), (q_t_weights, .inl (cI, 30, .inl t_weights))] → va_S A s.heap H locs → some (v, t_part) = some RR → W p l e R s m args below meth c H locs 0 0 Q (F0 m pc ls [.int v])) (k128 : Int32 → (Nat → Int32) → Option (Int32 × (Nat → Int32))) (hk128 : ∀ (v3 : Int32) (t_part : Nat → Int32) (H : Heap) (locs : List Loc) (ls : Array Slot), va_P D CL [(q_t, .inr (8, [.int t_nodes, .int t_arcs, .int t_left, .ref q_t_froms, .ref q_t_tos, .ref q_t_weights, .ref q_t_there, .ref q_t_part, .ref q_t_matrix, .ref q_t_row, .ref q_t_low, .int t_swapIn, .int t_swapOut, .ref q_t_own, .ref q_t_chosen, .ref q_t_degrees, .long t_boundedSet, .ref q_t_fixed, .ref q_t_grown, .ref q_t_costs, .ref q_t_order, .long t_joinedSet])), (q_t_there, .inl (cZ, 30, .inl t_there)), (q_t_part, .inl (cI, 10, .inl t_part)), (q_t_froms, .inl (cI, 30, .inl t_froms)), (q_t_tos, .inl (cI, 30, .inl t_tos)), (q_t_weights, .inl (cI, 30, .inl t_weights))] H → va_D A [(q_t, .inr (8, [.int t_nodes, .int t_arcs, .int t_left, .ref q_t_froms, .ref q_t_tos, .ref q_t_weights, .ref q_t_there, .ref q_t_part, .ref q_t_matrix, .ref q_t_row, .ref q_t_low, .int t_swapIn, .int t_swapOut, .ref q_t_own, .ref q_t_chosen, .ref q_t_degrees, .long t_boundedSet, .ref q_t_fixed, .ref q_t_grown, .ref q_t_costs, .ref q_t_order, .long t_joinedSet])), (q_t_there, .inl (cZ, 30, .inl t_there)), (q_t_part, .inl (cI, 10, .inl t_part)), (q_t_froms, .inl (cI, 30, .inl t_froms)), (q_t_tos, .inl (cI, 30, .inl t_tos)), (q_t_weights, .inl (cI, 30, .inl t_weights))] → va_S A s.heap H locs → lv_has ls 5 [(0, .ref q_t), (1, .long p1), (3, .int v3)] → k128 v3 t_part = some RR → W p l e R s m args below meth c H locs 0 0 Q (F0 m 128 ls [])) (k161 : Int32 → Int32 → (Nat → Int32) → Option (Int32 × (Nat → Int32))) (hk161 : ∀ (v3 : Int32) (v4 : Int32) (t_part : Nat → Int32) (H : Heap) (locs : List Loc) (ls : Array Slot), va_P D CL [(q_t, .inr (8, [.int t_nodes, .int t_arcs, .int t_left, .ref q_t_froms, .ref q_t_tos, .ref q_t_weights, .ref q_t_there, .ref q_t_part, .ref q_t_matrix, .ref q_t_row, .ref q_t_low, .int t_swapIn, .int t_swapOut, .ref q_t_own, .ref q_t_chosen, .ref q_t_degrees, .long t_boundedSet, .ref q_t_fixed, .ref q_t_grown, .ref q_t_costs, .ref q_t_order, .long t_joinedSet])), (q_t_there, .inl (cZ, 30, .inl t_there)), (q_t_part, .inl (cI, 10, .inl t_part)), (q_t_froms, .inl (cI, 30, .inl t_froms)), (q_t_tos, .inl (cI, 30, .inl t_tos)), (q_t_weights, .inl (cI, 30, .inl t_weights))] H → va_D A [(q_t, .inr (8, [.int t_nodes, .int t_arcs, .int t_left, .ref q_t_froms, .ref q_t_tos, .ref q_t_weights, .ref q_t_there, .ref q_t_part, .ref q_t_matrix, .ref q_t_row, .ref q_t_low, .int t_swapIn, .int t_swapOut, .ref q_t_own, .ref q_t_chosen, .ref q_t_degrees, .long t_boundedSet, .ref q_t_fixed, .ref q_t_grown, .ref q_t_costs, .ref q_t_order, .long t_joinedSet])), (q_t_there, .inl (cZ, 30, .inl t_there)), (q_t_part, .inl (cI, 10, .inl t_part)), (q_t_froms, .inl (cI, 30, .inl t_froms)), (q_t_tos, .inl (cI, 30, .inl t_tos)), (q_t_weights, .inl (cI, 30, .inl t_weights))] → va_S A s.heap H locs → lv_has ls 5 [(0, .ref q_t), (1, .long p1), (3, .int v3), (4, .int v4)] → k161 v3 v4 t_part = some RR → W p l e R s m args below meth c H locs 0 0 Q (F0 m 161 ls [])) : ∀ (v3 : Int32) (v4 : Int32) (t_part : Nat → Int32) (H : Heap) (locs : List Loc) (ls : Array Slot), va_P D CL [(q_t, .inr (8, [.int t_nodes, .int t_arcs, .int t_left, .ref q_t_froms, .ref q_t_tos, .ref q_t_weights, .ref q_t_there, .ref q_t_part, .ref q_t_matrix, .ref q_t_row, .ref q_t_low, .int t_swapIn, .int t_swapOut, .ref q_t_own, .ref q_t_chosen, .ref q_t_degrees, .long t_boundedSet, .ref q_t_fixed, .ref q_t_grown, .ref q_t_costs, .ref q_t_order, .long t_joinedSet])), (q_t_there, .inl (cZ, 30, .inl t_there)), (q_t_part, .inl (cI, 10, .inl t_part)), (q_t_froms, .inl (cI, 30, .inl t_froms)), (q_t_tos, .inl (cI, 30, .inl t_tos)), (q_t_weights, .inl (cI, 30, .inl t_weights))] H → va_D A [(q_t, .inr (8, [.int t_nodes, .int t_arcs, .int t_left, .ref q_t_froms, .ref q_t_tos, .ref q_t_weights, .ref q_t_there, .ref q_t_part, .ref q_t_matrix, .ref q_t_row, .ref q_t_low, .int t_swapIn, .int t_swapOut, .ref q_t_own, .ref q_t_chosen, .ref q_t_degrees, .long t_boundedSet, .ref q_t_fixed, .ref q_t_grown, .ref q_t_costs, .ref q_t_order, .long t_joinedSet])), (q_t_there, .inl (cZ, 30, .inl t_there)), (q_t_part, .inl (cI, 10, .inl t_part)), (q_t_froms, .inl (cI, 30, .inl t_froms)), (q_t_tos, .inl (cI, 30, .inl t_tos)), (q_t_weights, .inl (cI, 30, .inl t_weights))] → va_S A s.heap H locs → lv_has ls 5 [(0, .ref q_t), (1, .long p1), (3, .int v3), (4, .int v4)] → g_Mo_judge_161 N p1 t_arcs t_froms t_tos t_weights k128 k161 v3 v4 t_part = some RR → W p l e R s m args below meth c H locs 0 0 Q (F0 m 161 ls []) := by
  intro v3 v4 t_part H locs ls hP hD hS hl hf
  obtain ⟨hx, hb, hml, hown, hts, hK, hA, hfr, hlo, hlk⟩ := id C0
  unfold g_Mo_judge_161 at hf
  refine lv_iload hx hb d_Mo_judge_161 (lv_at hl 3 rfl) ?_
  refine lv_aload_n hx hb d_Mo_judge_163 rfl (lv_at hl 0 rfl) ?_
  refine va_get (D := D) (ci := 8) (v := .int t_arcs) (C := R_Mo) (T := F_Mo) (N := 22) hx hb hts i_Mo hown hK hP 0 rfl rfl 1 (by decide) (hts _ m_3_129) (fun _ h9 => h9) rfl d_Mo_judge_164 ?_
  refine lv_icmp_ge (tgt := 237) hx hb d_Mo_judge_167 (by decide) (fun hc1 => ?_) (fun hc1 => ?_)
  · have hf := if_t hc1 hf
    obtain ⟨x1, ex1⟩ : ∃ y : Int32, y = v3 + (1 : Int32) := ⟨_, rfl⟩
    have hf := bn_e ex1 hf
    refine lv_iinc (v := x1) (lv' := [(3, .int x1), (0, .ref q_t), (1, .long p1), (4, .int v4)]) hx hb d_Mo_judge_237 hl (k := 2) rfl (by rw [ex1]; rfl) (by decide) rfl (fun ls hl => ?_)
    refine lv_goto (tgt := 128) hx hb d_Mo_judge_240 (by decide) ?_
    exact hk128 x1 t_part _ _ _ hP hD hS (lv_sub hl [1, 2, 0] rfl) hf
  · have hf := if_f hc1 hf
    refine lv_lload_n hx hb d_Mo_judge_170 rfl (lv_at hl 1 rfl) ?_
    refine lv_iload hx hb d_Mo_judge_171 (lv_at hl 3 rfl) ?_
    refine lv_lshr (v := p1 >>> (v4.toInt64 &&& 63)) hx hb d_Mo_judge_173 rfl ?_
    refine lv_lconst (v := 1) hx hb d_Mo_judge_174 (by decide) ?_
    refine lv_land hx hb d_Mo_judge_175 ?_
    refine lv_lconst (v := 1) hx hb d_Mo_judge_176 (by decide) ?_
    refine W.lcmp hx hb d_Mo_judge_177 ?_
    refine lv_if_ne (tgt := 231) hx hb d_Mo_judge_178 (by decide) (fun hc2 => ?_) (fun hc2 => ?_)
    · have hf := if_f hc2 hf
      obtain ⟨x2, ex2⟩ : ∃ y : Int32, y = v4 + (1 : Int32) := ⟨_, rfl⟩
      have hf := bn_e ex2 hf
      refine lv_iinc (v := x2) (lv' := [(4, .int x2), (0, .ref q_t), (1, .long p1), (3, .int v3)]) hx hb d_Mo_judge_231 hl (k := 3) rfl (by rw [ex2]; rfl) (by decide) rfl (fun ls hl => ?_)
      refine lv_goto (tgt := 161) hx hb d_Mo_judge_234 (by decide) ?_
      exact hk161 v3 x2 t_part _ _ _ hP hD hS (lv_sub hl [1, 2, 3, 0] rfl) hf
    · have hf := if_t hc2 hf
      refine lv_aload_n hx hb d_Mo_judge_181 rfl (lv_at hl 0 rfl) ?_
      refine va_get (D := D) (ci := 8) (v := .ref q_t_weights) (C := R_Mo) (T := F_Mo) (N := 22) hx hb hts i_Mo hown hK hP 0 rfl rfl 5 (by decide) (hts _ m_3_133) (fun _ h9 => h9) rfl d_Mo_judge_182 ?_
      refine lv_iload hx hb d_Mo_judge_185 (lv_at hl 3 rfl) ?_
      obtain ⟨hg1, hf⟩ := gd_e hf
      refine va_iald hx hb hK hP 5 0 rfl rfl (inb_e hg1) d_Mo_judge_187 ?_
      refine lv_aload_n hx hb d_Mo_judge_188 rfl (lv_at hl 0 rfl) ?_
      refine va_get (D := D) (ci := 8) (v := .ref q_t_weights) (C := R_Mo) (T := F_Mo) (N := 22) hx hb hts i_Mo hown hK hP 0 rfl rfl 5 (by decide) (hts _ m_3_133) (fun _ h9 => h9) rfl d_Mo_judge_189 ?_
      refine lv_iload_n hx hb d_Mo_judge_192 rfl (lv_at hl 2 rfl) ?_
      obtain ⟨hg2, hf⟩ := gd_e hf
      refine va_iald hx hb hK hP 5 0 rfl rfl (inb_e hg2) d_Mo_judge_193 ?_
      refine lv_icmp_le (tgt := 231) hx hb d_Mo_judge_194 (by decide) (fun hc3 => ?_) (fun hc3 => ?_)
      · have hf := if_t hc3 hf
        obtain ⟨x3, ex3⟩ : ∃ y : Int32, y = v4 + (1 : Int32) := ⟨_, rfl⟩
        have hf := bn_e ex3 hf
        refine lv_iinc (v := x3) (lv' := [(4, .int x3), (0, .ref q_t), (1, .long p1), (3, .int v3)]) hx hb d_Mo_judge_231 hl (k := 3) rfl (by rw [ex3]; rfl) (by decide) rfl (fun ls hl => ?_)
        refine lv_goto (tgt := 161) hx hb d_Mo_judge_234 (by decide) ?_
        exact hk161 v3 x3 t_part _ _ _ hP hD hS (lv_sub hl [1, 2, 3, 0] rfl) hf
      · have hf := if_f hc3 hf
        refine lv_aload_n hx hb d_Mo_judge_197 rfl (lv_at hl 0 rfl) ?_
        refine lv_lload_n hx hb d_Mo_judge_198 rfl (lv_at hl 1 rfl) ?_
        refine lv_lconst (v := 1) hx hb d_Mo_judge_199 (by decide) ?_
        refine lv_iload hx hb d_Mo_judge_200 (lv_at hl 3 rfl) ?_
        refine lv_lshl (v := (1 : Int64) <<< (v4.toInt64 &&& 63)) hx hb d_Mo_judge_202 rfl ?_
        refine lv_ldc2 (v := -1) hx hb hown (hts _ m_4_44) d_Mo_judge_203 ?_
        refine lv_lxor hx hb d_Mo_judge_206 ?_
        refine lv_land hx hb d_Mo_judge_207 ?_
        refine lv_aload_n hx hb d_Mo_judge_208 rfl (lv_at hl 0 rfl) ?_
        refine va_get (D := D) (ci := 8) (v := .ref q_t_froms) (C := R_Mo) (T := F_Mo) (N := 22) hx hb hts i_Mo hown hK hP 0 rfl rfl 3 (by decide) (hts _ m_3_131) (fun _ h9 => h9) rfl d_Mo_judge_209 ?_
        refine lv_iload_n hx hb d_Mo_judge_212 rfl (lv_at hl 2 rfl) ?_
        obtain ⟨hg3, hf⟩ := gd_e hf
        refine va_iald hx hb hK hP 3 0 rfl rfl (inb_e hg3) d_Mo_judge_213 ?_
        refine lv_aload_n hx hb d_Mo_judge_214 rfl (lv_at hl 0 rfl) ?_
        refine va_get (D := D) (ci := 8) (v := .ref q_t_tos) (C := R_Mo) (T := F_Mo) (N := 22) hx hb hts i_Mo hown hK hP 0 rfl rfl 4 (by decide) (hts _ m_3_132) (fun _ h9 => h9) rfl d_Mo_judge_215 ?_
        refine lv_iload_n hx hb d_Mo_judge_218 rfl (lv_at hl 2 rfl) ?_
        obtain ⟨hg4, hf⟩ := gd_e hf
        refine va_iald hx hb hK hP 4 0 rfl rfl (inb_e hg4) d_Mo_judge_219 ?_
        obtain ⟨r4, c5, hq1, hf⟩ := bk2_e hf
        refine cl_go (wr := [(q_t_there, .inl (cZ, 30, .inl t_there)), (q_t_weights, .inl (cI, 30, .inl t_weights))]) (W1 := [(q_t, .inr (8, [.int t_nodes, .int t_arcs, .int t_left, .ref q_t_froms, .ref q_t_tos, .ref q_t_weights, .ref q_t_there, .ref q_t_part, .ref q_t_matrix, .ref q_t_row, .ref q_t_low, .int t_swapIn, .int t_swapOut, .ref q_t_own, .ref q_t_chosen, .ref q_t_degrees, .long t_boundedSet, .ref q_t_fixed, .ref q_t_grown, .ref q_t_costs, .ref q_t_order, .long t_joinedSet])), (q_t_there, .inl (cZ, 30, .inl t_there)), (q_t_part, .inl (cI, 10, .inl c5)), (q_t_froms, .inl (cI, 30, .inl t_froms)), (q_t_tos, .inl (cI, 30, .inl t_tos)), (q_t_weights, .inl (cI, 30, .inl t_weights))]) (va_runV (As := [.long (p1 &&& (((1 : Int64) <<< (v4.toInt64 &&& 63)) ^^^ (-1 : Int64))), .int (t_froms v3.toNatClampNeg), .int (t_tos v3.toNatClampNeg)]) (rest := []) ⟨hx, hb, hml, hown, hts⟩ (c_Mo_hangs l D cI cJ cG cZ q_t q_t_froms q_t_tos q_t_weights q_t_there q_t_part q_t_matrix q_t_row q_t_low q_t_own q_t_chosen q_t_degrees q_t_fixed q_t_grown q_t_costs q_t_order t_nodes t_arcs t_left t_swapIn t_swapOut t_boundedSet t_joinedSet t_part t_froms t_tos (p1 &&& (((1 : Int64) <<< (v4.toInt64 &&& 63)) ^^^ (-1 : Int64))) (t_froms v3.toNatClampNeg) (t_tos v3.toNatClampNeg) hq1 H.size) (cwV 3 hts (gi_V m_4_45 m_4_47 m_0_35 m_1_9 wi_Mo_hangs) rfl rfl rfl hd_Mo_hangs ⟨Nat.le_trans (Nat.le_of_ble_eq_true rfl) hfr, Nat.le_trans (Nat.le_of_ble_eq_true rfl) hlo⟩) ⟨pw_blind, va_recv hK hP (ci := 8) (q0 := 0) rfl rfl, fun U hU hW => ⟨rfl, pw_in hU (hP.sub [0, 2, 3, 4] rfl) (va_K.moved hW.alike hK) ((hD.sub [0, 2, 3, 4] rfl rfl).weaken (fun _ _ _ _ => trivial))⟩⟩ rfl rfl hl.1 rfl (lv_room (Nat.le_of_ble_eq_true rfl)) d_Mo_judge_220 ⟨Nat.zero_le _, Nat.zero_le _⟩) hP hD hS hA [0, 2, 3, 4] [1, 5] rfl rfl rfl rfl [2, 0, 3, 4, 5, 1] rfl rfl (fun H locs hP hD hS => ?_)
        have hP : va_P D CL [(q_t, .inr (8, [.int t_nodes, .int t_arcs, .int t_left, .ref q_t_froms, .ref q_t_tos, .ref q_t_weights, .ref q_t_there, .ref q_t_part, .ref q_t_matrix, .ref q_t_row, .ref q_t_low, .int t_swapIn, .int t_swapOut, .ref q_t_own, .ref q_t_chosen, .ref q_t_degrees, .long t_boundedSet, .ref q_t_fixed, .ref q_t_grown, .ref q_t_costs, .ref q_t_order, .long t_joinedSet])), (q_t_there, .inl (cZ, 30, .inl t_there)), (q_t_part, .inl (cI, 10, .inl c5)), (q_t_froms, .inl (cI, 30, .inl t_froms)), (q_t_tos, .inl (cI, 30, .inl t_tos)), (q_t_weights, .inl (cI, 30, .inl t_weights))] H := hP
        have hD : va_D A [(q_t, .inr (8, [.int t_nodes, .int t_arcs, .int t_left, .ref q_t_froms, .ref q_t_tos, .ref q_t_weights, .ref q_t_there, .ref q_t_part, .ref q_t_matrix, .ref q_t_row, .ref q_t_low, .int t_swapIn, .int t_swapOut, .ref q_t_own, .ref q_t_chosen, .ref q_t_degrees, .long t_boundedSet, .ref q_t_fixed, .ref q_t_grown, .ref q_t_costs, .ref q_t_order, .long t_joinedSet])), (q_t_there, .inl (cZ, 30, .inl t_there)), (q_t_part, .inl (cI, 10, .inl c5)), (q_t_froms, .inl (cI, 30, .inl t_froms)), (q_t_tos, .inl (cI, 30, .inl t_tos)), (q_t_weights, .inl (cI, 30, .inl t_weights))] := hD
        refine lv_if_ne (tgt := 231) hx hb d_Mo_judge_223 (by decide) (fun hc4 => ?_) (fun hc4 => ?_)
        · have hf := if_f hc4 hf
          obtain ⟨x6, ex6⟩ : ∃ y : Int32, y = v4 + (1 : Int32) := ⟨_, rfl⟩
          have hf := bn_e ex6 hf
          refine lv_iinc (v := x6) (lv' := [(4, .int x6), (0, .ref q_t), (1, .long p1), (3, .int v3)]) hx hb d_Mo_judge_231 hl (k := 3) rfl (by rw [ex6]; rfl) (by decide) rfl (fun ls hl => ?_)
          refine lv_goto (tgt := 161) hx hb d_Mo_judge_234 (by decide) ?_
          exact hk161 v3 x6 c5 _ _ _ hP hD hS (lv_sub hl [1, 2, 3, 0] rfl) hf
        · have hf := if_t hc4 hf
          refine lv_bipush (v := 100) hx hb d_Mo_judge_226 (by decide) ?_
          refine lv_iload_n hx hb d_Mo_judge_228 rfl (lv_at hl 2 rfl) ?_
          refine lv_iadd hx hb d_Mo_judge_229 ?_
          exact hret 230 _ _ _ ((100 : Int32) + v3) c5 d_Mo_judge_230 hP hD hS hf
set_option maxRecDepth 100000 in
set_option maxHeartbeats 4000000 in
theorem w_Mo_judge_161_l {p : Program} {l : Launch} {e : Env} {R : Room} {s : State} {m : MethodId} {args : Array Value} {below : List Frame} {meth : Method} {c : Code} {D : va_G} {cI cJ cG cZ : ClassId} {A : Nat → Prop} {Q : State → Prop} {q_t q_t_froms q_t_tos q_t_weights q_t_there q_t_part q_t_matrix q_t_row q_t_low q_t_own q_t_chosen q_t_degrees q_t_fixed q_t_grown q_t_costs q_t_order : Nat} {t_nodes : Int32} {t_arcs : Int32} {t_left : Int32} {t_swapIn : Int32} {t_swapOut : Int32} {t_boundedSet : Int64} {t_joinedSet : Int64} {t_there : Nat → Int32} {t_froms : Nat → Int32} {t_tos : Nat → Int32} {t_weights : Nat → Int32} {p1 : Int64} {N : Nat} {RR : Int32 × (Nat → Int32)} (C0 : CX p R s m args meth c b_Mo_judge 5 R_Mo lw_g D CL (TYs cI cJ cG cZ) A 2 52) (hret : ∀ (pc : Nat) (ls : Array Slot) (H : Heap) (locs : List Loc) (v : Int32) (t_part : Nat → Int32), decode b_Mo_judge pc = .ok (.ireturn, 1) → va_P D CL [(q_t, .inr (8, [.int t_nodes, .int t_arcs, .int t_left, .ref q_t_froms, .ref q_t_tos, .ref q_t_weights, .ref q_t_there, .ref q_t_part, .ref q_t_matrix, .ref q_t_row, .ref q_t_low, .int t_swapIn, .int t_swapOut, .ref q_t_own, .ref q_t_chosen, .ref q_t_degrees, .long t_boundedSet, .ref q_t_fixed, .ref q_t_grown, .ref q_t_costs, .ref q_t_order, .long t_joinedSet])), (q_t_there, .inl (cZ, 30, .inl t_there)), (q_t_part, .inl (cI, 10, .inl t_part)), (q_t_froms, .inl (cI, 30, .inl t_froms)), (q_t_tos, .inl (cI, 30, .inl t_tos)), (q_t_weights, .inl (cI, 30, .inl t_weights))] H → va_D A [(q_t, .inr (8, [.int t_nodes, .int t_arcs, .int t_left, .ref q_t_froms, .ref q_t_tos, .ref q_t_weights, .ref q_t_there, .ref q_t_part, .ref q_t_matrix, .ref q_t_row, .ref q_t_low, .int t_swapIn, .int t_swapOut, .ref q_t_own, .ref q_t_chosen, .ref q_t_degrees, .long t_boundedSet, .ref q_t_fixed, .ref q_t_grown, .ref q_t_costs, .ref q_t_order, .long t_joinedSet])), (q_t_there, .inl (cZ, 30, .inl t_there)), (q_t_part, .inl (cI, 10, .inl t_part)), (q_t_froms, .inl (cI, 30, .inl t_froms)), (q_t_tos, .inl (cI, 30, .inl t_tos)), (q_t_weights, .inl (cI, 30, .inl t_weights))] → va_S A s.heap H locs → some (v, t_part) = some RR → W p l e R s m args below meth c H locs 0 0 Q (F0 m pc ls [.int v])) (k128 : Int32 → (Nat → Int32) → Option (Int32 × (Nat → Int32))) (hk128 : ∀ (v3 : Int32) (t_part : Nat → Int32) (H : Heap) (locs : List Loc) (ls : Array Slot), va_P D CL [(q_t, .inr (8, [.int t_nodes, .int t_arcs, .int t_left, .ref q_t_froms, .ref q_t_tos, .ref q_t_weights, .ref q_t_there, .ref q_t_part, .ref q_t_matrix, .ref q_t_row, .ref q_t_low, .int t_swapIn, .int t_swapOut, .ref q_t_own, .ref q_t_chosen, .ref q_t_degrees, .long t_boundedSet, .ref q_t_fixed, .ref q_t_grown, .ref q_t_costs, .ref q_t_order, .long t_joinedSet])), (q_t_there, .inl (cZ, 30, .inl t_there)), (q_t_part, .inl (cI, 10, .inl t_part)), (q_t_froms, .inl (cI, 30, .inl t_froms)), (q_t_tos, .inl (cI, 30, .inl t_tos)), (q_t_weights, .inl (cI, 30, .inl t_weights))] H → va_D A [(q_t, .inr (8, [.int t_nodes, .int t_arcs, .int t_left, .ref q_t_froms, .ref q_t_tos, .ref q_t_weights, .ref q_t_there, .ref q_t_part, .ref q_t_matrix, .ref q_t_row, .ref q_t_low, .int t_swapIn, .int t_swapOut, .ref q_t_own, .ref q_t_chosen, .ref q_t_degrees, .long t_boundedSet, .ref q_t_fixed, .ref q_t_grown, .ref q_t_costs, .ref q_t_order, .long t_joinedSet])), (q_t_there, .inl (cZ, 30, .inl t_there)), (q_t_part, .inl (cI, 10, .inl t_part)), (q_t_froms, .inl (cI, 30, .inl t_froms)), (q_t_tos, .inl (cI, 30, .inl t_tos)), (q_t_weights, .inl (cI, 30, .inl t_weights))] → va_S A s.heap H locs → lv_has ls 5 [(0, .ref q_t), (1, .long p1), (3, .int v3)] → k128 v3 t_part = some RR → W p l e R s m args below meth c H locs 0 0 Q (F0 m 128 ls [])) : ∀ (n : Nat) (v3 : Int32) (v4 : Int32) (t_part : Nat → Int32) (H : Heap) (locs : List Loc) (ls : Array Slot), va_P D CL [(q_t, .inr (8, [.int t_nodes, .int t_arcs, .int t_left, .ref q_t_froms, .ref q_t_tos, .ref q_t_weights, .ref q_t_there, .ref q_t_part, .ref q_t_matrix, .ref q_t_row, .ref q_t_low, .int t_swapIn, .int t_swapOut, .ref q_t_own, .ref q_t_chosen, .ref q_t_degrees, .long t_boundedSet, .ref q_t_fixed, .ref q_t_grown, .ref q_t_costs, .ref q_t_order, .long t_joinedSet])), (q_t_there, .inl (cZ, 30, .inl t_there)), (q_t_part, .inl (cI, 10, .inl t_part)), (q_t_froms, .inl (cI, 30, .inl t_froms)), (q_t_tos, .inl (cI, 30, .inl t_tos)), (q_t_weights, .inl (cI, 30, .inl t_weights))] H → va_D A [(q_t, .inr (8, [.int t_nodes, .int t_arcs, .int t_left, .ref q_t_froms, .ref q_t_tos, .ref q_t_weights, .ref q_t_there, .ref q_t_part, .ref q_t_matrix, .ref q_t_row, .ref q_t_low, .int t_swapIn, .int t_swapOut, .ref q_t_own, .ref q_t_chosen, .ref q_t_degrees, .long t_boundedSet, .ref q_t_fixed, .ref q_t_grown, .ref q_t_costs, .ref q_t_order, .long t_joinedSet])), (q_t_there, .inl (cZ, 30, .inl t_there)), (q_t_part, .inl (cI, 10, .inl t_part)), (q_t_froms, .inl (cI, 30, .inl t_froms)), (q_t_tos, .inl (cI, 30, .inl t_tos)), (q_t_weights, .inl (cI, 30, .inl t_weights))] → va_S A s.heap H locs → lv_has ls 5 [(0, .ref q_t), (1, .long p1), (3, .int v3), (4, .int v4)] → lo3 (g_Mo_judge_161 N p1 t_arcs t_froms t_tos t_weights k128) n v3 v4 t_part = some RR → W p l e R s m args below meth c H locs 0 0 Q (F0 m 161 ls []) := by
  intro n
  induction n with
  | zero =>
    intro v3 v4 t_part H locs ls hP hD hS hl hf
    exact absurd hf (by simp [lo3])
  | succ n ih =>
    intro v3 v4 t_part H locs ls hP hD hS hl hf
    exact w_Mo_judge_161 C0 hret k128 hk128 (lo3 (g_Mo_judge_161 N p1 t_arcs t_froms t_tos t_weights k128) n) ih v3 v4 t_part H locs ls hP hD hS hl hf
set_option maxRecDepth 100000 in
set_option maxHeartbeats 4000000 in
theorem w_Mo_judge_128 {p : Program} {l : Launch} {e : Env} {R : Room} {s : State} {m : MethodId} {args : Array Value} {below : List Frame} {meth : Method} {c : Code} {D : va_G} {cI cJ cG cZ : ClassId} {A : Nat → Prop} {Q : State → Prop} {q_t q_t_froms q_t_tos q_t_weights q_t_there q_t_part q_t_matrix q_t_row q_t_low q_t_own q_t_chosen q_t_degrees q_t_fixed q_t_grown q_t_costs q_t_order : Nat} {t_nodes : Int32} {t_arcs : Int32} {t_left : Int32} {t_swapIn : Int32} {t_swapOut : Int32} {t_boundedSet : Int64} {t_joinedSet : Int64} {t_there : Nat → Int32} {t_froms : Nat → Int32} {t_tos : Nat → Int32} {t_weights : Nat → Int32} {p1 : Int64} {N : Nat} {RR : Int32 × (Nat → Int32)} (C0 : CX p R s m args meth c b_Mo_judge 5 R_Mo lw_g D CL (TYs cI cJ cG cZ) A 2 52) (hret : ∀ (pc : Nat) (ls : Array Slot) (H : Heap) (locs : List Loc) (v : Int32) (t_part : Nat → Int32), decode b_Mo_judge pc = .ok (.ireturn, 1) → va_P D CL [(q_t, .inr (8, [.int t_nodes, .int t_arcs, .int t_left, .ref q_t_froms, .ref q_t_tos, .ref q_t_weights, .ref q_t_there, .ref q_t_part, .ref q_t_matrix, .ref q_t_row, .ref q_t_low, .int t_swapIn, .int t_swapOut, .ref q_t_own, .ref q_t_chosen, .ref q_t_degrees, .long t_boundedSet, .ref q_t_fixed, .ref q_t_grown, .ref q_t_costs, .ref q_t_order, .long t_joinedSet])), (q_t_there, .inl (cZ, 30, .inl t_there)), (q_t_part, .inl (cI, 10, .inl t_part)), (q_t_froms, .inl (cI, 30, .inl t_froms)), (q_t_tos, .inl (cI, 30, .inl t_tos)), (q_t_weights, .inl (cI, 30, .inl t_weights))] H → va_D A [(q_t, .inr (8, [.int t_nodes, .int t_arcs, .int t_left, .ref q_t_froms, .ref q_t_tos, .ref q_t_weights, .ref q_t_there, .ref q_t_part, .ref q_t_matrix, .ref q_t_row, .ref q_t_low, .int t_swapIn, .int t_swapOut, .ref q_t_own, .ref q_t_chosen, .ref q_t_degrees, .long t_boundedSet, .ref q_t_fixed, .ref q_t_grown, .ref q_t_costs, .ref q_t_order, .long t_joinedSet])), (q_t_there, .inl (cZ, 30, .inl t_there)), (q_t_part, .inl (cI, 10, .inl t_part)), (q_t_froms, .inl (cI, 30, .inl t_froms)), (q_t_tos, .inl (cI, 30, .inl t_tos)), (q_t_weights, .inl (cI, 30, .inl t_weights))] → va_S A s.heap H locs → some (v, t_part) = some RR → W p l e R s m args below meth c H locs 0 0 Q (F0 m pc ls [.int v])) (k128 : Int32 → (Nat → Int32) → Option (Int32 × (Nat → Int32))) (hk128 : ∀ (v3 : Int32) (t_part : Nat → Int32) (H : Heap) (locs : List Loc) (ls : Array Slot), va_P D CL [(q_t, .inr (8, [.int t_nodes, .int t_arcs, .int t_left, .ref q_t_froms, .ref q_t_tos, .ref q_t_weights, .ref q_t_there, .ref q_t_part, .ref q_t_matrix, .ref q_t_row, .ref q_t_low, .int t_swapIn, .int t_swapOut, .ref q_t_own, .ref q_t_chosen, .ref q_t_degrees, .long t_boundedSet, .ref q_t_fixed, .ref q_t_grown, .ref q_t_costs, .ref q_t_order, .long t_joinedSet])), (q_t_there, .inl (cZ, 30, .inl t_there)), (q_t_part, .inl (cI, 10, .inl t_part)), (q_t_froms, .inl (cI, 30, .inl t_froms)), (q_t_tos, .inl (cI, 30, .inl t_tos)), (q_t_weights, .inl (cI, 30, .inl t_weights))] H → va_D A [(q_t, .inr (8, [.int t_nodes, .int t_arcs, .int t_left, .ref q_t_froms, .ref q_t_tos, .ref q_t_weights, .ref q_t_there, .ref q_t_part, .ref q_t_matrix, .ref q_t_row, .ref q_t_low, .int t_swapIn, .int t_swapOut, .ref q_t_own, .ref q_t_chosen, .ref q_t_degrees, .long t_boundedSet, .ref q_t_fixed, .ref q_t_grown, .ref q_t_costs, .ref q_t_order, .long t_joinedSet])), (q_t_there, .inl (cZ, 30, .inl t_there)), (q_t_part, .inl (cI, 10, .inl t_part)), (q_t_froms, .inl (cI, 30, .inl t_froms)), (q_t_tos, .inl (cI, 30, .inl t_tos)), (q_t_weights, .inl (cI, 30, .inl t_weights))] → va_S A s.heap H locs → lv_has ls 5 [(0, .ref q_t), (1, .long p1), (3, .int v3)] → k128 v3 t_part = some RR → W p l e R s m args below meth c H locs 0 0 Q (F0 m 128 ls [])) : ∀ (v3 : Int32) (t_part : Nat → Int32) (H : Heap) (locs : List Loc) (ls : Array Slot), va_P D CL [(q_t, .inr (8, [.int t_nodes, .int t_arcs, .int t_left, .ref q_t_froms, .ref q_t_tos, .ref q_t_weights, .ref q_t_there, .ref q_t_part, .ref q_t_matrix, .ref q_t_row, .ref q_t_low, .int t_swapIn, .int t_swapOut, .ref q_t_own, .ref q_t_chosen, .ref q_t_degrees, .long t_boundedSet, .ref q_t_fixed, .ref q_t_grown, .ref q_t_costs, .ref q_t_order, .long t_joinedSet])), (q_t_there, .inl (cZ, 30, .inl t_there)), (q_t_part, .inl (cI, 10, .inl t_part)), (q_t_froms, .inl (cI, 30, .inl t_froms)), (q_t_tos, .inl (cI, 30, .inl t_tos)), (q_t_weights, .inl (cI, 30, .inl t_weights))] H → va_D A [(q_t, .inr (8, [.int t_nodes, .int t_arcs, .int t_left, .ref q_t_froms, .ref q_t_tos, .ref q_t_weights, .ref q_t_there, .ref q_t_part, .ref q_t_matrix, .ref q_t_row, .ref q_t_low, .int t_swapIn, .int t_swapOut, .ref q_t_own, .ref q_t_chosen, .ref q_t_degrees, .long t_boundedSet, .ref q_t_fixed, .ref q_t_grown, .ref q_t_costs, .ref q_t_order, .long t_joinedSet])), (q_t_there, .inl (cZ, 30, .inl t_there)), (q_t_part, .inl (cI, 10, .inl t_part)), (q_t_froms, .inl (cI, 30, .inl t_froms)), (q_t_tos, .inl (cI, 30, .inl t_tos)), (q_t_weights, .inl (cI, 30, .inl t_weights))] → va_S A s.heap H locs → lv_has ls 5 [(0, .ref q_t), (1, .long p1), (3, .int v3)] → g_Mo_judge_128 N p1 t_arcs t_there t_froms t_tos t_weights k128 v3 t_part = some RR → W p l e R s m args below meth c H locs 0 0 Q (F0 m 128 ls []) := by
  intro v3 t_part H locs ls hP hD hS hl hf
  obtain ⟨hx, hb, hml, hown, hts, hK, hA, hfr, hlo, hlk⟩ := id C0
  unfold g_Mo_judge_128 at hf
  refine lv_iload_n hx hb d_Mo_judge_128 rfl (lv_at hl 2 rfl) ?_
  refine lv_aload_n hx hb d_Mo_judge_129 rfl (lv_at hl 0 rfl) ?_
  refine va_get (D := D) (ci := 8) (v := .int t_arcs) (C := R_Mo) (T := F_Mo) (N := 22) hx hb hts i_Mo hown hK hP 0 rfl rfl 1 (by decide) (hts _ m_3_129) (fun _ h9 => h9) rfl d_Mo_judge_130 ?_
  refine lv_icmp_ge (tgt := 243) hx hb d_Mo_judge_133 (by decide) (fun hc1 => ?_) (fun hc1 => ?_)
  · have hf := if_t hc1 hf
    refine lv_iconst (v := 0) hx hb d_Mo_judge_243 (by decide) ?_
    exact hret 244 _ _ _ (0 : Int32) t_part d_Mo_judge_244 hP hD hS hf
  · have hf := if_f hc1 hf
    refine lv_aload_n hx hb d_Mo_judge_136 rfl (lv_at hl 0 rfl) ?_
    refine va_get (D := D) (ci := 8) (v := .ref q_t_there) (C := R_Mo) (T := F_Mo) (N := 22) hx hb hts i_Mo hown hK hP 0 rfl rfl 6 (by decide) (hts _ m_3_134) (fun _ h9 => h9) rfl d_Mo_judge_137 ?_
    refine lv_iload_n hx hb d_Mo_judge_140 rfl (lv_at hl 2 rfl) ?_
    obtain ⟨hg1, hf⟩ := gd_e hf
    refine va_zald hx hb hK hP 1 3 rfl rfl (inb_e hg1) d_Mo_judge_141 ?_
    refine lv_if_eq (tgt := 237) hx hb d_Mo_judge_142 (by decide) (fun hc2 => ?_) (fun hc2 => ?_)
    · have hf := if_t hc2 hf
      obtain ⟨x1, ex1⟩ : ∃ y : Int32, y = v3 + (1 : Int32) := ⟨_, rfl⟩
      have hf := bn_e ex1 hf
      refine lv_iinc (v := x1) (lv' := [(3, .int x1), (0, .ref q_t), (1, .long p1)]) hx hb d_Mo_judge_237 hl (k := 2) rfl (by rw [ex1]; rfl) (by decide) rfl (fun ls hl => ?_)
      refine lv_goto (tgt := 128) hx hb d_Mo_judge_240 (by decide) ?_
      exact hk128 x1 t_part _ _ _ hP hD hS (lv_sub hl [1, 2, 0] rfl) hf
    · have hf := if_f hc2 hf
      refine lv_lload_n hx hb d_Mo_judge_145 rfl (lv_at hl 1 rfl) ?_
      refine lv_iload_n hx hb d_Mo_judge_146 rfl (lv_at hl 2 rfl) ?_
      refine lv_lshr (v := p1 >>> (v3.toInt64 &&& 63)) hx hb d_Mo_judge_147 rfl ?_
      refine lv_lconst (v := 1) hx hb d_Mo_judge_148 (by decide) ?_
      refine lv_land hx hb d_Mo_judge_149 ?_
      refine lv_lconst (v := 1) hx hb d_Mo_judge_150 (by decide) ?_
      refine W.lcmp hx hb d_Mo_judge_151 ?_
      refine lv_if_ne (tgt := 158) hx hb d_Mo_judge_152 (by decide) (fun hc3 => ?_) (fun hc3 => ?_)
      · have hf := if_f hc3 hf
        refine lv_iconst (v := 0) hx hb d_Mo_judge_158 (by decide) ?_
        refine lv_istore (lv' := [(4, .int (0 : Int32)), (0, .ref q_t), (1, .long p1), (3, .int v3)]) hx hb d_Mo_judge_159 hl (by decide) rfl (fun ls hl => ?_)
        exact w_Mo_judge_161_l C0 hret k128 hk128 N v3 (0 : Int32) t_part _ _ _ hP hD hS (lv_sub hl [1, 2, 3, 0] rfl) hf
      · have hf := if_t hc3 hf
        refine lv_goto (tgt := 237) hx hb d_Mo_judge_155 (by decide) ?_
        obtain ⟨x2, ex2⟩ : ∃ y : Int32, y = v3 + (1 : Int32) := ⟨_, rfl⟩
        have hf := bn_e ex2 hf
        refine lv_iinc (v := x2) (lv' := [(3, .int x2), (0, .ref q_t), (1, .long p1)]) hx hb d_Mo_judge_237 hl (k := 2) rfl (by rw [ex2]; rfl) (by decide) rfl (fun ls hl => ?_)
        refine lv_goto (tgt := 128) hx hb d_Mo_judge_240 (by decide) ?_
        exact hk128 x2 t_part _ _ _ hP hD hS (lv_sub hl [1, 2, 0] rfl) hf
set_option maxRecDepth 100000 in
set_option maxHeartbeats 4000000 in
theorem w_Mo_judge_128_l {p : Program} {l : Launch} {e : Env} {R : Room} {s : State} {m : MethodId} {args : Array Value} {below : List Frame} {meth : Method} {c : Code} {D : va_G} {cI cJ cG cZ : ClassId} {A : Nat → Prop} {Q : State → Prop} {q_t q_t_froms q_t_tos q_t_weights q_t_there q_t_part q_t_matrix q_t_row q_t_low q_t_own q_t_chosen q_t_degrees q_t_fixed q_t_grown q_t_costs q_t_order : Nat} {t_nodes : Int32} {t_arcs : Int32} {t_left : Int32} {t_swapIn : Int32} {t_swapOut : Int32} {t_boundedSet : Int64} {t_joinedSet : Int64} {t_there : Nat → Int32} {t_froms : Nat → Int32} {t_tos : Nat → Int32} {t_weights : Nat → Int32} {p1 : Int64} {N : Nat} {RR : Int32 × (Nat → Int32)} (C0 : CX p R s m args meth c b_Mo_judge 5 R_Mo lw_g D CL (TYs cI cJ cG cZ) A 2 52) (hret : ∀ (pc : Nat) (ls : Array Slot) (H : Heap) (locs : List Loc) (v : Int32) (t_part : Nat → Int32), decode b_Mo_judge pc = .ok (.ireturn, 1) → va_P D CL [(q_t, .inr (8, [.int t_nodes, .int t_arcs, .int t_left, .ref q_t_froms, .ref q_t_tos, .ref q_t_weights, .ref q_t_there, .ref q_t_part, .ref q_t_matrix, .ref q_t_row, .ref q_t_low, .int t_swapIn, .int t_swapOut, .ref q_t_own, .ref q_t_chosen, .ref q_t_degrees, .long t_boundedSet, .ref q_t_fixed, .ref q_t_grown, .ref q_t_costs, .ref q_t_order, .long t_joinedSet])), (q_t_there, .inl (cZ, 30, .inl t_there)), (q_t_part, .inl (cI, 10, .inl t_part)), (q_t_froms, .inl (cI, 30, .inl t_froms)), (q_t_tos, .inl (cI, 30, .inl t_tos)), (q_t_weights, .inl (cI, 30, .inl t_weights))] H → va_D A [(q_t, .inr (8, [.int t_nodes, .int t_arcs, .int t_left, .ref q_t_froms, .ref q_t_tos, .ref q_t_weights, .ref q_t_there, .ref q_t_part, .ref q_t_matrix, .ref q_t_row, .ref q_t_low, .int t_swapIn, .int t_swapOut, .ref q_t_own, .ref q_t_chosen, .ref q_t_degrees, .long t_boundedSet, .ref q_t_fixed, .ref q_t_grown, .ref q_t_costs, .ref q_t_order, .long t_joinedSet])), (q_t_there, .inl (cZ, 30, .inl t_there)), (q_t_part, .inl (cI, 10, .inl t_part)), (q_t_froms, .inl (cI, 30, .inl t_froms)), (q_t_tos, .inl (cI, 30, .inl t_tos)), (q_t_weights, .inl (cI, 30, .inl t_weights))] → va_S A s.heap H locs → some (v, t_part) = some RR → W p l e R s m args below meth c H locs 0 0 Q (F0 m pc ls [.int v]))  : ∀ (n : Nat) (v3 : Int32) (t_part : Nat → Int32) (H : Heap) (locs : List Loc) (ls : Array Slot), va_P D CL [(q_t, .inr (8, [.int t_nodes, .int t_arcs, .int t_left, .ref q_t_froms, .ref q_t_tos, .ref q_t_weights, .ref q_t_there, .ref q_t_part, .ref q_t_matrix, .ref q_t_row, .ref q_t_low, .int t_swapIn, .int t_swapOut, .ref q_t_own, .ref q_t_chosen, .ref q_t_degrees, .long t_boundedSet, .ref q_t_fixed, .ref q_t_grown, .ref q_t_costs, .ref q_t_order, .long t_joinedSet])), (q_t_there, .inl (cZ, 30, .inl t_there)), (q_t_part, .inl (cI, 10, .inl t_part)), (q_t_froms, .inl (cI, 30, .inl t_froms)), (q_t_tos, .inl (cI, 30, .inl t_tos)), (q_t_weights, .inl (cI, 30, .inl t_weights))] H → va_D A [(q_t, .inr (8, [.int t_nodes, .int t_arcs, .int t_left, .ref q_t_froms, .ref q_t_tos, .ref q_t_weights, .ref q_t_there, .ref q_t_part, .ref q_t_matrix, .ref q_t_row, .ref q_t_low, .int t_swapIn, .int t_swapOut, .ref q_t_own, .ref q_t_chosen, .ref q_t_degrees, .long t_boundedSet, .ref q_t_fixed, .ref q_t_grown, .ref q_t_costs, .ref q_t_order, .long t_joinedSet])), (q_t_there, .inl (cZ, 30, .inl t_there)), (q_t_part, .inl (cI, 10, .inl t_part)), (q_t_froms, .inl (cI, 30, .inl t_froms)), (q_t_tos, .inl (cI, 30, .inl t_tos)), (q_t_weights, .inl (cI, 30, .inl t_weights))] → va_S A s.heap H locs → lv_has ls 5 [(0, .ref q_t), (1, .long p1), (3, .int v3)] → lo2 (g_Mo_judge_128 N p1 t_arcs t_there t_froms t_tos t_weights) n v3 t_part = some RR → W p l e R s m args below meth c H locs 0 0 Q (F0 m 128 ls []) := by
  intro n
  induction n with
  | zero =>
    intro v3 t_part H locs ls hP hD hS hl hf
    exact absurd hf (by simp [lo2])
  | succ n ih =>
    intro v3 t_part H locs ls hP hD hS hl hf
    exact w_Mo_judge_128 C0 hret  (lo2 (g_Mo_judge_128 N p1 t_arcs t_there t_froms t_tos t_weights) n) ih v3 t_part H locs ls hP hD hS hl hf
set_option maxRecDepth 100000 in
set_option maxHeartbeats 4000000 in
theorem w_Mo_judge_76 {p : Program} {l : Launch} {e : Env} {R : Room} {s : State} {m : MethodId} {args : Array Value} {below : List Frame} {meth : Method} {c : Code} {D : va_G} {cI cJ cG cZ : ClassId} {A : Nat → Prop} {Q : State → Prop} {q_t q_t_froms q_t_tos q_t_weights q_t_there q_t_part q_t_matrix q_t_row q_t_low q_t_own q_t_chosen q_t_degrees q_t_fixed q_t_grown q_t_costs q_t_order : Nat} {t_nodes : Int32} {t_arcs : Int32} {t_left : Int32} {t_swapIn : Int32} {t_swapOut : Int32} {t_boundedSet : Int64} {t_joinedSet : Int64} {t_there : Nat → Int32} {t_froms : Nat → Int32} {t_tos : Nat → Int32} {t_weights : Nat → Int32} {p1 : Int64} {N : Nat} {RR : Int32 × (Nat → Int32)} (C0 : CX p R s m args meth c b_Mo_judge 5 R_Mo lw_g D CL (TYs cI cJ cG cZ) A 2 52) (hret : ∀ (pc : Nat) (ls : Array Slot) (H : Heap) (locs : List Loc) (v : Int32) (t_part : Nat → Int32), decode b_Mo_judge pc = .ok (.ireturn, 1) → va_P D CL [(q_t, .inr (8, [.int t_nodes, .int t_arcs, .int t_left, .ref q_t_froms, .ref q_t_tos, .ref q_t_weights, .ref q_t_there, .ref q_t_part, .ref q_t_matrix, .ref q_t_row, .ref q_t_low, .int t_swapIn, .int t_swapOut, .ref q_t_own, .ref q_t_chosen, .ref q_t_degrees, .long t_boundedSet, .ref q_t_fixed, .ref q_t_grown, .ref q_t_costs, .ref q_t_order, .long t_joinedSet])), (q_t_there, .inl (cZ, 30, .inl t_there)), (q_t_part, .inl (cI, 10, .inl t_part)), (q_t_froms, .inl (cI, 30, .inl t_froms)), (q_t_tos, .inl (cI, 30, .inl t_tos)), (q_t_weights, .inl (cI, 30, .inl t_weights))] H → va_D A [(q_t, .inr (8, [.int t_nodes, .int t_arcs, .int t_left, .ref q_t_froms, .ref q_t_tos, .ref q_t_weights, .ref q_t_there, .ref q_t_part, .ref q_t_matrix, .ref q_t_row, .ref q_t_low, .int t_swapIn, .int t_swapOut, .ref q_t_own, .ref q_t_chosen, .ref q_t_degrees, .long t_boundedSet, .ref q_t_fixed, .ref q_t_grown, .ref q_t_costs, .ref q_t_order, .long t_joinedSet])), (q_t_there, .inl (cZ, 30, .inl t_there)), (q_t_part, .inl (cI, 10, .inl t_part)), (q_t_froms, .inl (cI, 30, .inl t_froms)), (q_t_tos, .inl (cI, 30, .inl t_tos)), (q_t_weights, .inl (cI, 30, .inl t_weights))] → va_S A s.heap H locs → some (v, t_part) = some RR → W p l e R s m args below meth c H locs 0 0 Q (F0 m pc ls [.int v])) (k76 : Int32 → (Nat → Int32) → Option (Int32 × (Nat → Int32))) (hk76 : ∀ (v3 : Int32) (t_part : Nat → Int32) (H : Heap) (locs : List Loc) (ls : Array Slot), va_P D CL [(q_t, .inr (8, [.int t_nodes, .int t_arcs, .int t_left, .ref q_t_froms, .ref q_t_tos, .ref q_t_weights, .ref q_t_there, .ref q_t_part, .ref q_t_matrix, .ref q_t_row, .ref q_t_low, .int t_swapIn, .int t_swapOut, .ref q_t_own, .ref q_t_chosen, .ref q_t_degrees, .long t_boundedSet, .ref q_t_fixed, .ref q_t_grown, .ref q_t_costs, .ref q_t_order, .long t_joinedSet])), (q_t_there, .inl (cZ, 30, .inl t_there)), (q_t_part, .inl (cI, 10, .inl t_part)), (q_t_froms, .inl (cI, 30, .inl t_froms)), (q_t_tos, .inl (cI, 30, .inl t_tos)), (q_t_weights, .inl (cI, 30, .inl t_weights))] H → va_D A [(q_t, .inr (8, [.int t_nodes, .int t_arcs, .int t_left, .ref q_t_froms, .ref q_t_tos, .ref q_t_weights, .ref q_t_there, .ref q_t_part, .ref q_t_matrix, .ref q_t_row, .ref q_t_low, .int t_swapIn, .int t_swapOut, .ref q_t_own, .ref q_t_chosen, .ref q_t_degrees, .long t_boundedSet, .ref q_t_fixed, .ref q_t_grown, .ref q_t_costs, .ref q_t_order, .long t_joinedSet])), (q_t_there, .inl (cZ, 30, .inl t_there)), (q_t_part, .inl (cI, 10, .inl t_part)), (q_t_froms, .inl (cI, 30, .inl t_froms)), (q_t_tos, .inl (cI, 30, .inl t_tos)), (q_t_weights, .inl (cI, 30, .inl t_weights))] → va_S A s.heap H locs → lv_has ls 5 [(0, .ref q_t), (1, .long p1), (3, .int v3)] → k76 v3 t_part = some RR → W p l e R s m args below meth c H locs 0 0 Q (F0 m 76 ls [])) : ∀ (v3 : Int32) (t_part : Nat → Int32) (H : Heap) (locs : List Loc) (ls : Array Slot), va_P D CL [(q_t, .inr (8, [.int t_nodes, .int t_arcs, .int t_left, .ref q_t_froms, .ref q_t_tos, .ref q_t_weights, .ref q_t_there, .ref q_t_part, .ref q_t_matrix, .ref q_t_row, .ref q_t_low, .int t_swapIn, .int t_swapOut, .ref q_t_own, .ref q_t_chosen, .ref q_t_degrees, .long t_boundedSet, .ref q_t_fixed, .ref q_t_grown, .ref q_t_costs, .ref q_t_order, .long t_joinedSet])), (q_t_there, .inl (cZ, 30, .inl t_there)), (q_t_part, .inl (cI, 10, .inl t_part)), (q_t_froms, .inl (cI, 30, .inl t_froms)), (q_t_tos, .inl (cI, 30, .inl t_tos)), (q_t_weights, .inl (cI, 30, .inl t_weights))] H → va_D A [(q_t, .inr (8, [.int t_nodes, .int t_arcs, .int t_left, .ref q_t_froms, .ref q_t_tos, .ref q_t_weights, .ref q_t_there, .ref q_t_part, .ref q_t_matrix, .ref q_t_row, .ref q_t_low, .int t_swapIn, .int t_swapOut, .ref q_t_own, .ref q_t_chosen, .ref q_t_degrees, .long t_boundedSet, .ref q_t_fixed, .ref q_t_grown, .ref q_t_costs, .ref q_t_order, .long t_joinedSet])), (q_t_there, .inl (cZ, 30, .inl t_there)), (q_t_part, .inl (cI, 10, .inl t_part)), (q_t_froms, .inl (cI, 30, .inl t_froms)), (q_t_tos, .inl (cI, 30, .inl t_tos)), (q_t_weights, .inl (cI, 30, .inl t_weights))] → va_S A s.heap H locs → lv_has ls 5 [(0, .ref q_t), (1, .long p1), (3, .int v3)] → g_Mo_judge_76 N p1 t_arcs t_there t_froms t_tos t_weights k76 v3 t_part = some RR → W p l e R s m args below meth c H locs 0 0 Q (F0 m 76 ls []) := by
  intro v3 t_part H locs ls hP hD hS hl hf
  obtain ⟨hx, hb, hml, hown, hts, hK, hA, hfr, hlo, hlk⟩ := id C0
  unfold g_Mo_judge_76 at hf
  refine lv_iload_n hx hb d_Mo_judge_76 rfl (lv_at hl 2 rfl) ?_
  refine lv_aload_n hx hb d_Mo_judge_77 rfl (lv_at hl 0 rfl) ?_
  refine va_get (D := D) (ci := 8) (v := .int t_arcs) (C := R_Mo) (T := F_Mo) (N := 22) hx hb hts i_Mo hown hK hP 0 rfl rfl 1 (by decide) (hts _ m_3_129) (fun _ h9 => h9) rfl d_Mo_judge_78 ?_
  refine lv_icmp_ge (tgt := 126) hx hb d_Mo_judge_81 (by decide) (fun hc1 => ?_) (fun hc1 => ?_)
  · have hf := if_t hc1 hf
    refine lv_iconst (v := 0) hx hb d_Mo_judge_126 (by decide) ?_
    refine lv_istore_n (lv' := [(3, .int (0 : Int32)), (0, .ref q_t), (1, .long p1)]) hx hb d_Mo_judge_127 rfl hl (by decide) rfl (fun ls hl => ?_)
    exact w_Mo_judge_128_l C0 hret N (0 : Int32) t_part _ _ _ hP hD hS (lv_sub hl [1, 2, 0] rfl) hf
  · have hf := if_f hc1 hf
    refine lv_aload_n hx hb d_Mo_judge_84 rfl (lv_at hl 0 rfl) ?_
    refine va_get (D := D) (ci := 8) (v := .ref q_t_there) (C := R_Mo) (T := F_Mo) (N := 22) hx hb hts i_Mo hown hK hP 0 rfl rfl 6 (by decide) (hts _ m_3_134) (fun _ h9 => h9) rfl d_Mo_judge_85 ?_
    refine lv_iload_n hx hb d_Mo_judge_88 rfl (lv_at hl 2 rfl) ?_
    obtain ⟨hg1, hf⟩ := gd_e hf
    refine va_zald hx hb hK hP 1 3 rfl rfl (inb_e hg1) d_Mo_judge_89 ?_
    refine lv_if_eq (tgt := 120) hx hb d_Mo_judge_90 (by decide) (fun hc2 => ?_) (fun hc2 => ?_)
    · have hf := if_t hc2 hf
      obtain ⟨x1, ex1⟩ : ∃ y : Int32, y = v3 + (1 : Int32) := ⟨_, rfl⟩
      have hf := bn_e ex1 hf
      refine lv_iinc (v := x1) (lv' := [(3, .int x1), (0, .ref q_t), (1, .long p1)]) hx hb d_Mo_judge_120 hl (k := 2) rfl (by rw [ex1]; rfl) (by decide) rfl (fun ls hl => ?_)
      refine lv_goto (tgt := 76) hx hb d_Mo_judge_123 (by decide) ?_
      exact hk76 x1 t_part _ _ _ hP hD hS (lv_sub hl [1, 2, 0] rfl) hf
    · have hf := if_f hc2 hf
      refine lv_aload_n hx hb d_Mo_judge_93 rfl (lv_at hl 0 rfl) ?_
      refine va_get (D := D) (ci := 8) (v := .ref q_t_part) (C := R_Mo) (T := F_Mo) (N := 22) hx hb hts i_Mo hown hK hP 0 rfl rfl 7 (by decide) (hts _ m_3_135) (fun _ h9 => h9) rfl d_Mo_judge_94 ?_
      refine lv_aload_n hx hb d_Mo_judge_97 rfl (lv_at hl 0 rfl) ?_
      refine va_get (D := D) (ci := 8) (v := .ref q_t_froms) (C := R_Mo) (T := F_Mo) (N := 22) hx hb hts i_Mo hown hK hP 0 rfl rfl 3 (by decide) (hts _ m_3_131) (fun _ h9 => h9) rfl d_Mo_judge_98 ?_
      refine lv_iload_n hx hb d_Mo_judge_101 rfl (lv_at hl 2 rfl) ?_
      obtain ⟨hg2, hf⟩ := gd_e hf
      refine va_iald hx hb hK hP 3 0 rfl rfl (inb_e hg2) d_Mo_judge_102 ?_
      obtain ⟨hg3, hf⟩ := gd_e hf
      refine va_iald hx hb hK hP 2 0 rfl rfl (inb_e hg3) d_Mo_judge_103 ?_
      refine lv_aload_n hx hb d_Mo_judge_104 rfl (lv_at hl 0 rfl) ?_
      refine va_get (D := D) (ci := 8) (v := .ref q_t_part) (C := R_Mo) (T := F_Mo) (N := 22) hx hb hts i_Mo hown hK hP 0 rfl rfl 7 (by decide) (hts _ m_3_135) (fun _ h9 => h9) rfl d_Mo_judge_105 ?_
      refine lv_aload_n hx hb d_Mo_judge_108 rfl (lv_at hl 0 rfl) ?_
      refine va_get (D := D) (ci := 8) (v := .ref q_t_tos) (C := R_Mo) (T := F_Mo) (N := 22) hx hb hts i_Mo hown hK hP 0 rfl rfl 4 (by decide) (hts _ m_3_132) (fun _ h9 => h9) rfl d_Mo_judge_109 ?_
      refine lv_iload_n hx hb d_Mo_judge_112 rfl (lv_at hl 2 rfl) ?_
      obtain ⟨hg4, hf⟩ := gd_e hf
      refine va_iald hx hb hK hP 4 0 rfl rfl (inb_e hg4) d_Mo_judge_113 ?_
      obtain ⟨hg5, hf⟩ := gd_e hf
      refine va_iald hx hb hK hP 2 0 rfl rfl (inb_e hg5) d_Mo_judge_114 ?_
      refine lv_icmp_eq (tgt := 120) hx hb d_Mo_judge_115 (by decide) (fun hc3 => ?_) (fun hc3 => ?_)
      · have hf := if_t hc3 hf
        obtain ⟨x2, ex2⟩ : ∃ y : Int32, y = v3 + (1 : Int32) := ⟨_, rfl⟩
        have hf := bn_e ex2 hf
        refine lv_iinc (v := x2) (lv' := [(3, .int x2), (0, .ref q_t), (1, .long p1)]) hx hb d_Mo_judge_120 hl (k := 2) rfl (by rw [ex2]; rfl) (by decide) rfl (fun ls hl => ?_)
        refine lv_goto (tgt := 76) hx hb d_Mo_judge_123 (by decide) ?_
        exact hk76 x2 t_part _ _ _ hP hD hS (lv_sub hl [1, 2, 0] rfl) hf
      · have hf := if_f hc3 hf
        refine lv_iconst (v := 3) hx hb d_Mo_judge_118 (by decide) ?_
        exact hret 119 _ _ _ (3 : Int32) t_part d_Mo_judge_119 hP hD hS hf
set_option maxRecDepth 100000 in
set_option maxHeartbeats 4000000 in
theorem w_Mo_judge_76_l {p : Program} {l : Launch} {e : Env} {R : Room} {s : State} {m : MethodId} {args : Array Value} {below : List Frame} {meth : Method} {c : Code} {D : va_G} {cI cJ cG cZ : ClassId} {A : Nat → Prop} {Q : State → Prop} {q_t q_t_froms q_t_tos q_t_weights q_t_there q_t_part q_t_matrix q_t_row q_t_low q_t_own q_t_chosen q_t_degrees q_t_fixed q_t_grown q_t_costs q_t_order : Nat} {t_nodes : Int32} {t_arcs : Int32} {t_left : Int32} {t_swapIn : Int32} {t_swapOut : Int32} {t_boundedSet : Int64} {t_joinedSet : Int64} {t_there : Nat → Int32} {t_froms : Nat → Int32} {t_tos : Nat → Int32} {t_weights : Nat → Int32} {p1 : Int64} {N : Nat} {RR : Int32 × (Nat → Int32)} (C0 : CX p R s m args meth c b_Mo_judge 5 R_Mo lw_g D CL (TYs cI cJ cG cZ) A 2 52) (hret : ∀ (pc : Nat) (ls : Array Slot) (H : Heap) (locs : List Loc) (v : Int32) (t_part : Nat → Int32), decode b_Mo_judge pc = .ok (.ireturn, 1) → va_P D CL [(q_t, .inr (8, [.int t_nodes, .int t_arcs, .int t_left, .ref q_t_froms, .ref q_t_tos, .ref q_t_weights, .ref q_t_there, .ref q_t_part, .ref q_t_matrix, .ref q_t_row, .ref q_t_low, .int t_swapIn, .int t_swapOut, .ref q_t_own, .ref q_t_chosen, .ref q_t_degrees, .long t_boundedSet, .ref q_t_fixed, .ref q_t_grown, .ref q_t_costs, .ref q_t_order, .long t_joinedSet])), (q_t_there, .inl (cZ, 30, .inl t_there)), (q_t_part, .inl (cI, 10, .inl t_part)), (q_t_froms, .inl (cI, 30, .inl t_froms)), (q_t_tos, .inl (cI, 30, .inl t_tos)), (q_t_weights, .inl (cI, 30, .inl t_weights))] H → va_D A [(q_t, .inr (8, [.int t_nodes, .int t_arcs, .int t_left, .ref q_t_froms, .ref q_t_tos, .ref q_t_weights, .ref q_t_there, .ref q_t_part, .ref q_t_matrix, .ref q_t_row, .ref q_t_low, .int t_swapIn, .int t_swapOut, .ref q_t_own, .ref q_t_chosen, .ref q_t_degrees, .long t_boundedSet, .ref q_t_fixed, .ref q_t_grown, .ref q_t_costs, .ref q_t_order, .long t_joinedSet])), (q_t_there, .inl (cZ, 30, .inl t_there)), (q_t_part, .inl (cI, 10, .inl t_part)), (q_t_froms, .inl (cI, 30, .inl t_froms)), (q_t_tos, .inl (cI, 30, .inl t_tos)), (q_t_weights, .inl (cI, 30, .inl t_weights))] → va_S A s.heap H locs → some (v, t_part) = some RR → W p l e R s m args below meth c H locs 0 0 Q (F0 m pc ls [.int v]))  : ∀ (n : Nat) (v3 : Int32) (t_part : Nat → Int32) (H : Heap) (locs : List Loc) (ls : Array Slot), va_P D CL [(q_t, .inr (8, [.int t_nodes, .int t_arcs, .int t_left, .ref q_t_froms, .ref q_t_tos, .ref q_t_weights, .ref q_t_there, .ref q_t_part, .ref q_t_matrix, .ref q_t_row, .ref q_t_low, .int t_swapIn, .int t_swapOut, .ref q_t_own, .ref q_t_chosen, .ref q_t_degrees, .long t_boundedSet, .ref q_t_fixed, .ref q_t_grown, .ref q_t_costs, .ref q_t_order, .long t_joinedSet])), (q_t_there, .inl (cZ, 30, .inl t_there)), (q_t_part, .inl (cI, 10, .inl t_part)), (q_t_froms, .inl (cI, 30, .inl t_froms)), (q_t_tos, .inl (cI, 30, .inl t_tos)), (q_t_weights, .inl (cI, 30, .inl t_weights))] H → va_D A [(q_t, .inr (8, [.int t_nodes, .int t_arcs, .int t_left, .ref q_t_froms, .ref q_t_tos, .ref q_t_weights, .ref q_t_there, .ref q_t_part, .ref q_t_matrix, .ref q_t_row, .ref q_t_low, .int t_swapIn, .int t_swapOut, .ref q_t_own, .ref q_t_chosen, .ref q_t_degrees, .long t_boundedSet, .ref q_t_fixed, .ref q_t_grown, .ref q_t_costs, .ref q_t_order, .long t_joinedSet])), (q_t_there, .inl (cZ, 30, .inl t_there)), (q_t_part, .inl (cI, 10, .inl t_part)), (q_t_froms, .inl (cI, 30, .inl t_froms)), (q_t_tos, .inl (cI, 30, .inl t_tos)), (q_t_weights, .inl (cI, 30, .inl t_weights))] → va_S A s.heap H locs → lv_has ls 5 [(0, .ref q_t), (1, .long p1), (3, .int v3)] → lo2 (g_Mo_judge_76 N p1 t_arcs t_there t_froms t_tos t_weights) n v3 t_part = some RR → W p l e R s m args below meth c H locs 0 0 Q (F0 m 76 ls []) := by
  intro n
  induction n with
  | zero =>
    intro v3 t_part H locs ls hP hD hS hl hf
    exact absurd hf (by simp [lo2])
  | succ n ih =>
    intro v3 t_part H locs ls hP hD hS hl hf
    exact w_Mo_judge_76 C0 hret  (lo2 (g_Mo_judge_76 N p1 t_arcs t_there t_froms t_tos t_weights) n) ih v3 t_part H locs ls hP hD hS hl hf
set_option maxRecDepth 100000 in
set_option maxHeartbeats 4000000 in
theorem w_Mo_judge_40 {p : Program} {l : Launch} {e : Env} {R : Room} {s : State} {m : MethodId} {args : Array Value} {below : List Frame} {meth : Method} {c : Code} {D : va_G} {cI cJ cG cZ : ClassId} {A : Nat → Prop} {Q : State → Prop} {q_t q_t_froms q_t_tos q_t_weights q_t_there q_t_part q_t_matrix q_t_row q_t_low q_t_own q_t_chosen q_t_degrees q_t_fixed q_t_grown q_t_costs q_t_order : Nat} {t_nodes : Int32} {t_arcs : Int32} {t_left : Int32} {t_swapIn : Int32} {t_swapOut : Int32} {t_boundedSet : Int64} {t_joinedSet : Int64} {t_there : Nat → Int32} {t_froms : Nat → Int32} {t_tos : Nat → Int32} {t_weights : Nat → Int32} {p1 : Int64} {N : Nat} {RR : Int32 × (Nat → Int32)} (C0 : CX p R s m args meth c b_Mo_judge 5 R_Mo lw_g D CL (TYs cI cJ cG cZ) A 2 52) (hret : ∀ (pc : Nat) (ls : Array Slot) (H : Heap) (locs : List Loc) (v : Int32) (t_part : Nat → Int32), decode b_Mo_judge pc = .ok (.ireturn, 1) → va_P D CL [(q_t, .inr (8, [.int t_nodes, .int t_arcs, .int t_left, .ref q_t_froms, .ref q_t_tos, .ref q_t_weights, .ref q_t_there, .ref q_t_part, .ref q_t_matrix, .ref q_t_row, .ref q_t_low, .int t_swapIn, .int t_swapOut, .ref q_t_own, .ref q_t_chosen, .ref q_t_degrees, .long t_boundedSet, .ref q_t_fixed, .ref q_t_grown, .ref q_t_costs, .ref q_t_order, .long t_joinedSet])), (q_t_there, .inl (cZ, 30, .inl t_there)), (q_t_part, .inl (cI, 10, .inl t_part)), (q_t_froms, .inl (cI, 30, .inl t_froms)), (q_t_tos, .inl (cI, 30, .inl t_tos)), (q_t_weights, .inl (cI, 30, .inl t_weights))] H → va_D A [(q_t, .inr (8, [.int t_nodes, .int t_arcs, .int t_left, .ref q_t_froms, .ref q_t_tos, .ref q_t_weights, .ref q_t_there, .ref q_t_part, .ref q_t_matrix, .ref q_t_row, .ref q_t_low, .int t_swapIn, .int t_swapOut, .ref q_t_own, .ref q_t_chosen, .ref q_t_degrees, .long t_boundedSet, .ref q_t_fixed, .ref q_t_grown, .ref q_t_costs, .ref q_t_order, .long t_joinedSet])), (q_t_there, .inl (cZ, 30, .inl t_there)), (q_t_part, .inl (cI, 10, .inl t_part)), (q_t_froms, .inl (cI, 30, .inl t_froms)), (q_t_tos, .inl (cI, 30, .inl t_tos)), (q_t_weights, .inl (cI, 30, .inl t_weights))] → va_S A s.heap H locs → some (v, t_part) = some RR → W p l e R s m args below meth c H locs 0 0 Q (F0 m pc ls [.int v])) (k40 : Int32 → (Nat → Int32) → Option (Int32 × (Nat → Int32))) (hk40 : ∀ (v3 : Int32) (t_part : Nat → Int32) (H : Heap) (locs : List Loc) (ls : Array Slot), va_P D CL [(q_t, .inr (8, [.int t_nodes, .int t_arcs, .int t_left, .ref q_t_froms, .ref q_t_tos, .ref q_t_weights, .ref q_t_there, .ref q_t_part, .ref q_t_matrix, .ref q_t_row, .ref q_t_low, .int t_swapIn, .int t_swapOut, .ref q_t_own, .ref q_t_chosen, .ref q_t_degrees, .long t_boundedSet, .ref q_t_fixed, .ref q_t_grown, .ref q_t_costs, .ref q_t_order, .long t_joinedSet])), (q_t_there, .inl (cZ, 30, .inl t_there)), (q_t_part, .inl (cI, 10, .inl t_part)), (q_t_froms, .inl (cI, 30, .inl t_froms)), (q_t_tos, .inl (cI, 30, .inl t_tos)), (q_t_weights, .inl (cI, 30, .inl t_weights))] H → va_D A [(q_t, .inr (8, [.int t_nodes, .int t_arcs, .int t_left, .ref q_t_froms, .ref q_t_tos, .ref q_t_weights, .ref q_t_there, .ref q_t_part, .ref q_t_matrix, .ref q_t_row, .ref q_t_low, .int t_swapIn, .int t_swapOut, .ref q_t_own, .ref q_t_chosen, .ref q_t_degrees, .long t_boundedSet, .ref q_t_fixed, .ref q_t_grown, .ref q_t_costs, .ref q_t_order, .long t_joinedSet])), (q_t_there, .inl (cZ, 30, .inl t_there)), (q_t_part, .inl (cI, 10, .inl t_part)), (q_t_froms, .inl (cI, 30, .inl t_froms)), (q_t_tos, .inl (cI, 30, .inl t_tos)), (q_t_weights, .inl (cI, 30, .inl t_weights))] → va_S A s.heap H locs → lv_has ls 5 [(0, .ref q_t), (1, .long p1), (3, .int v3)] → k40 v3 t_part = some RR → W p l e R s m args below meth c H locs 0 0 Q (F0 m 40 ls [])) : ∀ (v3 : Int32) (t_part : Nat → Int32) (H : Heap) (locs : List Loc) (ls : Array Slot), va_P D CL [(q_t, .inr (8, [.int t_nodes, .int t_arcs, .int t_left, .ref q_t_froms, .ref q_t_tos, .ref q_t_weights, .ref q_t_there, .ref q_t_part, .ref q_t_matrix, .ref q_t_row, .ref q_t_low, .int t_swapIn, .int t_swapOut, .ref q_t_own, .ref q_t_chosen, .ref q_t_degrees, .long t_boundedSet, .ref q_t_fixed, .ref q_t_grown, .ref q_t_costs, .ref q_t_order, .long t_joinedSet])), (q_t_there, .inl (cZ, 30, .inl t_there)), (q_t_part, .inl (cI, 10, .inl t_part)), (q_t_froms, .inl (cI, 30, .inl t_froms)), (q_t_tos, .inl (cI, 30, .inl t_tos)), (q_t_weights, .inl (cI, 30, .inl t_weights))] H → va_D A [(q_t, .inr (8, [.int t_nodes, .int t_arcs, .int t_left, .ref q_t_froms, .ref q_t_tos, .ref q_t_weights, .ref q_t_there, .ref q_t_part, .ref q_t_matrix, .ref q_t_row, .ref q_t_low, .int t_swapIn, .int t_swapOut, .ref q_t_own, .ref q_t_chosen, .ref q_t_degrees, .long t_boundedSet, .ref q_t_fixed, .ref q_t_grown, .ref q_t_costs, .ref q_t_order, .long t_joinedSet])), (q_t_there, .inl (cZ, 30, .inl t_there)), (q_t_part, .inl (cI, 10, .inl t_part)), (q_t_froms, .inl (cI, 30, .inl t_froms)), (q_t_tos, .inl (cI, 30, .inl t_tos)), (q_t_weights, .inl (cI, 30, .inl t_weights))] → va_S A s.heap H locs → lv_has ls 5 [(0, .ref q_t), (1, .long p1), (3, .int v3)] → g_Mo_judge_40 N p1 t_arcs t_there t_froms t_tos t_weights k40 v3 t_part = some RR → W p l e R s m args below meth c H locs 0 0 Q (F0 m 40 ls []) := by
  intro v3 t_part H locs ls hP hD hS hl hf
  obtain ⟨hx, hb, hml, hown, hts, hK, hA, hfr, hlo, hlk⟩ := id C0
  unfold g_Mo_judge_40 at hf
  refine lv_iload_n hx hb d_Mo_judge_40 rfl (lv_at hl 2 rfl) ?_
  refine lv_aload_n hx hb d_Mo_judge_41 rfl (lv_at hl 0 rfl) ?_
  refine va_get (D := D) (ci := 8) (v := .int t_arcs) (C := R_Mo) (T := F_Mo) (N := 22) hx hb hts i_Mo hown hK hP 0 rfl rfl 1 (by decide) (hts _ m_3_129) (fun _ h9 => h9) rfl d_Mo_judge_42 ?_
  refine lv_icmp_ge (tgt := 74) hx hb d_Mo_judge_45 (by decide) (fun hc1 => ?_) (fun hc1 => ?_)
  · have hf := if_t hc1 hf
    refine lv_iconst (v := 0) hx hb d_Mo_judge_74 (by decide) ?_
    refine lv_istore_n (lv' := [(3, .int (0 : Int32)), (0, .ref q_t), (1, .long p1)]) hx hb d_Mo_judge_75 rfl hl (by decide) rfl (fun ls hl => ?_)
    exact w_Mo_judge_76_l C0 hret N (0 : Int32) t_part _ _ _ hP hD hS (lv_sub hl [1, 2, 0] rfl) hf
  · have hf := if_f hc1 hf
    refine lv_lload_n hx hb d_Mo_judge_48 rfl (lv_at hl 1 rfl) ?_
    refine lv_iload_n hx hb d_Mo_judge_49 rfl (lv_at hl 2 rfl) ?_
    refine lv_lshr (v := p1 >>> (v3.toInt64 &&& 63)) hx hb d_Mo_judge_50 rfl ?_
    refine lv_lconst (v := 1) hx hb d_Mo_judge_51 (by decide) ?_
    refine lv_land hx hb d_Mo_judge_52 ?_
    refine lv_lconst (v := 1) hx hb d_Mo_judge_53 (by decide) ?_
    refine W.lcmp hx hb d_Mo_judge_54 ?_
    refine lv_if_ne (tgt := 68) hx hb d_Mo_judge_55 (by decide) (fun hc2 => ?_) (fun hc2 => ?_)
    · have hf := if_f hc2 hf
      obtain ⟨x1, ex1⟩ : ∃ y : Int32, y = v3 + (1 : Int32) := ⟨_, rfl⟩
      have hf := bn_e ex1 hf
      refine lv_iinc (v := x1) (lv' := [(3, .int x1), (0, .ref q_t), (1, .long p1)]) hx hb d_Mo_judge_68 hl (k := 2) rfl (by rw [ex1]; rfl) (by decide) rfl (fun ls hl => ?_)
      refine lv_goto (tgt := 40) hx hb d_Mo_judge_71 (by decide) ?_
      exact hk40 x1 t_part _ _ _ hP hD hS (lv_sub hl [1, 2, 0] rfl) hf
    · have hf := if_t hc2 hf
      refine lv_aload_n hx hb d_Mo_judge_58 rfl (lv_at hl 0 rfl) ?_
      refine lv_iload_n hx hb d_Mo_judge_59 rfl (lv_at hl 2 rfl) ?_
      obtain ⟨r2, c3, hq1, hf⟩ := bk2_e hf
      refine cl_go (wr := [(q_t_there, .inl (cZ, 30, .inl t_there)), (q_t_weights, .inl (cI, 30, .inl t_weights))]) (W1 := [(q_t, .inr (8, [.int t_nodes, .int t_arcs, .int t_left, .ref q_t_froms, .ref q_t_tos, .ref q_t_weights, .ref q_t_there, .ref q_t_part, .ref q_t_matrix, .ref q_t_row, .ref q_t_low, .int t_swapIn, .int t_swapOut, .ref q_t_own, .ref q_t_chosen, .ref q_t_degrees, .long t_boundedSet, .ref q_t_fixed, .ref q_t_grown, .ref q_t_costs, .ref q_t_order, .long t_joinedSet])), (q_t_there, .inl (cZ, 30, .inl t_there)), (q_t_part, .inl (cI, 10, .inl c3)), (q_t_froms, .inl (cI, 30, .inl t_froms)), (q_t_tos, .inl (cI, 30, .inl t_tos)), (q_t_weights, .inl (cI, 30, .inl t_weights))]) (va_runV (As := [.int v3]) (rest := []) ⟨hx, hb, hml, hown, hts⟩ (c_Mo_join l D cI cJ cG cZ q_t q_t_froms q_t_tos q_t_weights q_t_there q_t_part q_t_matrix q_t_row q_t_low q_t_own q_t_chosen q_t_degrees q_t_fixed q_t_grown q_t_costs q_t_order t_nodes t_arcs t_left t_swapIn t_swapOut t_boundedSet t_joinedSet t_froms t_part t_tos v3 hq1 H.size) (cwV 1 hts (gi_V m_3_236 m_3_238 m_0_27 m_1_9 wi_Mo_join) rfl rfl rfl hd_Mo_join ⟨Nat.le_trans (Nat.le_of_ble_eq_true rfl) hfr, Nat.le_trans (Nat.le_of_ble_eq_true rfl) hlo⟩) ⟨pw_blind, va_recv hK hP (ci := 8) (q0 := 0) rfl rfl, fun U hU hW => ⟨rfl, pw_in hU (hP.sub [0, 3, 2, 4] rfl) (va_K.moved hW.alike hK) ((hD.sub [0, 3, 2, 4] rfl rfl).weaken (fun _ _ _ _ => trivial))⟩⟩ rfl rfl hl.1 rfl (lv_room (Nat.le_of_ble_eq_true rfl)) d_Mo_judge_60 ⟨Nat.zero_le _, Nat.zero_le _⟩) hP hD hS hA [0, 3, 2, 4] [1, 5] rfl rfl rfl rfl [2, 0, 4, 3, 5, 1] rfl rfl (fun H locs hP hD hS => ?_)
      have hP : va_P D CL [(q_t, .inr (8, [.int t_nodes, .int t_arcs, .int t_left, .ref q_t_froms, .ref q_t_tos, .ref q_t_weights, .ref q_t_there, .ref q_t_part, .ref q_t_matrix, .ref q_t_row, .ref q_t_low, .int t_swapIn, .int t_swapOut, .ref q_t_own, .ref q_t_chosen, .ref q_t_degrees, .long t_boundedSet, .ref q_t_fixed, .ref q_t_grown, .ref q_t_costs, .ref q_t_order, .long t_joinedSet])), (q_t_there, .inl (cZ, 30, .inl t_there)), (q_t_part, .inl (cI, 10, .inl c3)), (q_t_froms, .inl (cI, 30, .inl t_froms)), (q_t_tos, .inl (cI, 30, .inl t_tos)), (q_t_weights, .inl (cI, 30, .inl t_weights))] H := hP
      have hD : va_D A [(q_t, .inr (8, [.int t_nodes, .int t_arcs, .int t_left, .ref q_t_froms, .ref q_t_tos, .ref q_t_weights, .ref q_t_there, .ref q_t_part, .ref q_t_matrix, .ref q_t_row, .ref q_t_low, .int t_swapIn, .int t_swapOut, .ref q_t_own, .ref q_t_chosen, .ref q_t_degrees, .long t_boundedSet, .ref q_t_fixed, .ref q_t_grown, .ref q_t_costs, .ref q_t_order, .long t_joinedSet])), (q_t_there, .inl (cZ, 30, .inl t_there)), (q_t_part, .inl (cI, 10, .inl c3)), (q_t_froms, .inl (cI, 30, .inl t_froms)), (q_t_tos, .inl (cI, 30, .inl t_tos)), (q_t_weights, .inl (cI, 30, .inl t_weights))] := hD
      refine lv_if_ne (tgt := 68) hx hb d_Mo_judge_63 (by decide) (fun hc3 => ?_) (fun hc3 => ?_)
      · have hf := if_f hc3 hf
        obtain ⟨x4, ex4⟩ : ∃ y : Int32, y = v3 + (1 : Int32) := ⟨_, rfl⟩
        have hf := bn_e ex4 hf
        refine lv_iinc (v := x4) (lv' := [(3, .int x4), (0, .ref q_t), (1, .long p1)]) hx hb d_Mo_judge_68 hl (k := 2) rfl (by rw [ex4]; rfl) (by decide) rfl (fun ls hl => ?_)
        refine lv_goto (tgt := 40) hx hb d_Mo_judge_71 (by decide) ?_
        exact hk40 x4 c3 _ _ _ hP hD hS (lv_sub hl [1, 2, 0] rfl) hf
      · have hf := if_t hc3 hf
        refine lv_iconst (v := 2) hx hb d_Mo_judge_66 (by decide) ?_
        exact hret 67 _ _ _ (2 : Int32) c3 d_Mo_judge_67 hP hD hS hf
set_option maxRecDepth 100000 in
set_option maxHeartbeats 4000000 in
theorem w_Mo_judge_40_l {p : Program} {l : Launch} {e : Env} {R : Room} {s : State} {m : MethodId} {args : Array Value} {below : List Frame} {meth : Method} {c : Code} {D : va_G} {cI cJ cG cZ : ClassId} {A : Nat → Prop} {Q : State → Prop} {q_t q_t_froms q_t_tos q_t_weights q_t_there q_t_part q_t_matrix q_t_row q_t_low q_t_own q_t_chosen q_t_degrees q_t_fixed q_t_grown q_t_costs q_t_order : Nat} {t_nodes : Int32} {t_arcs : Int32} {t_left : Int32} {t_swapIn : Int32} {t_swapOut : Int32} {t_boundedSet : Int64} {t_joinedSet : Int64} {t_there : Nat → Int32} {t_froms : Nat → Int32} {t_tos : Nat → Int32} {t_weights : Nat → Int32} {p1 : Int64} {N : Nat} {RR : Int32 × (Nat → Int32)} (C0 : CX p R s m args meth c b_Mo_judge 5 R_Mo lw_g D CL (TYs cI cJ cG cZ) A 2 52) (hret : ∀ (pc : Nat) (ls : Array Slot) (H : Heap) (locs : List Loc) (v : Int32) (t_part : Nat → Int32), decode b_Mo_judge pc = .ok (.ireturn, 1) → va_P D CL [(q_t, .inr (8, [.int t_nodes, .int t_arcs, .int t_left, .ref q_t_froms, .ref q_t_tos, .ref q_t_weights, .ref q_t_there, .ref q_t_part, .ref q_t_matrix, .ref q_t_row, .ref q_t_low, .int t_swapIn, .int t_swapOut, .ref q_t_own, .ref q_t_chosen, .ref q_t_degrees, .long t_boundedSet, .ref q_t_fixed, .ref q_t_grown, .ref q_t_costs, .ref q_t_order, .long t_joinedSet])), (q_t_there, .inl (cZ, 30, .inl t_there)), (q_t_part, .inl (cI, 10, .inl t_part)), (q_t_froms, .inl (cI, 30, .inl t_froms)), (q_t_tos, .inl (cI, 30, .inl t_tos)), (q_t_weights, .inl (cI, 30, .inl t_weights))] H → va_D A [(q_t, .inr (8, [.int t_nodes, .int t_arcs, .int t_left, .ref q_t_froms, .ref q_t_tos, .ref q_t_weights, .ref q_t_there, .ref q_t_part, .ref q_t_matrix, .ref q_t_row, .ref q_t_low, .int t_swapIn, .int t_swapOut, .ref q_t_own, .ref q_t_chosen, .ref q_t_degrees, .long t_boundedSet, .ref q_t_fixed, .ref q_t_grown, .ref q_t_costs, .ref q_t_order, .long t_joinedSet])), (q_t_there, .inl (cZ, 30, .inl t_there)), (q_t_part, .inl (cI, 10, .inl t_part)), (q_t_froms, .inl (cI, 30, .inl t_froms)), (q_t_tos, .inl (cI, 30, .inl t_tos)), (q_t_weights, .inl (cI, 30, .inl t_weights))] → va_S A s.heap H locs → some (v, t_part) = some RR → W p l e R s m args below meth c H locs 0 0 Q (F0 m pc ls [.int v]))  : ∀ (n : Nat) (v3 : Int32) (t_part : Nat → Int32) (H : Heap) (locs : List Loc) (ls : Array Slot), va_P D CL [(q_t, .inr (8, [.int t_nodes, .int t_arcs, .int t_left, .ref q_t_froms, .ref q_t_tos, .ref q_t_weights, .ref q_t_there, .ref q_t_part, .ref q_t_matrix, .ref q_t_row, .ref q_t_low, .int t_swapIn, .int t_swapOut, .ref q_t_own, .ref q_t_chosen, .ref q_t_degrees, .long t_boundedSet, .ref q_t_fixed, .ref q_t_grown, .ref q_t_costs, .ref q_t_order, .long t_joinedSet])), (q_t_there, .inl (cZ, 30, .inl t_there)), (q_t_part, .inl (cI, 10, .inl t_part)), (q_t_froms, .inl (cI, 30, .inl t_froms)), (q_t_tos, .inl (cI, 30, .inl t_tos)), (q_t_weights, .inl (cI, 30, .inl t_weights))] H → va_D A [(q_t, .inr (8, [.int t_nodes, .int t_arcs, .int t_left, .ref q_t_froms, .ref q_t_tos, .ref q_t_weights, .ref q_t_there, .ref q_t_part, .ref q_t_matrix, .ref q_t_row, .ref q_t_low, .int t_swapIn, .int t_swapOut, .ref q_t_own, .ref q_t_chosen, .ref q_t_degrees, .long t_boundedSet, .ref q_t_fixed, .ref q_t_grown, .ref q_t_costs, .ref q_t_order, .long t_joinedSet])), (q_t_there, .inl (cZ, 30, .inl t_there)), (q_t_part, .inl (cI, 10, .inl t_part)), (q_t_froms, .inl (cI, 30, .inl t_froms)), (q_t_tos, .inl (cI, 30, .inl t_tos)), (q_t_weights, .inl (cI, 30, .inl t_weights))] → va_S A s.heap H locs → lv_has ls 5 [(0, .ref q_t), (1, .long p1), (3, .int v3)] → lo2 (g_Mo_judge_40 N p1 t_arcs t_there t_froms t_tos t_weights) n v3 t_part = some RR → W p l e R s m args below meth c H locs 0 0 Q (F0 m 40 ls []) := by
  intro n
  induction n with
  | zero =>
    intro v3 t_part H locs ls hP hD hS hl hf
    exact absurd hf (by simp [lo2])
  | succ n ih =>
    intro v3 t_part H locs ls hP hD hS hl hf
    exact w_Mo_judge_40 C0 hret  (lo2 (g_Mo_judge_40 N p1 t_arcs t_there t_froms t_tos t_weights) n) ih v3 t_part H locs ls hP hD hS hl hf
set_option maxRecDepth 100000 in
set_option maxHeartbeats 4000000 in
theorem w_Mo_judge_2 {p : Program} {l : Launch} {e : Env} {R : Room} {s : State} {m : MethodId} {args : Array Value} {below : List Frame} {meth : Method} {c : Code} {D : va_G} {cI cJ cG cZ : ClassId} {A : Nat → Prop} {Q : State → Prop} {q_t q_t_froms q_t_tos q_t_weights q_t_there q_t_part q_t_matrix q_t_row q_t_low q_t_own q_t_chosen q_t_degrees q_t_fixed q_t_grown q_t_costs q_t_order : Nat} {t_nodes : Int32} {t_arcs : Int32} {t_left : Int32} {t_swapIn : Int32} {t_swapOut : Int32} {t_boundedSet : Int64} {t_joinedSet : Int64} {t_there : Nat → Int32} {t_froms : Nat → Int32} {t_tos : Nat → Int32} {t_weights : Nat → Int32} {p1 : Int64} {N : Nat} {RR : Int32 × (Nat → Int32)} (C0 : CX p R s m args meth c b_Mo_judge 5 R_Mo lw_g D CL (TYs cI cJ cG cZ) A 2 52) (hret : ∀ (pc : Nat) (ls : Array Slot) (H : Heap) (locs : List Loc) (v : Int32) (t_part : Nat → Int32), decode b_Mo_judge pc = .ok (.ireturn, 1) → va_P D CL [(q_t, .inr (8, [.int t_nodes, .int t_arcs, .int t_left, .ref q_t_froms, .ref q_t_tos, .ref q_t_weights, .ref q_t_there, .ref q_t_part, .ref q_t_matrix, .ref q_t_row, .ref q_t_low, .int t_swapIn, .int t_swapOut, .ref q_t_own, .ref q_t_chosen, .ref q_t_degrees, .long t_boundedSet, .ref q_t_fixed, .ref q_t_grown, .ref q_t_costs, .ref q_t_order, .long t_joinedSet])), (q_t_there, .inl (cZ, 30, .inl t_there)), (q_t_part, .inl (cI, 10, .inl t_part)), (q_t_froms, .inl (cI, 30, .inl t_froms)), (q_t_tos, .inl (cI, 30, .inl t_tos)), (q_t_weights, .inl (cI, 30, .inl t_weights))] H → va_D A [(q_t, .inr (8, [.int t_nodes, .int t_arcs, .int t_left, .ref q_t_froms, .ref q_t_tos, .ref q_t_weights, .ref q_t_there, .ref q_t_part, .ref q_t_matrix, .ref q_t_row, .ref q_t_low, .int t_swapIn, .int t_swapOut, .ref q_t_own, .ref q_t_chosen, .ref q_t_degrees, .long t_boundedSet, .ref q_t_fixed, .ref q_t_grown, .ref q_t_costs, .ref q_t_order, .long t_joinedSet])), (q_t_there, .inl (cZ, 30, .inl t_there)), (q_t_part, .inl (cI, 10, .inl t_part)), (q_t_froms, .inl (cI, 30, .inl t_froms)), (q_t_tos, .inl (cI, 30, .inl t_tos)), (q_t_weights, .inl (cI, 30, .inl t_weights))] → va_S A s.heap H locs → some (v, t_part) = some RR → W p l e R s m args below meth c H locs 0 0 Q (F0 m pc ls [.int v])) (k2 : Int32 → (Nat → Int32) → Option (Int32 × (Nat → Int32))) (hk2 : ∀ (v3 : Int32) (t_part : Nat → Int32) (H : Heap) (locs : List Loc) (ls : Array Slot), va_P D CL [(q_t, .inr (8, [.int t_nodes, .int t_arcs, .int t_left, .ref q_t_froms, .ref q_t_tos, .ref q_t_weights, .ref q_t_there, .ref q_t_part, .ref q_t_matrix, .ref q_t_row, .ref q_t_low, .int t_swapIn, .int t_swapOut, .ref q_t_own, .ref q_t_chosen, .ref q_t_degrees, .long t_boundedSet, .ref q_t_fixed, .ref q_t_grown, .ref q_t_costs, .ref q_t_order, .long t_joinedSet])), (q_t_there, .inl (cZ, 30, .inl t_there)), (q_t_part, .inl (cI, 10, .inl t_part)), (q_t_froms, .inl (cI, 30, .inl t_froms)), (q_t_tos, .inl (cI, 30, .inl t_tos)), (q_t_weights, .inl (cI, 30, .inl t_weights))] H → va_D A [(q_t, .inr (8, [.int t_nodes, .int t_arcs, .int t_left, .ref q_t_froms, .ref q_t_tos, .ref q_t_weights, .ref q_t_there, .ref q_t_part, .ref q_t_matrix, .ref q_t_row, .ref q_t_low, .int t_swapIn, .int t_swapOut, .ref q_t_own, .ref q_t_chosen, .ref q_t_degrees, .long t_boundedSet, .ref q_t_fixed, .ref q_t_grown, .ref q_t_costs, .ref q_t_order, .long t_joinedSet])), (q_t_there, .inl (cZ, 30, .inl t_there)), (q_t_part, .inl (cI, 10, .inl t_part)), (q_t_froms, .inl (cI, 30, .inl t_froms)), (q_t_tos, .inl (cI, 30, .inl t_tos)), (q_t_weights, .inl (cI, 30, .inl t_weights))] → va_S A s.heap H locs → lv_has ls 5 [(0, .ref q_t), (1, .long p1), (3, .int v3)] → k2 v3 t_part = some RR → W p l e R s m args below meth c H locs 0 0 Q (F0 m 2 ls [])) : ∀ (v3 : Int32) (t_part : Nat → Int32) (H : Heap) (locs : List Loc) (ls : Array Slot), va_P D CL [(q_t, .inr (8, [.int t_nodes, .int t_arcs, .int t_left, .ref q_t_froms, .ref q_t_tos, .ref q_t_weights, .ref q_t_there, .ref q_t_part, .ref q_t_matrix, .ref q_t_row, .ref q_t_low, .int t_swapIn, .int t_swapOut, .ref q_t_own, .ref q_t_chosen, .ref q_t_degrees, .long t_boundedSet, .ref q_t_fixed, .ref q_t_grown, .ref q_t_costs, .ref q_t_order, .long t_joinedSet])), (q_t_there, .inl (cZ, 30, .inl t_there)), (q_t_part, .inl (cI, 10, .inl t_part)), (q_t_froms, .inl (cI, 30, .inl t_froms)), (q_t_tos, .inl (cI, 30, .inl t_tos)), (q_t_weights, .inl (cI, 30, .inl t_weights))] H → va_D A [(q_t, .inr (8, [.int t_nodes, .int t_arcs, .int t_left, .ref q_t_froms, .ref q_t_tos, .ref q_t_weights, .ref q_t_there, .ref q_t_part, .ref q_t_matrix, .ref q_t_row, .ref q_t_low, .int t_swapIn, .int t_swapOut, .ref q_t_own, .ref q_t_chosen, .ref q_t_degrees, .long t_boundedSet, .ref q_t_fixed, .ref q_t_grown, .ref q_t_costs, .ref q_t_order, .long t_joinedSet])), (q_t_there, .inl (cZ, 30, .inl t_there)), (q_t_part, .inl (cI, 10, .inl t_part)), (q_t_froms, .inl (cI, 30, .inl t_froms)), (q_t_tos, .inl (cI, 30, .inl t_tos)), (q_t_weights, .inl (cI, 30, .inl t_weights))] → va_S A s.heap H locs → lv_has ls 5 [(0, .ref q_t), (1, .long p1), (3, .int v3)] → g_Mo_judge_2 N p1 t_arcs t_there t_froms t_tos t_weights k2 v3 t_part = some RR → W p l e R s m args below meth c H locs 0 0 Q (F0 m 2 ls []) := by
  intro v3 t_part H locs ls hP hD hS hl hf
  obtain ⟨hx, hb, hml, hown, hts, hK, hA, hfr, hlo, hlk⟩ := id C0
  unfold g_Mo_judge_2 at hf
  refine lv_iload_n hx hb d_Mo_judge_2 rfl (lv_at hl 2 rfl) ?_
  refine lv_bipush (v := 64) hx hb d_Mo_judge_3 (by decide) ?_
  refine lv_icmp_ge (tgt := 34) hx hb d_Mo_judge_5 (by decide) (fun hc1 => ?_) (fun hc1 => ?_)
  · have hf := if_t hc1 hf
    refine lv_aload_n hx hb d_Mo_judge_34 rfl (lv_at hl 0 rfl) ?_
    obtain ⟨c1, hq1, hf⟩ := bk1_e hf
    refine cl_go (wr := [(q_t_there, .inl (cZ, 30, .inl t_there)), (q_t_froms, .inl (cI, 30, .inl t_froms)), (q_t_tos, .inl (cI, 30, .inl t_tos)), (q_t_weights, .inl (cI, 30, .inl t_weights))]) (W1 := [(q_t, .inr (8, [.int t_nodes, .int t_arcs, .int t_left, .ref q_t_froms, .ref q_t_tos, .ref q_t_weights, .ref q_t_there, .ref q_t_part, .ref q_t_matrix, .ref q_t_row, .ref q_t_low, .int t_swapIn, .int t_swapOut, .ref q_t_own, .ref q_t_chosen, .ref q_t_degrees, .long t_boundedSet, .ref q_t_fixed, .ref q_t_grown, .ref q_t_costs, .ref q_t_order, .long t_joinedSet])), (q_t_there, .inl (cZ, 30, .inl t_there)), (q_t_part, .inl (cI, 10, .inl c1)), (q_t_froms, .inl (cI, 30, .inl t_froms)), (q_t_tos, .inl (cI, 30, .inl t_tos)), (q_t_weights, .inl (cI, 30, .inl t_weights))]) (va_runV (As := []) (rest := []) ⟨hx, hb, hml, hown, hts⟩ (c_Mo_alone l D cI cJ cG cZ q_t q_t_froms q_t_tos q_t_weights q_t_there q_t_part q_t_matrix q_t_row q_t_low q_t_own q_t_chosen q_t_degrees q_t_fixed q_t_grown q_t_costs q_t_order t_nodes t_arcs t_left t_swapIn t_swapOut t_boundedSet t_joinedSet t_part hq1 H.size) (cwV 0 hts (gi_V m_3_232 m_3_234 m_0_26 m_1_9 wi_Mo_alone) rfl rfl rfl hd_Mo_alone ⟨Nat.le_trans (Nat.le_of_ble_eq_true rfl) hfr, Nat.le_trans (Nat.le_of_ble_eq_true rfl) hlo⟩) ⟨pw_blind, va_recv hK hP (ci := 8) (q0 := 0) rfl rfl, fun U hU hW => ⟨rfl, pw_in hU (hP.sub [0, 2] rfl) (va_K.moved hW.alike hK) ((hD.sub [0, 2] rfl rfl).weaken (fun _ _ _ _ => trivial))⟩⟩ rfl rfl hl.1 rfl (lv_room (Nat.le_of_ble_eq_true rfl)) d_Mo_judge_35 ⟨Nat.zero_le _, Nat.zero_le _⟩) hP hD hS hA [0, 2] [1, 3, 4, 5] rfl rfl rfl rfl [4, 0, 5, 1, 2, 3] rfl rfl (fun H locs hP hD hS => ?_)
    have hP : va_P D CL [(q_t, .inr (8, [.int t_nodes, .int t_arcs, .int t_left, .ref q_t_froms, .ref q_t_tos, .ref q_t_weights, .ref q_t_there, .ref q_t_part, .ref q_t_matrix, .ref q_t_row, .ref q_t_low, .int t_swapIn, .int t_swapOut, .ref q_t_own, .ref q_t_chosen, .ref q_t_degrees, .long t_boundedSet, .ref q_t_fixed, .ref q_t_grown, .ref q_t_costs, .ref q_t_order, .long t_joinedSet])), (q_t_there, .inl (cZ, 30, .inl t_there)), (q_t_part, .inl (cI, 10, .inl c1)), (q_t_froms, .inl (cI, 30, .inl t_froms)), (q_t_tos, .inl (cI, 30, .inl t_tos)), (q_t_weights, .inl (cI, 30, .inl t_weights))] H := hP
    have hD : va_D A [(q_t, .inr (8, [.int t_nodes, .int t_arcs, .int t_left, .ref q_t_froms, .ref q_t_tos, .ref q_t_weights, .ref q_t_there, .ref q_t_part, .ref q_t_matrix, .ref q_t_row, .ref q_t_low, .int t_swapIn, .int t_swapOut, .ref q_t_own, .ref q_t_chosen, .ref q_t_degrees, .long t_boundedSet, .ref q_t_fixed, .ref q_t_grown, .ref q_t_costs, .ref q_t_order, .long t_joinedSet])), (q_t_there, .inl (cZ, 30, .inl t_there)), (q_t_part, .inl (cI, 10, .inl c1)), (q_t_froms, .inl (cI, 30, .inl t_froms)), (q_t_tos, .inl (cI, 30, .inl t_tos)), (q_t_weights, .inl (cI, 30, .inl t_weights))] := hD
    refine lv_iconst (v := 0) hx hb d_Mo_judge_38 (by decide) ?_
    refine lv_istore_n (lv' := [(3, .int (0 : Int32)), (0, .ref q_t), (1, .long p1)]) hx hb d_Mo_judge_39 rfl hl (by decide) rfl (fun ls hl => ?_)
    exact w_Mo_judge_40_l C0 hret N (0 : Int32) c1 _ _ _ hP hD hS (lv_sub hl [1, 2, 0] rfl) hf
  · have hf := if_f hc1 hf
    refine lv_lload_n hx hb d_Mo_judge_8 rfl (lv_at hl 1 rfl) ?_
    refine lv_iload_n hx hb d_Mo_judge_9 rfl (lv_at hl 2 rfl) ?_
    refine lv_lushr (v := (p1.toUInt64 >>> (v3.toInt64.toUInt64 &&& Int64.toUInt64 63)).toInt64) hx hb d_Mo_judge_10 rfl ?_
    refine lv_lconst (v := 1) hx hb d_Mo_judge_11 (by decide) ?_
    refine lv_land hx hb d_Mo_judge_12 ?_
    refine lv_lconst (v := 1) hx hb d_Mo_judge_13 (by decide) ?_
    refine W.lcmp hx hb d_Mo_judge_14 ?_
    refine lv_if_ne (tgt := 28) hx hb d_Mo_judge_15 (by decide) (fun hc2 => ?_) (fun hc2 => ?_)
    · have hf := if_f hc2 hf
      obtain ⟨x2, ex2⟩ : ∃ y : Int32, y = v3 + (1 : Int32) := ⟨_, rfl⟩
      have hf := bn_e ex2 hf
      refine lv_iinc (v := x2) (lv' := [(3, .int x2), (0, .ref q_t), (1, .long p1)]) hx hb d_Mo_judge_28 hl (k := 2) rfl (by rw [ex2]; rfl) (by decide) rfl (fun ls hl => ?_)
      refine lv_goto (tgt := 2) hx hb d_Mo_judge_31 (by decide) ?_
      exact hk2 x2 t_part _ _ _ hP hD hS (lv_sub hl [1, 2, 0] rfl) hf
    · have hf := if_t hc2 hf
      refine lv_aload_n hx hb d_Mo_judge_18 rfl (lv_at hl 0 rfl) ?_
      refine lv_iload_n hx hb d_Mo_judge_19 rfl (lv_at hl 2 rfl) ?_
      obtain ⟨r3, hq2, hf⟩ := bk1_e hf
      refine cl_go (wr := [(q_t_part, .inl (cI, 10, .inl t_part)), (q_t_froms, .inl (cI, 30, .inl t_froms)), (q_t_tos, .inl (cI, 30, .inl t_tos)), (q_t_weights, .inl (cI, 30, .inl t_weights))]) (W1 := [(q_t, .inr (8, [.int t_nodes, .int t_arcs, .int t_left, .ref q_t_froms, .ref q_t_tos, .ref q_t_weights, .ref q_t_there, .ref q_t_part, .ref q_t_matrix, .ref q_t_row, .ref q_t_low, .int t_swapIn, .int t_swapOut, .ref q_t_own, .ref q_t_chosen, .ref q_t_degrees, .long t_boundedSet, .ref q_t_fixed, .ref q_t_grown, .ref q_t_costs, .ref q_t_order, .long t_joinedSet])), (q_t_there, .inl (cZ, 30, .inl t_there)), (q_t_part, .inl (cI, 10, .inl t_part)), (q_t_froms, .inl (cI, 30, .inl t_froms)), (q_t_tos, .inl (cI, 30, .inl t_tos)), (q_t_weights, .inl (cI, 30, .inl t_weights))]) (va_runV (As := [.int v3]) (rest := []) ⟨hx, hb, hml, hown, hts⟩ (c_Mo_isArc l D cI cJ cG cZ q_t q_t_froms q_t_tos q_t_weights q_t_there q_t_part q_t_matrix q_t_row q_t_low q_t_own q_t_chosen q_t_degrees q_t_fixed q_t_grown q_t_costs q_t_order t_nodes t_arcs t_left t_swapIn t_swapOut t_boundedSet t_joinedSet t_there v3 hq2 H.size) (cwV 1 hts (gi_V m_3_212 m_3_214 m_0_24 m_1_9 wi_Mo_isArc) rfl rfl rfl hd_Mo_isArc ⟨Nat.le_trans (Nat.le_of_ble_eq_true rfl) hfr, Nat.le_trans (Nat.le_of_ble_eq_true rfl) hlo⟩) ⟨pw_blind, va_recv hK hP (ci := 8) (q0 := 0) rfl rfl, fun U hU hW => ⟨rfl, pw_in hU (hP.sub [0, 1] rfl) (va_K.moved hW.alike hK) ((hD.sub [0, 1] rfl rfl).weaken (fun _ _ _ _ => trivial))⟩⟩ rfl rfl hl.1 rfl (lv_room (Nat.le_of_ble_eq_true rfl)) d_Mo_judge_20 ⟨Nat.zero_le _, Nat.zero_le _⟩) hP hD hS hA [0, 1] [2, 3, 4, 5] rfl rfl rfl rfl [4, 5, 0, 1, 2, 3] rfl rfl (fun H locs hP hD hS => ?_)
      have hP : va_P D CL [(q_t, .inr (8, [.int t_nodes, .int t_arcs, .int t_left, .ref q_t_froms, .ref q_t_tos, .ref q_t_weights, .ref q_t_there, .ref q_t_part, .ref q_t_matrix, .ref q_t_row, .ref q_t_low, .int t_swapIn, .int t_swapOut, .ref q_t_own, .ref q_t_chosen, .ref q_t_degrees, .long t_boundedSet, .ref q_t_fixed, .ref q_t_grown, .ref q_t_costs, .ref q_t_order, .long t_joinedSet])), (q_t_there, .inl (cZ, 30, .inl t_there)), (q_t_part, .inl (cI, 10, .inl t_part)), (q_t_froms, .inl (cI, 30, .inl t_froms)), (q_t_tos, .inl (cI, 30, .inl t_tos)), (q_t_weights, .inl (cI, 30, .inl t_weights))] H := hP
      have hD : va_D A [(q_t, .inr (8, [.int t_nodes, .int t_arcs, .int t_left, .ref q_t_froms, .ref q_t_tos, .ref q_t_weights, .ref q_t_there, .ref q_t_part, .ref q_t_matrix, .ref q_t_row, .ref q_t_low, .int t_swapIn, .int t_swapOut, .ref q_t_own, .ref q_t_chosen, .ref q_t_degrees, .long t_boundedSet, .ref q_t_fixed, .ref q_t_grown, .ref q_t_costs, .ref q_t_order, .long t_joinedSet])), (q_t_there, .inl (cZ, 30, .inl t_there)), (q_t_part, .inl (cI, 10, .inl t_part)), (q_t_froms, .inl (cI, 30, .inl t_froms)), (q_t_tos, .inl (cI, 30, .inl t_tos)), (q_t_weights, .inl (cI, 30, .inl t_weights))] := hD
      refine lv_if_ne (tgt := 28) hx hb d_Mo_judge_23 (by decide) (fun hc3 => ?_) (fun hc3 => ?_)
      · have hf := if_f hc3 hf
        obtain ⟨x4, ex4⟩ : ∃ y : Int32, y = v3 + (1 : Int32) := ⟨_, rfl⟩
        have hf := bn_e ex4 hf
        refine lv_iinc (v := x4) (lv' := [(3, .int x4), (0, .ref q_t), (1, .long p1)]) hx hb d_Mo_judge_28 hl (k := 2) rfl (by rw [ex4]; rfl) (by decide) rfl (fun ls hl => ?_)
        refine lv_goto (tgt := 2) hx hb d_Mo_judge_31 (by decide) ?_
        exact hk2 x4 t_part _ _ _ hP hD hS (lv_sub hl [1, 2, 0] rfl) hf
      · have hf := if_t hc3 hf
        refine lv_iconst (v := 1) hx hb d_Mo_judge_26 (by decide) ?_
        exact hret 27 _ _ _ (1 : Int32) t_part d_Mo_judge_27 hP hD hS hf
set_option maxRecDepth 100000 in
set_option maxHeartbeats 4000000 in
theorem w_Mo_judge_2_l {p : Program} {l : Launch} {e : Env} {R : Room} {s : State} {m : MethodId} {args : Array Value} {below : List Frame} {meth : Method} {c : Code} {D : va_G} {cI cJ cG cZ : ClassId} {A : Nat → Prop} {Q : State → Prop} {q_t q_t_froms q_t_tos q_t_weights q_t_there q_t_part q_t_matrix q_t_row q_t_low q_t_own q_t_chosen q_t_degrees q_t_fixed q_t_grown q_t_costs q_t_order : Nat} {t_nodes : Int32} {t_arcs : Int32} {t_left : Int32} {t_swapIn : Int32} {t_swapOut : Int32} {t_boundedSet : Int64} {t_joinedSet : Int64} {t_there : Nat → Int32} {t_froms : Nat → Int32} {t_tos : Nat → Int32} {t_weights : Nat → Int32} {p1 : Int64} {N : Nat} {RR : Int32 × (Nat → Int32)} (C0 : CX p R s m args meth c b_Mo_judge 5 R_Mo lw_g D CL (TYs cI cJ cG cZ) A 2 52) (hret : ∀ (pc : Nat) (ls : Array Slot) (H : Heap) (locs : List Loc) (v : Int32) (t_part : Nat → Int32), decode b_Mo_judge pc = .ok (.ireturn, 1) → va_P D CL [(q_t, .inr (8, [.int t_nodes, .int t_arcs, .int t_left, .ref q_t_froms, .ref q_t_tos, .ref q_t_weights, .ref q_t_there, .ref q_t_part, .ref q_t_matrix, .ref q_t_row, .ref q_t_low, .int t_swapIn, .int t_swapOut, .ref q_t_own, .ref q_t_chosen, .ref q_t_degrees, .long t_boundedSet, .ref q_t_fixed, .ref q_t_grown, .ref q_t_costs, .ref q_t_order, .long t_joinedSet])), (q_t_there, .inl (cZ, 30, .inl t_there)), (q_t_part, .inl (cI, 10, .inl t_part)), (q_t_froms, .inl (cI, 30, .inl t_froms)), (q_t_tos, .inl (cI, 30, .inl t_tos)), (q_t_weights, .inl (cI, 30, .inl t_weights))] H → va_D A [(q_t, .inr (8, [.int t_nodes, .int t_arcs, .int t_left, .ref q_t_froms, .ref q_t_tos, .ref q_t_weights, .ref q_t_there, .ref q_t_part, .ref q_t_matrix, .ref q_t_row, .ref q_t_low, .int t_swapIn, .int t_swapOut, .ref q_t_own, .ref q_t_chosen, .ref q_t_degrees, .long t_boundedSet, .ref q_t_fixed, .ref q_t_grown, .ref q_t_costs, .ref q_t_order, .long t_joinedSet])), (q_t_there, .inl (cZ, 30, .inl t_there)), (q_t_part, .inl (cI, 10, .inl t_part)), (q_t_froms, .inl (cI, 30, .inl t_froms)), (q_t_tos, .inl (cI, 30, .inl t_tos)), (q_t_weights, .inl (cI, 30, .inl t_weights))] → va_S A s.heap H locs → some (v, t_part) = some RR → W p l e R s m args below meth c H locs 0 0 Q (F0 m pc ls [.int v]))  : ∀ (n : Nat) (v3 : Int32) (t_part : Nat → Int32) (H : Heap) (locs : List Loc) (ls : Array Slot), va_P D CL [(q_t, .inr (8, [.int t_nodes, .int t_arcs, .int t_left, .ref q_t_froms, .ref q_t_tos, .ref q_t_weights, .ref q_t_there, .ref q_t_part, .ref q_t_matrix, .ref q_t_row, .ref q_t_low, .int t_swapIn, .int t_swapOut, .ref q_t_own, .ref q_t_chosen, .ref q_t_degrees, .long t_boundedSet, .ref q_t_fixed, .ref q_t_grown, .ref q_t_costs, .ref q_t_order, .long t_joinedSet])), (q_t_there, .inl (cZ, 30, .inl t_there)), (q_t_part, .inl (cI, 10, .inl t_part)), (q_t_froms, .inl (cI, 30, .inl t_froms)), (q_t_tos, .inl (cI, 30, .inl t_tos)), (q_t_weights, .inl (cI, 30, .inl t_weights))] H → va_D A [(q_t, .inr (8, [.int t_nodes, .int t_arcs, .int t_left, .ref q_t_froms, .ref q_t_tos, .ref q_t_weights, .ref q_t_there, .ref q_t_part, .ref q_t_matrix, .ref q_t_row, .ref q_t_low, .int t_swapIn, .int t_swapOut, .ref q_t_own, .ref q_t_chosen, .ref q_t_degrees, .long t_boundedSet, .ref q_t_fixed, .ref q_t_grown, .ref q_t_costs, .ref q_t_order, .long t_joinedSet])), (q_t_there, .inl (cZ, 30, .inl t_there)), (q_t_part, .inl (cI, 10, .inl t_part)), (q_t_froms, .inl (cI, 30, .inl t_froms)), (q_t_tos, .inl (cI, 30, .inl t_tos)), (q_t_weights, .inl (cI, 30, .inl t_weights))] → va_S A s.heap H locs → lv_has ls 5 [(0, .ref q_t), (1, .long p1), (3, .int v3)] → lo2 (g_Mo_judge_2 N p1 t_arcs t_there t_froms t_tos t_weights) n v3 t_part = some RR → W p l e R s m args below meth c H locs 0 0 Q (F0 m 2 ls []) := by
  intro n
  induction n with
  | zero =>
    intro v3 t_part H locs ls hP hD hS hl hf
    exact absurd hf (by simp [lo2])
  | succ n ih =>
    intro v3 t_part H locs ls hP hD hS hl hf
    exact w_Mo_judge_2 C0 hret  (lo2 (g_Mo_judge_2 N p1 t_arcs t_there t_froms t_tos t_weights) n) ih v3 t_part H locs ls hP hD hS hl hf
set_option maxRecDepth 100000 in
set_option maxHeartbeats 4000000 in
theorem w_Mo_judge_e {p : Program} {l : Launch} {e : Env} {R : Room} {s : State} {m : MethodId} {args : Array Value} {below : List Frame} {meth : Method} {c : Code} {D : va_G} {cI cJ cG cZ : ClassId} {A : Nat → Prop} {Q : State → Prop} {q_t q_t_froms q_t_tos q_t_weights q_t_there q_t_part q_t_matrix q_t_row q_t_low q_t_own q_t_chosen q_t_degrees q_t_fixed q_t_grown q_t_costs q_t_order : Nat} {t_nodes : Int32} {t_arcs : Int32} {t_left : Int32} {t_swapIn : Int32} {t_swapOut : Int32} {t_boundedSet : Int64} {t_joinedSet : Int64} {t_there : Nat → Int32} {t_part0 : Nat → Int32} {t_froms : Nat → Int32} {t_tos : Nat → Int32} {t_weights : Nat → Int32} {p1 : Int64} {N : Nat} {RR : Int32 × (Nat → Int32)} (C0 : CX p R s m args meth c b_Mo_judge 5 R_Mo lw_g D CL (TYs cI cJ cG cZ) A 2 52) (hret : ∀ (pc : Nat) (ls : Array Slot) (H : Heap) (locs : List Loc) (v : Int32) (t_part : Nat → Int32), decode b_Mo_judge pc = .ok (.ireturn, 1) → va_P D CL [(q_t, .inr (8, [.int t_nodes, .int t_arcs, .int t_left, .ref q_t_froms, .ref q_t_tos, .ref q_t_weights, .ref q_t_there, .ref q_t_part, .ref q_t_matrix, .ref q_t_row, .ref q_t_low, .int t_swapIn, .int t_swapOut, .ref q_t_own, .ref q_t_chosen, .ref q_t_degrees, .long t_boundedSet, .ref q_t_fixed, .ref q_t_grown, .ref q_t_costs, .ref q_t_order, .long t_joinedSet])), (q_t_there, .inl (cZ, 30, .inl t_there)), (q_t_part, .inl (cI, 10, .inl t_part)), (q_t_froms, .inl (cI, 30, .inl t_froms)), (q_t_tos, .inl (cI, 30, .inl t_tos)), (q_t_weights, .inl (cI, 30, .inl t_weights))] H → va_D A [(q_t, .inr (8, [.int t_nodes, .int t_arcs, .int t_left, .ref q_t_froms, .ref q_t_tos, .ref q_t_weights, .ref q_t_there, .ref q_t_part, .ref q_t_matrix, .ref q_t_row, .ref q_t_low, .int t_swapIn, .int t_swapOut, .ref q_t_own, .ref q_t_chosen, .ref q_t_degrees, .long t_boundedSet, .ref q_t_fixed, .ref q_t_grown, .ref q_t_costs, .ref q_t_order, .long t_joinedSet])), (q_t_there, .inl (cZ, 30, .inl t_there)), (q_t_part, .inl (cI, 10, .inl t_part)), (q_t_froms, .inl (cI, 30, .inl t_froms)), (q_t_tos, .inl (cI, 30, .inl t_tos)), (q_t_weights, .inl (cI, 30, .inl t_weights))] → va_S A s.heap H locs → some (v, t_part) = some RR → W p l e R s m args below meth c H locs 0 0 Q (F0 m pc ls [.int v])) : ∀ (H : Heap) (locs : List Loc) (ls : Array Slot), va_P D CL [(q_t, .inr (8, [.int t_nodes, .int t_arcs, .int t_left, .ref q_t_froms, .ref q_t_tos, .ref q_t_weights, .ref q_t_there, .ref q_t_part, .ref q_t_matrix, .ref q_t_row, .ref q_t_low, .int t_swapIn, .int t_swapOut, .ref q_t_own, .ref q_t_chosen, .ref q_t_degrees, .long t_boundedSet, .ref q_t_fixed, .ref q_t_grown, .ref q_t_costs, .ref q_t_order, .long t_joinedSet])), (q_t_there, .inl (cZ, 30, .inl t_there)), (q_t_part, .inl (cI, 10, .inl t_part0)), (q_t_froms, .inl (cI, 30, .inl t_froms)), (q_t_tos, .inl (cI, 30, .inl t_tos)), (q_t_weights, .inl (cI, 30, .inl t_weights))] H → va_D A [(q_t, .inr (8, [.int t_nodes, .int t_arcs, .int t_left, .ref q_t_froms, .ref q_t_tos, .ref q_t_weights, .ref q_t_there, .ref q_t_part, .ref q_t_matrix, .ref q_t_row, .ref q_t_low, .int t_swapIn, .int t_swapOut, .ref q_t_own, .ref q_t_chosen, .ref q_t_degrees, .long t_boundedSet, .ref q_t_fixed, .ref q_t_grown, .ref q_t_costs, .ref q_t_order, .long t_joinedSet])), (q_t_there, .inl (cZ, 30, .inl t_there)), (q_t_part, .inl (cI, 10, .inl t_part0)), (q_t_froms, .inl (cI, 30, .inl t_froms)), (q_t_tos, .inl (cI, 30, .inl t_tos)), (q_t_weights, .inl (cI, 30, .inl t_weights))] → va_S A s.heap H locs → lv_has ls 5 [(0, .ref q_t), (1, .long p1)] → f_Mo_judge N p1 t_arcs t_there t_part0 t_froms t_tos t_weights = some RR → W p l e R s m args below meth c H locs 0 0 Q (F0 m 0 ls []) := by
  intro H locs ls hP hD hS hl hf
  obtain ⟨hx, hb, hml, hown, hts, hK, hA, hfr, hlo, hlk⟩ := id C0
  unfold f_Mo_judge at hf
  refine lv_iconst (v := 0) hx hb d_Mo_judge_0 (by decide) ?_
  refine lv_istore_n (lv' := [(3, .int (0 : Int32)), (0, .ref q_t), (1, .long p1)]) hx hb d_Mo_judge_1 rfl hl (by decide) rfl (fun ls hl => ?_)
  exact w_Mo_judge_2_l C0 hret N (0 : Int32) t_part0 _ _ _ hP hD hS (lv_sub hl [1, 2, 0] rfl) hf
set_option maxRecDepth 100000 in
set_option maxHeartbeats 4000000 in
theorem c_Mo_judge (l : Launch) (D : va_G) (cI cJ cG cZ : ClassId) (q_t q_t_froms q_t_tos q_t_weights q_t_there q_t_part q_t_matrix q_t_row q_t_low q_t_own q_t_chosen q_t_degrees q_t_fixed q_t_grown q_t_costs q_t_order : Nat) (t_nodes : Int32) (t_arcs : Int32) (t_left : Int32) (t_swapIn : Int32) (t_swapOut : Int32) (t_boundedSet : Int64) (t_joinedSet : Int64) (t_there : Nat → Int32) (t_part0 : Nat → Int32) (t_froms : Nat → Int32) (t_tos : Nat → Int32) (t_weights : Nat → Int32) (p1 : Int64) {N : Nat} {r : Int32} {t_part' : Nat → Int32} (hf : f_Mo_judge N p1 t_arcs t_there t_part0 t_froms t_tos t_weights = some (r, t_part')) : MeG l D CL (TYs cI cJ cG cZ) y_Mo_judge ws_Mo_judge (rm_Mo_judge) [.ref q_t, .long p1] [(q_t, .inr (8, [.int t_nodes, .int t_arcs, .int t_left, .ref q_t_froms, .ref q_t_tos, .ref q_t_weights, .ref q_t_there, .ref q_t_part, .ref q_t_matrix, .ref q_t_row, .ref q_t_low, .int t_swapIn, .int t_swapOut, .ref q_t_own, .ref q_t_chosen, .ref q_t_degrees, .long t_boundedSet, .ref q_t_fixed, .ref q_t_grown, .ref q_t_costs, .ref q_t_order, .long t_joinedSet])), (q_t_there, .inl (cZ, 30, .inl t_there)), (q_t_part, .inl (cI, 10, .inl t_part0)), (q_t_froms, .inl (cI, 30, .inl t_froms)), (q_t_tos, .inl (cI, 30, .inl t_tos)), (q_t_weights, .inl (cI, 30, .inl t_weights))] (some (.int r)) [(q_t, .inr (8, [.int t_nodes, .int t_arcs, .int t_left, .ref q_t_froms, .ref q_t_tos, .ref q_t_weights, .ref q_t_there, .ref q_t_part, .ref q_t_matrix, .ref q_t_row, .ref q_t_low, .int t_swapIn, .int t_swapOut, .ref q_t_own, .ref q_t_chosen, .ref q_t_degrees, .long t_boundedSet, .ref q_t_fixed, .ref q_t_grown, .ref q_t_costs, .ref q_t_order, .long t_joinedSet])), (q_t_there, .inl (cZ, 30, .inl t_there)), (q_t_part, .inl (cI, 10, .inl t_part')), (q_t_froms, .inl (cI, 30, .inl t_froms)), (q_t_tos, .inl (cI, 30, .inl t_tos)), (q_t_weights, .inl (cI, 30, .inl t_weights))] := by
  intro sz
  refine Met.ofW (cc := b_Mo_judge) (maxL := 5) (ret := (some .int)) (by decide) rfl ?_
  intro p e s m args below meth c s₁ B hml hv
  obtain ⟨rfl, hsz, hP, hK, hD0⟩ := hv
  subst hsz
  have hD := hD0.self (sz := s.heap.size)
  generalize hAe : va_A [(q_t, .inr (8, [.int t_nodes, .int t_arcs, .int t_left, .ref q_t_froms, .ref q_t_tos, .ref q_t_weights, .ref q_t_there, .ref q_t_part, .ref q_t_matrix, .ref q_t_row, .ref q_t_low, .int t_swapIn, .int t_swapOut, .ref q_t_own, .ref q_t_chosen, .ref q_t_degrees, .long t_boundedSet, .ref q_t_fixed, .ref q_t_grown, .ref q_t_costs, .ref q_t_order, .long t_joinedSet])), (q_t_there, .inl (cZ, 30, .inl t_there)), (q_t_part, .inl (cI, 10, .inl t_part0)), (q_t_froms, .inl (cI, 30, .inl t_froms)), (q_t_tos, .inl (cI, 30, .inl t_tos)), (q_t_weights, .inl (cI, 30, .inl t_weights))] s.heap.size = A at hD ⊢
  have C0 : CX p (headSpec ws_Mo_judge (rm_Mo_judge)).room s m _ meth c b_Mo_judge 5 R_Mo lw_g D CL (TYs cI cJ cG cZ) A 2 52 := ⟨B.exec, B.bytes, hml, findClass_of_methodNamed B.named, fun w h => atoms_spec (ws := ws_Mo_judge) B.pre w (List.mem_cons_of_mem _ h), hK, fun q h => by rw [← hAe]; exact Or.inr h, Nat.le_of_ble_eq_true rfl, Nat.le_of_ble_eq_true rfl, B.notSynchronized⟩
  have hl := lv_entry ([.ref q_t, .long p1]) (n := 5) (Nat.le_of_ble_eq_true rfl)
  rw [lg_entry_eq]
  generalize (lg_sl ([.ref q_t, .long p1]) ++ List.replicate (5 - (lg_sl ([.ref q_t, .long p1])).length) Slot.unset).toArray = ls at hl ⊢
  have hl : lv_has ls 5 [(0, .ref q_t), (1, .long p1)] := hl
  exact w_Mo_judge_e C0 (fun pc ls H locs v t_part hdg hP hD hS e => by cases e; exact W.iret B.exec B.bytes B.returns (fun t ht hW => ⟨⟨rfl, by rw [ht]; exact hP, va_K.moved hW.alike hK, hD⟩, hS.F ht⟩) hS.2.2 hdg) _ _ _ hP hD va_S.rf (lv_sub hl [0, 1] rfl) hf
