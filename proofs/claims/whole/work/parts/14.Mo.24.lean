abbrev b_Mo_findJoined : ByteArray := prog_11_method_39_code
def y_Mo_findJoined : MethodName := ⟨R_Mo, "findJoined", "(I)I"⟩
def ws_Mo_findJoined : List Cond := .code y_Mo_findJoined b_Mo_findJoined 8 (some .int) :: lw_g
theorem wi_Mo_findJoined : ∀ w ∈ ws_Mo_findJoined, w ∈ lw_g := wi_of m_4_109
abbrev rm_Mo_findJoined : Room := { frames := 2, cells := 0, slots := 0, locals := 54 }
theorem hd_Mo_findJoined : y_Mo_findJoined.cls = R_Mo ∧ y_Mo_findJoined.cls ≠ "java/lang/invoke/MethodHandle" ∧ y_Mo_findJoined.cls ≠ "java/lang/invoke/VarHandle" ∧ (parseMethodDescriptor y_Mo_findJoined.desc).map (fun d => d.parameters.length) = some 1 := by decide +kernel
theorem d_Mo_findJoined_0 : decode b_Mo_findJoined 0 = .ok (.iload_n 1, 1) := by decide +kernel
theorem d_Mo_findJoined_1 : decode b_Mo_findJoined 1 = .ok (.ifCond .eq 18, 3) := by decide +kernel
theorem d_Mo_findJoined_4 : decode b_Mo_findJoined 4 = .ok (.iload_n 1, 1) := by decide +kernel
theorem d_Mo_findJoined_5 : decode b_Mo_findJoined 5 = .ok (.iconst 1, 1) := by decide +kernel
theorem d_Mo_findJoined_6 : decode b_Mo_findJoined 6 = .ok (.aload_n 0, 1) := by decide +kernel
theorem d_Mo_findJoined_7 : decode b_Mo_findJoined 7 = .ok (.getfield 57, 3) := by decide +kernel
theorem d_Mo_findJoined_10 : decode b_Mo_findJoined 10 = .ok (.ishl, 1) := by decide +kernel
theorem d_Mo_findJoined_11 : decode b_Mo_findJoined 11 = .ok (.iconst 1, 1) := by decide +kernel
theorem d_Mo_findJoined_12 : decode b_Mo_findJoined 12 = .ok (.isub, 1) := by decide +kernel
theorem d_Mo_findJoined_13 : decode b_Mo_findJoined 13 = .ok (.iconst (-1), 1) := by decide +kernel
theorem d_Mo_findJoined_14 : decode b_Mo_findJoined 14 = .ok (.ixor, 1) := by decide +kernel
theorem d_Mo_findJoined_15 : decode b_Mo_findJoined 15 = .ok (.iand, 1) := by decide +kernel
theorem d_Mo_findJoined_16 : decode b_Mo_findJoined 16 = .ok (.ifCond .eq 6, 3) := by decide +kernel
theorem d_Mo_findJoined_19 : decode b_Mo_findJoined 19 = .ok (.bipush (-2), 2) := by decide +kernel
theorem d_Mo_findJoined_21 : decode b_Mo_findJoined 21 = .ok (.ireturn, 1) := by decide +kernel
theorem d_Mo_findJoined_22 : decode b_Mo_findJoined 22 = .ok (.iconst 0, 1) := by decide +kernel
theorem d_Mo_findJoined_23 : decode b_Mo_findJoined 23 = .ok (.istore_n 2, 1) := by decide +kernel
theorem d_Mo_findJoined_24 : decode b_Mo_findJoined 24 = .ok (.iload_n 2, 1) := by decide +kernel
theorem d_Mo_findJoined_25 : decode b_Mo_findJoined 25 = .ok (.aload_n 0, 1) := by decide +kernel
theorem d_Mo_findJoined_26 : decode b_Mo_findJoined 26 = .ok (.getfield 61, 3) := by decide +kernel
theorem d_Mo_findJoined_29 : decode b_Mo_findJoined 29 = .ok (.if_icmp .ge 39, 3) := by decide +kernel
theorem d_Mo_findJoined_32 : decode b_Mo_findJoined 32 = .ok (.aload_n 0, 1) := by decide +kernel
theorem d_Mo_findJoined_33 : decode b_Mo_findJoined 33 = .ok (.getfield 51, 3) := by decide +kernel
theorem d_Mo_findJoined_36 : decode b_Mo_findJoined 36 = .ok (.iload_n 2, 1) := by decide +kernel
theorem d_Mo_findJoined_37 : decode b_Mo_findJoined 37 = .ok (.aload_n 0, 1) := by decide +kernel
theorem d_Mo_findJoined_38 : decode b_Mo_findJoined 38 = .ok (.getfield 19, 3) := by decide +kernel
theorem d_Mo_findJoined_41 : decode b_Mo_findJoined 41 = .ok (.iload_n 2, 1) := by decide +kernel
theorem d_Mo_findJoined_42 : decode b_Mo_findJoined 42 = .ok (.baload, 1) := by decide +kernel
theorem d_Mo_findJoined_43 : decode b_Mo_findJoined 43 = .ok (.ifCond .eq 17, 3) := by decide +kernel
theorem d_Mo_findJoined_46 : decode b_Mo_findJoined 46 = .ok (.bipush 64, 2) := by decide +kernel
theorem d_Mo_findJoined_48 : decode b_Mo_findJoined 48 = .ok (.aload_n 0, 1) := by decide +kernel
theorem d_Mo_findJoined_49 : decode b_Mo_findJoined 49 = .ok (.getfield 16, 3) := by decide +kernel
theorem d_Mo_findJoined_52 : decode b_Mo_findJoined 52 = .ok (.iload_n 2, 1) := by decide +kernel
theorem d_Mo_findJoined_53 : decode b_Mo_findJoined 53 = .ok (.iaload, 1) := by decide +kernel
theorem d_Mo_findJoined_54 : decode b_Mo_findJoined 54 = .ok (.imul, 1) := by decide +kernel
theorem d_Mo_findJoined_55 : decode b_Mo_findJoined 55 = .ok (.iconst 1, 1) := by decide +kernel
theorem d_Mo_findJoined_56 : decode b_Mo_findJoined 56 = .ok (.iadd, 1) := by decide +kernel
theorem d_Mo_findJoined_57 : decode b_Mo_findJoined 57 = .ok (.goto 4, 3) := by decide +kernel
theorem d_Mo_findJoined_60 : decode b_Mo_findJoined 60 = .ok (.iconst (-1), 1) := by decide +kernel
theorem d_Mo_findJoined_61 : decode b_Mo_findJoined 61 = .ok (.iastore, 1) := by decide +kernel
theorem d_Mo_findJoined_62 : decode b_Mo_findJoined 62 = .ok (.iinc 2 1, 3) := by decide +kernel
theorem d_Mo_findJoined_65 : decode b_Mo_findJoined 65 = .ok (.goto (-41), 3) := by decide +kernel
theorem d_Mo_findJoined_68 : decode b_Mo_findJoined 68 = .ok (.aload_n 0, 1) := by decide +kernel
theorem d_Mo_findJoined_69 : decode b_Mo_findJoined 69 = .ok (.iload_n 1, 1) := by decide +kernel
theorem d_Mo_findJoined_70 : decode b_Mo_findJoined 70 = .ok (.invokevirtual 144, 3) := by decide +kernel
theorem d_Mo_findJoined_73 : decode b_Mo_findJoined 73 = .ok (.istore_n 2, 1) := by decide +kernel
theorem d_Mo_findJoined_74 : decode b_Mo_findJoined 74 = .ok (.iload_n 2, 1) := by decide +kernel
theorem d_Mo_findJoined_75 : decode b_Mo_findJoined 75 = .ok (.ifCond .ge 6, 3) := by decide +kernel
theorem d_Mo_findJoined_78 : decode b_Mo_findJoined 78 = .ok (.bipush (-3), 2) := by decide +kernel
theorem d_Mo_findJoined_80 : decode b_Mo_findJoined 80 = .ok (.ireturn, 1) := by decide +kernel
theorem d_Mo_findJoined_81 : decode b_Mo_findJoined 81 = .ok (.aload_n 0, 1) := by decide +kernel
theorem d_Mo_findJoined_82 : decode b_Mo_findJoined 82 = .ok (.lconst 0, 1) := by decide +kernel
theorem d_Mo_findJoined_83 : decode b_Mo_findJoined 83 = .ok (.putfield 147, 3) := by decide +kernel
theorem d_Mo_findJoined_86 : decode b_Mo_findJoined 86 = .ok (.iload_n 2, 1) := by decide +kernel
theorem d_Mo_findJoined_87 : decode b_Mo_findJoined 87 = .ok (.istore_n 3, 1) := by decide +kernel
theorem d_Mo_findJoined_88 : decode b_Mo_findJoined 88 = .ok (.iload_n 1, 1) := by decide +kernel
theorem d_Mo_findJoined_89 : decode b_Mo_findJoined 89 = .ok (.istore 4, 2) := by decide +kernel
theorem d_Mo_findJoined_91 : decode b_Mo_findJoined 91 = .ok (.iconst 0, 1) := by decide +kernel
theorem d_Mo_findJoined_92 : decode b_Mo_findJoined 92 = .ok (.istore 5, 2) := by decide +kernel
theorem d_Mo_findJoined_94 : decode b_Mo_findJoined 94 = .ok (.iload 5, 2) := by decide +kernel
theorem d_Mo_findJoined_96 : decode b_Mo_findJoined 96 = .ok (.aload_n 0, 1) := by decide +kernel
theorem d_Mo_findJoined_97 : decode b_Mo_findJoined 97 = .ok (.getfield 61, 3) := by decide +kernel
theorem d_Mo_findJoined_100 : decode b_Mo_findJoined 100 = .ok (.if_icmp .ge 119, 3) := by decide +kernel
theorem d_Mo_findJoined_103 : decode b_Mo_findJoined 103 = .ok (.iload_n 3, 1) := by decide +kernel
theorem d_Mo_findJoined_104 : decode b_Mo_findJoined 104 = .ok (.ifCond .le 115, 3) := by decide +kernel
theorem d_Mo_findJoined_107 : decode b_Mo_findJoined 107 = .ok (.aload_n 0, 1) := by decide +kernel
theorem d_Mo_findJoined_108 : decode b_Mo_findJoined 108 = .ok (.getfield 19, 3) := by decide +kernel
theorem d_Mo_findJoined_111 : decode b_Mo_findJoined 111 = .ok (.iload 5, 2) := by decide +kernel
theorem d_Mo_findJoined_113 : decode b_Mo_findJoined 113 = .ok (.baload, 1) := by decide +kernel
theorem d_Mo_findJoined_114 : decode b_Mo_findJoined 114 = .ok (.ifCond .ne 6, 3) := by decide +kernel
theorem d_Mo_findJoined_117 : decode b_Mo_findJoined 117 = .ok (.goto 96, 3) := by decide +kernel
theorem d_Mo_findJoined_120 : decode b_Mo_findJoined 120 = .ok (.aload_n 0, 1) := by decide +kernel
theorem d_Mo_findJoined_121 : decode b_Mo_findJoined 121 = .ok (.getfield 51, 3) := by decide +kernel
theorem d_Mo_findJoined_124 : decode b_Mo_findJoined 124 = .ok (.iload 5, 2) := by decide +kernel
theorem d_Mo_findJoined_126 : decode b_Mo_findJoined 126 = .ok (.iaload, 1) := by decide +kernel
theorem d_Mo_findJoined_127 : decode b_Mo_findJoined 127 = .ok (.istore 6, 2) := by decide +kernel
theorem d_Mo_findJoined_129 : decode b_Mo_findJoined 129 = .ok (.iload 4, 2) := by decide +kernel
theorem d_Mo_findJoined_131 : decode b_Mo_findJoined 131 = .ok (.iconst 1, 1) := by decide +kernel
theorem d_Mo_findJoined_132 : decode b_Mo_findJoined 132 = .ok (.aload_n 0, 1) := by decide +kernel
theorem d_Mo_findJoined_133 : decode b_Mo_findJoined 133 = .ok (.getfield 7, 3) := by decide +kernel
theorem d_Mo_findJoined_136 : decode b_Mo_findJoined 136 = .ok (.iload 5, 2) := by decide +kernel
theorem d_Mo_findJoined_138 : decode b_Mo_findJoined 138 = .ok (.iaload, 1) := by decide +kernel
theorem d_Mo_findJoined_139 : decode b_Mo_findJoined 139 = .ok (.ishl, 1) := by decide +kernel
theorem d_Mo_findJoined_140 : decode b_Mo_findJoined 140 = .ok (.ior, 1) := by decide +kernel
theorem d_Mo_findJoined_141 : decode b_Mo_findJoined 141 = .ok (.iconst 1, 1) := by decide +kernel
theorem d_Mo_findJoined_142 : decode b_Mo_findJoined 142 = .ok (.aload_n 0, 1) := by decide +kernel
theorem d_Mo_findJoined_143 : decode b_Mo_findJoined 143 = .ok (.getfield 13, 3) := by decide +kernel
theorem d_Mo_findJoined_146 : decode b_Mo_findJoined 146 = .ok (.iload 5, 2) := by decide +kernel
theorem d_Mo_findJoined_148 : decode b_Mo_findJoined 148 = .ok (.iaload, 1) := by decide +kernel
theorem d_Mo_findJoined_149 : decode b_Mo_findJoined 149 = .ok (.ishl, 1) := by decide +kernel
theorem d_Mo_findJoined_150 : decode b_Mo_findJoined 150 = .ok (.ior, 1) := by decide +kernel
theorem d_Mo_findJoined_151 : decode b_Mo_findJoined 151 = .ok (.istore 7, 2) := by decide +kernel
theorem d_Mo_findJoined_153 : decode b_Mo_findJoined 153 = .ok (.aload_n 0, 1) := by decide +kernel
theorem d_Mo_findJoined_154 : decode b_Mo_findJoined 154 = .ok (.getfield 51, 3) := by decide +kernel
theorem d_Mo_findJoined_157 : decode b_Mo_findJoined 157 = .ok (.iload 5, 2) := by decide +kernel
theorem d_Mo_findJoined_159 : decode b_Mo_findJoined 159 = .ok (.iconst 0, 1) := by decide +kernel
theorem d_Mo_findJoined_160 : decode b_Mo_findJoined 160 = .ok (.iastore, 1) := by decide +kernel
theorem d_Mo_findJoined_161 : decode b_Mo_findJoined 161 = .ok (.iload 6, 2) := by decide +kernel
theorem d_Mo_findJoined_163 : decode b_Mo_findJoined 163 = .ok (.iload_n 3, 1) := by decide +kernel
theorem d_Mo_findJoined_164 : decode b_Mo_findJoined 164 = .ok (.if_icmp .gt 41, 3) := by decide +kernel
theorem d_Mo_findJoined_167 : decode b_Mo_findJoined 167 = .ok (.aload_n 0, 1) := by decide +kernel
theorem d_Mo_findJoined_168 : decode b_Mo_findJoined 168 = .ok (.iload 7, 2) := by decide +kernel
theorem d_Mo_findJoined_170 : decode b_Mo_findJoined 170 = .ok (.invokevirtual 144, 3) := by decide +kernel
theorem d_Mo_findJoined_173 : decode b_Mo_findJoined 173 = .ok (.iload_n 3, 1) := by decide +kernel
theorem d_Mo_findJoined_174 : decode b_Mo_findJoined 174 = .ok (.iload 6, 2) := by decide +kernel
theorem d_Mo_findJoined_176 : decode b_Mo_findJoined 176 = .ok (.isub, 1) := by decide +kernel
theorem d_Mo_findJoined_177 : decode b_Mo_findJoined 177 = .ok (.if_icmp .ne 28, 3) := by decide +kernel
theorem d_Mo_findJoined_180 : decode b_Mo_findJoined 180 = .ok (.aload_n 0, 1) := by decide +kernel
theorem d_Mo_findJoined_181 : decode b_Mo_findJoined 181 = .ok (.dup, 1) := by decide +kernel
theorem d_Mo_findJoined_182 : decode b_Mo_findJoined 182 = .ok (.getfield 147, 3) := by decide +kernel
theorem d_Mo_findJoined_185 : decode b_Mo_findJoined 185 = .ok (.lconst 1, 1) := by decide +kernel
theorem d_Mo_findJoined_186 : decode b_Mo_findJoined 186 = .ok (.iload 5, 2) := by decide +kernel
theorem d_Mo_findJoined_188 : decode b_Mo_findJoined 188 = .ok (.lshl, 1) := by decide +kernel
theorem d_Mo_findJoined_189 : decode b_Mo_findJoined 189 = .ok (.lor, 1) := by decide +kernel
theorem d_Mo_findJoined_190 : decode b_Mo_findJoined 190 = .ok (.putfield 147, 3) := by decide +kernel
theorem d_Mo_findJoined_193 : decode b_Mo_findJoined 193 = .ok (.iload_n 3, 1) := by decide +kernel
theorem d_Mo_findJoined_194 : decode b_Mo_findJoined 194 = .ok (.iload 6, 2) := by decide +kernel
theorem d_Mo_findJoined_196 : decode b_Mo_findJoined 196 = .ok (.isub, 1) := by decide +kernel
theorem d_Mo_findJoined_197 : decode b_Mo_findJoined 197 = .ok (.istore_n 3, 1) := by decide +kernel
theorem d_Mo_findJoined_198 : decode b_Mo_findJoined 198 = .ok (.iload 7, 2) := by decide +kernel
theorem d_Mo_findJoined_200 : decode b_Mo_findJoined 200 = .ok (.istore 4, 2) := by decide +kernel
theorem d_Mo_findJoined_202 : decode b_Mo_findJoined 202 = .ok (.goto 11, 3) := by decide +kernel
theorem d_Mo_findJoined_205 : decode b_Mo_findJoined 205 = .ok (.aload_n 0, 1) := by decide +kernel
theorem d_Mo_findJoined_206 : decode b_Mo_findJoined 206 = .ok (.getfield 51, 3) := by decide +kernel
theorem d_Mo_findJoined_209 : decode b_Mo_findJoined 209 = .ok (.iload 5, 2) := by decide +kernel
theorem d_Mo_findJoined_211 : decode b_Mo_findJoined 211 = .ok (.iconst (-1), 1) := by decide +kernel
theorem d_Mo_findJoined_212 : decode b_Mo_findJoined 212 = .ok (.iastore, 1) := by decide +kernel
theorem d_Mo_findJoined_213 : decode b_Mo_findJoined 213 = .ok (.iinc 5 1, 3) := by decide +kernel
theorem d_Mo_findJoined_216 : decode b_Mo_findJoined 216 = .ok (.goto (-122), 3) := by decide +kernel
theorem d_Mo_findJoined_219 : decode b_Mo_findJoined 219 = .ok (.iload_n 2, 1) := by decide +kernel
theorem d_Mo_findJoined_220 : decode b_Mo_findJoined 220 = .ok (.bipush 64, 2) := by decide +kernel
theorem d_Mo_findJoined_222 : decode b_Mo_findJoined 222 = .ok (.idiv, 1) := by decide +kernel
theorem d_Mo_findJoined_223 : decode b_Mo_findJoined 223 = .ok (.ireturn, 1) := by decide +kernel
def g_Mo_findJoined_205 (k94 : Int32 → Int32 → Int32 → Int32 → (Nat → Int32) → (Nat → Int32) → (Nat → Int32) → Int64 → Option (Int32 × (Nat → Int32) × (Nat → Int32) × (Nat → Int32) × Int64)) (v2 : Int32) (v3 : Int32) (v4 : Int32) (v5 : Int32) (t_costs : Nat → Int32) (t_order : Nat → Int32) (t_part : Nat → Int32) (t_joinedSet : Int64) : Option (Int32 × (Nat → Int32) × (Nat → Int32) × (Nat → Int32) × Int64) :=
  gd (inb v5 30) <|
  bn (v5 + (1 : Int32)) fun x1 =>
  k94 v2 v3 v4 x1 (upd t_costs v5.toNatClampNeg (-1 : Int32)) t_order t_part t_joinedSet
def g_Mo_findJoined_94 (N : Nat) (t_nodes : Int32) (t_arcs : Int32) (t_there : Nat → Int32) (t_froms : Nat → Int32) (t_tos : Nat → Int32) (k94 : Int32 → Int32 → Int32 → Int32 → (Nat → Int32) → (Nat → Int32) → (Nat → Int32) → Int64 → Option (Int32 × (Nat → Int32) × (Nat → Int32) × (Nat → Int32) × Int64)) (v2 : Int32) (v3 : Int32) (v4 : Int32) (v5 : Int32) (t_costs : Nat → Int32) (t_order : Nat → Int32) (t_part : Nat → Int32) (t_joinedSet : Int64) : Option (Int32 × (Nat → Int32) × (Nat → Int32) × (Nat → Int32) × Int64) :=
  if t_arcs ≤ v5 then
    gd (nzI (64 : Int32)) <|
    some (v2 / (64 : Int32), t_costs, t_order, t_part, t_joinedSet)
  else
    if v3 ≤ 0 then
      gd (nzI (64 : Int32)) <|
      some (v2 / (64 : Int32), t_costs, t_order, t_part, t_joinedSet)
    else
      gd (inb v5 30) <|
      if (t_there v5.toNatClampNeg) = 0 then
        bn (v5 + (1 : Int32)) fun x9 =>
        k94 v2 v3 v4 x9 t_costs t_order t_part t_joinedSet
      else
        gd (inb v5 30) <|
        bn (t_costs v5.toNatClampNeg) fun x1 =>
        gd (inb v5 30) <|
        gd (inb v5 30) <|
        bn ((v4 ||| ((1 : Int32) <<< ((t_froms v5.toNatClampNeg) &&& 31))) ||| ((1 : Int32) <<< ((t_tos v5.toNatClampNeg) &&& 31))) fun x2 =>
        gd (inb v5 30) <|
        if v3 < x1 then
          g_Mo_findJoined_205 k94 v2 v3 v4 v5 (upd t_costs v5.toNatClampNeg (0 : Int32)) t_order t_part t_joinedSet
        else
          bk3 (f_Mo_joinedCost N x2 t_nodes t_arcs (upd t_costs v5.toNatClampNeg (0 : Int32)) t_order t_part t_froms t_tos) fun r3 c4 c5 =>
          if r3 = (v3 - x1) then
            bn (t_joinedSet ||| ((1 : Int64) <<< (v5.toInt64 &&& 63))) fun x6 =>
            bn (v3 - x1) fun x7 =>
            bn (v5 + (1 : Int32)) fun x8 =>
            k94 v2 x7 x2 x8 (upd t_costs v5.toNatClampNeg (0 : Int32)) c4 c5 x6
          else
            g_Mo_findJoined_205 k94 v2 v3 v4 v5 (upd t_costs v5.toNatClampNeg (0 : Int32)) c4 c5 t_joinedSet
def g_Mo_findJoined_24 (N : Nat) (p1 : Int32) (t_nodes : Int32) (t_arcs : Int32) (t_there : Nat → Int32) (t_weights : Nat → Int32) (t_froms : Nat → Int32) (t_tos : Nat → Int32) (k24 : Int32 → (Nat → Int32) → (Nat → Int32) → (Nat → Int32) → Int64 → Option (Int32 × (Nat → Int32) × (Nat → Int32) × (Nat → Int32) × Int64)) (v2 : Int32) (t_costs : Nat → Int32) (t_order : Nat → Int32) (t_part : Nat → Int32) (t_joinedSet : Int64) : Option (Int32 × (Nat → Int32) × (Nat → Int32) × (Nat → Int32) × Int64) :=
  if t_arcs ≤ v2 then
    bk3 (f_Mo_joinedCost N p1 t_nodes t_arcs t_costs t_order t_part t_froms t_tos) fun r1 c2 c3 =>
    if 0 ≤ r1 then
      lo8 (g_Mo_findJoined_94 N t_nodes t_arcs t_there t_froms t_tos) N r1 r1 p1 (0 : Int32) t_costs c2 c3 (0 : Int64)
    else
      some ((-3 : Int32), t_costs, c2, c3, t_joinedSet)
  else
    gd (inb v2 30) <|
    if (t_there v2.toNatClampNeg) = 0 then
      gd (inb v2 30) <|
      bn (v2 + (1 : Int32)) fun x4 =>
      k24 x4 (upd t_costs v2.toNatClampNeg (-1 : Int32)) t_order t_part t_joinedSet
    else
      gd (inb v2 30) <|
      gd (inb v2 30) <|
      bn (v2 + (1 : Int32)) fun x5 =>
      k24 x5 (upd t_costs v2.toNatClampNeg (((64 : Int32) * (t_weights v2.toNatClampNeg)) + (1 : Int32))) t_order t_part t_joinedSet
def f_Mo_findJoined (N : Nat) (p1 : Int32) (t_nodes : Int32) (t_arcs : Int32) (t_joinedSet0 : Int64) (t_there : Nat → Int32) (t_weights : Nat → Int32) (t_costs0 : Nat → Int32) (t_order0 : Nat → Int32) (t_part0 : Nat → Int32) (t_froms : Nat → Int32) (t_tos : Nat → Int32) : Option (Int32 × (Nat → Int32) × (Nat → Int32) × (Nat → Int32) × Int64) :=
  if p1 = 0 then
    some ((-2 : Int32), t_costs0, t_order0, t_part0, t_joinedSet0)
  else
    if (p1 &&& ((((1 : Int32) <<< (t_nodes &&& 31)) - (1 : Int32)) ^^^ (-1 : Int32))) = 0 then
      lo5 (g_Mo_findJoined_24 N p1 t_nodes t_arcs t_there t_weights t_froms t_tos) N (0 : Int32) t_costs0 t_order0 t_part0 t_joinedSet0
    else
      some ((-2 : Int32), t_costs0, t_order0, t_part0, t_joinedSet0)
set_option maxRecDepth 100000 in
set_option maxHeartbeats 4000000 in
theorem w_Mo_findJoined_205 {p : Program} {l : Launch} {e : Env} {R : Room} {s : State} {m : MethodId} {args : Array Value} {below : List Frame} {meth : Method} {c : Code} {D : va_G} {cI cJ cG cZ : ClassId} {A : Nat → Prop} {Q : State → Prop} {q_t q_t_froms q_t_tos q_t_weights q_t_there q_t_part q_t_matrix q_t_row q_t_low q_t_own q_t_chosen q_t_degrees q_t_fixed q_t_grown q_t_costs q_t_order : Nat} {t_nodes : Int32} {t_arcs : Int32} {t_left : Int32} {t_swapIn : Int32} {t_swapOut : Int32} {t_boundedSet : Int64} {t_there : Nat → Int32} {t_weights : Nat → Int32} {t_froms : Nat → Int32} {t_tos : Nat → Int32} {RR : Int32 × (Nat → Int32) × (Nat → Int32) × (Nat → Int32) × Int64} (C0 : CX p R s m args meth c b_Mo_findJoined 8 R_Mo lw_g D CL (TYs cI cJ cG cZ) A 2 54) (hret : ∀ (pc : Nat) (ls : Array Slot) (H : Heap) (locs : List Loc) (v : Int32) (t_costs : Nat → Int32) (t_order : Nat → Int32) (t_part : Nat → Int32) (t_joinedSet : Int64), decode b_Mo_findJoined pc = .ok (.ireturn, 1) → va_P D CL [(q_t, .inr (8, [.int t_nodes, .int t_arcs, .int t_left, .ref q_t_froms, .ref q_t_tos, .ref q_t_weights, .ref q_t_there, .ref q_t_part, .ref q_t_matrix, .ref q_t_row, .ref q_t_low, .int t_swapIn, .int t_swapOut, .ref q_t_own, .ref q_t_chosen, .ref q_t_degrees, .long t_boundedSet, .ref q_t_fixed, .ref q_t_grown, .ref q_t_costs, .ref q_t_order, .long t_joinedSet])), (q_t_there, .inl (cZ, 30, .inl t_there)), (q_t_weights, .inl (cI, 30, .inl t_weights)), (q_t_costs, .inl (cI, 30, .inl t_costs)), (q_t_order, .inl (cI, 30, .inl t_order)), (q_t_part, .inl (cI, 10, .inl t_part)), (q_t_froms, .inl (cI, 30, .inl t_froms)), (q_t_tos, .inl (cI, 30, .inl t_tos))] H → va_D A [(q_t, .inr (8, [.int t_nodes, .int t_arcs, .int t_left, .ref q_t_froms, .ref q_t_tos, .ref q_t_weights, .ref q_t_there, .ref q_t_part, .ref q_t_matrix, .ref q_t_row, .ref q_t_low, .int t_swapIn, .int t_swapOut, .ref q_t_own, .ref q_t_chosen, .ref q_t_degrees, .long t_boundedSet, .ref q_t_fixed, .ref q_t_grown, .ref q_t_costs, .ref q_t_order, .long t_joinedSet])), (q_t_there, .inl (cZ, 30, .inl t_there)), (q_t_weights, .inl (cI, 30, .inl t_weights)), (q_t_costs, .inl (cI, 30, .inl t_costs)), (q_t_order, .inl (cI, 30, .inl t_order)), (q_t_part, .inl (cI, 10, .inl t_part)), (q_t_froms, .inl (cI, 30, .inl t_froms)), (q_t_tos, .inl (cI, 30, .inl t_tos))] → va_S A s.heap H locs → some (v, t_costs, t_order, t_part, t_joinedSet) = some RR → W p l e R s m args below meth c H locs 0 0 Q (F0 m pc ls [.int v])) (k94 : Int32 → Int32 → Int32 → Int32 → (Nat → Int32) → (Nat → Int32) → (Nat → Int32) → Int64 → Option (Int32 × (Nat → Int32) × (Nat → Int32) × (Nat → Int32) × Int64)) (hk94 : ∀ (v2 : Int32) (v3 : Int32) (v4 : Int32) (v5 : Int32) (t_costs : Nat → Int32) (t_order : Nat → Int32) (t_part : Nat → Int32) (t_joinedSet : Int64) (H : Heap) (locs : List Loc) (ls : Array Slot), va_P D CL [(q_t, .inr (8, [.int t_nodes, .int t_arcs, .int t_left, .ref q_t_froms, .ref q_t_tos, .ref q_t_weights, .ref q_t_there, .ref q_t_part, .ref q_t_matrix, .ref q_t_row, .ref q_t_low, .int t_swapIn, .int t_swapOut, .ref q_t_own, .ref q_t_chosen, .ref q_t_degrees, .long t_boundedSet, .ref q_t_fixed, .ref q_t_grown, .ref q_t_costs, .ref q_t_order, .long t_joinedSet])), (q_t_there, .inl (cZ, 30, .inl t_there)), (q_t_weights, .inl (cI, 30, .inl t_weights)), (q_t_costs, .inl (cI, 30, .inl t_costs)), (q_t_order, .inl (cI, 30, .inl t_order)), (q_t_part, .inl (cI, 10, .inl t_part)), (q_t_froms, .inl (cI, 30, .inl t_froms)), (q_t_tos, .inl (cI, 30, .inl t_tos))] H → va_D A [(q_t, .inr (8, [.int t_nodes, .int t_arcs, .int t_left, .ref q_t_froms, .ref q_t_tos, .ref q_t_weights, .ref q_t_there, .ref q_t_part, .ref q_t_matrix, .ref q_t_row, .ref q_t_low, .int t_swapIn, .int t_swapOut, .ref q_t_own, .ref q_t_chosen, .ref q_t_degrees, .long t_boundedSet, .ref q_t_fixed, .ref q_t_grown, .ref q_t_costs, .ref q_t_order, .long t_joinedSet])), (q_t_there, .inl (cZ, 30, .inl t_there)), (q_t_weights, .inl (cI, 30, .inl t_weights)), (q_t_costs, .inl (cI, 30, .inl t_costs)), (q_t_order, .inl (cI, 30, .inl t_order)), (q_t_part, .inl (cI, 10, .inl t_part)), (q_t_froms, .inl (cI, 30, .inl t_froms)), (q_t_tos, .inl (cI, 30, .inl t_tos))] → va_S A s.heap H locs → lv_has ls 8 [(0, .ref q_t), (2, .int v2), (3, .int v3), (4, .int v4), (5, .int v5)] → k94 v2 v3 v4 v5 t_costs t_order t_part t_joinedSet = some RR → W p l e R s m args below meth c H locs 0 0 Q (F0 m 94 ls [])) : ∀ (v2 : Int32) (v3 : Int32) (v4 : Int32) (v5 : Int32) (t_costs : Nat → Int32) (t_order : Nat → Int32) (t_part : Nat → Int32) (t_joinedSet : Int64) (H : Heap) (locs : List Loc) (ls : Array Slot), va_P D CL [(q_t, .inr (8, [.int t_nodes, .int t_arcs, .int t_left, .ref q_t_froms, .ref q_t_tos, .ref q_t_weights, .ref q_t_there, .ref q_t_part, .ref q_t_matrix, .ref q_t_row, .ref q_t_low, .int t_swapIn, .int t_swapOut, .ref q_t_own, .ref q_t_chosen, .ref q_t_degrees, .long t_boundedSet, .ref q_t_fixed, .ref q_t_grown, .ref q_t_costs, .ref q_t_order, .long t_joinedSet])), (q_t_there, .inl (cZ, 30, .inl t_there)), (q_t_weights, .inl (cI, 30, .inl t_weights)), (q_t_costs, .inl (cI, 30, .inl t_costs)), (q_t_order, .inl (cI, 30, .inl t_order)), (q_t_part, .inl (cI, 10, .inl t_part)), (q_t_froms, .inl (cI, 30, .inl t_froms)), (q_t_tos, .inl (cI, 30, .inl t_tos))] H → va_D A [(q_t, .inr (8, [.int t_nodes, .int t_arcs, .int t_left, .ref q_t_froms, .ref q_t_tos, .ref q_t_weights, .ref q_t_there, .ref q_t_part, .ref q_t_matrix, .ref q_t_row, .ref q_t_low, .int t_swapIn, .int t_swapOut, .ref q_t_own, .ref q_t_chosen, .ref q_t_degrees, .long t_boundedSet, .ref q_t_fixed, .ref q_t_grown, .ref q_t_costs, .ref q_t_order, .long t_joinedSet])), (q_t_there, .inl (cZ, 30, .inl t_there)), (q_t_weights, .inl (cI, 30, .inl t_weights)), (q_t_costs, .inl (cI, 30, .inl t_costs)), (q_t_order, .inl (cI, 30, .inl t_order)), (q_t_part, .inl (cI, 10, .inl t_part)), (q_t_froms, .inl (cI, 30, .inl t_froms)), (q_t_tos, .inl (cI, 30, .inl t_tos))] → va_S A s.heap H locs → lv_has ls 8 [(0, .ref q_t), (2, .int v2), (3, .int v3), (4, .int v4), (5, .int v5)] → g_Mo_findJoined_205 k94 v2 v3 v4 v5 t_costs t_order t_part t_joinedSet = some RR → W p l e R s m args below meth c H locs 0 0 Q (F0 m 205 ls []) := by
  intro v2 v3 v4 v5 t_costs t_order t_part t_joinedSet H locs ls hP hD hS hl hf
  obtain ⟨hx, hb, hml, hown, hts, hK, hA, hfr, hlo, hlk⟩ := id C0
  unfold g_Mo_findJoined_205 at hf
  refine lv_aload_n hx hb d_Mo_findJoined_205 rfl (lv_at hl 0 rfl) ?_
  refine va_get (D := D) (ci := 8) (v := .ref q_t_costs) (C := R_Mo) (T := F_Mo) (N := 22) hx hb hts i_Mo hown hK hP 0 rfl rfl 19 (by decide) (hts _ m_3_147) (fun _ h9 => h9) rfl d_Mo_findJoined_206 ?_
  refine lv_iload hx hb d_Mo_findJoined_209 (lv_at hl 4 rfl) ?_
  refine lv_iconst (v := -1) hx hb d_Mo_findJoined_211 (by decide) ?_
  obtain ⟨hg1, hf⟩ := gd_e hf
  refine va_iast hx hb hK hP hD hS 3 0 rfl rfl (inb_e hg1) d_Mo_findJoined_212 (fun H locs hP hD hS => ?_)
  have hP : va_P D CL [(q_t, .inr (8, [.int t_nodes, .int t_arcs, .int t_left, .ref q_t_froms, .ref q_t_tos, .ref q_t_weights, .ref q_t_there, .ref q_t_part, .ref q_t_matrix, .ref q_t_row, .ref q_t_low, .int t_swapIn, .int t_swapOut, .ref q_t_own, .ref q_t_chosen, .ref q_t_degrees, .long t_boundedSet, .ref q_t_fixed, .ref q_t_grown, .ref q_t_costs, .ref q_t_order, .long t_joinedSet])), (q_t_there, .inl (cZ, 30, .inl t_there)), (q_t_weights, .inl (cI, 30, .inl t_weights)), (q_t_costs, .inl (cI, 30, .inl (upd t_costs v5.toNatClampNeg (-1 : Int32)))), (q_t_order, .inl (cI, 30, .inl t_order)), (q_t_part, .inl (cI, 10, .inl t_part)), (q_t_froms, .inl (cI, 30, .inl t_froms)), (q_t_tos, .inl (cI, 30, .inl t_tos))] H := hP
  have hD : va_D A [(q_t, .inr (8, [.int t_nodes, .int t_arcs, .int t_left, .ref q_t_froms, .ref q_t_tos, .ref q_t_weights, .ref q_t_there, .ref q_t_part, .ref q_t_matrix, .ref q_t_row, .ref q_t_low, .int t_swapIn, .int t_swapOut, .ref q_t_own, .ref q_t_chosen, .ref q_t_degrees, .long t_boundedSet, .ref q_t_fixed, .ref q_t_grown, .ref q_t_costs, .ref q_t_order, .long t_joinedSet])), (q_t_there, .inl (cZ, 30, .inl t_there)), (q_t_weights, .inl (cI, 30, .inl t_weights)), (q_t_costs, .inl (cI, 30, .inl (upd t_costs v5.toNatClampNeg (-1 : Int32)))), (q_t_order, .inl (cI, 30, .inl t_order)), (q_t_part, .inl (cI, 10, .inl t_part)), (q_t_froms, .inl (cI, 30, .inl t_froms)), (q_t_tos, .inl (cI, 30, .inl t_tos))] := hD
  obtain ⟨x1, ex1⟩ : ∃ y : Int32, y = v5 + (1 : Int32) := ⟨_, rfl⟩
  have hf := bn_e ex1 hf
  refine lv_iinc (v := x1) (lv' := [(5, .int x1), (0, .ref q_t), (2, .int v2), (3, .int v3), (4, .int v4)]) hx hb d_Mo_findJoined_213 hl (k := 4) rfl (by rw [ex1]; rfl) (by decide) rfl (fun ls hl => ?_)
  refine lv_goto (tgt := 94) hx hb d_Mo_findJoined_216 (by decide) ?_
  exact hk94 v2 v3 v4 x1 (upd t_costs v5.toNatClampNeg (-1 : Int32)) t_order t_part t_joinedSet _ _ _ hP hD hS (lv_sub hl [1, 2, 3, 4, 0] rfl) hf
set_option maxRecDepth 100000 in
set_option maxHeartbeats 4000000 in
theorem w_Mo_findJoined_94 {p : Program} {l : Launch} {e : Env} {R : Room} {s : State} {m : MethodId} {args : Array Value} {below : List Frame} {meth : Method} {c : Code} {D : va_G} {cI cJ cG cZ : ClassId} {A : Nat → Prop} {Q : State → Prop} {q_t q_t_froms q_t_tos q_t_weights q_t_there q_t_part q_t_matrix q_t_row q_t_low q_t_own q_t_chosen q_t_degrees q_t_fixed q_t_grown q_t_costs q_t_order : Nat} {t_nodes : Int32} {t_arcs : Int32} {t_left : Int32} {t_swapIn : Int32} {t_swapOut : Int32} {t_boundedSet : Int64} {t_there : Nat → Int32} {t_weights : Nat → Int32} {t_froms : Nat → Int32} {t_tos : Nat → Int32} {N : Nat} {RR : Int32 × (Nat → Int32) × (Nat → Int32) × (Nat → Int32) × Int64} (C0 : CX p R s m args meth c b_Mo_findJoined 8 R_Mo lw_g D CL (TYs cI cJ cG cZ) A 2 54) (hret : ∀ (pc : Nat) (ls : Array Slot) (H : Heap) (locs : List Loc) (v : Int32) (t_costs : Nat → Int32) (t_order : Nat → Int32) (t_part : Nat → Int32) (t_joinedSet : Int64), decode b_Mo_findJoined pc = .ok (.ireturn, 1) → va_P D CL [(q_t, .inr (8, [.int t_nodes, .int t_arcs, .int t_left, .ref q_t_froms, .ref q_t_tos, .ref q_t_weights, .ref q_t_there, .ref q_t_part, .ref q_t_matrix, .ref q_t_row, .ref q_t_low, .int t_swapIn, .int t_swapOut, .ref q_t_own, .ref q_t_chosen, .ref q_t_degrees, .long t_boundedSet, .ref q_t_fixed, .ref q_t_grown, .ref q_t_costs, .ref q_t_order, .long t_joinedSet])), (q_t_there, .inl (cZ, 30, .inl t_there)), (q_t_weights, .inl (cI, 30, .inl t_weights)), (q_t_costs, .inl (cI, 30, .inl t_costs)), (q_t_order, .inl (cI, 30, .inl t_order)), (q_t_part, .inl (cI, 10, .inl t_part)), (q_t_froms, .inl (cI, 30, .inl t_froms)), (q_t_tos, .inl (cI, 30, .inl t_tos))] H → va_D A [(q_t, .inr (8, [.int t_nodes, .int t_arcs, .int t_left, .ref q_t_froms, .ref q_t_tos, .ref q_t_weights, .ref q_t_there, .ref q_t_part, .ref q_t_matrix, .ref q_t_row, .ref q_t_low, .int t_swapIn, .int t_swapOut, .ref q_t_own, .ref q_t_chosen, .ref q_t_degrees, .long t_boundedSet, .ref q_t_fixed, .ref q_t_grown, .ref q_t_costs, .ref q_t_order, .long t_joinedSet])), (q_t_there, .inl (cZ, 30, .inl t_there)), (q_t_weights, .inl (cI, 30, .inl t_weights)), (q_t_costs, .inl (cI, 30, .inl t_costs)), (q_t_order, .inl (cI, 30, .inl t_order)), (q_t_part, .inl (cI, 10, .inl t_part)), (q_t_froms, .inl (cI, 30, .inl t_froms)), (q_t_tos, .inl (cI, 30, .inl t_tos))] → va_S A s.heap H locs → some (v, t_costs, t_order, t_part, t_joinedSet) = some RR → W p l e R s m args below meth c H locs 0 0 Q (F0 m pc ls [.int v])) (k94 : Int32 → Int32 → Int32 → Int32 → (Nat → Int32) → (Nat → Int32) → (Nat → Int32) → Int64 → Option (Int32 × (Nat → Int32) × (Nat → Int32) × (Nat → Int32) × Int64)) (hk94 : ∀ (v2 : Int32) (v3 : Int32) (v4 : Int32) (v5 : Int32) (t_costs : Nat → Int32) (t_order : Nat → Int32) (t_part : Nat → Int32) (t_joinedSet : Int64) (H : Heap) (locs : List Loc) (ls : Array Slot), va_P D CL [(q_t, .inr (8, [.int t_nodes, .int t_arcs, .int t_left, .ref q_t_froms, .ref q_t_tos, .ref q_t_weights, .ref q_t_there, .ref q_t_part, .ref q_t_matrix, .ref q_t_row, .ref q_t_low, .int t_swapIn, .int t_swapOut, .ref q_t_own, .ref q_t_chosen, .ref q_t_degrees, .long t_boundedSet, .ref q_t_fixed, .ref q_t_grown, .ref q_t_costs, .ref q_t_order, .long t_joinedSet])), (q_t_there, .inl (cZ, 30, .inl t_there)), (q_t_weights, .inl (cI, 30, .inl t_weights)), (q_t_costs, .inl (cI, 30, .inl t_costs)), (q_t_order, .inl (cI, 30, .inl t_order)), (q_t_part, .inl (cI, 10, .inl t_part)), (q_t_froms, .inl (cI, 30, .inl t_froms)), (q_t_tos, .inl (cI, 30, .inl t_tos))] H → va_D A [(q_t, .inr (8, [.int t_nodes, .int t_arcs, .int t_left, .ref q_t_froms, .ref q_t_tos, .ref q_t_weights, .ref q_t_there, .ref q_t_part, .ref q_t_matrix, .ref q_t_row, .ref q_t_low, .int t_swapIn, .int t_swapOut, .ref q_t_own, .ref q_t_chosen, .ref q_t_degrees, .long t_boundedSet, .ref q_t_fixed, .ref q_t_grown, .ref q_t_costs, .ref q_t_order, .long t_joinedSet])), (q_t_there, .inl (cZ, 30, .inl t_there)), (q_t_weights, .inl (cI, 30, .inl t_weights)), (q_t_costs, .inl (cI, 30, .inl t_costs)), (q_t_order, .inl (cI, 30, .inl t_order)), (q_t_part, .inl (cI, 10, .inl t_part)), (q_t_froms, .inl (cI, 30, .inl t_froms)), (q_t_tos, .inl (cI, 30, .inl t_tos))] → va_S A s.heap H locs → lv_has ls 8 [(0, .ref q_t), (2, .int v2), (3, .int v3), (4, .int v4), (5, .int v5)] → k94 v2 v3 v4 v5 t_costs t_order t_part t_joinedSet = some RR → W p l e R s m args below meth c H locs 0 0 Q (F0 m 94 ls [])) : ∀ (v2 : Int32) (v3 : Int32) (v4 : Int32) (v5 : Int32) (t_costs : Nat → Int32) (t_order : Nat → Int32) (t_part : Nat → Int32) (t_joinedSet : Int64) (H : Heap) (locs : List Loc) (ls : Array Slot), va_P D CL [(q_t, .inr (8, [.int t_nodes, .int t_arcs, .int t_left, .ref q_t_froms, .ref q_t_tos, .ref q_t_weights, .ref q_t_there, .ref q_t_part, .ref q_t_matrix, .ref q_t_row, .ref q_t_low, .int t_swapIn, .int t_swapOut, .ref q_t_own, .ref q_t_chosen, .ref q_t_degrees, .long t_boundedSet, .ref q_t_fixed, .ref q_t_grown, .ref q_t_costs, .ref q_t_order, .long t_joinedSet])), (q_t_there, .inl (cZ, 30, .inl t_there)), (q_t_weights, .inl (cI, 30, .inl t_weights)), (q_t_costs, .inl (cI, 30, .inl t_costs)), (q_t_order, .inl (cI, 30, .inl t_order)), (q_t_part, .inl (cI, 10, .inl t_part)), (q_t_froms, .inl (cI, 30, .inl t_froms)), (q_t_tos, .inl (cI, 30, .inl t_tos))] H → va_D A [(q_t, .inr (8, [.int t_nodes, .int t_arcs, .int t_left, .ref q_t_froms, .ref q_t_tos, .ref q_t_weights, .ref q_t_there, .ref q_t_part, .ref q_t_matrix, .ref q_t_row, .ref q_t_low, .int t_swapIn, .int t_swapOut, .ref q_t_own, .ref q_t_chosen, .ref q_t_degrees, .long t_boundedSet, .ref q_t_fixed, .ref q_t_grown, .ref q_t_costs, .ref q_t_order, .long t_joinedSet])), (q_t_there, .inl (cZ, 30, .inl t_there)), (q_t_weights, .inl (cI, 30, .inl t_weights)), (q_t_costs, .inl (cI, 30, .inl t_costs)), (q_t_order, .inl (cI, 30, .inl t_order)), (q_t_part, .inl (cI, 10, .inl t_part)), (q_t_froms, .inl (cI, 30, .inl t_froms)), (q_t_tos, .inl (cI, 30, .inl t_tos))] → va_S A s.heap H locs → lv_has ls 8 [(0, .ref q_t), (2, .int v2), (3, .int v3), (4, .int v4), (5, .int v5)] → g_Mo_findJoined_94 N t_nodes t_arcs t_there t_froms t_tos k94 v2 v3 v4 v5 t_costs t_order t_part t_joinedSet = some RR → W p l e R s m args below meth c H locs 0 0 Q (F0 m 94 ls []) := by
  intro v2 v3 v4 v5 t_costs t_order t_part t_joinedSet H locs ls hP hD hS hl hf
  obtain ⟨hx, hb, hml, hown, hts, hK, hA, hfr, hlo, hlk⟩ := id C0
  unfold g_Mo_findJoined_94 at hf
  refine lv_iload hx hb d_Mo_findJoined_94 (lv_at hl 4 rfl) ?_
  refine lv_aload_n hx hb d_Mo_findJoined_96 rfl (lv_at hl 0 rfl) ?_
  refine va_get (D := D) (ci := 8) (v := .int t_arcs) (C := R_Mo) (T := F_Mo) (N := 22) hx hb hts i_Mo hown hK hP 0 rfl rfl 1 (by decide) (hts _ m_3_129) (fun _ h9 => h9) rfl d_Mo_findJoined_97 ?_
  refine lv_icmp_ge (tgt := 219) hx hb d_Mo_findJoined_100 (by decide) (fun hc1 => ?_) (fun hc1 => ?_)
  · have hf := if_t hc1 hf
    refine lv_iload_n hx hb d_Mo_findJoined_219 rfl (lv_at hl 1 rfl) ?_
    refine lv_bipush (v := 64) hx hb d_Mo_findJoined_220 (by decide) ?_
    obtain ⟨hg1, hf⟩ := gd_e hf
    refine lv_idiv hx hb d_Mo_findJoined_222 (nz_eI hg1) ?_
    exact hret 223 _ _ _ (v2 / (64 : Int32)) t_costs t_order t_part t_joinedSet d_Mo_findJoined_223 hP hD hS hf
  · have hf := if_f hc1 hf
    refine lv_iload_n hx hb d_Mo_findJoined_103 rfl (lv_at hl 2 rfl) ?_
    refine lv_if_le (tgt := 219) hx hb d_Mo_findJoined_104 (by decide) (fun hc2 => ?_) (fun hc2 => ?_)
    · have hf := if_t hc2 hf
      refine lv_iload_n hx hb d_Mo_findJoined_219 rfl (lv_at hl 1 rfl) ?_
      refine lv_bipush (v := 64) hx hb d_Mo_findJoined_220 (by decide) ?_
      obtain ⟨hg2, hf⟩ := gd_e hf
      refine lv_idiv hx hb d_Mo_findJoined_222 (nz_eI hg2) ?_
      exact hret 223 _ _ _ (v2 / (64 : Int32)) t_costs t_order t_part t_joinedSet d_Mo_findJoined_223 hP hD hS hf
    · have hf := if_f hc2 hf
      refine lv_aload_n hx hb d_Mo_findJoined_107 rfl (lv_at hl 0 rfl) ?_
      refine va_get (D := D) (ci := 8) (v := .ref q_t_there) (C := R_Mo) (T := F_Mo) (N := 22) hx hb hts i_Mo hown hK hP 0 rfl rfl 6 (by decide) (hts _ m_3_134) (fun _ h9 => h9) rfl d_Mo_findJoined_108 ?_
      refine lv_iload hx hb d_Mo_findJoined_111 (lv_at hl 4 rfl) ?_
      obtain ⟨hg3, hf⟩ := gd_e hf
      refine va_zald hx hb hK hP 1 3 rfl rfl (inb_e hg3) d_Mo_findJoined_113 ?_
      refine lv_if_ne (tgt := 120) hx hb d_Mo_findJoined_114 (by decide) (fun hc3 => ?_) (fun hc3 => ?_)
      · have hf := if_f hc3 hf
        refine lv_aload_n hx hb d_Mo_findJoined_120 rfl (lv_at hl 0 rfl) ?_
        refine va_get (D := D) (ci := 8) (v := .ref q_t_costs) (C := R_Mo) (T := F_Mo) (N := 22) hx hb hts i_Mo hown hK hP 0 rfl rfl 19 (by decide) (hts _ m_3_147) (fun _ h9 => h9) rfl d_Mo_findJoined_121 ?_
        refine lv_iload hx hb d_Mo_findJoined_124 (lv_at hl 4 rfl) ?_
        obtain ⟨hg4, hf⟩ := gd_e hf
        refine va_iald hx hb hK hP 3 0 rfl rfl (inb_e hg4) d_Mo_findJoined_126 ?_
        refine lv_topi (fun x1 ex1 => ?_)
        have hf := bn_e ex1 hf
        refine lv_istore (lv' := [(6, .int x1), (0, .ref q_t), (2, .int v2), (3, .int v3), (4, .int v4), (5, .int v5)]) hx hb d_Mo_findJoined_127 hl (by decide) rfl (fun ls hl => ?_)
        refine lv_iload hx hb d_Mo_findJoined_129 (lv_at hl 4 rfl) ?_
        refine lv_iconst (v := 1) hx hb d_Mo_findJoined_131 (by decide) ?_
        refine lv_aload_n hx hb d_Mo_findJoined_132 rfl (lv_at hl 1 rfl) ?_
        refine va_get (D := D) (ci := 8) (v := .ref q_t_froms) (C := R_Mo) (T := F_Mo) (N := 22) hx hb hts i_Mo hown hK hP 0 rfl rfl 3 (by decide) (hts _ m_3_131) (fun _ h9 => h9) rfl d_Mo_findJoined_133 ?_
        refine lv_iload hx hb d_Mo_findJoined_136 (lv_at hl 5 rfl) ?_
        obtain ⟨hg5, hf⟩ := gd_e hf
        refine va_iald hx hb hK hP 6 0 rfl rfl (inb_e hg5) d_Mo_findJoined_138 ?_
        refine lv_ishl hx hb d_Mo_findJoined_139 ?_
        refine lv_ior hx hb d_Mo_findJoined_140 ?_
        refine lv_iconst (v := 1) hx hb d_Mo_findJoined_141 (by decide) ?_
        refine lv_aload_n hx hb d_Mo_findJoined_142 rfl (lv_at hl 1 rfl) ?_
        refine va_get (D := D) (ci := 8) (v := .ref q_t_tos) (C := R_Mo) (T := F_Mo) (N := 22) hx hb hts i_Mo hown hK hP 0 rfl rfl 4 (by decide) (hts _ m_3_132) (fun _ h9 => h9) rfl d_Mo_findJoined_143 ?_
        refine lv_iload hx hb d_Mo_findJoined_146 (lv_at hl 5 rfl) ?_
        obtain ⟨hg6, hf⟩ := gd_e hf
        refine va_iald hx hb hK hP 7 0 rfl rfl (inb_e hg6) d_Mo_findJoined_148 ?_
        refine lv_ishl hx hb d_Mo_findJoined_149 ?_
        refine lv_ior hx hb d_Mo_findJoined_150 ?_
        refine lv_topi (fun x2 ex2 => ?_)
        have hf := bn_e ex2 hf
        refine lv_istore (lv' := [(7, .int x2), (6, .int x1), (0, .ref q_t), (2, .int v2), (3, .int v3), (4, .int v4), (5, .int v5)]) hx hb d_Mo_findJoined_151 hl (by decide) rfl (fun ls hl => ?_)
        refine lv_aload_n hx hb d_Mo_findJoined_153 rfl (lv_at hl 2 rfl) ?_
        refine va_get (D := D) (ci := 8) (v := .ref q_t_costs) (C := R_Mo) (T := F_Mo) (N := 22) hx hb hts i_Mo hown hK hP 0 rfl rfl 19 (by decide) (hts _ m_3_147) (fun _ h9 => h9) rfl d_Mo_findJoined_154 ?_
        refine lv_iload hx hb d_Mo_findJoined_157 (lv_at hl 6 rfl) ?_
        refine lv_iconst (v := 0) hx hb d_Mo_findJoined_159 (by decide) ?_
        obtain ⟨hg7, hf⟩ := gd_e hf
        refine va_iast hx hb hK hP hD hS 3 0 rfl rfl (inb_e hg7) d_Mo_findJoined_160 (fun H locs hP hD hS => ?_)
        have hP : va_P D CL [(q_t, .inr (8, [.int t_nodes, .int t_arcs, .int t_left, .ref q_t_froms, .ref q_t_tos, .ref q_t_weights, .ref q_t_there, .ref q_t_part, .ref q_t_matrix, .ref q_t_row, .ref q_t_low, .int t_swapIn, .int t_swapOut, .ref q_t_own, .ref q_t_chosen, .ref q_t_degrees, .long t_boundedSet, .ref q_t_fixed, .ref q_t_grown, .ref q_t_costs, .ref q_t_order, .long t_joinedSet])), (q_t_there, .inl (cZ, 30, .inl t_there)), (q_t_weights, .inl (cI, 30, .inl t_weights)), (q_t_costs, .inl (cI, 30, .inl (upd t_costs v5.toNatClampNeg (0 : Int32)))), (q_t_order, .inl (cI, 30, .inl t_order)), (q_t_part, .inl (cI, 10, .inl t_part)), (q_t_froms, .inl (cI, 30, .inl t_froms)), (q_t_tos, .inl (cI, 30, .inl t_tos))] H := hP
        have hD : va_D A [(q_t, .inr (8, [.int t_nodes, .int t_arcs, .int t_left, .ref q_t_froms, .ref q_t_tos, .ref q_t_weights, .ref q_t_there, .ref q_t_part, .ref q_t_matrix, .ref q_t_row, .ref q_t_low, .int t_swapIn, .int t_swapOut, .ref q_t_own, .ref q_t_chosen, .ref q_t_degrees, .long t_boundedSet, .ref q_t_fixed, .ref q_t_grown, .ref q_t_costs, .ref q_t_order, .long t_joinedSet])), (q_t_there, .inl (cZ, 30, .inl t_there)), (q_t_weights, .inl (cI, 30, .inl t_weights)), (q_t_costs, .inl (cI, 30, .inl (upd t_costs v5.toNatClampNeg (0 : Int32)))), (q_t_order, .inl (cI, 30, .inl t_order)), (q_t_part, .inl (cI, 10, .inl t_part)), (q_t_froms, .inl (cI, 30, .inl t_froms)), (q_t_tos, .inl (cI, 30, .inl t_tos))] := hD
        refine lv_iload hx hb d_Mo_findJoined_161 (lv_at hl 1 rfl) ?_
        refine lv_iload_n hx hb d_Mo_findJoined_163 rfl (lv_at hl 4 rfl) ?_
        refine lv_icmp_gt (tgt := 205) hx hb d_Mo_findJoined_164 (by decide) (fun hc4 => ?_) (fun hc4 => ?_)
        · have hf := if_t hc4 hf
          exact w_Mo_findJoined_205 C0 hret k94 hk94  v2 v3 v4 v5 (upd t_costs v5.toNatClampNeg (0 : Int32)) t_order t_part t_joinedSet _ _ _ hP hD hS (lv_sub hl [2, 3, 4, 5, 6] rfl) hf
        · have hf := if_f hc4 hf
          refine lv_aload_n hx hb d_Mo_findJoined_167 rfl (lv_at hl 2 rfl) ?_
          refine lv_iload hx hb d_Mo_findJoined_168 (lv_at hl 0 rfl) ?_
          obtain ⟨r3, c4, c5, hq1, hf⟩ := bk3_e hf
          refine cl_go (wr := [(q_t_there, .inl (cZ, 30, .inl t_there)), (q_t_weights, .inl (cI, 30, .inl t_weights))]) (W1 := [(q_t, .inr (8, [.int t_nodes, .int t_arcs, .int t_left, .ref q_t_froms, .ref q_t_tos, .ref q_t_weights, .ref q_t_there, .ref q_t_part, .ref q_t_matrix, .ref q_t_row, .ref q_t_low, .int t_swapIn, .int t_swapOut, .ref q_t_own, .ref q_t_chosen, .ref q_t_degrees, .long t_boundedSet, .ref q_t_fixed, .ref q_t_grown, .ref q_t_costs, .ref q_t_order, .long t_joinedSet])), (q_t_there, .inl (cZ, 30, .inl t_there)), (q_t_weights, .inl (cI, 30, .inl t_weights)), (q_t_costs, .inl (cI, 30, .inl (upd t_costs v5.toNatClampNeg (0 : Int32)))), (q_t_order, .inl (cI, 30, .inl c4)), (q_t_part, .inl (cI, 10, .inl c5)), (q_t_froms, .inl (cI, 30, .inl t_froms)), (q_t_tos, .inl (cI, 30, .inl t_tos))]) (va_runV (As := [.int x2]) (rest := []) ⟨hx, hb, hml, hown, hts⟩ (c_Mo_joinedCost l D cI cJ cG cZ q_t q_t_froms q_t_tos q_t_weights q_t_there q_t_part q_t_matrix q_t_row q_t_low q_t_own q_t_chosen q_t_degrees q_t_fixed q_t_grown q_t_costs q_t_order t_nodes t_arcs t_left t_swapIn t_swapOut t_boundedSet t_joinedSet (upd t_costs v5.toNatClampNeg (0 : Int32)) t_order t_part t_froms t_tos x2 hq1 H.size) (cwV 1 hts (gi_V m_4_110 m_4_112 m_0_42 m_1_9 wi_Mo_joinedCost) rfl rfl rfl hd_Mo_joinedCost ⟨Nat.le_trans (Nat.le_of_ble_eq_true rfl) hfr, Nat.le_trans (Nat.le_of_ble_eq_true rfl) hlo⟩) ⟨pw_blind, va_recv hK hP (ci := 8) (q0 := 0) rfl rfl, fun U hU hW => ⟨rfl, pw_in hU (hP.sub [0, 3, 4, 5, 6, 7] rfl) (va_K.moved hW.alike hK) ((hD.sub [0, 3, 4, 5, 6, 7] rfl rfl).weaken (fun _ _ _ _ => trivial))⟩⟩ rfl rfl hl.1 rfl (lv_room (Nat.le_of_ble_eq_true rfl)) d_Mo_findJoined_170 ⟨Nat.zero_le _, Nat.zero_le _⟩) hP hD hS hA [0, 3, 4, 5, 6, 7] [1, 2] rfl rfl rfl rfl [2, 0, 1, 3, 4, 5, 6, 7] rfl rfl (fun H locs hP hD hS => ?_)
          have hP : va_P D CL [(q_t, .inr (8, [.int t_nodes, .int t_arcs, .int t_left, .ref q_t_froms, .ref q_t_tos, .ref q_t_weights, .ref q_t_there, .ref q_t_part, .ref q_t_matrix, .ref q_t_row, .ref q_t_low, .int t_swapIn, .int t_swapOut, .ref q_t_own, .ref q_t_chosen, .ref q_t_degrees, .long t_boundedSet, .ref q_t_fixed, .ref q_t_grown, .ref q_t_costs, .ref q_t_order, .long t_joinedSet])), (q_t_there, .inl (cZ, 30, .inl t_there)), (q_t_weights, .inl (cI, 30, .inl t_weights)), (q_t_costs, .inl (cI, 30, .inl (upd t_costs v5.toNatClampNeg (0 : Int32)))), (q_t_order, .inl (cI, 30, .inl c4)), (q_t_part, .inl (cI, 10, .inl c5)), (q_t_froms, .inl (cI, 30, .inl t_froms)), (q_t_tos, .inl (cI, 30, .inl t_tos))] H := hP
          have hD : va_D A [(q_t, .inr (8, [.int t_nodes, .int t_arcs, .int t_left, .ref q_t_froms, .ref q_t_tos, .ref q_t_weights, .ref q_t_there, .ref q_t_part, .ref q_t_matrix, .ref q_t_row, .ref q_t_low, .int t_swapIn, .int t_swapOut, .ref q_t_own, .ref q_t_chosen, .ref q_t_degrees, .long t_boundedSet, .ref q_t_fixed, .ref q_t_grown, .ref q_t_costs, .ref q_t_order, .long t_joinedSet])), (q_t_there, .inl (cZ, 30, .inl t_there)), (q_t_weights, .inl (cI, 30, .inl t_weights)), (q_t_costs, .inl (cI, 30, .inl (upd t_costs v5.toNatClampNeg (0 : Int32)))), (q_t_order, .inl (cI, 30, .inl c4)), (q_t_part, .inl (cI, 10, .inl c5)), (q_t_froms, .inl (cI, 30, .inl t_froms)), (q_t_tos, .inl (cI, 30, .inl t_tos))] := hD
          refine lv_iload_n hx hb d_Mo_findJoined_173 rfl (lv_at hl 4 rfl) ?_
          refine lv_iload hx hb d_Mo_findJoined_174 (lv_at hl 1 rfl) ?_
          refine lv_isub hx hb d_Mo_findJoined_176 ?_
          refine lv_icmp_ne (tgt := 205) hx hb d_Mo_findJoined_177 (by decide) (fun hc5 => ?_) (fun hc5 => ?_)
          · have hf := if_f hc5 hf
            exact w_Mo_findJoined_205 C0 hret k94 hk94  v2 v3 v4 v5 (upd t_costs v5.toNatClampNeg (0 : Int32)) c4 c5 t_joinedSet _ _ _ hP hD hS (lv_sub hl [2, 3, 4, 5, 6] rfl) hf
          · have hf := if_t hc5 hf
            refine lv_aload_n hx hb d_Mo_findJoined_180 rfl (lv_at hl 2 rfl) ?_
            refine lv_dup hx hb d_Mo_findJoined_181 rfl ?_
            refine va_get (D := D) (ci := 8) (v := .long t_joinedSet) (C := R_Mo) (T := F_Mo) (N := 22) hx hb hts i_Mo hown hK hP 0 rfl rfl 21 (by decide) (hts _ m_3_149) (fun _ h9 => h9) rfl d_Mo_findJoined_182 ?_
            refine lv_lconst (v := 1) hx hb d_Mo_findJoined_185 (by decide) ?_
            refine lv_iload hx hb d_Mo_findJoined_186 (lv_at hl 6 rfl) ?_
            refine lv_lshl (v := (1 : Int64) <<< (v5.toInt64 &&& 63)) hx hb d_Mo_findJoined_188 rfl ?_
            refine lv_lor hx hb d_Mo_findJoined_189 ?_
            refine lv_topl (fun x6 ex6 => ?_)
            have hf := bn_e ex6 hf
            refine va_put (D := D) (ci := 8) (v := .long x6) (ty := .long) (C := R_Mo) (T := F_Mo) (N := 22) hx hb hts i_Mo t_Mo to_Mo n_Mo hown hK hP hD hS 0 rfl rfl 21 (by decide) (hts _ m_3_149) (fun _ h9 => h9) rfl (by decide +kernel) rfl rfl (Nat.le_of_ble_eq_true rfl) d_Mo_findJoined_190 (fun H locs hP hD hS => ?_)
            have hP : va_P D CL [(q_t, .inr (8, [.int t_nodes, .int t_arcs, .int t_left, .ref q_t_froms, .ref q_t_tos, .ref q_t_weights, .ref q_t_there, .ref q_t_part, .ref q_t_matrix, .ref q_t_row, .ref q_t_low, .int t_swapIn, .int t_swapOut, .ref q_t_own, .ref q_t_chosen, .ref q_t_degrees, .long t_boundedSet, .ref q_t_fixed, .ref q_t_grown, .ref q_t_costs, .ref q_t_order, .long x6])), (q_t_there, .inl (cZ, 30, .inl t_there)), (q_t_weights, .inl (cI, 30, .inl t_weights)), (q_t_costs, .inl (cI, 30, .inl (upd t_costs v5.toNatClampNeg (0 : Int32)))), (q_t_order, .inl (cI, 30, .inl c4)), (q_t_part, .inl (cI, 10, .inl c5)), (q_t_froms, .inl (cI, 30, .inl t_froms)), (q_t_tos, .inl (cI, 30, .inl t_tos))] H := hP
            have hD : va_D A [(q_t, .inr (8, [.int t_nodes, .int t_arcs, .int t_left, .ref q_t_froms, .ref q_t_tos, .ref q_t_weights, .ref q_t_there, .ref q_t_part, .ref q_t_matrix, .ref q_t_row, .ref q_t_low, .int t_swapIn, .int t_swapOut, .ref q_t_own, .ref q_t_chosen, .ref q_t_degrees, .long t_boundedSet, .ref q_t_fixed, .ref q_t_grown, .ref q_t_costs, .ref q_t_order, .long x6])), (q_t_there, .inl (cZ, 30, .inl t_there)), (q_t_weights, .inl (cI, 30, .inl t_weights)), (q_t_costs, .inl (cI, 30, .inl (upd t_costs v5.toNatClampNeg (0 : Int32)))), (q_t_order, .inl (cI, 30, .inl c4)), (q_t_part, .inl (cI, 10, .inl c5)), (q_t_froms, .inl (cI, 30, .inl t_froms)), (q_t_tos, .inl (cI, 30, .inl t_tos))] := hD
            refine lv_iload_n hx hb d_Mo_findJoined_193 rfl (lv_at hl 4 rfl) ?_
            refine lv_iload hx hb d_Mo_findJoined_194 (lv_at hl 1 rfl) ?_
            refine lv_isub hx hb d_Mo_findJoined_196 ?_
            refine lv_topi (fun x7 ex7 => ?_)
            have hf := bn_e ex7 hf
            refine lv_istore_n (lv' := [(3, .int x7), (7, .int x2), (6, .int x1), (0, .ref q_t), (2, .int v2), (4, .int v4), (5, .int v5)]) hx hb d_Mo_findJoined_197 rfl hl (by decide) rfl (fun ls hl => ?_)
            refine lv_iload hx hb d_Mo_findJoined_198 (lv_at hl 1 rfl) ?_
            refine lv_istore (lv' := [(4, .int x2), (3, .int x7), (7, .int x2), (6, .int x1), (0, .ref q_t), (2, .int v2), (5, .int v5)]) hx hb d_Mo_findJoined_200 hl (by decide) rfl (fun ls hl => ?_)
            refine lv_goto (tgt := 213) hx hb d_Mo_findJoined_202 (by decide) ?_
            obtain ⟨x8, ex8⟩ : ∃ y : Int32, y = v5 + (1 : Int32) := ⟨_, rfl⟩
            have hf := bn_e ex8 hf
            refine lv_iinc (v := x8) (lv' := [(5, .int x8), (4, .int x2), (3, .int x7), (7, .int x2), (6, .int x1), (0, .ref q_t), (2, .int v2)]) hx hb d_Mo_findJoined_213 hl (k := 6) rfl (by rw [ex8]; rfl) (by decide) rfl (fun ls hl => ?_)
            refine lv_goto (tgt := 94) hx hb d_Mo_findJoined_216 (by decide) ?_
            exact hk94 v2 x7 x2 x8 (upd t_costs v5.toNatClampNeg (0 : Int32)) c4 c5 x6 _ _ _ hP hD hS (lv_sub hl [5, 6, 2, 1, 0] rfl) hf
      · have hf := if_t hc3 hf
        refine lv_goto (tgt := 213) hx hb d_Mo_findJoined_117 (by decide) ?_
        obtain ⟨x9, ex9⟩ : ∃ y : Int32, y = v5 + (1 : Int32) := ⟨_, rfl⟩
        have hf := bn_e ex9 hf
        refine lv_iinc (v := x9) (lv' := [(5, .int x9), (0, .ref q_t), (2, .int v2), (3, .int v3), (4, .int v4)]) hx hb d_Mo_findJoined_213 hl (k := 4) rfl (by rw [ex9]; rfl) (by decide) rfl (fun ls hl => ?_)
        refine lv_goto (tgt := 94) hx hb d_Mo_findJoined_216 (by decide) ?_
        exact hk94 v2 v3 v4 x9 t_costs t_order t_part t_joinedSet _ _ _ hP hD hS (lv_sub hl [1, 2, 3, 4, 0] rfl) hf
set_option maxRecDepth 100000 in
set_option maxHeartbeats 4000000 in
theorem w_Mo_findJoined_94_l {p : Program} {l : Launch} {e : Env} {R : Room} {s : State} {m : MethodId} {args : Array Value} {below : List Frame} {meth : Method} {c : Code} {D : va_G} {cI cJ cG cZ : ClassId} {A : Nat → Prop} {Q : State → Prop} {q_t q_t_froms q_t_tos q_t_weights q_t_there q_t_part q_t_matrix q_t_row q_t_low q_t_own q_t_chosen q_t_degrees q_t_fixed q_t_grown q_t_costs q_t_order : Nat} {t_nodes : Int32} {t_arcs : Int32} {t_left : Int32} {t_swapIn : Int32} {t_swapOut : Int32} {t_boundedSet : Int64} {t_there : Nat → Int32} {t_weights : Nat → Int32} {t_froms : Nat → Int32} {t_tos : Nat → Int32} {N : Nat} {RR : Int32 × (Nat → Int32) × (Nat → Int32) × (Nat → Int32) × Int64} (C0 : CX p R s m args meth c b_Mo_findJoined 8 R_Mo lw_g D CL (TYs cI cJ cG cZ) A 2 54) (hret : ∀ (pc : Nat) (ls : Array Slot) (H : Heap) (locs : List Loc) (v : Int32) (t_costs : Nat → Int32) (t_order : Nat → Int32) (t_part : Nat → Int32) (t_joinedSet : Int64), decode b_Mo_findJoined pc = .ok (.ireturn, 1) → va_P D CL [(q_t, .inr (8, [.int t_nodes, .int t_arcs, .int t_left, .ref q_t_froms, .ref q_t_tos, .ref q_t_weights, .ref q_t_there, .ref q_t_part, .ref q_t_matrix, .ref q_t_row, .ref q_t_low, .int t_swapIn, .int t_swapOut, .ref q_t_own, .ref q_t_chosen, .ref q_t_degrees, .long t_boundedSet, .ref q_t_fixed, .ref q_t_grown, .ref q_t_costs, .ref q_t_order, .long t_joinedSet])), (q_t_there, .inl (cZ, 30, .inl t_there)), (q_t_weights, .inl (cI, 30, .inl t_weights)), (q_t_costs, .inl (cI, 30, .inl t_costs)), (q_t_order, .inl (cI, 30, .inl t_order)), (q_t_part, .inl (cI, 10, .inl t_part)), (q_t_froms, .inl (cI, 30, .inl t_froms)), (q_t_tos, .inl (cI, 30, .inl t_tos))] H → va_D A [(q_t, .inr (8, [.int t_nodes, .int t_arcs, .int t_left, .ref q_t_froms, .ref q_t_tos, .ref q_t_weights, .ref q_t_there, .ref q_t_part, .ref q_t_matrix, .ref q_t_row, .ref q_t_low, .int t_swapIn, .int t_swapOut, .ref q_t_own, .ref q_t_chosen, .ref q_t_degrees, .long t_boundedSet, .ref q_t_fixed, .ref q_t_grown, .ref q_t_costs, .ref q_t_order, .long t_joinedSet])), (q_t_there, .inl (cZ, 30, .inl t_there)), (q_t_weights, .inl (cI, 30, .inl t_weights)), (q_t_costs, .inl (cI, 30, .inl t_costs)), (q_t_order, .inl (cI, 30, .inl t_order)), (q_t_part, .inl (cI, 10, .inl t_part)), (q_t_froms, .inl (cI, 30, .inl t_froms)), (q_t_tos, .inl (cI, 30, .inl t_tos))] → va_S A s.heap H locs → some (v, t_costs, t_order, t_part, t_joinedSet) = some RR → W p l e R s m args below meth c H locs 0 0 Q (F0 m pc ls [.int v]))  : ∀ (n : Nat) (v2 : Int32) (v3 : Int32) (v4 : Int32) (v5 : Int32) (t_costs : Nat → Int32) (t_order : Nat → Int32) (t_part : Nat → Int32) (t_joinedSet : Int64) (H : Heap) (locs : List Loc) (ls : Array Slot), va_P D CL [(q_t, .inr (8, [.int t_nodes, .int t_arcs, .int t_left, .ref q_t_froms, .ref q_t_tos, .ref q_t_weights, .ref q_t_there, .ref q_t_part, .ref q_t_matrix, .ref q_t_row, .ref q_t_low, .int t_swapIn, .int t_swapOut, .ref q_t_own, .ref q_t_chosen, .ref q_t_degrees, .long t_boundedSet, .ref q_t_fixed, .ref q_t_grown, .ref q_t_costs, .ref q_t_order, .long t_joinedSet])), (q_t_there, .inl (cZ, 30, .inl t_there)), (q_t_weights, .inl (cI, 30, .inl t_weights)), (q_t_costs, .inl (cI, 30, .inl t_costs)), (q_t_order, .inl (cI, 30, .inl t_order)), (q_t_part, .inl (cI, 10, .inl t_part)), (q_t_froms, .inl (cI, 30, .inl t_froms)), (q_t_tos, .inl (cI, 30, .inl t_tos))] H → va_D A [(q_t, .inr (8, [.int t_nodes, .int t_arcs, .int t_left, .ref q_t_froms, .ref q_t_tos, .ref q_t_weights, .ref q_t_there, .ref q_t_part, .ref q_t_matrix, .ref q_t_row, .ref q_t_low, .int t_swapIn, .int t_swapOut, .ref q_t_own, .ref q_t_chosen, .ref q_t_degrees, .long t_boundedSet, .ref q_t_fixed, .ref q_t_grown, .ref q_t_costs, .ref q_t_order, .long t_joinedSet])), (q_t_there, .inl (cZ, 30, .inl t_there)), (q_t_weights, .inl (cI, 30, .inl t_weights)), (q_t_costs, .inl (cI, 30, .inl t_costs)), (q_t_order, .inl (cI, 30, .inl t_order)), (q_t_part, .inl (cI, 10, .inl t_part)), (q_t_froms, .inl (cI, 30, .inl t_froms)), (q_t_tos, .inl (cI, 30, .inl t_tos))] → va_S A s.heap H locs → lv_has ls 8 [(0, .ref q_t), (2, .int v2), (3, .int v3), (4, .int v4), (5, .int v5)] → lo8 (g_Mo_findJoined_94 N t_nodes t_arcs t_there t_froms t_tos) n v2 v3 v4 v5 t_costs t_order t_part t_joinedSet = some RR → W p l e R s m args below meth c H locs 0 0 Q (F0 m 94 ls []) := by
  intro n
  induction n with
  | zero =>
    intro v2 v3 v4 v5 t_costs t_order t_part t_joinedSet H locs ls hP hD hS hl hf
    exact absurd hf (by simp [lo8])
  | succ n ih =>
    intro v2 v3 v4 v5 t_costs t_order t_part t_joinedSet H locs ls hP hD hS hl hf
    exact w_Mo_findJoined_94 C0 hret  (lo8 (g_Mo_findJoined_94 N t_nodes t_arcs t_there t_froms t_tos) n) ih v2 v3 v4 v5 t_costs t_order t_part t_joinedSet H locs ls hP hD hS hl hf
set_option maxRecDepth 100000 in
set_option maxHeartbeats 4000000 in
theorem w_Mo_findJoined_24 {p : Program} {l : Launch} {e : Env} {R : Room} {s : State} {m : MethodId} {args : Array Value} {below : List Frame} {meth : Method} {c : Code} {D : va_G} {cI cJ cG cZ : ClassId} {A : Nat → Prop} {Q : State → Prop} {q_t q_t_froms q_t_tos q_t_weights q_t_there q_t_part q_t_matrix q_t_row q_t_low q_t_own q_t_chosen q_t_degrees q_t_fixed q_t_grown q_t_costs q_t_order : Nat} {t_nodes : Int32} {t_arcs : Int32} {t_left : Int32} {t_swapIn : Int32} {t_swapOut : Int32} {t_boundedSet : Int64} {t_there : Nat → Int32} {t_weights : Nat → Int32} {t_froms : Nat → Int32} {t_tos : Nat → Int32} {p1 : Int32} {N : Nat} {RR : Int32 × (Nat → Int32) × (Nat → Int32) × (Nat → Int32) × Int64} (C0 : CX p R s m args meth c b_Mo_findJoined 8 R_Mo lw_g D CL (TYs cI cJ cG cZ) A 2 54) (hret : ∀ (pc : Nat) (ls : Array Slot) (H : Heap) (locs : List Loc) (v : Int32) (t_costs : Nat → Int32) (t_order : Nat → Int32) (t_part : Nat → Int32) (t_joinedSet : Int64), decode b_Mo_findJoined pc = .ok (.ireturn, 1) → va_P D CL [(q_t, .inr (8, [.int t_nodes, .int t_arcs, .int t_left, .ref q_t_froms, .ref q_t_tos, .ref q_t_weights, .ref q_t_there, .ref q_t_part, .ref q_t_matrix, .ref q_t_row, .ref q_t_low, .int t_swapIn, .int t_swapOut, .ref q_t_own, .ref q_t_chosen, .ref q_t_degrees, .long t_boundedSet, .ref q_t_fixed, .ref q_t_grown, .ref q_t_costs, .ref q_t_order, .long t_joinedSet])), (q_t_there, .inl (cZ, 30, .inl t_there)), (q_t_weights, .inl (cI, 30, .inl t_weights)), (q_t_costs, .inl (cI, 30, .inl t_costs)), (q_t_order, .inl (cI, 30, .inl t_order)), (q_t_part, .inl (cI, 10, .inl t_part)), (q_t_froms, .inl (cI, 30, .inl t_froms)), (q_t_tos, .inl (cI, 30, .inl t_tos))] H → va_D A [(q_t, .inr (8, [.int t_nodes, .int t_arcs, .int t_left, .ref q_t_froms, .ref q_t_tos, .ref q_t_weights, .ref q_t_there, .ref q_t_part, .ref q_t_matrix, .ref q_t_row, .ref q_t_low, .int t_swapIn, .int t_swapOut, .ref q_t_own, .ref q_t_chosen, .ref q_t_degrees, .long t_boundedSet, .ref q_t_fixed, .ref q_t_grown, .ref q_t_costs, .ref q_t_order, .long t_joinedSet])), (q_t_there, .inl (cZ, 30, .inl t_there)), (q_t_weights, .inl (cI, 30, .inl t_weights)), (q_t_costs, .inl (cI, 30, .inl t_costs)), (q_t_order, .inl (cI, 30, .inl t_order)), (q_t_part, .inl (cI, 10, .inl t_part)), (q_t_froms, .inl (cI, 30, .inl t_froms)), (q_t_tos, .inl (cI, 30, .inl t_tos))] → va_S A s.heap H locs → some (v, t_costs, t_order, t_part, t_joinedSet) = some RR → W p l e R s m args below meth c H locs 0 0 Q (F0 m pc ls [.int v])) (k24 : Int32 → (Nat → Int32) → (Nat → Int32) → (Nat → Int32) → Int64 → Option (Int32 × (Nat → Int32) × (Nat → Int32) × (Nat → Int32) × Int64)) (hk24 : ∀ (v2 : Int32) (t_costs : Nat → Int32) (t_order : Nat → Int32) (t_part : Nat → Int32) (t_joinedSet : Int64) (H : Heap) (locs : List Loc) (ls : Array Slot), va_P D CL [(q_t, .inr (8, [.int t_nodes, .int t_arcs, .int t_left, .ref q_t_froms, .ref q_t_tos, .ref q_t_weights, .ref q_t_there, .ref q_t_part, .ref q_t_matrix, .ref q_t_row, .ref q_t_low, .int t_swapIn, .int t_swapOut, .ref q_t_own, .ref q_t_chosen, .ref q_t_degrees, .long t_boundedSet, .ref q_t_fixed, .ref q_t_grown, .ref q_t_costs, .ref q_t_order, .long t_joinedSet])), (q_t_there, .inl (cZ, 30, .inl t_there)), (q_t_weights, .inl (cI, 30, .inl t_weights)), (q_t_costs, .inl (cI, 30, .inl t_costs)), (q_t_order, .inl (cI, 30, .inl t_order)), (q_t_part, .inl (cI, 10, .inl t_part)), (q_t_froms, .inl (cI, 30, .inl t_froms)), (q_t_tos, .inl (cI, 30, .inl t_tos))] H → va_D A [(q_t, .inr (8, [.int t_nodes, .int t_arcs, .int t_left, .ref q_t_froms, .ref q_t_tos, .ref q_t_weights, .ref q_t_there, .ref q_t_part, .ref q_t_matrix, .ref q_t_row, .ref q_t_low, .int t_swapIn, .int t_swapOut, .ref q_t_own, .ref q_t_chosen, .ref q_t_degrees, .long t_boundedSet, .ref q_t_fixed, .ref q_t_grown, .ref q_t_costs, .ref q_t_order, .long t_joinedSet])), (q_t_there, .inl (cZ, 30, .inl t_there)), (q_t_weights, .inl (cI, 30, .inl t_weights)), (q_t_costs, .inl (cI, 30, .inl t_costs)), (q_t_order, .inl (cI, 30, .inl t_order)), (q_t_part, .inl (cI, 10, .inl t_part)), (q_t_froms, .inl (cI, 30, .inl t_froms)), (q_t_tos, .inl (cI, 30, .inl t_tos))] → va_S A s.heap H locs → lv_has ls 8 [(0, .ref q_t), (1, .int p1), (2, .int v2)] → k24 v2 t_costs t_order t_part t_joinedSet = some RR → W p l e R s m args below meth c H locs 0 0 Q (F0 m 24 ls [])) : ∀ (v2 : Int32) (t_costs : Nat → Int32) (t_order : Nat → Int32) (t_part : Nat → Int32) (t_joinedSet : Int64) (H : Heap) (locs : List Loc) (ls : Array Slot), va_P D CL [(q_t, .inr (8, [.int t_nodes, .int t_arcs, .int t_left, .ref q_t_froms, .ref q_t_tos, .ref q_t_weights, .ref q_t_there, .ref q_t_part, .ref q_t_matrix, .ref q_t_row, .ref q_t_low, .int t_swapIn, .int t_swapOut, .ref q_t_own, .ref q_t_chosen, .ref q_t_degrees, .long t_boundedSet, .ref q_t_fixed, .ref q_t_grown, .ref q_t_costs, .ref q_t_order, .long t_joinedSet])), (q_t_there, .inl (cZ, 30, .inl t_there)), (q_t_weights, .inl (cI, 30, .inl t_weights)), (q_t_costs, .inl (cI, 30, .inl t_costs)), (q_t_order, .inl (cI, 30, .inl t_order)), (q_t_part, .inl (cI, 10, .inl t_part)), (q_t_froms, .inl (cI, 30, .inl t_froms)), (q_t_tos, .inl (cI, 30, .inl t_tos))] H → va_D A [(q_t, .inr (8, [.int t_nodes, .int t_arcs, .int t_left, .ref q_t_froms, .ref q_t_tos, .ref q_t_weights, .ref q_t_there, .ref q_t_part, .ref q_t_matrix, .ref q_t_row, .ref q_t_low, .int t_swapIn, .int t_swapOut, .ref q_t_own, .ref q_t_chosen, .ref q_t_degrees, .long t_boundedSet, .ref q_t_fixed, .ref q_t_grown, .ref q_t_costs, .ref q_t_order, .long t_joinedSet])), (q_t_there, .inl (cZ, 30, .inl t_there)), (q_t_weights, .inl (cI, 30, .inl t_weights)), (q_t_costs, .inl (cI, 30, .inl t_costs)), (q_t_order, .inl (cI, 30, .inl t_order)), (q_t_part, .inl (cI, 10, .inl t_part)), (q_t_froms, .inl (cI, 30, .inl t_froms)), (q_t_tos, .inl (cI, 30, .inl t_tos))] → va_S A s.heap H locs → lv_has ls 8 [(0, .ref q_t), (1, .int p1), (2, .int v2)] → g_Mo_findJoined_24 N p1 t_nodes t_arcs t_there t_weights t_froms t_tos k24 v2 t_costs t_order t_part t_joinedSet = some RR → W p l e R s m args below meth c H locs 0 0 Q (F0 m 24 ls []) := by
  intro v2 t_costs t_order t_part t_joinedSet H locs ls hP hD hS hl hf
  obtain ⟨hx, hb, hml, hown, hts, hK, hA, hfr, hlo, hlk⟩ := id C0
  unfold g_Mo_findJoined_24 at hf
  refine lv_iload_n hx hb d_Mo_findJoined_24 rfl (lv_at hl 2 rfl) ?_
  refine lv_aload_n hx hb d_Mo_findJoined_25 rfl (lv_at hl 0 rfl) ?_
  refine va_get (D := D) (ci := 8) (v := .int t_arcs) (C := R_Mo) (T := F_Mo) (N := 22) hx hb hts i_Mo hown hK hP 0 rfl rfl 1 (by decide) (hts _ m_3_129) (fun _ h9 => h9) rfl d_Mo_findJoined_26 ?_
  refine lv_icmp_ge (tgt := 68) hx hb d_Mo_findJoined_29 (by decide) (fun hc1 => ?_) (fun hc1 => ?_)
  · have hf := if_t hc1 hf
    refine lv_aload_n hx hb d_Mo_findJoined_68 rfl (lv_at hl 0 rfl) ?_
    refine lv_iload_n hx hb d_Mo_findJoined_69 rfl (lv_at hl 1 rfl) ?_
    obtain ⟨r1, c2, c3, hq1, hf⟩ := bk3_e hf
    refine cl_go (wr := [(q_t_there, .inl (cZ, 30, .inl t_there)), (q_t_weights, .inl (cI, 30, .inl t_weights))]) (W1 := [(q_t, .inr (8, [.int t_nodes, .int t_arcs, .int t_left, .ref q_t_froms, .ref q_t_tos, .ref q_t_weights, .ref q_t_there, .ref q_t_part, .ref q_t_matrix, .ref q_t_row, .ref q_t_low, .int t_swapIn, .int t_swapOut, .ref q_t_own, .ref q_t_chosen, .ref q_t_degrees, .long t_boundedSet, .ref q_t_fixed, .ref q_t_grown, .ref q_t_costs, .ref q_t_order, .long t_joinedSet])), (q_t_there, .inl (cZ, 30, .inl t_there)), (q_t_weights, .inl (cI, 30, .inl t_weights)), (q_t_costs, .inl (cI, 30, .inl t_costs)), (q_t_order, .inl (cI, 30, .inl c2)), (q_t_part, .inl (cI, 10, .inl c3)), (q_t_froms, .inl (cI, 30, .inl t_froms)), (q_t_tos, .inl (cI, 30, .inl t_tos))]) (va_runV (As := [.int p1]) (rest := []) ⟨hx, hb, hml, hown, hts⟩ (c_Mo_joinedCost l D cI cJ cG cZ q_t q_t_froms q_t_tos q_t_weights q_t_there q_t_part q_t_matrix q_t_row q_t_low q_t_own q_t_chosen q_t_degrees q_t_fixed q_t_grown q_t_costs q_t_order t_nodes t_arcs t_left t_swapIn t_swapOut t_boundedSet t_joinedSet t_costs t_order t_part t_froms t_tos p1 hq1 H.size) (cwV 1 hts (gi_V m_4_110 m_4_112 m_0_42 m_1_9 wi_Mo_joinedCost) rfl rfl rfl hd_Mo_joinedCost ⟨Nat.le_trans (Nat.le_of_ble_eq_true rfl) hfr, Nat.le_trans (Nat.le_of_ble_eq_true rfl) hlo⟩) ⟨pw_blind, va_recv hK hP (ci := 8) (q0 := 0) rfl rfl, fun U hU hW => ⟨rfl, pw_in hU (hP.sub [0, 3, 4, 5, 6, 7] rfl) (va_K.moved hW.alike hK) ((hD.sub [0, 3, 4, 5, 6, 7] rfl rfl).weaken (fun _ _ _ _ => trivial))⟩⟩ rfl rfl hl.1 rfl (lv_room (Nat.le_of_ble_eq_true rfl)) d_Mo_findJoined_70 ⟨Nat.zero_le _, Nat.zero_le _⟩) hP hD hS hA [0, 3, 4, 5, 6, 7] [1, 2] rfl rfl rfl rfl [2, 0, 1, 3, 4, 5, 6, 7] rfl rfl (fun H locs hP hD hS => ?_)
    have hP : va_P D CL [(q_t, .inr (8, [.int t_nodes, .int t_arcs, .int t_left, .ref q_t_froms, .ref q_t_tos, .ref q_t_weights, .ref q_t_there, .ref q_t_part, .ref q_t_matrix, .ref q_t_row, .ref q_t_low, .int t_swapIn, .int t_swapOut, .ref q_t_own, .ref q_t_chosen, .ref q_t_degrees, .long t_boundedSet, .ref q_t_fixed, .ref q_t_grown, .ref q_t_costs, .ref q_t_order, .long t_joinedSet])), (q_t_there, .inl (cZ, 30, .inl t_there)), (q_t_weights, .inl (cI, 30, .inl t_weights)), (q_t_costs, .inl (cI, 30, .inl t_costs)), (q_t_order, .inl (cI, 30, .inl c2)), (q_t_part, .inl (cI, 10, .inl c3)), (q_t_froms, .inl (cI, 30, .inl t_froms)), (q_t_tos, .inl (cI, 30, .inl t_tos))] H := hP
    have hD : va_D A [(q_t, .inr (8, [.int t_nodes, .int t_arcs, .int t_left, .ref q_t_froms, .ref q_t_tos, .ref q_t_weights, .ref q_t_there, .ref q_t_part, .ref q_t_matrix, .ref q_t_row, .ref q_t_low, .int t_swapIn, .int t_swapOut, .ref q_t_own, .ref q_t_chosen, .ref q_t_degrees, .long t_boundedSet, .ref q_t_fixed, .ref q_t_grown, .ref q_t_costs, .ref q_t_order, .long t_joinedSet])), (q_t_there, .inl (cZ, 30, .inl t_there)), (q_t_weights, .inl (cI, 30, .inl t_weights)), (q_t_costs, .inl (cI, 30, .inl t_costs)), (q_t_order, .inl (cI, 30, .inl c2)), (q_t_part, .inl (cI, 10, .inl c3)), (q_t_froms, .inl (cI, 30, .inl t_froms)), (q_t_tos, .inl (cI, 30, .inl t_tos))] := hD
    refine lv_istore_n (lv' := [(2, .int r1), (0, .ref q_t), (1, .int p1)]) hx hb d_Mo_findJoined_73 rfl hl (by decide) rfl (fun ls hl => ?_)
    refine lv_iload_n hx hb d_Mo_findJoined_74 rfl (lv_at hl 0 rfl) ?_
    refine lv_if_ge (tgt := 81) hx hb d_Mo_findJoined_75 (by decide) (fun hc2 => ?_) (fun hc2 => ?_)
    · have hf := if_t hc2 hf
      refine lv_aload_n hx hb d_Mo_findJoined_81 rfl (lv_at hl 1 rfl) ?_
      refine lv_lconst (v := 0) hx hb d_Mo_findJoined_82 (by decide) ?_
      refine va_put (D := D) (ci := 8) (v := .long (0 : Int64)) (ty := .long) (C := R_Mo) (T := F_Mo) (N := 22) hx hb hts i_Mo t_Mo to_Mo n_Mo hown hK hP hD hS 0 rfl rfl 21 (by decide) (hts _ m_3_149) (fun _ h9 => h9) rfl (by decide +kernel) rfl rfl (Nat.le_of_ble_eq_true rfl) d_Mo_findJoined_83 (fun H locs hP hD hS => ?_)
      have hP : va_P D CL [(q_t, .inr (8, [.int t_nodes, .int t_arcs, .int t_left, .ref q_t_froms, .ref q_t_tos, .ref q_t_weights, .ref q_t_there, .ref q_t_part, .ref q_t_matrix, .ref q_t_row, .ref q_t_low, .int t_swapIn, .int t_swapOut, .ref q_t_own, .ref q_t_chosen, .ref q_t_degrees, .long t_boundedSet, .ref q_t_fixed, .ref q_t_grown, .ref q_t_costs, .ref q_t_order, .long (0 : Int64)])), (q_t_there, .inl (cZ, 30, .inl t_there)), (q_t_weights, .inl (cI, 30, .inl t_weights)), (q_t_costs, .inl (cI, 30, .inl t_costs)), (q_t_order, .inl (cI, 30, .inl c2)), (q_t_part, .inl (cI, 10, .inl c3)), (q_t_froms, .inl (cI, 30, .inl t_froms)), (q_t_tos, .inl (cI, 30, .inl t_tos))] H := hP
      have hD : va_D A [(q_t, .inr (8, [.int t_nodes, .int t_arcs, .int t_left, .ref q_t_froms, .ref q_t_tos, .ref q_t_weights, .ref q_t_there, .ref q_t_part, .ref q_t_matrix, .ref q_t_row, .ref q_t_low, .int t_swapIn, .int t_swapOut, .ref q_t_own, .ref q_t_chosen, .ref q_t_degrees, .long t_boundedSet, .ref q_t_fixed, .ref q_t_grown, .ref q_t_costs, .ref q_t_order, .long (0 : Int64)])), (q_t_there, .inl (cZ, 30, .inl t_there)), (q_t_weights, .inl (cI, 30, .inl t_weights)), (q_t_costs, .inl (cI, 30, .inl t_costs)), (q_t_order, .inl (cI, 30, .inl c2)), (q_t_part, .inl (cI, 10, .inl c3)), (q_t_froms, .inl (cI, 30, .inl t_froms)), (q_t_tos, .inl (cI, 30, .inl t_tos))] := hD
      refine lv_iload_n hx hb d_Mo_findJoined_86 rfl (lv_at hl 0 rfl) ?_
      refine lv_istore_n (lv' := [(3, .int r1), (2, .int r1), (0, .ref q_t), (1, .int p1)]) hx hb d_Mo_findJoined_87 rfl hl (by decide) rfl (fun ls hl => ?_)
      refine lv_iload_n hx hb d_Mo_findJoined_88 rfl (lv_at hl 3 rfl) ?_
      refine lv_istore (lv' := [(4, .int p1), (3, .int r1), (2, .int r1), (0, .ref q_t), (1, .int p1)]) hx hb d_Mo_findJoined_89 hl (by decide) rfl (fun ls hl => ?_)
      refine lv_iconst (v := 0) hx hb d_Mo_findJoined_91 (by decide) ?_
      refine lv_istore (lv' := [(5, .int (0 : Int32)), (4, .int p1), (3, .int r1), (2, .int r1), (0, .ref q_t), (1, .int p1)]) hx hb d_Mo_findJoined_92 hl (by decide) rfl (fun ls hl => ?_)
      exact w_Mo_findJoined_94_l C0 hret N r1 r1 p1 (0 : Int32) t_costs c2 c3 (0 : Int64) _ _ _ hP hD hS (lv_sub hl [4, 3, 2, 1, 0] rfl) hf
    · have hf := if_f hc2 hf
      refine lv_bipush (v := -3) hx hb d_Mo_findJoined_78 (by decide) ?_
      exact hret 80 _ _ _ (-3 : Int32) t_costs c2 c3 t_joinedSet d_Mo_findJoined_80 hP hD hS hf
  · have hf := if_f hc1 hf
    refine lv_aload_n hx hb d_Mo_findJoined_32 rfl (lv_at hl 0 rfl) ?_
    refine va_get (D := D) (ci := 8) (v := .ref q_t_costs) (C := R_Mo) (T := F_Mo) (N := 22) hx hb hts i_Mo hown hK hP 0 rfl rfl 19 (by decide) (hts _ m_3_147) (fun _ h9 => h9) rfl d_Mo_findJoined_33 ?_
    refine lv_iload_n hx hb d_Mo_findJoined_36 rfl (lv_at hl 2 rfl) ?_
    refine lv_aload_n hx hb d_Mo_findJoined_37 rfl (lv_at hl 0 rfl) ?_
    refine va_get (D := D) (ci := 8) (v := .ref q_t_there) (C := R_Mo) (T := F_Mo) (N := 22) hx hb hts i_Mo hown hK hP 0 rfl rfl 6 (by decide) (hts _ m_3_134) (fun _ h9 => h9) rfl d_Mo_findJoined_38 ?_
    refine lv_iload_n hx hb d_Mo_findJoined_41 rfl (lv_at hl 2 rfl) ?_
    obtain ⟨hg1, hf⟩ := gd_e hf
    refine va_zald hx hb hK hP 1 3 rfl rfl (inb_e hg1) d_Mo_findJoined_42 ?_
    refine lv_if_eq (tgt := 60) hx hb d_Mo_findJoined_43 (by decide) (fun hc3 => ?_) (fun hc3 => ?_)
    · have hf := if_t hc3 hf
      refine lv_iconst (v := -1) hx hb d_Mo_findJoined_60 (by decide) ?_
      obtain ⟨hg2, hf⟩ := gd_e hf
      refine va_iast hx hb hK hP hD hS 3 0 rfl rfl (inb_e hg2) d_Mo_findJoined_61 (fun H locs hP hD hS => ?_)
      have hP : va_P D CL [(q_t, .inr (8, [.int t_nodes, .int t_arcs, .int t_left, .ref q_t_froms, .ref q_t_tos, .ref q_t_weights, .ref q_t_there, .ref q_t_part, .ref q_t_matrix, .ref q_t_row, .ref q_t_low, .int t_swapIn, .int t_swapOut, .ref q_t_own, .ref q_t_chosen, .ref q_t_degrees, .long t_boundedSet, .ref q_t_fixed, .ref q_t_grown, .ref q_t_costs, .ref q_t_order, .long t_joinedSet])), (q_t_there, .inl (cZ, 30, .inl t_there)), (q_t_weights, .inl (cI, 30, .inl t_weights)), (q_t_costs, .inl (cI, 30, .inl (upd t_costs v2.toNatClampNeg (-1 : Int32)))), (q_t_order, .inl (cI, 30, .inl t_order)), (q_t_part, .inl (cI, 10, .inl t_part)), (q_t_froms, .inl (cI, 30, .inl t_froms)), (q_t_tos, .inl (cI, 30, .inl t_tos))] H := hP
      have hD : va_D A [(q_t, .inr (8, [.int t_nodes, .int t_arcs, .int t_left, .ref q_t_froms, .ref q_t_tos, .ref q_t_weights, .ref q_t_there, .ref q_t_part, .ref q_t_matrix, .ref q_t_row, .ref q_t_low, .int t_swapIn, .int t_swapOut, .ref q_t_own, .ref q_t_chosen, .ref q_t_degrees, .long t_boundedSet, .ref q_t_fixed, .ref q_t_grown, .ref q_t_costs, .ref q_t_order, .long t_joinedSet])), (q_t_there, .inl (cZ, 30, .inl t_there)), (q_t_weights, .inl (cI, 30, .inl t_weights)), (q_t_costs, .inl (cI, 30, .inl (upd t_costs v2.toNatClampNeg (-1 : Int32)))), (q_t_order, .inl (cI, 30, .inl t_order)), (q_t_part, .inl (cI, 10, .inl t_part)), (q_t_froms, .inl (cI, 30, .inl t_froms)), (q_t_tos, .inl (cI, 30, .inl t_tos))] := hD
      obtain ⟨x4, ex4⟩ : ∃ y : Int32, y = v2 + (1 : Int32) := ⟨_, rfl⟩
      have hf := bn_e ex4 hf
      refine lv_iinc (v := x4) (lv' := [(2, .int x4), (0, .ref q_t), (1, .int p1)]) hx hb d_Mo_findJoined_62 hl (k := 2) rfl (by rw [ex4]; rfl) (by decide) rfl (fun ls hl => ?_)
      refine lv_goto (tgt := 24) hx hb d_Mo_findJoined_65 (by decide) ?_
      exact hk24 x4 (upd t_costs v2.toNatClampNeg (-1 : Int32)) t_order t_part t_joinedSet _ _ _ hP hD hS (lv_sub hl [1, 2, 0] rfl) hf
    · have hf := if_f hc3 hf
      refine lv_bipush (v := 64) hx hb d_Mo_findJoined_46 (by decide) ?_
      refine lv_aload_n hx hb d_Mo_findJoined_48 rfl (lv_at hl 0 rfl) ?_
      refine va_get (D := D) (ci := 8) (v := .ref q_t_weights) (C := R_Mo) (T := F_Mo) (N := 22) hx hb hts i_Mo hown hK hP 0 rfl rfl 5 (by decide) (hts _ m_3_133) (fun _ h9 => h9) rfl d_Mo_findJoined_49 ?_
      refine lv_iload_n hx hb d_Mo_findJoined_52 rfl (lv_at hl 2 rfl) ?_
      obtain ⟨hg3, hf⟩ := gd_e hf
      refine va_iald hx hb hK hP 2 0 rfl rfl (inb_e hg3) d_Mo_findJoined_53 ?_
      refine lv_imul hx hb d_Mo_findJoined_54 ?_
      refine lv_iconst (v := 1) hx hb d_Mo_findJoined_55 (by decide) ?_
      refine lv_iadd hx hb d_Mo_findJoined_56 ?_
      refine lv_goto (tgt := 61) hx hb d_Mo_findJoined_57 (by decide) ?_
      obtain ⟨hg4, hf⟩ := gd_e hf
      refine va_iast hx hb hK hP hD hS 3 0 rfl rfl (inb_e hg4) d_Mo_findJoined_61 (fun H locs hP hD hS => ?_)
      have hP : va_P D CL [(q_t, .inr (8, [.int t_nodes, .int t_arcs, .int t_left, .ref q_t_froms, .ref q_t_tos, .ref q_t_weights, .ref q_t_there, .ref q_t_part, .ref q_t_matrix, .ref q_t_row, .ref q_t_low, .int t_swapIn, .int t_swapOut, .ref q_t_own, .ref q_t_chosen, .ref q_t_degrees, .long t_boundedSet, .ref q_t_fixed, .ref q_t_grown, .ref q_t_costs, .ref q_t_order, .long t_joinedSet])), (q_t_there, .inl (cZ, 30, .inl t_there)), (q_t_weights, .inl (cI, 30, .inl t_weights)), (q_t_costs, .inl (cI, 30, .inl (upd t_costs v2.toNatClampNeg (((64 : Int32) * (t_weights v2.toNatClampNeg)) + (1 : Int32))))), (q_t_order, .inl (cI, 30, .inl t_order)), (q_t_part, .inl (cI, 10, .inl t_part)), (q_t_froms, .inl (cI, 30, .inl t_froms)), (q_t_tos, .inl (cI, 30, .inl t_tos))] H := hP
      have hD : va_D A [(q_t, .inr (8, [.int t_nodes, .int t_arcs, .int t_left, .ref q_t_froms, .ref q_t_tos, .ref q_t_weights, .ref q_t_there, .ref q_t_part, .ref q_t_matrix, .ref q_t_row, .ref q_t_low, .int t_swapIn, .int t_swapOut, .ref q_t_own, .ref q_t_chosen, .ref q_t_degrees, .long t_boundedSet, .ref q_t_fixed, .ref q_t_grown, .ref q_t_costs, .ref q_t_order, .long t_joinedSet])), (q_t_there, .inl (cZ, 30, .inl t_there)), (q_t_weights, .inl (cI, 30, .inl t_weights)), (q_t_costs, .inl (cI, 30, .inl (upd t_costs v2.toNatClampNeg (((64 : Int32) * (t_weights v2.toNatClampNeg)) + (1 : Int32))))), (q_t_order, .inl (cI, 30, .inl t_order)), (q_t_part, .inl (cI, 10, .inl t_part)), (q_t_froms, .inl (cI, 30, .inl t_froms)), (q_t_tos, .inl (cI, 30, .inl t_tos))] := hD
      obtain ⟨x5, ex5⟩ : ∃ y : Int32, y = v2 + (1 : Int32) := ⟨_, rfl⟩
      have hf := bn_e ex5 hf
      refine lv_iinc (v := x5) (lv' := [(2, .int x5), (0, .ref q_t), (1, .int p1)]) hx hb d_Mo_findJoined_62 hl (k := 2) rfl (by rw [ex5]; rfl) (by decide) rfl (fun ls hl => ?_)
      refine lv_goto (tgt := 24) hx hb d_Mo_findJoined_65 (by decide) ?_
      exact hk24 x5 (upd t_costs v2.toNatClampNeg (((64 : Int32) * (t_weights v2.toNatClampNeg)) + (1 : Int32))) t_order t_part t_joinedSet _ _ _ hP hD hS (lv_sub hl [1, 2, 0] rfl) hf
set_option maxRecDepth 100000 in
set_option maxHeartbeats 4000000 in
theorem w_Mo_findJoined_24_l {p : Program} {l : Launch} {e : Env} {R : Room} {s : State} {m : MethodId} {args : Array Value} {below : List Frame} {meth : Method} {c : Code} {D : va_G} {cI cJ cG cZ : ClassId} {A : Nat → Prop} {Q : State → Prop} {q_t q_t_froms q_t_tos q_t_weights q_t_there q_t_part q_t_matrix q_t_row q_t_low q_t_own q_t_chosen q_t_degrees q_t_fixed q_t_grown q_t_costs q_t_order : Nat} {t_nodes : Int32} {t_arcs : Int32} {t_left : Int32} {t_swapIn : Int32} {t_swapOut : Int32} {t_boundedSet : Int64} {t_there : Nat → Int32} {t_weights : Nat → Int32} {t_froms : Nat → Int32} {t_tos : Nat → Int32} {p1 : Int32} {N : Nat} {RR : Int32 × (Nat → Int32) × (Nat → Int32) × (Nat → Int32) × Int64} (C0 : CX p R s m args meth c b_Mo_findJoined 8 R_Mo lw_g D CL (TYs cI cJ cG cZ) A 2 54) (hret : ∀ (pc : Nat) (ls : Array Slot) (H : Heap) (locs : List Loc) (v : Int32) (t_costs : Nat → Int32) (t_order : Nat → Int32) (t_part : Nat → Int32) (t_joinedSet : Int64), decode b_Mo_findJoined pc = .ok (.ireturn, 1) → va_P D CL [(q_t, .inr (8, [.int t_nodes, .int t_arcs, .int t_left, .ref q_t_froms, .ref q_t_tos, .ref q_t_weights, .ref q_t_there, .ref q_t_part, .ref q_t_matrix, .ref q_t_row, .ref q_t_low, .int t_swapIn, .int t_swapOut, .ref q_t_own, .ref q_t_chosen, .ref q_t_degrees, .long t_boundedSet, .ref q_t_fixed, .ref q_t_grown, .ref q_t_costs, .ref q_t_order, .long t_joinedSet])), (q_t_there, .inl (cZ, 30, .inl t_there)), (q_t_weights, .inl (cI, 30, .inl t_weights)), (q_t_costs, .inl (cI, 30, .inl t_costs)), (q_t_order, .inl (cI, 30, .inl t_order)), (q_t_part, .inl (cI, 10, .inl t_part)), (q_t_froms, .inl (cI, 30, .inl t_froms)), (q_t_tos, .inl (cI, 30, .inl t_tos))] H → va_D A [(q_t, .inr (8, [.int t_nodes, .int t_arcs, .int t_left, .ref q_t_froms, .ref q_t_tos, .ref q_t_weights, .ref q_t_there, .ref q_t_part, .ref q_t_matrix, .ref q_t_row, .ref q_t_low, .int t_swapIn, .int t_swapOut, .ref q_t_own, .ref q_t_chosen, .ref q_t_degrees, .long t_boundedSet, .ref q_t_fixed, .ref q_t_grown, .ref q_t_costs, .ref q_t_order, .long t_joinedSet])), (q_t_there, .inl (cZ, 30, .inl t_there)), (q_t_weights, .inl (cI, 30, .inl t_weights)), (q_t_costs, .inl (cI, 30, .inl t_costs)), (q_t_order, .inl (cI, 30, .inl t_order)), (q_t_part, .inl (cI, 10, .inl t_part)), (q_t_froms, .inl (cI, 30, .inl t_froms)), (q_t_tos, .inl (cI, 30, .inl t_tos))] → va_S A s.heap H locs → some (v, t_costs, t_order, t_part, t_joinedSet) = some RR → W p l e R s m args below meth c H locs 0 0 Q (F0 m pc ls [.int v]))  : ∀ (n : Nat) (v2 : Int32) (t_costs : Nat → Int32) (t_order : Nat → Int32) (t_part : Nat → Int32) (t_joinedSet : Int64) (H : Heap) (locs : List Loc) (ls : Array Slot), va_P D CL [(q_t, .inr (8, [.int t_nodes, .int t_arcs, .int t_left, .ref q_t_froms, .ref q_t_tos, .ref q_t_weights, .ref q_t_there, .ref q_t_part, .ref q_t_matrix, .ref q_t_row, .ref q_t_low, .int t_swapIn, .int t_swapOut, .ref q_t_own, .ref q_t_chosen, .ref q_t_degrees, .long t_boundedSet, .ref q_t_fixed, .ref q_t_grown, .ref q_t_costs, .ref q_t_order, .long t_joinedSet])), (q_t_there, .inl (cZ, 30, .inl t_there)), (q_t_weights, .inl (cI, 30, .inl t_weights)), (q_t_costs, .inl (cI, 30, .inl t_costs)), (q_t_order, .inl (cI, 30, .inl t_order)), (q_t_part, .inl (cI, 10, .inl t_part)), (q_t_froms, .inl (cI, 30, .inl t_froms)), (q_t_tos, .inl (cI, 30, .inl t_tos))] H → va_D A [(q_t, .inr (8, [.int t_nodes, .int t_arcs, .int t_left, .ref q_t_froms, .ref q_t_tos, .ref q_t_weights, .ref q_t_there, .ref q_t_part, .ref q_t_matrix, .ref q_t_row, .ref q_t_low, .int t_swapIn, .int t_swapOut, .ref q_t_own, .ref q_t_chosen, .ref q_t_degrees, .long t_boundedSet, .ref q_t_fixed, .ref q_t_grown, .ref q_t_costs, .ref q_t_order, .long t_joinedSet])), (q_t_there, .inl (cZ, 30, .inl t_there)), (q_t_weights, .inl (cI, 30, .inl t_weights)), (q_t_costs, .inl (cI, 30, .inl t_costs)), (q_t_order, .inl (cI, 30, .inl t_order)), (q_t_part, .inl (cI, 10, .inl t_part)), (q_t_froms, .inl (cI, 30, .inl t_froms)), (q_t_tos, .inl (cI, 30, .inl t_tos))] → va_S A s.heap H locs → lv_has ls 8 [(0, .ref q_t), (1, .int p1), (2, .int v2)] → lo5 (g_Mo_findJoined_24 N p1 t_nodes t_arcs t_there t_weights t_froms t_tos) n v2 t_costs t_order t_part t_joinedSet = some RR → W p l e R s m args below meth c H locs 0 0 Q (F0 m 24 ls []) := by
  intro n
  induction n with
  | zero =>
    intro v2 t_costs t_order t_part t_joinedSet H locs ls hP hD hS hl hf
    exact absurd hf (by simp [lo5])
  | succ n ih =>
    intro v2 t_costs t_order t_part t_joinedSet H locs ls hP hD hS hl hf
    exact w_Mo_findJoined_24 C0 hret  (lo5 (g_Mo_findJoined_24 N p1 t_nodes t_arcs t_there t_weights t_froms t_tos) n) ih v2 t_costs t_order t_part t_joinedSet H locs ls hP hD hS hl hf
set_option maxRecDepth 100000 in
set_option maxHeartbeats 4000000 in
theorem w_Mo_findJoined_e {p : Program} {l : Launch} {e : Env} {R : Room} {s : State} {m : MethodId} {args : Array Value} {below : List Frame} {meth : Method} {c : Code} {D : va_G} {cI cJ cG cZ : ClassId} {A : Nat → Prop} {Q : State → Prop} {q_t q_t_froms q_t_tos q_t_weights q_t_there q_t_part q_t_matrix q_t_row q_t_low q_t_own q_t_chosen q_t_degrees q_t_fixed q_t_grown q_t_costs q_t_order : Nat} {t_nodes : Int32} {t_arcs : Int32} {t_left : Int32} {t_swapIn : Int32} {t_swapOut : Int32} {t_boundedSet : Int64} {t_joinedSet0 : Int64} {t_there : Nat → Int32} {t_weights : Nat → Int32} {t_costs0 : Nat → Int32} {t_order0 : Nat → Int32} {t_part0 : Nat → Int32} {t_froms : Nat → Int32} {t_tos : Nat → Int32} {p1 : Int32} {N : Nat} {RR : Int32 × (Nat → Int32) × (Nat → Int32) × (Nat → Int32) × Int64} (C0 : CX p R s m args meth c b_Mo_findJoined 8 R_Mo lw_g D CL (TYs cI cJ cG cZ) A 2 54) (hret : ∀ (pc : Nat) (ls : Array Slot) (H : Heap) (locs : List Loc) (v : Int32) (t_costs : Nat → Int32) (t_order : Nat → Int32) (t_part : Nat → Int32) (t_joinedSet : Int64), decode b_Mo_findJoined pc = .ok (.ireturn, 1) → va_P D CL [(q_t, .inr (8, [.int t_nodes, .int t_arcs, .int t_left, .ref q_t_froms, .ref q_t_tos, .ref q_t_weights, .ref q_t_there, .ref q_t_part, .ref q_t_matrix, .ref q_t_row, .ref q_t_low, .int t_swapIn, .int t_swapOut, .ref q_t_own, .ref q_t_chosen, .ref q_t_degrees, .long t_boundedSet, .ref q_t_fixed, .ref q_t_grown, .ref q_t_costs, .ref q_t_order, .long t_joinedSet])), (q_t_there, .inl (cZ, 30, .inl t_there)), (q_t_weights, .inl (cI, 30, .inl t_weights)), (q_t_costs, .inl (cI, 30, .inl t_costs)), (q_t_order, .inl (cI, 30, .inl t_order)), (q_t_part, .inl (cI, 10, .inl t_part)), (q_t_froms, .inl (cI, 30, .inl t_froms)), (q_t_tos, .inl (cI, 30, .inl t_tos))] H → va_D A [(q_t, .inr (8, [.int t_nodes, .int t_arcs, .int t_left, .ref q_t_froms, .ref q_t_tos, .ref q_t_weights, .ref q_t_there, .ref q_t_part, .ref q_t_matrix, .ref q_t_row, .ref q_t_low, .int t_swapIn, .int t_swapOut, .ref q_t_own, .ref q_t_chosen, .ref q_t_degrees, .long t_boundedSet, .ref q_t_fixed, .ref q_t_grown, .ref q_t_costs, .ref q_t_order, .long t_joinedSet])), (q_t_there, .inl (cZ, 30, .inl t_there)), (q_t_weights, .inl (cI, 30, .inl t_weights)), (q_t_costs, .inl (cI, 30, .inl t_costs)), (q_t_order, .inl (cI, 30, .inl t_order)), (q_t_part, .inl (cI, 10, .inl t_part)), (q_t_froms, .inl (cI, 30, .inl t_froms)), (q_t_tos, .inl (cI, 30, .inl t_tos))] → va_S A s.heap H locs → some (v, t_costs, t_order, t_part, t_joinedSet) = some RR → W p l e R s m args below meth c H locs 0 0 Q (F0 m pc ls [.int v])) : ∀ (H : Heap) (locs : List Loc) (ls : Array Slot), va_P D CL [(q_t, .inr (8, [.int t_nodes, .int t_arcs, .int t_left, .ref q_t_froms, .ref q_t_tos, .ref q_t_weights, .ref q_t_there, .ref q_t_part, .ref q_t_matrix, .ref q_t_row, .ref q_t_low, .int t_swapIn, .int t_swapOut, .ref q_t_own, .ref q_t_chosen, .ref q_t_degrees, .long t_boundedSet, .ref q_t_fixed, .ref q_t_grown, .ref q_t_costs, .ref q_t_order, .long t_joinedSet0])), (q_t_there, .inl (cZ, 30, .inl t_there)), (q_t_weights, .inl (cI, 30, .inl t_weights)), (q_t_costs, .inl (cI, 30, .inl t_costs0)), (q_t_order, .inl (cI, 30, .inl t_order0)), (q_t_part, .inl (cI, 10, .inl t_part0)), (q_t_froms, .inl (cI, 30, .inl t_froms)), (q_t_tos, .inl (cI, 30, .inl t_tos))] H → va_D A [(q_t, .inr (8, [.int t_nodes, .int t_arcs, .int t_left, .ref q_t_froms, .ref q_t_tos, .ref q_t_weights, .ref q_t_there, .ref q_t_part, .ref q_t_matrix, .ref q_t_row, .ref q_t_low, .int t_swapIn, .int t_swapOut, .ref q_t_own, .ref q_t_chosen, .ref q_t_degrees, .long t_boundedSet, .ref q_t_fixed, .ref q_t_grown, .ref q_t_costs, .ref q_t_order, .long t_joinedSet0])), (q_t_there, .inl (cZ, 30, .inl t_there)), (q_t_weights, .inl (cI, 30, .inl t_weights)), (q_t_costs, .inl (cI, 30, .inl t_costs0)), (q_t_order, .inl (cI, 30, .inl t_order0)), (q_t_part, .inl (cI, 10, .inl t_part0)), (q_t_froms, .inl (cI, 30, .inl t_froms)), (q_t_tos, .inl (cI, 30, .inl t_tos))] → va_S A s.heap H locs → lv_has ls 8 [(0, .ref q_t), (1, .int p1)] → f_Mo_findJoined N p1 t_nodes t_arcs t_joinedSet0 t_there t_weights t_costs0 t_order0 t_part0 t_froms t_tos = some RR → W p l e R s m args below meth c H locs 0 0 Q (F0 m 0 ls []) := by
  intro H locs ls hP hD hS hl hf
  obtain ⟨hx, hb, hml, hown, hts, hK, hA, hfr, hlo, hlk⟩ := id C0
  unfold f_Mo_findJoined at hf
  refine lv_iload_n hx hb d_Mo_findJoined_0 rfl (lv_at hl 1 rfl) ?_
  refine lv_if_eq (tgt := 19) hx hb d_Mo_findJoined_1 (by decide) (fun hc1 => ?_) (fun hc1 => ?_)
  · have hf := if_t hc1 hf
    refine lv_bipush (v := -2) hx hb d_Mo_findJoined_19 (by decide) ?_
    exact hret 21 _ _ _ (-2 : Int32) t_costs0 t_order0 t_part0 t_joinedSet0 d_Mo_findJoined_21 hP hD hS hf
  · have hf := if_f hc1 hf
    refine lv_iload_n hx hb d_Mo_findJoined_4 rfl (lv_at hl 1 rfl) ?_
    refine lv_iconst (v := 1) hx hb d_Mo_findJoined_5 (by decide) ?_
    refine lv_aload_n hx hb d_Mo_findJoined_6 rfl (lv_at hl 0 rfl) ?_
    refine va_get (D := D) (ci := 8) (v := .int t_nodes) (C := R_Mo) (T := F_Mo) (N := 22) hx hb hts i_Mo hown hK hP 0 rfl rfl 0 (by decide) (hts _ m_3_128) (fun _ h9 => h9) rfl d_Mo_findJoined_7 ?_
    refine lv_ishl hx hb d_Mo_findJoined_10 ?_
    refine lv_iconst (v := 1) hx hb d_Mo_findJoined_11 (by decide) ?_
    refine lv_isub hx hb d_Mo_findJoined_12 ?_
    refine lv_iconst (v := -1) hx hb d_Mo_findJoined_13 (by decide) ?_
    refine lv_ixor hx hb d_Mo_findJoined_14 ?_
    refine lv_iand hx hb d_Mo_findJoined_15 ?_
    refine lv_if_eq (tgt := 22) hx hb d_Mo_findJoined_16 (by decide) (fun hc2 => ?_) (fun hc2 => ?_)
    · have hf := if_t hc2 hf
      refine lv_iconst (v := 0) hx hb d_Mo_findJoined_22 (by decide) ?_
      refine lv_istore_n (lv' := [(2, .int (0 : Int32)), (0, .ref q_t), (1, .int p1)]) hx hb d_Mo_findJoined_23 rfl hl (by decide) rfl (fun ls hl => ?_)
      exact w_Mo_findJoined_24_l C0 hret N (0 : Int32) t_costs0 t_order0 t_part0 t_joinedSet0 _ _ _ hP hD hS (lv_sub hl [1, 2, 0] rfl) hf
    · have hf := if_f hc2 hf
      refine lv_bipush (v := -2) hx hb d_Mo_findJoined_19 (by decide) ?_
      exact hret 21 _ _ _ (-2 : Int32) t_costs0 t_order0 t_part0 t_joinedSet0 d_Mo_findJoined_21 hP hD hS hf
set_option maxRecDepth 100000 in
set_option maxHeartbeats 4000000 in
theorem c_Mo_findJoined (l : Launch) (D : va_G) (cI cJ cG cZ : ClassId) (q_t q_t_froms q_t_tos q_t_weights q_t_there q_t_part q_t_matrix q_t_row q_t_low q_t_own q_t_chosen q_t_degrees q_t_fixed q_t_grown q_t_costs q_t_order : Nat) (t_nodes : Int32) (t_arcs : Int32) (t_left : Int32) (t_swapIn : Int32) (t_swapOut : Int32) (t_boundedSet : Int64) (t_joinedSet0 : Int64) (t_there : Nat → Int32) (t_weights : Nat → Int32) (t_costs0 : Nat → Int32) (t_order0 : Nat → Int32) (t_part0 : Nat → Int32) (t_froms : Nat → Int32) (t_tos : Nat → Int32) (p1 : Int32) {N : Nat} {r : Int32} {t_costs' : Nat → Int32} {t_order' : Nat → Int32} {t_part' : Nat → Int32} {t_joinedSet' : Int64} (hf : f_Mo_findJoined N p1 t_nodes t_arcs t_joinedSet0 t_there t_weights t_costs0 t_order0 t_part0 t_froms t_tos = some (r, t_costs', t_order', t_part', t_joinedSet')) : MeG l D CL (TYs cI cJ cG cZ) y_Mo_findJoined ws_Mo_findJoined (rm_Mo_findJoined) [.ref q_t, .int p1] [(q_t, .inr (8, [.int t_nodes, .int t_arcs, .int t_left, .ref q_t_froms, .ref q_t_tos, .ref q_t_weights, .ref q_t_there, .ref q_t_part, .ref q_t_matrix, .ref q_t_row, .ref q_t_low, .int t_swapIn, .int t_swapOut, .ref q_t_own, .ref q_t_chosen, .ref q_t_degrees, .long t_boundedSet, .ref q_t_fixed, .ref q_t_grown, .ref q_t_costs, .ref q_t_order, .long t_joinedSet0])), (q_t_there, .inl (cZ, 30, .inl t_there)), (q_t_weights, .inl (cI, 30, .inl t_weights)), (q_t_costs, .inl (cI, 30, .inl t_costs0)), (q_t_order, .inl (cI, 30, .inl t_order0)), (q_t_part, .inl (cI, 10, .inl t_part0)), (q_t_froms, .inl (cI, 30, .inl t_froms)), (q_t_tos, .inl (cI, 30, .inl t_tos))] (some (.int r)) [(q_t, .inr (8, [.int t_nodes, .int t_arcs, .int t_left, .ref q_t_froms, .ref q_t_tos, .ref q_t_weights, .ref q_t_there, .ref q_t_part, .ref q_t_matrix, .ref q_t_row, .ref q_t_low, .int t_swapIn, .int t_swapOut, .ref q_t_own, .ref q_t_chosen, .ref q_t_degrees, .long t_boundedSet, .ref q_t_fixed, .ref q_t_grown, .ref q_t_costs, .ref q_t_order, .long t_joinedSet'])), (q_t_there, .inl (cZ, 30, .inl t_there)), (q_t_weights, .inl (cI, 30, .inl t_weights)), (q_t_costs, .inl (cI, 30, .inl t_costs')), (q_t_order, .inl (cI, 30, .inl t_order')), (q_t_part, .inl (cI, 10, .inl t_part')), (q_t_froms, .inl (cI, 30, .inl t_froms)), (q_t_tos, .inl (cI, 30, .inl t_tos))] := by
  intro sz
  refine Met.ofW (cc := b_Mo_findJoined) (maxL := 8) (ret := (some .int)) (by decide) rfl ?_
  intro p e s m args below meth c s₁ B hml hv
  obtain ⟨rfl, hsz, hP, hK, hD0⟩ := hv
  subst hsz
  have hD := hD0.self (sz := s.heap.size)
  generalize hAe : va_A [(q_t, .inr (8, [.int t_nodes, .int t_arcs, .int t_left, .ref q_t_froms, .ref q_t_tos, .ref q_t_weights, .ref q_t_there, .ref q_t_part, .ref q_t_matrix, .ref q_t_row, .ref q_t_low, .int t_swapIn, .int t_swapOut, .ref q_t_own, .ref q_t_chosen, .ref q_t_degrees, .long t_boundedSet, .ref q_t_fixed, .ref q_t_grown, .ref q_t_costs, .ref q_t_order, .long t_joinedSet0])), (q_t_there, .inl (cZ, 30, .inl t_there)), (q_t_weights, .inl (cI, 30, .inl t_weights)), (q_t_costs, .inl (cI, 30, .inl t_costs0)), (q_t_order, .inl (cI, 30, .inl t_order0)), (q_t_part, .inl (cI, 10, .inl t_part0)), (q_t_froms, .inl (cI, 30, .inl t_froms)), (q_t_tos, .inl (cI, 30, .inl t_tos))] s.heap.size = A at hD ⊢
  have C0 : CX p (headSpec ws_Mo_findJoined (rm_Mo_findJoined)).room s m _ meth c b_Mo_findJoined 8 R_Mo lw_g D CL (TYs cI cJ cG cZ) A 2 54 := ⟨B.exec, B.bytes, hml, findClass_of_methodNamed B.named, fun w h => atoms_spec (ws := ws_Mo_findJoined) B.pre w (List.mem_cons_of_mem _ h), hK, fun q h => by rw [← hAe]; exact Or.inr h, Nat.le_of_ble_eq_true rfl, Nat.le_of_ble_eq_true rfl, B.notSynchronized⟩
  have hl := lv_entry ([.ref q_t, .int p1]) (n := 8) (Nat.le_of_ble_eq_true rfl)
  rw [lg_entry_eq]
  generalize (lg_sl ([.ref q_t, .int p1]) ++ List.replicate (8 - (lg_sl ([.ref q_t, .int p1])).length) Slot.unset).toArray = ls at hl ⊢
  have hl : lv_has ls 8 [(0, .ref q_t), (1, .int p1)] := hl
  exact w_Mo_findJoined_e C0 (fun pc ls H locs v t_costs t_order t_part t_joinedSet hdg hP hD hS e => by cases e; exact W.iret B.exec B.bytes B.returns (fun t ht hW => ⟨⟨rfl, by rw [ht]; exact hP, va_K.moved hW.alike hK, hD⟩, hS.F ht⟩) hS.2.2 hdg) _ _ _ hP hD va_S.rf (lv_sub hl [0, 1] rfl) hf
