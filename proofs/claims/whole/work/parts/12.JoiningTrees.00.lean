abbrev b_JoiningTrees_treeCost : ByteArray := prog_6_method_3_code
def y_JoiningTrees_treeCost : MethodName := ⟨R_JoiningTrees, "treeCost", "(IJ)J"⟩
def ws_JoiningTrees_treeCost : List Cond := .code y_JoiningTrees_treeCost b_JoiningTrees_treeCost 11 (some .long) :: lw_g
theorem wi_JoiningTrees_treeCost : ∀ w ∈ ws_JoiningTrees_treeCost, w ∈ lw_g := wi_of m_3_107
abbrev rm_JoiningTrees_treeCost : Room := { frames := 2, cells := 0, slots := 0, locals := 85 }
theorem hd_JoiningTrees_treeCost : y_JoiningTrees_treeCost.cls = R_JoiningTrees ∧ y_JoiningTrees_treeCost.cls ≠ "java/lang/invoke/MethodHandle" ∧ y_JoiningTrees_treeCost.cls ≠ "java/lang/invoke/VarHandle" ∧ (parseMethodDescriptor y_JoiningTrees_treeCost.desc).map (fun d => d.parameters.length) = some 2 := by decide +kernel
theorem d_JoiningTrees_treeCost_0 : decode b_JoiningTrees_treeCost 0 = .ok (.aload_n 0, 1) := by decide +kernel
theorem d_JoiningTrees_treeCost_1 : decode b_JoiningTrees_treeCost 1 = .ok (.getfield 18, 3) := by decide +kernel
theorem d_JoiningTrees_treeCost_4 : decode b_JoiningTrees_treeCost 4 = .ok (.aload_n 0, 1) := by decide +kernel
theorem d_JoiningTrees_treeCost_5 : decode b_JoiningTrees_treeCost 5 = .ok (.getfield 9, 3) := by decide +kernel
theorem d_JoiningTrees_treeCost_8 : decode b_JoiningTrees_treeCost 8 = .ok (.getfield 40, 3) := by decide +kernel
theorem d_JoiningTrees_treeCost_11 : decode b_JoiningTrees_treeCost 11 = .ok (.invokevirtual 44, 3) := by decide +kernel
theorem d_JoiningTrees_treeCost_14 : decode b_JoiningTrees_treeCost 14 = .ok (.iload_n 1, 1) := by decide +kernel
theorem d_JoiningTrees_treeCost_15 : decode b_JoiningTrees_treeCost 15 = .ok (.invokestatic 48, 3) := by decide +kernel
theorem d_JoiningTrees_treeCost_18 : decode b_JoiningTrees_treeCost 18 = .ok (.iconst 1, 1) := by decide +kernel
theorem d_JoiningTrees_treeCost_19 : decode b_JoiningTrees_treeCost 19 = .ok (.isub, 1) := by decide +kernel
theorem d_JoiningTrees_treeCost_20 : decode b_JoiningTrees_treeCost 20 = .ok (.istore 4, 2) := by decide +kernel
theorem d_JoiningTrees_treeCost_22 : decode b_JoiningTrees_treeCost 22 = .ok (.lconst 0, 1) := by decide +kernel
theorem d_JoiningTrees_treeCost_23 : decode b_JoiningTrees_treeCost 23 = .ok (.lstore 5, 2) := by decide +kernel
theorem d_JoiningTrees_treeCost_25 : decode b_JoiningTrees_treeCost 25 = .ok (.iconst 0, 1) := by decide +kernel
theorem d_JoiningTrees_treeCost_26 : decode b_JoiningTrees_treeCost 26 = .ok (.istore 7, 2) := by decide +kernel
theorem d_JoiningTrees_treeCost_28 : decode b_JoiningTrees_treeCost 28 = .ok (.iload 7, 2) := by decide +kernel
theorem d_JoiningTrees_treeCost_30 : decode b_JoiningTrees_treeCost 30 = .ok (.aload_n 0, 1) := by decide +kernel
theorem d_JoiningTrees_treeCost_31 : decode b_JoiningTrees_treeCost 31 = .ok (.getfield 9, 3) := by decide +kernel
theorem d_JoiningTrees_treeCost_34 : decode b_JoiningTrees_treeCost 34 = .ok (.getfield 54, 3) := by decide +kernel
theorem d_JoiningTrees_treeCost_37 : decode b_JoiningTrees_treeCost 37 = .ok (.if_icmp .ge 108, 3) := by decide +kernel
theorem d_JoiningTrees_treeCost_40 : decode b_JoiningTrees_treeCost 40 = .ok (.iload 4, 2) := by decide +kernel
theorem d_JoiningTrees_treeCost_42 : decode b_JoiningTrees_treeCost 42 = .ok (.ifCond .le 103, 3) := by decide +kernel
theorem d_JoiningTrees_treeCost_45 : decode b_JoiningTrees_treeCost 45 = .ok (.lload 5, 2) := by decide +kernel
theorem d_JoiningTrees_treeCost_47 : decode b_JoiningTrees_treeCost 47 = .ok (.lload_n 2, 1) := by decide +kernel
theorem d_JoiningTrees_treeCost_48 : decode b_JoiningTrees_treeCost 48 = .ok (.lcmp, 1) := by decide +kernel
theorem d_JoiningTrees_treeCost_49 : decode b_JoiningTrees_treeCost 49 = .ok (.ifCond .ge 96, 3) := by decide +kernel
theorem d_JoiningTrees_treeCost_52 : decode b_JoiningTrees_treeCost 52 = .ok (.aload_n 0, 1) := by decide +kernel
theorem d_JoiningTrees_treeCost_53 : decode b_JoiningTrees_treeCost 53 = .ok (.getfield 9, 3) := by decide +kernel
theorem d_JoiningTrees_treeCost_56 : decode b_JoiningTrees_treeCost 56 = .ok (.getfield 57, 3) := by decide +kernel
theorem d_JoiningTrees_treeCost_59 : decode b_JoiningTrees_treeCost 59 = .ok (.iload 7, 2) := by decide +kernel
theorem d_JoiningTrees_treeCost_61 : decode b_JoiningTrees_treeCost 61 = .ok (.iaload, 1) := by decide +kernel
theorem d_JoiningTrees_treeCost_62 : decode b_JoiningTrees_treeCost 62 = .ok (.istore 8, 2) := by decide +kernel
theorem d_JoiningTrees_treeCost_64 : decode b_JoiningTrees_treeCost 64 = .ok (.aload_n 0, 1) := by decide +kernel
theorem d_JoiningTrees_treeCost_65 : decode b_JoiningTrees_treeCost 65 = .ok (.getfield 9, 3) := by decide +kernel
theorem d_JoiningTrees_treeCost_68 : decode b_JoiningTrees_treeCost 68 = .ok (.getfield 61, 3) := by decide +kernel
theorem d_JoiningTrees_treeCost_71 : decode b_JoiningTrees_treeCost 71 = .ok (.iload 8, 2) := by decide +kernel
theorem d_JoiningTrees_treeCost_73 : decode b_JoiningTrees_treeCost 73 = .ok (.iaload, 1) := by decide +kernel
theorem d_JoiningTrees_treeCost_74 : decode b_JoiningTrees_treeCost 74 = .ok (.istore 9, 2) := by decide +kernel
theorem d_JoiningTrees_treeCost_76 : decode b_JoiningTrees_treeCost 76 = .ok (.aload_n 0, 1) := by decide +kernel
theorem d_JoiningTrees_treeCost_77 : decode b_JoiningTrees_treeCost 77 = .ok (.getfield 9, 3) := by decide +kernel
theorem d_JoiningTrees_treeCost_80 : decode b_JoiningTrees_treeCost 80 = .ok (.getfield 64, 3) := by decide +kernel
theorem d_JoiningTrees_treeCost_83 : decode b_JoiningTrees_treeCost 83 = .ok (.iload 8, 2) := by decide +kernel
theorem d_JoiningTrees_treeCost_85 : decode b_JoiningTrees_treeCost 85 = .ok (.iaload, 1) := by decide +kernel
theorem d_JoiningTrees_treeCost_86 : decode b_JoiningTrees_treeCost 86 = .ok (.istore 10, 2) := by decide +kernel
theorem d_JoiningTrees_treeCost_88 : decode b_JoiningTrees_treeCost 88 = .ok (.iload_n 1, 1) := by decide +kernel
theorem d_JoiningTrees_treeCost_89 : decode b_JoiningTrees_treeCost 89 = .ok (.iload 9, 2) := by decide +kernel
theorem d_JoiningTrees_treeCost_91 : decode b_JoiningTrees_treeCost 91 = .ok (.ishr, 1) := by decide +kernel
theorem d_JoiningTrees_treeCost_92 : decode b_JoiningTrees_treeCost 92 = .ok (.iload_n 1, 1) := by decide +kernel
theorem d_JoiningTrees_treeCost_93 : decode b_JoiningTrees_treeCost 93 = .ok (.iload 10, 2) := by decide +kernel
theorem d_JoiningTrees_treeCost_95 : decode b_JoiningTrees_treeCost 95 = .ok (.ishr, 1) := by decide +kernel
theorem d_JoiningTrees_treeCost_96 : decode b_JoiningTrees_treeCost 96 = .ok (.iand, 1) := by decide +kernel
theorem d_JoiningTrees_treeCost_97 : decode b_JoiningTrees_treeCost 97 = .ok (.iconst 1, 1) := by decide +kernel
theorem d_JoiningTrees_treeCost_98 : decode b_JoiningTrees_treeCost 98 = .ok (.iand, 1) := by decide +kernel
theorem d_JoiningTrees_treeCost_99 : decode b_JoiningTrees_treeCost 99 = .ok (.ifCond .eq 40, 3) := by decide +kernel
theorem d_JoiningTrees_treeCost_102 : decode b_JoiningTrees_treeCost 102 = .ok (.aload_n 0, 1) := by decide +kernel
theorem d_JoiningTrees_treeCost_103 : decode b_JoiningTrees_treeCost 103 = .ok (.getfield 18, 3) := by decide +kernel
theorem d_JoiningTrees_treeCost_106 : decode b_JoiningTrees_treeCost 106 = .ok (.iload 9, 2) := by decide +kernel
theorem d_JoiningTrees_treeCost_108 : decode b_JoiningTrees_treeCost 108 = .ok (.iload 10, 2) := by decide +kernel
theorem d_JoiningTrees_treeCost_110 : decode b_JoiningTrees_treeCost 110 = .ok (.invokevirtual 67, 3) := by decide +kernel
theorem d_JoiningTrees_treeCost_113 : decode b_JoiningTrees_treeCost 113 = .ok (.ifCond .eq 26, 3) := by decide +kernel
theorem d_JoiningTrees_treeCost_116 : decode b_JoiningTrees_treeCost 116 = .ok (.lload 5, 2) := by decide +kernel
theorem d_JoiningTrees_treeCost_118 : decode b_JoiningTrees_treeCost 118 = .ok (.aload_n 0, 1) := by decide +kernel
theorem d_JoiningTrees_treeCost_119 : decode b_JoiningTrees_treeCost 119 = .ok (.getfield 9, 3) := by decide +kernel
theorem d_JoiningTrees_treeCost_122 : decode b_JoiningTrees_treeCost 122 = .ok (.getfield 71, 3) := by decide +kernel
theorem d_JoiningTrees_treeCost_125 : decode b_JoiningTrees_treeCost 125 = .ok (.iload 8, 2) := by decide +kernel
theorem d_JoiningTrees_treeCost_127 : decode b_JoiningTrees_treeCost 127 = .ok (.iaload, 1) := by decide +kernel
theorem d_JoiningTrees_treeCost_128 : decode b_JoiningTrees_treeCost 128 = .ok (.iload 8, 2) := by decide +kernel
theorem d_JoiningTrees_treeCost_130 : decode b_JoiningTrees_treeCost 130 = .ok (.invokestatic 74, 3) := by decide +kernel
theorem d_JoiningTrees_treeCost_133 : decode b_JoiningTrees_treeCost 133 = .ok (.ladd, 1) := by decide +kernel
theorem d_JoiningTrees_treeCost_134 : decode b_JoiningTrees_treeCost 134 = .ok (.lstore 5, 2) := by decide +kernel
theorem d_JoiningTrees_treeCost_136 : decode b_JoiningTrees_treeCost 136 = .ok (.iinc 4 (-1), 3) := by decide +kernel
theorem d_JoiningTrees_treeCost_139 : decode b_JoiningTrees_treeCost 139 = .ok (.iinc 7 1, 3) := by decide +kernel
theorem d_JoiningTrees_treeCost_142 : decode b_JoiningTrees_treeCost 142 = .ok (.goto (-114), 3) := by decide +kernel
theorem d_JoiningTrees_treeCost_145 : decode b_JoiningTrees_treeCost 145 = .ok (.iload 4, 2) := by decide +kernel
theorem d_JoiningTrees_treeCost_147 : decode b_JoiningTrees_treeCost 147 = .ok (.ifCond .ne 8, 3) := by decide +kernel
theorem d_JoiningTrees_treeCost_150 : decode b_JoiningTrees_treeCost 150 = .ok (.lload 5, 2) := by decide +kernel
theorem d_JoiningTrees_treeCost_152 : decode b_JoiningTrees_treeCost 152 = .ok (.goto 6, 3) := by decide +kernel
theorem d_JoiningTrees_treeCost_155 : decode b_JoiningTrees_treeCost 155 = .ok (.ldc2_w 22, 3) := by decide +kernel
theorem d_JoiningTrees_treeCost_158 : decode b_JoiningTrees_treeCost 158 = .ok (.lreturn, 1) := by decide +kernel
def g_JoiningTrees_treeCost_145 (v4 : Int32) (v5 : Int64) (t_labels_nodes : Int32) (t_labels_groups : Int32) (t_labels_label : Nat → Int32) : Option (Int64 × Int32 × Int32 × (Nat → Int32)) :=
  if v4 = 0 then
    some (v5, t_labels_nodes, t_labels_groups, t_labels_label)
  else
    some ((1152921504606846976 : Int64), t_labels_nodes, t_labels_groups, t_labels_label)
def g_JoiningTrees_treeCost_28 (N : Nat) (p1 : Int32) (p2 : Int64) (t_graph_size : Int32) (t_graph_order : Nat → Int32) (t_graph_from : Nat → Int32) (t_graph_to : Nat → Int32) (t_graph_weight : Nat → Int32) (k28 : Int32 → Int64 → Int32 → Int32 → Int32 → (Nat → Int32) → Option (Int64 × Int32 × Int32 × (Nat → Int32))) (v4 : Int32) (v5 : Int64) (v7 : Int32) (t_labels_nodes : Int32) (t_labels_groups : Int32) (t_labels_label : Nat → Int32) : Option (Int64 × Int32 × Int32 × (Nat → Int32)) :=
  if t_graph_size ≤ v7 then
    g_JoiningTrees_treeCost_145 v4 v5 t_labels_nodes t_labels_groups t_labels_label
  else
    if v4 ≤ 0 then
      g_JoiningTrees_treeCost_145 v4 v5 t_labels_nodes t_labels_groups t_labels_label
    else
      if 0 ≤ (lg_cmp v5 p2) then
        g_JoiningTrees_treeCost_145 v4 v5 t_labels_nodes t_labels_groups t_labels_label
      else
        gd (inb v7 30) <|
        bn (t_graph_order v7.toNatClampNeg) fun x1 =>
        gd (inb x1 30) <|
        bn (t_graph_from x1.toNatClampNeg) fun x2 =>
        gd (inb x1 30) <|
        bn (t_graph_to x1.toNatClampNeg) fun x3 =>
        if (((p1 >>> (x2 &&& 31)) &&& (p1 >>> (x3 &&& 31))) &&& (1 : Int32)) = 0 then
          bn (v7 + (1 : Int32)) fun x4 =>
          k28 v4 v5 x4 t_labels_nodes t_labels_groups t_labels_label
        else
          bk3 (f_Labels_unite N x2 x3 t_labels_nodes t_labels_groups t_labels_label) fun r5 c6 c7 =>
          if r5 = 0 then
            bn (v7 + (1 : Int32)) fun x8 =>
            k28 v4 v5 x8 t_labels_nodes c7 c6
          else
            gd (inb x1 30) <|
            bk1 (f_Cost_of (t_graph_weight x1.toNatClampNeg) x1) fun r9 =>
            bn (v5 + r9) fun x10 =>
            bn (v4 + (-1 : Int32)) fun x11 =>
            bn (v7 + (1 : Int32)) fun x12 =>
            k28 x11 x10 x12 t_labels_nodes c7 c6
def f_JoiningTrees_treeCost (N : Nat) (p1 : Int32) (p2 : Int64) (t_graph_nodes : Int32) (t_graph_size : Int32) (t_labels_label0 : Nat → Int32) (t_graph_order : Nat → Int32) (t_graph_from : Nat → Int32) (t_graph_to : Nat → Int32) (t_graph_weight : Nat → Int32) : Option (Int64 × Int32 × Int32 × (Nat → Int32)) :=
  bk3 (f_Labels_separate N t_graph_nodes t_labels_label0) fun c1 c2 c3 =>
  bk1 (f_Int_bitCount p1) fun r4 =>
  bn (r4 - (1 : Int32)) fun x5 =>
  lo6 (g_JoiningTrees_treeCost_28 N p1 p2 t_graph_size t_graph_order t_graph_from t_graph_to t_graph_weight) N x5 (0 : Int64) (0 : Int32) c1 c2 c3
set_option maxRecDepth 100000 in
set_option maxHeartbeats 4000000 in
theorem w_JoiningTrees_treeCost_145 {p : Program} {l : Launch} {e : Env} {R : Room} {s : State} {m : MethodId} {args : Array Value} {below : List Frame} {meth : Method} {c : Code} {D : va_G} {cI cJ cG cZ : ClassId} {A : Nat → Prop} {Q : State → Prop} {q_t q_t_graph q_t_labels q_t_graph_from q_t_graph_to q_t_graph_weight q_t_graph_order q_t_labels_label : Nat} {t_graph_nodes : Int32} {t_graph_numbered : Int32} {t_graph_size : Int32} {t_graph_present : Int64} {t_graph_order : Nat → Int32} {t_graph_from : Nat → Int32} {t_graph_to : Nat → Int32} {t_graph_weight : Nat → Int32} {RR : Int64 × Int32 × Int32 × (Nat → Int32)} (C0 : CX p R s m args meth c b_JoiningTrees_treeCost 11 R_JoiningTrees lw_g D CL (TYs cI cJ cG cZ) A 2 85) (hret : ∀ (pc : Nat) (ls : Array Slot) (H : Heap) (locs : List Loc) (v : Int64) (t_labels_nodes : Int32) (t_labels_groups : Int32) (t_labels_label : Nat → Int32), decode b_JoiningTrees_treeCost pc = .ok (.lreturn, 1) → va_P D CL [(q_t, .inr (3, [.ref q_t_graph, .ref q_t_labels])), (q_t_graph, .inr (2, [.ref q_t_graph_from, .ref q_t_graph_to, .ref q_t_graph_weight, .ref q_t_graph_order, .int t_graph_nodes, .int t_graph_numbered, .int t_graph_size, .long t_graph_present])), (q_t_labels, .inr (4, [.ref q_t_labels_label, .int t_labels_nodes, .int t_labels_groups])), (q_t_labels_label, .inl (cI, 10, .inl t_labels_label)), (q_t_graph_order, .inl (cI, 30, .inl t_graph_order)), (q_t_graph_from, .inl (cI, 30, .inl t_graph_from)), (q_t_graph_to, .inl (cI, 30, .inl t_graph_to)), (q_t_graph_weight, .inl (cI, 30, .inl t_graph_weight))] H → va_D A [(q_t, .inr (3, [.ref q_t_graph, .ref q_t_labels])), (q_t_graph, .inr (2, [.ref q_t_graph_from, .ref q_t_graph_to, .ref q_t_graph_weight, .ref q_t_graph_order, .int t_graph_nodes, .int t_graph_numbered, .int t_graph_size, .long t_graph_present])), (q_t_labels, .inr (4, [.ref q_t_labels_label, .int t_labels_nodes, .int t_labels_groups])), (q_t_labels_label, .inl (cI, 10, .inl t_labels_label)), (q_t_graph_order, .inl (cI, 30, .inl t_graph_order)), (q_t_graph_from, .inl (cI, 30, .inl t_graph_from)), (q_t_graph_to, .inl (cI, 30, .inl t_graph_to)), (q_t_graph_weight, .inl (cI, 30, .inl t_graph_weight))] → va_S A s.heap H locs → some (v, t_labels_nodes, t_labels_groups, t_labels_label) = some RR → W p l e R s m args below meth c H locs 0 0 Q (F0 m pc ls [.long v]))  : ∀ (v4 : Int32) (v5 : Int64) (t_labels_nodes : Int32) (t_labels_groups : Int32) (t_labels_label : Nat → Int32) (H : Heap) (locs : List Loc) (ls : Array Slot), va_P D CL [(q_t, .inr (3, [.ref q_t_graph, .ref q_t_labels])), (q_t_graph, .inr (2, [.ref q_t_graph_from, .ref q_t_graph_to, .ref q_t_graph_weight, .ref q_t_graph_order, .int t_graph_nodes, .int t_graph_numbered, .int t_graph_size, .long t_graph_present])), (q_t_labels, .inr (4, [.ref q_t_labels_label, .int t_labels_nodes, .int t_labels_groups])), (q_t_labels_label, .inl (cI, 10, .inl t_labels_label)), (q_t_graph_order, .inl (cI, 30, .inl t_graph_order)), (q_t_graph_from, .inl (cI, 30, .inl t_graph_from)), (q_t_graph_to, .inl (cI, 30, .inl t_graph_to)), (q_t_graph_weight, .inl (cI, 30, .inl t_graph_weight))] H → va_D A [(q_t, .inr (3, [.ref q_t_graph, .ref q_t_labels])), (q_t_graph, .inr (2, [.ref q_t_graph_from, .ref q_t_graph_to, .ref q_t_graph_weight, .ref q_t_graph_order, .int t_graph_nodes, .int t_graph_numbered, .int t_graph_size, .long t_graph_present])), (q_t_labels, .inr (4, [.ref q_t_labels_label, .int t_labels_nodes, .int t_labels_groups])), (q_t_labels_label, .inl (cI, 10, .inl t_labels_label)), (q_t_graph_order, .inl (cI, 30, .inl t_graph_order)), (q_t_graph_from, .inl (cI, 30, .inl t_graph_from)), (q_t_graph_to, .inl (cI, 30, .inl t_graph_to)), (q_t_graph_weight, .inl (cI, 30, .inl t_graph_weight))] → va_S A s.heap H locs → lv_has ls 11 [(4, .int v4), (5, .long v5)] → g_JoiningTrees_treeCost_145 v4 v5 t_labels_nodes t_labels_groups t_labels_label = some RR → W p l e R s m args below meth c H locs 0 0 Q (F0 m 145 ls []) := by
  intro v4 v5 t_labels_nodes t_labels_groups t_labels_label H locs ls hP hD hS hl hf
  obtain ⟨hx, hb, hml, hown, hts, hK, hA, hfr, hlo, hlk⟩ := id C0
  unfold g_JoiningTrees_treeCost_145 at hf
  refine lv_iload hx hb d_JoiningTrees_treeCost_145 (lv_at hl 0 rfl) ?_
  refine lv_if_ne (tgt := 155) hx hb d_JoiningTrees_treeCost_147 (by decide) (fun hc1 => ?_) (fun hc1 => ?_)
  · have hf := if_f hc1 hf
    refine lv_ldc2 (v := 1152921504606846976) hx hb hown (hts _ m_3_102) d_JoiningTrees_treeCost_155 ?_
    exact hret 158 _ _ _ (1152921504606846976 : Int64) t_labels_nodes t_labels_groups t_labels_label d_JoiningTrees_treeCost_158 hP hD hS hf
  · have hf := if_t hc1 hf
    refine lv_lload hx hb d_JoiningTrees_treeCost_150 (lv_at hl 1 rfl) ?_
    refine lv_goto (tgt := 158) hx hb d_JoiningTrees_treeCost_152 (by decide) ?_
    exact hret 158 _ _ _ v5 t_labels_nodes t_labels_groups t_labels_label d_JoiningTrees_treeCost_158 hP hD hS hf
set_option maxRecDepth 100000 in
set_option maxHeartbeats 4000000 in
theorem w_JoiningTrees_treeCost_28 {p : Program} {l : Launch} {e : Env} {R : Room} {s : State} {m : MethodId} {args : Array Value} {below : List Frame} {meth : Method} {c : Code} {D : va_G} {cI cJ cG cZ : ClassId} {A : Nat → Prop} {Q : State → Prop} {q_t q_t_graph q_t_labels q_t_graph_from q_t_graph_to q_t_graph_weight q_t_graph_order q_t_labels_label : Nat} {t_graph_nodes : Int32} {t_graph_numbered : Int32} {t_graph_size : Int32} {t_graph_present : Int64} {t_graph_order : Nat → Int32} {t_graph_from : Nat → Int32} {t_graph_to : Nat → Int32} {t_graph_weight : Nat → Int32} {p1 : Int32} {p2 : Int64} {N : Nat} {RR : Int64 × Int32 × Int32 × (Nat → Int32)} (C0 : CX p R s m args meth c b_JoiningTrees_treeCost 11 R_JoiningTrees lw_g D CL (TYs cI cJ cG cZ) A 2 85) (hret : ∀ (pc : Nat) (ls : Array Slot) (H : Heap) (locs : List Loc) (v : Int64) (t_labels_nodes : Int32) (t_labels_groups : Int32) (t_labels_label : Nat → Int32), decode b_JoiningTrees_treeCost pc = .ok (.lreturn, 1) → va_P D CL [(q_t, .inr (3, [.ref q_t_graph, .ref q_t_labels])), (q_t_graph, .inr (2, [.ref q_t_graph_from, .ref q_t_graph_to, .ref q_t_graph_weight, .ref q_t_graph_order, .int t_graph_nodes, .int t_graph_numbered, .int t_graph_size, .long t_graph_present])), (q_t_labels, .inr (4, [.ref q_t_labels_label, .int t_labels_nodes, .int t_labels_groups])), (q_t_labels_label, .inl (cI, 10, .inl t_labels_label)), (q_t_graph_order, .inl (cI, 30, .inl t_graph_order)), (q_t_graph_from, .inl (cI, 30, .inl t_graph_from)), (q_t_graph_to, .inl (cI, 30, .inl t_graph_to)), (q_t_graph_weight, .inl (cI, 30, .inl t_graph_weight))] H → va_D A [(q_t, .inr (3, [.ref q_t_graph, .ref q_t_labels])), (q_t_graph, .inr (2, [.ref q_t_graph_from, .ref q_t_graph_to, .ref q_t_graph_weight, .ref q_t_graph_order, .int t_graph_nodes, .int t_graph_numbered, .int t_graph_size, .long t_graph_present])), (q_t_labels, .inr (4, [.ref q_t_labels_label, .int t_labels_nodes, .int t_labels_groups])), (q_t_labels_label, .inl (cI, 10, .inl t_labels_label)), (q_t_graph_order, .inl (cI, 30, .inl t_graph_order)), (q_t_graph_from, .inl (cI, 30, .inl t_graph_from)), (q_t_graph_to, .inl (cI, 30, .inl t_graph_to)), (q_t_graph_weight, .inl (cI, 30, .inl t_graph_weight))] → va_S A s.heap H locs → some (v, t_labels_nodes, t_labels_groups, t_labels_label) = some RR → W p l e R s m args below meth c H locs 0 0 Q (F0 m pc ls [.long v])) (k28 : Int32 → Int64 → Int32 → Int32 → Int32 → (Nat → Int32) → Option (Int64 × Int32 × Int32 × (Nat → Int32))) (hk28 : ∀ (v4 : Int32) (v5 : Int64) (v7 : Int32) (t_labels_nodes : Int32) (t_labels_groups : Int32) (t_labels_label : Nat → Int32) (H : Heap) (locs : List Loc) (ls : Array Slot), va_P D CL [(q_t, .inr (3, [.ref q_t_graph, .ref q_t_labels])), (q_t_graph, .inr (2, [.ref q_t_graph_from, .ref q_t_graph_to, .ref q_t_graph_weight, .ref q_t_graph_order, .int t_graph_nodes, .int t_graph_numbered, .int t_graph_size, .long t_graph_present])), (q_t_labels, .inr (4, [.ref q_t_labels_label, .int t_labels_nodes, .int t_labels_groups])), (q_t_labels_label, .inl (cI, 10, .inl t_labels_label)), (q_t_graph_order, .inl (cI, 30, .inl t_graph_order)), (q_t_graph_from, .inl (cI, 30, .inl t_graph_from)), (q_t_graph_to, .inl (cI, 30, .inl t_graph_to)), (q_t_graph_weight, .inl (cI, 30, .inl t_graph_weight))] H → va_D A [(q_t, .inr (3, [.ref q_t_graph, .ref q_t_labels])), (q_t_graph, .inr (2, [.ref q_t_graph_from, .ref q_t_graph_to, .ref q_t_graph_weight, .ref q_t_graph_order, .int t_graph_nodes, .int t_graph_numbered, .int t_graph_size, .long t_graph_present])), (q_t_labels, .inr (4, [.ref q_t_labels_label, .int t_labels_nodes, .int t_labels_groups])), (q_t_labels_label, .inl (cI, 10, .inl t_labels_label)), (q_t_graph_order, .inl (cI, 30, .inl t_graph_order)), (q_t_graph_from, .inl (cI, 30, .inl t_graph_from)), (q_t_graph_to, .inl (cI, 30, .inl t_graph_to)), (q_t_graph_weight, .inl (cI, 30, .inl t_graph_weight))] → va_S A s.heap H locs → lv_has ls 11 [(0, .ref q_t), (1, .int p1), (2, .long p2), (4, .int v4), (5, .long v5), (7, .int v7)] → k28 v4 v5 v7 t_labels_nodes t_labels_groups t_labels_label = some RR → W p l e R s m args below meth c H locs 0 0 Q (F0 m 28 ls [])) : ∀ (v4 : Int32) (v5 : Int64) (v7 : Int32) (t_labels_nodes : Int32) (t_labels_groups : Int32) (t_labels_label : Nat → Int32) (H : Heap) (locs : List Loc) (ls : Array Slot), va_P D CL [(q_t, .inr (3, [.ref q_t_graph, .ref q_t_labels])), (q_t_graph, .inr (2, [.ref q_t_graph_from, .ref q_t_graph_to, .ref q_t_graph_weight, .ref q_t_graph_order, .int t_graph_nodes, .int t_graph_numbered, .int t_graph_size, .long t_graph_present])), (q_t_labels, .inr (4, [.ref q_t_labels_label, .int t_labels_nodes, .int t_labels_groups])), (q_t_labels_label, .inl (cI, 10, .inl t_labels_label)), (q_t_graph_order, .inl (cI, 30, .inl t_graph_order)), (q_t_graph_from, .inl (cI, 30, .inl t_graph_from)), (q_t_graph_to, .inl (cI, 30, .inl t_graph_to)), (q_t_graph_weight, .inl (cI, 30, .inl t_graph_weight))] H → va_D A [(q_t, .inr (3, [.ref q_t_graph, .ref q_t_labels])), (q_t_graph, .inr (2, [.ref q_t_graph_from, .ref q_t_graph_to, .ref q_t_graph_weight, .ref q_t_graph_order, .int t_graph_nodes, .int t_graph_numbered, .int t_graph_size, .long t_graph_present])), (q_t_labels, .inr (4, [.ref q_t_labels_label, .int t_labels_nodes, .int t_labels_groups])), (q_t_labels_label, .inl (cI, 10, .inl t_labels_label)), (q_t_graph_order, .inl (cI, 30, .inl t_graph_order)), (q_t_graph_from, .inl (cI, 30, .inl t_graph_from)), (q_t_graph_to, .inl (cI, 30, .inl t_graph_to)), (q_t_graph_weight, .inl (cI, 30, .inl t_graph_weight))] → va_S A s.heap H locs → lv_has ls 11 [(0, .ref q_t), (1, .int p1), (2, .long p2), (4, .int v4), (5, .long v5), (7, .int v7)] → g_JoiningTrees_treeCost_28 N p1 p2 t_graph_size t_graph_order t_graph_from t_graph_to t_graph_weight k28 v4 v5 v7 t_labels_nodes t_labels_groups t_labels_label = some RR → W p l e R s m args below meth c H locs 0 0 Q (F0 m 28 ls []) := by
  intro v4 v5 v7 t_labels_nodes t_labels_groups t_labels_label H locs ls hP hD hS hl hf
  obtain ⟨hx, hb, hml, hown, hts, hK, hA, hfr, hlo, hlk⟩ := id C0
  unfold g_JoiningTrees_treeCost_28 at hf
  refine lv_iload hx hb d_JoiningTrees_treeCost_28 (lv_at hl 5 rfl) ?_
  refine lv_aload_n hx hb d_JoiningTrees_treeCost_30 rfl (lv_at hl 0 rfl) ?_
  refine va_get (D := D) (ci := 3) (v := .ref q_t_graph) (C := R_JoiningTrees) (T := F_JoiningTrees) (N := 2) hx hb hts i_JoiningTrees hown hK hP 0 rfl rfl 0 (by decide) (hts _ m_1_226) (fun _ h9 => h9) rfl d_JoiningTrees_treeCost_31 ?_
  refine va_get (D := D) (ci := 2) (v := .int t_graph_size) (C := R_Graph) (T := F_Graph) (N := 8) hx hb hts i_Graph hown hK hP 1 rfl rfl 6 (by decide) (hts _ m_1_59) (fun _ h9 => h9) rfl d_JoiningTrees_treeCost_34 ?_
  refine lv_icmp_ge (tgt := 145) hx hb d_JoiningTrees_treeCost_37 (by decide) (fun hc1 => ?_) (fun hc1 => ?_)
  · have hf := if_t hc1 hf
    exact w_JoiningTrees_treeCost_145 C0 hret  v4 v5 t_labels_nodes t_labels_groups t_labels_label _ _ _ hP hD hS (lv_sub hl [3, 4] rfl) hf
  · have hf := if_f hc1 hf
    refine lv_iload hx hb d_JoiningTrees_treeCost_40 (lv_at hl 3 rfl) ?_
    refine lv_if_le (tgt := 145) hx hb d_JoiningTrees_treeCost_42 (by decide) (fun hc2 => ?_) (fun hc2 => ?_)
    · have hf := if_t hc2 hf
      exact w_JoiningTrees_treeCost_145 C0 hret  v4 v5 t_labels_nodes t_labels_groups t_labels_label _ _ _ hP hD hS (lv_sub hl [3, 4] rfl) hf
    · have hf := if_f hc2 hf
      refine lv_lload hx hb d_JoiningTrees_treeCost_45 (lv_at hl 4 rfl) ?_
      refine lv_lload_n hx hb d_JoiningTrees_treeCost_47 rfl (lv_at hl 2 rfl) ?_
      refine W.lcmp hx hb d_JoiningTrees_treeCost_48 ?_
      refine lv_if_ge (tgt := 145) hx hb d_JoiningTrees_treeCost_49 (by decide) (fun hc3 => ?_) (fun hc3 => ?_)
      · have hf := if_t hc3 hf
        exact w_JoiningTrees_treeCost_145 C0 hret  v4 v5 t_labels_nodes t_labels_groups t_labels_label _ _ _ hP hD hS (lv_sub hl [3, 4] rfl) hf
      · have hf := if_f hc3 hf
        refine lv_aload_n hx hb d_JoiningTrees_treeCost_52 rfl (lv_at hl 0 rfl) ?_
        refine va_get (D := D) (ci := 3) (v := .ref q_t_graph) (C := R_JoiningTrees) (T := F_JoiningTrees) (N := 2) hx hb hts i_JoiningTrees hown hK hP 0 rfl rfl 0 (by decide) (hts _ m_1_226) (fun _ h9 => h9) rfl d_JoiningTrees_treeCost_53 ?_
        refine va_get (D := D) (ci := 2) (v := .ref q_t_graph_order) (C := R_Graph) (T := F_Graph) (N := 8) hx hb hts i_Graph hown hK hP 1 rfl rfl 3 (by decide) (hts _ m_1_46) (fun _ h9 => h9) rfl d_JoiningTrees_treeCost_56 ?_
        refine lv_iload hx hb d_JoiningTrees_treeCost_59 (lv_at hl 5 rfl) ?_
        obtain ⟨hg1, hf⟩ := gd_e hf
        refine va_iald hx hb hK hP 4 0 rfl rfl (inb_e hg1) d_JoiningTrees_treeCost_61 ?_
        refine lv_topi (fun x1 ex1 => ?_)
        have hf := bn_e ex1 hf
        refine lv_istore (lv' := [(8, .int x1), (0, .ref q_t), (1, .int p1), (2, .long p2), (4, .int v4), (5, .long v5), (7, .int v7)]) hx hb d_JoiningTrees_treeCost_62 hl (by decide) rfl (fun ls hl => ?_)
        refine lv_aload_n hx hb d_JoiningTrees_treeCost_64 rfl (lv_at hl 1 rfl) ?_
        refine va_get (D := D) (ci := 3) (v := .ref q_t_graph) (C := R_JoiningTrees) (T := F_JoiningTrees) (N := 2) hx hb hts i_JoiningTrees hown hK hP 0 rfl rfl 0 (by decide) (hts _ m_1_226) (fun _ h9 => h9) rfl d_JoiningTrees_treeCost_65 ?_
        refine va_get (D := D) (ci := 2) (v := .ref q_t_graph_from) (C := R_Graph) (T := F_Graph) (N := 8) hx hb hts i_Graph hown hK hP 1 rfl rfl 0 (by decide) (hts _ m_1_31) (fun _ h9 => h9) rfl d_JoiningTrees_treeCost_68 ?_
        refine lv_iload hx hb d_JoiningTrees_treeCost_71 (lv_at hl 0 rfl) ?_
        obtain ⟨hg2, hf⟩ := gd_e hf
        refine va_iald hx hb hK hP 5 0 rfl rfl (inb_e hg2) d_JoiningTrees_treeCost_73 ?_
        refine lv_topi (fun x2 ex2 => ?_)
        have hf := bn_e ex2 hf
        refine lv_istore (lv' := [(9, .int x2), (8, .int x1), (0, .ref q_t), (1, .int p1), (2, .long p2), (4, .int v4), (5, .long v5), (7, .int v7)]) hx hb d_JoiningTrees_treeCost_74 hl (by decide) rfl (fun ls hl => ?_)
        refine lv_aload_n hx hb d_JoiningTrees_treeCost_76 rfl (lv_at hl 2 rfl) ?_
        refine va_get (D := D) (ci := 3) (v := .ref q_t_graph) (C := R_JoiningTrees) (T := F_JoiningTrees) (N := 2) hx hb hts i_JoiningTrees hown hK hP 0 rfl rfl 0 (by decide) (hts _ m_1_226) (fun _ h9 => h9) rfl d_JoiningTrees_treeCost_77 ?_
        refine va_get (D := D) (ci := 2) (v := .ref q_t_graph_to) (C := R_Graph) (T := F_Graph) (N := 8) hx hb hts i_Graph hown hK hP 1 rfl rfl 1 (by decide) (hts _ m_1_36) (fun _ h9 => h9) rfl d_JoiningTrees_treeCost_80 ?_
        refine lv_iload hx hb d_JoiningTrees_treeCost_83 (lv_at hl 1 rfl) ?_
        obtain ⟨hg3, hf⟩ := gd_e hf
        refine va_iald hx hb hK hP 6 0 rfl rfl (inb_e hg3) d_JoiningTrees_treeCost_85 ?_
        refine lv_topi (fun x3 ex3 => ?_)
        have hf := bn_e ex3 hf
        refine lv_istore (lv' := [(10, .int x3), (9, .int x2), (8, .int x1), (0, .ref q_t), (1, .int p1), (2, .long p2), (4, .int v4), (5, .long v5), (7, .int v7)]) hx hb d_JoiningTrees_treeCost_86 hl (by decide) rfl (fun ls hl => ?_)
        refine lv_iload_n hx hb d_JoiningTrees_treeCost_88 rfl (lv_at hl 4 rfl) ?_
        refine lv_iload hx hb d_JoiningTrees_treeCost_89 (lv_at hl 1 rfl) ?_
        refine lv_ishr hx hb d_JoiningTrees_treeCost_91 ?_
        refine lv_iload_n hx hb d_JoiningTrees_treeCost_92 rfl (lv_at hl 4 rfl) ?_
        refine lv_iload hx hb d_JoiningTrees_treeCost_93 (lv_at hl 0 rfl) ?_
        refine lv_ishr hx hb d_JoiningTrees_treeCost_95 ?_
        refine lv_iand hx hb d_JoiningTrees_treeCost_96 ?_
        refine lv_iconst (v := 1) hx hb d_JoiningTrees_treeCost_97 (by decide) ?_
        refine lv_iand hx hb d_JoiningTrees_treeCost_98 ?_
        refine lv_if_eq (tgt := 139) hx hb d_JoiningTrees_treeCost_99 (by decide) (fun hc4 => ?_) (fun hc4 => ?_)
        · have hf := if_t hc4 hf
          obtain ⟨x4, ex4⟩ : ∃ y : Int32, y = v7 + (1 : Int32) := ⟨_, rfl⟩
          have hf := bn_e ex4 hf
          refine lv_iinc (v := x4) (lv' := [(7, .int x4), (10, .int x3), (9, .int x2), (8, .int x1), (0, .ref q_t), (1, .int p1), (2, .long p2), (4, .int v4), (5, .long v5)]) hx hb d_JoiningTrees_treeCost_139 hl (k := 8) rfl (by rw [ex4]; rfl) (by decide) rfl (fun ls hl => ?_)
          refine lv_goto (tgt := 28) hx hb d_JoiningTrees_treeCost_142 (by decide) ?_
          exact hk28 v4 v5 x4 t_labels_nodes t_labels_groups t_labels_label _ _ _ hP hD hS (lv_sub hl [4, 5, 6, 7, 8, 0] rfl) hf
        · have hf := if_f hc4 hf
          refine lv_aload_n hx hb d_JoiningTrees_treeCost_102 rfl (lv_at hl 3 rfl) ?_
          refine va_get (D := D) (ci := 3) (v := .ref q_t_labels) (C := R_JoiningTrees) (T := F_JoiningTrees) (N := 2) hx hb hts i_JoiningTrees hown hK hP 0 rfl rfl 1 (by decide) (hts _ m_1_227) (fun _ h9 => h9) rfl d_JoiningTrees_treeCost_103 ?_
          refine lv_iload hx hb d_JoiningTrees_treeCost_106 (lv_at hl 1 rfl) ?_
          refine lv_iload hx hb d_JoiningTrees_treeCost_108 (lv_at hl 0 rfl) ?_
          obtain ⟨r5, c6, c7, hq1, hf⟩ := bk3_e hf
          refine cl_go (wr := [(q_t, .inr (3, [.ref q_t_graph, .ref q_t_labels])), (q_t_graph, .inr (2, [.ref q_t_graph_from, .ref q_t_graph_to, .ref q_t_graph_weight, .ref q_t_graph_order, .int t_graph_nodes, .int t_graph_numbered, .int t_graph_size, .long t_graph_present])), (q_t_graph_order, .inl (cI, 30, .inl t_graph_order)), (q_t_graph_from, .inl (cI, 30, .inl t_graph_from)), (q_t_graph_to, .inl (cI, 30, .inl t_graph_to)), (q_t_graph_weight, .inl (cI, 30, .inl t_graph_weight))]) (W1 := [(q_t, .inr (3, [.ref q_t_graph, .ref q_t_labels])), (q_t_graph, .inr (2, [.ref q_t_graph_from, .ref q_t_graph_to, .ref q_t_graph_weight, .ref q_t_graph_order, .int t_graph_nodes, .int t_graph_numbered, .int t_graph_size, .long t_graph_present])), (q_t_labels, .inr (4, [.ref q_t_labels_label, .int t_labels_nodes, .int c7])), (q_t_labels_label, .inl (cI, 10, .inl c6)), (q_t_graph_order, .inl (cI, 30, .inl t_graph_order)), (q_t_graph_from, .inl (cI, 30, .inl t_graph_from)), (q_t_graph_to, .inl (cI, 30, .inl t_graph_to)), (q_t_graph_weight, .inl (cI, 30, .inl t_graph_weight))]) (va_runV (As := [.int x2, .int x3]) (rest := []) ⟨hx, hb, hml, hown, hts⟩ (c_Labels_unite l D cI cJ cG cZ q_t_labels q_t_labels_label t_labels_nodes t_labels_groups t_labels_label x2 x3 hq1 H.size) (cwV 2 hts (gi_V m_3_115 m_2_93 m_2_94 m_1_4 wi_Labels_unite) rfl rfl rfl hd_Labels_unite ⟨Nat.le_trans (Nat.le_of_ble_eq_true rfl) hfr, Nat.le_trans (Nat.le_of_ble_eq_true rfl) hlo⟩) ⟨pw_blind, va_recv hK hP (ci := 4) (q0 := 2) rfl rfl, fun U hU hW => ⟨rfl, pw_in hU (hP.sub [2, 3] rfl) (va_K.moved hW.alike hK) ((hD.sub [2, 3] rfl rfl).weaken (fun _ _ _ _ => trivial))⟩⟩ rfl rfl hl.1 rfl (lv_room (Nat.le_of_ble_eq_true rfl)) d_JoiningTrees_treeCost_110 ⟨Nat.zero_le _, Nat.zero_le _⟩) hP hD hS hA [2, 3] [0, 1, 4, 5, 6, 7] rfl rfl rfl rfl [0, 1, 6, 7, 2, 3, 4, 5] rfl rfl (fun H locs hP hD hS => ?_)
          have hP : va_P D CL [(q_t, .inr (3, [.ref q_t_graph, .ref q_t_labels])), (q_t_graph, .inr (2, [.ref q_t_graph_from, .ref q_t_graph_to, .ref q_t_graph_weight, .ref q_t_graph_order, .int t_graph_nodes, .int t_graph_numbered, .int t_graph_size, .long t_graph_present])), (q_t_labels, .inr (4, [.ref q_t_labels_label, .int t_labels_nodes, .int c7])), (q_t_labels_label, .inl (cI, 10, .inl c6)), (q_t_graph_order, .inl (cI, 30, .inl t_graph_order)), (q_t_graph_from, .inl (cI, 30, .inl t_graph_from)), (q_t_graph_to, .inl (cI, 30, .inl t_graph_to)), (q_t_graph_weight, .inl (cI, 30, .inl t_graph_weight))] H := hP
          have hD : va_D A [(q_t, .inr (3, [.ref q_t_graph, .ref q_t_labels])), (q_t_graph, .inr (2, [.ref q_t_graph_from, .ref q_t_graph_to, .ref q_t_graph_weight, .ref q_t_graph_order, .int t_graph_nodes, .int t_graph_numbered, .int t_graph_size, .long t_graph_present])), (q_t_labels, .inr (4, [.ref q_t_labels_label, .int t_labels_nodes, .int c7])), (q_t_labels_label, .inl (cI, 10, .inl c6)), (q_t_graph_order, .inl (cI, 30, .inl t_graph_order)), (q_t_graph_from, .inl (cI, 30, .inl t_graph_from)), (q_t_graph_to, .inl (cI, 30, .inl t_graph_to)), (q_t_graph_weight, .inl (cI, 30, .inl t_graph_weight))] := hD
          refine lv_if_eq (tgt := 139) hx hb d_JoiningTrees_treeCost_113 (by decide) (fun hc5 => ?_) (fun hc5 => ?_)
          · have hf := if_t hc5 hf
            obtain ⟨x8, ex8⟩ : ∃ y : Int32, y = v7 + (1 : Int32) := ⟨_, rfl⟩
            have hf := bn_e ex8 hf
            refine lv_iinc (v := x8) (lv' := [(7, .int x8), (10, .int x3), (9, .int x2), (8, .int x1), (0, .ref q_t), (1, .int p1), (2, .long p2), (4, .int v4), (5, .long v5)]) hx hb d_JoiningTrees_treeCost_139 hl (k := 8) rfl (by rw [ex8]; rfl) (by decide) rfl (fun ls hl => ?_)
            refine lv_goto (tgt := 28) hx hb d_JoiningTrees_treeCost_142 (by decide) ?_
            exact hk28 v4 v5 x8 t_labels_nodes c7 c6 _ _ _ hP hD hS (lv_sub hl [4, 5, 6, 7, 8, 0] rfl) hf
          · have hf := if_f hc5 hf
            refine lv_lload hx hb d_JoiningTrees_treeCost_116 (lv_at hl 7 rfl) ?_
            refine lv_aload_n hx hb d_JoiningTrees_treeCost_118 rfl (lv_at hl 3 rfl) ?_
            refine va_get (D := D) (ci := 3) (v := .ref q_t_graph) (C := R_JoiningTrees) (T := F_JoiningTrees) (N := 2) hx hb hts i_JoiningTrees hown hK hP 0 rfl rfl 0 (by decide) (hts _ m_1_226) (fun _ h9 => h9) rfl d_JoiningTrees_treeCost_119 ?_
            refine va_get (D := D) (ci := 2) (v := .ref q_t_graph_weight) (C := R_Graph) (T := F_Graph) (N := 8) hx hb hts i_Graph hown hK hP 1 rfl rfl 2 (by decide) (hts _ m_1_40) (fun _ h9 => h9) rfl d_JoiningTrees_treeCost_122 ?_
            refine lv_iload hx hb d_JoiningTrees_treeCost_125 (lv_at hl 2 rfl) ?_
            obtain ⟨hg4, hf⟩ := gd_e hf
            refine va_iald hx hb hK hP 7 0 rfl rfl (inb_e hg4) d_JoiningTrees_treeCost_127 ?_
            refine lv_iload hx hb d_JoiningTrees_treeCost_128 (lv_at hl 2 rfl) ?_
            obtain ⟨r9, hq2, hf⟩ := bk1_e hf
            refine cl_nil (va_runS (As := [.int (t_graph_weight x1.toNatClampNeg), .int x1]) (rest := [.long v5]) ⟨hx, hb, hml, hown, hts⟩ (c_Cost_of l D cI cJ cG cZ (t_graph_weight x1.toNatClampNeg) x1 hq2 H.size) (va_cwS 2 hts (gi_S m_3_116 m_2_226 m_1_13 wi_Cost_of) rfl rfl rfl hd_Cost_of ⟨Nat.le_trans (Nat.le_of_ble_eq_true rfl) hfr, Nat.le_trans (Nat.le_of_ble_eq_true rfl) hlo⟩) ⟨pw_blind, fun U hU hW => ⟨rfl, pw_in hU pn_P (va_K.moved hW.alike hK) pn_D⟩⟩ rfl rfl hl.1 rfl (lv_room (Nat.le_of_ble_eq_true rfl)) d_JoiningTrees_treeCost_130 ⟨Nat.zero_le _, Nat.zero_le _⟩) hP hD hS hA (fun H locs hP hD hS => ?_)
            have hP : va_P D CL [(q_t, .inr (3, [.ref q_t_graph, .ref q_t_labels])), (q_t_graph, .inr (2, [.ref q_t_graph_from, .ref q_t_graph_to, .ref q_t_graph_weight, .ref q_t_graph_order, .int t_graph_nodes, .int t_graph_numbered, .int t_graph_size, .long t_graph_present])), (q_t_labels, .inr (4, [.ref q_t_labels_label, .int t_labels_nodes, .int c7])), (q_t_labels_label, .inl (cI, 10, .inl c6)), (q_t_graph_order, .inl (cI, 30, .inl t_graph_order)), (q_t_graph_from, .inl (cI, 30, .inl t_graph_from)), (q_t_graph_to, .inl (cI, 30, .inl t_graph_to)), (q_t_graph_weight, .inl (cI, 30, .inl t_graph_weight))] H := hP
            have hD : va_D A [(q_t, .inr (3, [.ref q_t_graph, .ref q_t_labels])), (q_t_graph, .inr (2, [.ref q_t_graph_from, .ref q_t_graph_to, .ref q_t_graph_weight, .ref q_t_graph_order, .int t_graph_nodes, .int t_graph_numbered, .int t_graph_size, .long t_graph_present])), (q_t_labels, .inr (4, [.ref q_t_labels_label, .int t_labels_nodes, .int c7])), (q_t_labels_label, .inl (cI, 10, .inl c6)), (q_t_graph_order, .inl (cI, 30, .inl t_graph_order)), (q_t_graph_from, .inl (cI, 30, .inl t_graph_from)), (q_t_graph_to, .inl (cI, 30, .inl t_graph_to)), (q_t_graph_weight, .inl (cI, 30, .inl t_graph_weight))] := hD
            refine lv_ladd hx hb d_JoiningTrees_treeCost_133 ?_
            refine lv_topl (fun x10 ex10 => ?_)
            have hf := bn_e ex10 hf
            refine lv_lstore (lv' := [(5, .long x10), (10, .int x3), (9, .int x2), (8, .int x1), (0, .ref q_t), (1, .int p1), (2, .long p2), (4, .int v4), (7, .int v7)]) hx hb d_JoiningTrees_treeCost_134 hl (by decide) rfl (fun ls hl => ?_)
            obtain ⟨x11, ex11⟩ : ∃ y : Int32, y = v4 + (-1 : Int32) := ⟨_, rfl⟩
            have hf := bn_e ex11 hf
            refine lv_iinc (v := x11) (lv' := [(4, .int x11), (5, .long x10), (10, .int x3), (9, .int x2), (8, .int x1), (0, .ref q_t), (1, .int p1), (2, .long p2), (7, .int v7)]) hx hb d_JoiningTrees_treeCost_136 hl (k := 7) rfl (by rw [ex11]; rfl) (by decide) rfl (fun ls hl => ?_)
            obtain ⟨x12, ex12⟩ : ∃ y : Int32, y = v7 + (1 : Int32) := ⟨_, rfl⟩
            have hf := bn_e ex12 hf
            refine lv_iinc (v := x12) (lv' := [(7, .int x12), (4, .int x11), (5, .long x10), (10, .int x3), (9, .int x2), (8, .int x1), (0, .ref q_t), (1, .int p1), (2, .long p2)]) hx hb d_JoiningTrees_treeCost_139 hl (k := 8) rfl (by rw [ex12]; rfl) (by decide) rfl (fun ls hl => ?_)
            refine lv_goto (tgt := 28) hx hb d_JoiningTrees_treeCost_142 (by decide) ?_
            exact hk28 x11 x10 x12 t_labels_nodes c7 c6 _ _ _ hP hD hS (lv_sub hl [6, 7, 8, 1, 2, 0] rfl) hf
set_option maxRecDepth 100000 in
set_option maxHeartbeats 4000000 in
theorem w_JoiningTrees_treeCost_28_l {p : Program} {l : Launch} {e : Env} {R : Room} {s : State} {m : MethodId} {args : Array Value} {below : List Frame} {meth : Method} {c : Code} {D : va_G} {cI cJ cG cZ : ClassId} {A : Nat → Prop} {Q : State → Prop} {q_t q_t_graph q_t_labels q_t_graph_from q_t_graph_to q_t_graph_weight q_t_graph_order q_t_labels_label : Nat} {t_graph_nodes : Int32} {t_graph_numbered : Int32} {t_graph_size : Int32} {t_graph_present : Int64} {t_graph_order : Nat → Int32} {t_graph_from : Nat → Int32} {t_graph_to : Nat → Int32} {t_graph_weight : Nat → Int32} {p1 : Int32} {p2 : Int64} {N : Nat} {RR : Int64 × Int32 × Int32 × (Nat → Int32)} (C0 : CX p R s m args meth c b_JoiningTrees_treeCost 11 R_JoiningTrees lw_g D CL (TYs cI cJ cG cZ) A 2 85) (hret : ∀ (pc : Nat) (ls : Array Slot) (H : Heap) (locs : List Loc) (v : Int64) (t_labels_nodes : Int32) (t_labels_groups : Int32) (t_labels_label : Nat → Int32), decode b_JoiningTrees_treeCost pc = .ok (.lreturn, 1) → va_P D CL [(q_t, .inr (3, [.ref q_t_graph, .ref q_t_labels])), (q_t_graph, .inr (2, [.ref q_t_graph_from, .ref q_t_graph_to, .ref q_t_graph_weight, .ref q_t_graph_order, .int t_graph_nodes, .int t_graph_numbered, .int t_graph_size, .long t_graph_present])), (q_t_labels, .inr (4, [.ref q_t_labels_label, .int t_labels_nodes, .int t_labels_groups])), (q_t_labels_label, .inl (cI, 10, .inl t_labels_label)), (q_t_graph_order, .inl (cI, 30, .inl t_graph_order)), (q_t_graph_from, .inl (cI, 30, .inl t_graph_from)), (q_t_graph_to, .inl (cI, 30, .inl t_graph_to)), (q_t_graph_weight, .inl (cI, 30, .inl t_graph_weight))] H → va_D A [(q_t, .inr (3, [.ref q_t_graph, .ref q_t_labels])), (q_t_graph, .inr (2, [.ref q_t_graph_from, .ref q_t_graph_to, .ref q_t_graph_weight, .ref q_t_graph_order, .int t_graph_nodes, .int t_graph_numbered, .int t_graph_size, .long t_graph_present])), (q_t_labels, .inr (4, [.ref q_t_labels_label, .int t_labels_nodes, .int t_labels_groups])), (q_t_labels_label, .inl (cI, 10, .inl t_labels_label)), (q_t_graph_order, .inl (cI, 30, .inl t_graph_order)), (q_t_graph_from, .inl (cI, 30, .inl t_graph_from)), (q_t_graph_to, .inl (cI, 30, .inl t_graph_to)), (q_t_graph_weight, .inl (cI, 30, .inl t_graph_weight))] → va_S A s.heap H locs → some (v, t_labels_nodes, t_labels_groups, t_labels_label) = some RR → W p l e R s m args below meth c H locs 0 0 Q (F0 m pc ls [.long v]))  : ∀ (n : Nat) (v4 : Int32) (v5 : Int64) (v7 : Int32) (t_labels_nodes : Int32) (t_labels_groups : Int32) (t_labels_label : Nat → Int32) (H : Heap) (locs : List Loc) (ls : Array Slot), va_P D CL [(q_t, .inr (3, [.ref q_t_graph, .ref q_t_labels])), (q_t_graph, .inr (2, [.ref q_t_graph_from, .ref q_t_graph_to, .ref q_t_graph_weight, .ref q_t_graph_order, .int t_graph_nodes, .int t_graph_numbered, .int t_graph_size, .long t_graph_present])), (q_t_labels, .inr (4, [.ref q_t_labels_label, .int t_labels_nodes, .int t_labels_groups])), (q_t_labels_label, .inl (cI, 10, .inl t_labels_label)), (q_t_graph_order, .inl (cI, 30, .inl t_graph_order)), (q_t_graph_from, .inl (cI, 30, .inl t_graph_from)), (q_t_graph_to, .inl (cI, 30, .inl t_graph_to)), (q_t_graph_weight, .inl (cI, 30, .inl t_graph_weight))] H → va_D A [(q_t, .inr (3, [.ref q_t_graph, .ref q_t_labels])), (q_t_graph, .inr (2, [.ref q_t_graph_from, .ref q_t_graph_to, .ref q_t_graph_weight, .ref q_t_graph_order, .int t_graph_nodes, .int t_graph_numbered, .int t_graph_size, .long t_graph_present])), (q_t_labels, .inr (4, [.ref q_t_labels_label, .int t_labels_nodes, .int t_labels_groups])), (q_t_labels_label, .inl (cI, 10, .inl t_labels_label)), (q_t_graph_order, .inl (cI, 30, .inl t_graph_order)), (q_t_graph_from, .inl (cI, 30, .inl t_graph_from)), (q_t_graph_to, .inl (cI, 30, .inl t_graph_to)), (q_t_graph_weight, .inl (cI, 30, .inl t_graph_weight))] → va_S A s.heap H locs → lv_has ls 11 [(0, .ref q_t), (1, .int p1), (2, .long p2), (4, .int v4), (5, .long v5), (7, .int v7)] → lo6 (g_JoiningTrees_treeCost_28 N p1 p2 t_graph_size t_graph_order t_graph_from t_graph_to t_graph_weight) n v4 v5 v7 t_labels_nodes t_labels_groups t_labels_label = some RR → W p l e R s m args below meth c H locs 0 0 Q (F0 m 28 ls []) := by
  intro n
  induction n with
  | zero =>
    intro v4 v5 v7 t_labels_nodes t_labels_groups t_labels_label H locs ls hP hD hS hl hf
    exact absurd hf (by simp [lo6])
  | succ n ih =>
    intro v4 v5 v7 t_labels_nodes t_labels_groups t_labels_label H locs ls hP hD hS hl hf
    exact w_JoiningTrees_treeCost_28 C0 hret  (lo6 (g_JoiningTrees_treeCost_28 N p1 p2 t_graph_size t_graph_order t_graph_from t_graph_to t_graph_weight) n) ih v4 v5 v7 t_labels_nodes t_labels_groups t_labels_label H locs ls hP hD hS hl hf
set_option maxRecDepth 100000 in
set_option maxHeartbeats 4000000 in
theorem w_JoiningTrees_treeCost_e {p : Program} {l : Launch} {e : Env} {R : Room} {s : State} {m : MethodId} {args : Array Value} {below : List Frame} {meth : Method} {c : Code} {D : va_G} {cI cJ cG cZ : ClassId} {A : Nat → Prop} {Q : State → Prop} {q_t q_t_graph q_t_labels q_t_graph_from q_t_graph_to q_t_graph_weight q_t_graph_order q_t_labels_label : Nat} {t_graph_nodes : Int32} {t_graph_numbered : Int32} {t_graph_size : Int32} {t_graph_present : Int64} {t_labels_nodes0 : Int32} {t_labels_groups0 : Int32} {t_labels_label0 : Nat → Int32} {t_graph_order : Nat → Int32} {t_graph_from : Nat → Int32} {t_graph_to : Nat → Int32} {t_graph_weight : Nat → Int32} {p1 : Int32} {p2 : Int64} {N : Nat} {RR : Int64 × Int32 × Int32 × (Nat → Int32)} (C0 : CX p R s m args meth c b_JoiningTrees_treeCost 11 R_JoiningTrees lw_g D CL (TYs cI cJ cG cZ) A 2 85) (hret : ∀ (pc : Nat) (ls : Array Slot) (H : Heap) (locs : List Loc) (v : Int64) (t_labels_nodes : Int32) (t_labels_groups : Int32) (t_labels_label : Nat → Int32), decode b_JoiningTrees_treeCost pc = .ok (.lreturn, 1) → va_P D CL [(q_t, .inr (3, [.ref q_t_graph, .ref q_t_labels])), (q_t_graph, .inr (2, [.ref q_t_graph_from, .ref q_t_graph_to, .ref q_t_graph_weight, .ref q_t_graph_order, .int t_graph_nodes, .int t_graph_numbered, .int t_graph_size, .long t_graph_present])), (q_t_labels, .inr (4, [.ref q_t_labels_label, .int t_labels_nodes, .int t_labels_groups])), (q_t_labels_label, .inl (cI, 10, .inl t_labels_label)), (q_t_graph_order, .inl (cI, 30, .inl t_graph_order)), (q_t_graph_from, .inl (cI, 30, .inl t_graph_from)), (q_t_graph_to, .inl (cI, 30, .inl t_graph_to)), (q_t_graph_weight, .inl (cI, 30, .inl t_graph_weight))] H → va_D A [(q_t, .inr (3, [.ref q_t_graph, .ref q_t_labels])), (q_t_graph, .inr (2, [.ref q_t_graph_from, .ref q_t_graph_to, .ref q_t_graph_weight, .ref q_t_graph_order, .int t_graph_nodes, .int t_graph_numbered, .int t_graph_size, .long t_graph_present])), (q_t_labels, .inr (4, [.ref q_t_labels_label, .int t_labels_nodes, .int t_labels_groups])), (q_t_labels_label, .inl (cI, 10, .inl t_labels_label)), (q_t_graph_order, .inl (cI, 30, .inl t_graph_order)), (q_t_graph_from, .inl (cI, 30, .inl t_graph_from)), (q_t_graph_to, .inl (cI, 30, .inl t_graph_to)), (q_t_graph_weight, .inl (cI, 30, .inl t_graph_weight))] → va_S A s.heap H locs → some (v, t_labels_nodes, t_labels_groups, t_labels_label) = some RR → W p l e R s m args below meth c H locs 0 0 Q (F0 m pc ls [.long v])) : ∀ (H : Heap) (locs : List Loc) (ls : Array Slot), va_P D CL [(q_t, .inr (3, [.ref q_t_graph, .ref q_t_labels])), (q_t_graph, .inr (2, [.ref q_t_graph_from, .ref q_t_graph_to, .ref q_t_graph_weight, .ref q_t_graph_order, .int t_graph_nodes, .int t_graph_numbered, .int t_graph_size, .long t_graph_present])), (q_t_labels, .inr (4, [.ref q_t_labels_label, .int t_labels_nodes0, .int t_labels_groups0])), (q_t_labels_label, .inl (cI, 10, .inl t_labels_label0)), (q_t_graph_order, .inl (cI, 30, .inl t_graph_order)), (q_t_graph_from, .inl (cI, 30, .inl t_graph_from)), (q_t_graph_to, .inl (cI, 30, .inl t_graph_to)), (q_t_graph_weight, .inl (cI, 30, .inl t_graph_weight))] H → va_D A [(q_t, .inr (3, [.ref q_t_graph, .ref q_t_labels])), (q_t_graph, .inr (2, [.ref q_t_graph_from, .ref q_t_graph_to, .ref q_t_graph_weight, .ref q_t_graph_order, .int t_graph_nodes, .int t_graph_numbered, .int t_graph_size, .long t_graph_present])), (q_t_labels, .inr (4, [.ref q_t_labels_label, .int t_labels_nodes0, .int t_labels_groups0])), (q_t_labels_label, .inl (cI, 10, .inl t_labels_label0)), (q_t_graph_order, .inl (cI, 30, .inl t_graph_order)), (q_t_graph_from, .inl (cI, 30, .inl t_graph_from)), (q_t_graph_to, .inl (cI, 30, .inl t_graph_to)), (q_t_graph_weight, .inl (cI, 30, .inl t_graph_weight))] → va_S A s.heap H locs → lv_has ls 11 [(0, .ref q_t), (1, .int p1), (2, .long p2)] → f_JoiningTrees_treeCost N p1 p2 t_graph_nodes t_graph_size t_labels_label0 t_graph_order t_graph_from t_graph_to t_graph_weight = some RR → W p l e R s m args below meth c H locs 0 0 Q (F0 m 0 ls []) := by
  intro H locs ls hP hD hS hl hf
  obtain ⟨hx, hb, hml, hown, hts, hK, hA, hfr, hlo, hlk⟩ := id C0
  unfold f_JoiningTrees_treeCost at hf
  refine lv_aload_n hx hb d_JoiningTrees_treeCost_0 rfl (lv_at hl 0 rfl) ?_
  refine va_get (D := D) (ci := 3) (v := .ref q_t_labels) (C := R_JoiningTrees) (T := F_JoiningTrees) (N := 2) hx hb hts i_JoiningTrees hown hK hP 0 rfl rfl 1 (by decide) (hts _ m_1_227) (fun _ h9 => h9) rfl d_JoiningTrees_treeCost_1 ?_
  refine lv_aload_n hx hb d_JoiningTrees_treeCost_4 rfl (lv_at hl 0 rfl) ?_
  refine va_get (D := D) (ci := 3) (v := .ref q_t_graph) (C := R_JoiningTrees) (T := F_JoiningTrees) (N := 2) hx hb hts i_JoiningTrees hown hK hP 0 rfl rfl 0 (by decide) (hts _ m_1_226) (fun _ h9 => h9) rfl d_JoiningTrees_treeCost_5 ?_
  refine va_get (D := D) (ci := 2) (v := .int t_graph_nodes) (C := R_Graph) (T := F_Graph) (N := 8) hx hb hts i_Graph hown hK hP 1 rfl rfl 4 (by decide) (hts _ m_1_53) (fun _ h9 => h9) rfl d_JoiningTrees_treeCost_8 ?_
  obtain ⟨c1, c2, c3, hq1, hf⟩ := bk3_e hf
  refine cl_go (wr := [(q_t, .inr (3, [.ref q_t_graph, .ref q_t_labels])), (q_t_graph, .inr (2, [.ref q_t_graph_from, .ref q_t_graph_to, .ref q_t_graph_weight, .ref q_t_graph_order, .int t_graph_nodes, .int t_graph_numbered, .int t_graph_size, .long t_graph_present])), (q_t_graph_order, .inl (cI, 30, .inl t_graph_order)), (q_t_graph_from, .inl (cI, 30, .inl t_graph_from)), (q_t_graph_to, .inl (cI, 30, .inl t_graph_to)), (q_t_graph_weight, .inl (cI, 30, .inl t_graph_weight))]) (W1 := [(q_t, .inr (3, [.ref q_t_graph, .ref q_t_labels])), (q_t_graph, .inr (2, [.ref q_t_graph_from, .ref q_t_graph_to, .ref q_t_graph_weight, .ref q_t_graph_order, .int t_graph_nodes, .int t_graph_numbered, .int t_graph_size, .long t_graph_present])), (q_t_labels, .inr (4, [.ref q_t_labels_label, .int c1, .int c2])), (q_t_labels_label, .inl (cI, 10, .inl c3)), (q_t_graph_order, .inl (cI, 30, .inl t_graph_order)), (q_t_graph_from, .inl (cI, 30, .inl t_graph_from)), (q_t_graph_to, .inl (cI, 30, .inl t_graph_to)), (q_t_graph_weight, .inl (cI, 30, .inl t_graph_weight))]) (va_runV (As := [.int t_graph_nodes]) (rest := []) ⟨hx, hb, hml, hown, hts⟩ (c_Labels_separate l D cI cJ cG cZ q_t_labels q_t_labels_label t_labels_nodes0 t_labels_groups0 t_labels_label0 t_graph_nodes hq1 H.size) (cwV 1 hts (gi_V m_3_108 m_2_89 m_2_90 m_1_4 wi_Labels_separate) rfl rfl rfl hd_Labels_separate ⟨Nat.le_trans (Nat.le_of_ble_eq_true rfl) hfr, Nat.le_trans (Nat.le_of_ble_eq_true rfl) hlo⟩) ⟨pw_blind, va_recv hK hP (ci := 4) (q0 := 2) rfl rfl, fun U hU hW => ⟨rfl, pw_in hU (hP.sub [2, 3] rfl) (va_K.moved hW.alike hK) ((hD.sub [2, 3] rfl rfl).weaken (fun _ _ _ _ => trivial))⟩⟩ rfl rfl hl.1 rfl (lv_room (Nat.le_of_ble_eq_true rfl)) d_JoiningTrees_treeCost_11 ⟨Nat.zero_le _, Nat.zero_le _⟩) hP hD hS hA [2, 3] [0, 1, 4, 5, 6, 7] rfl rfl rfl rfl [0, 1, 6, 7, 2, 3, 4, 5] rfl rfl (fun H locs hP hD hS => ?_)
  have hP : va_P D CL [(q_t, .inr (3, [.ref q_t_graph, .ref q_t_labels])), (q_t_graph, .inr (2, [.ref q_t_graph_from, .ref q_t_graph_to, .ref q_t_graph_weight, .ref q_t_graph_order, .int t_graph_nodes, .int t_graph_numbered, .int t_graph_size, .long t_graph_present])), (q_t_labels, .inr (4, [.ref q_t_labels_label, .int c1, .int c2])), (q_t_labels_label, .inl (cI, 10, .inl c3)), (q_t_graph_order, .inl (cI, 30, .inl t_graph_order)), (q_t_graph_from, .inl (cI, 30, .inl t_graph_from)), (q_t_graph_to, .inl (cI, 30, .inl t_graph_to)), (q_t_graph_weight, .inl (cI, 30, .inl t_graph_weight))] H := hP
  have hD : va_D A [(q_t, .inr (3, [.ref q_t_graph, .ref q_t_labels])), (q_t_graph, .inr (2, [.ref q_t_graph_from, .ref q_t_graph_to, .ref q_t_graph_weight, .ref q_t_graph_order, .int t_graph_nodes, .int t_graph_numbered, .int t_graph_size, .long t_graph_present])), (q_t_labels, .inr (4, [.ref q_t_labels_label, .int c1, .int c2])), (q_t_labels_label, .inl (cI, 10, .inl c3)), (q_t_graph_order, .inl (cI, 30, .inl t_graph_order)), (q_t_graph_from, .inl (cI, 30, .inl t_graph_from)), (q_t_graph_to, .inl (cI, 30, .inl t_graph_to)), (q_t_graph_weight, .inl (cI, 30, .inl t_graph_weight))] := hD
  refine lv_iload_n hx hb d_JoiningTrees_treeCost_14 rfl (lv_at hl 1 rfl) ?_
  obtain ⟨r4, hq2, hf⟩ := bk1_e hf
  refine cl_nil (va_runS (As := [.int p1]) (rest := []) ⟨hx, hb, hml, hown, hts⟩ (c_Int_bitCount l D cI cJ cG cZ p1 hq2 H.size) (va_cwS 1 hts (gi_S m_3_109 m_3_110 m_1_14 wi_Int_bitCount) rfl rfl rfl hd_Int_bitCount ⟨Nat.le_trans (Nat.le_of_ble_eq_true rfl) hfr, Nat.le_trans (Nat.le_of_ble_eq_true rfl) hlo⟩) ⟨pw_blind, fun U hU hW => ⟨rfl, pw_in hU pn_P (va_K.moved hW.alike hK) pn_D⟩⟩ rfl rfl hl.1 rfl (lv_room (Nat.le_of_ble_eq_true rfl)) d_JoiningTrees_treeCost_15 ⟨Nat.zero_le _, Nat.zero_le _⟩) hP hD hS hA (fun H locs hP hD hS => ?_)
  have hP : va_P D CL [(q_t, .inr (3, [.ref q_t_graph, .ref q_t_labels])), (q_t_graph, .inr (2, [.ref q_t_graph_from, .ref q_t_graph_to, .ref q_t_graph_weight, .ref q_t_graph_order, .int t_graph_nodes, .int t_graph_numbered, .int t_graph_size, .long t_graph_present])), (q_t_labels, .inr (4, [.ref q_t_labels_label, .int c1, .int c2])), (q_t_labels_label, .inl (cI, 10, .inl c3)), (q_t_graph_order, .inl (cI, 30, .inl t_graph_order)), (q_t_graph_from, .inl (cI, 30, .inl t_graph_from)), (q_t_graph_to, .inl (cI, 30, .inl t_graph_to)), (q_t_graph_weight, .inl (cI, 30, .inl t_graph_weight))] H := hP
  have hD : va_D A [(q_t, .inr (3, [.ref q_t_graph, .ref q_t_labels])), (q_t_graph, .inr (2, [.ref q_t_graph_from, .ref q_t_graph_to, .ref q_t_graph_weight, .ref q_t_graph_order, .int t_graph_nodes, .int t_graph_numbered, .int t_graph_size, .long t_graph_present])), (q_t_labels, .inr (4, [.ref q_t_labels_label, .int c1, .int c2])), (q_t_labels_label, .inl (cI, 10, .inl c3)), (q_t_graph_order, .inl (cI, 30, .inl t_graph_order)), (q_t_graph_from, .inl (cI, 30, .inl t_graph_from)), (q_t_graph_to, .inl (cI, 30, .inl t_graph_to)), (q_t_graph_weight, .inl (cI, 30, .inl t_graph_weight))] := hD
  refine lv_iconst (v := 1) hx hb d_JoiningTrees_treeCost_18 (by decide) ?_
  refine lv_isub hx hb d_JoiningTrees_treeCost_19 ?_
  refine lv_topi (fun x5 ex5 => ?_)
  have hf := bn_e ex5 hf
  refine lv_istore (lv' := [(4, .int x5), (0, .ref q_t), (1, .int p1), (2, .long p2)]) hx hb d_JoiningTrees_treeCost_20 hl (by decide) rfl (fun ls hl => ?_)
  refine lv_lconst (v := 0) hx hb d_JoiningTrees_treeCost_22 (by decide) ?_
  refine lv_lstore (lv' := [(5, .long (0 : Int64)), (4, .int x5), (0, .ref q_t), (1, .int p1), (2, .long p2)]) hx hb d_JoiningTrees_treeCost_23 hl (by decide) rfl (fun ls hl => ?_)
  refine lv_iconst (v := 0) hx hb d_JoiningTrees_treeCost_25 (by decide) ?_
  refine lv_istore (lv' := [(7, .int (0 : Int32)), (5, .long (0 : Int64)), (4, .int x5), (0, .ref q_t), (1, .int p1), (2, .long p2)]) hx hb d_JoiningTrees_treeCost_26 hl (by decide) rfl (fun ls hl => ?_)
  exact w_JoiningTrees_treeCost_28_l C0 hret N x5 (0 : Int64) (0 : Int32) c1 c2 c3 _ _ _ hP hD hS (lv_sub hl [3, 4, 5, 2, 1, 0] rfl) hf
set_option maxRecDepth 100000 in
set_option maxHeartbeats 4000000 in
theorem c_JoiningTrees_treeCost (l : Launch) (D : va_G) (cI cJ cG cZ : ClassId) (q_t q_t_graph q_t_labels q_t_graph_from q_t_graph_to q_t_graph_weight q_t_graph_order q_t_labels_label : Nat) (t_graph_nodes : Int32) (t_graph_numbered : Int32) (t_graph_size : Int32) (t_graph_present : Int64) (t_labels_nodes0 : Int32) (t_labels_groups0 : Int32) (t_labels_label0 : Nat → Int32) (t_graph_order : Nat → Int32) (t_graph_from : Nat → Int32) (t_graph_to : Nat → Int32) (t_graph_weight : Nat → Int32) (p1 : Int32) (p2 : Int64) {N : Nat} {r : Int64} {t_labels_nodes' : Int32} {t_labels_groups' : Int32} {t_labels_label' : Nat → Int32} (hf : f_JoiningTrees_treeCost N p1 p2 t_graph_nodes t_graph_size t_labels_label0 t_graph_order t_graph_from t_graph_to t_graph_weight = some (r, t_labels_nodes', t_labels_groups', t_labels_label')) : MeG l D CL (TYs cI cJ cG cZ) y_JoiningTrees_treeCost ws_JoiningTrees_treeCost (rm_JoiningTrees_treeCost) [.ref q_t, .int p1, .long p2] [(q_t, .inr (3, [.ref q_t_graph, .ref q_t_labels])), (q_t_graph, .inr (2, [.ref q_t_graph_from, .ref q_t_graph_to, .ref q_t_graph_weight, .ref q_t_graph_order, .int t_graph_nodes, .int t_graph_numbered, .int t_graph_size, .long t_graph_present])), (q_t_labels, .inr (4, [.ref q_t_labels_label, .int t_labels_nodes0, .int t_labels_groups0])), (q_t_labels_label, .inl (cI, 10, .inl t_labels_label0)), (q_t_graph_order, .inl (cI, 30, .inl t_graph_order)), (q_t_graph_from, .inl (cI, 30, .inl t_graph_from)), (q_t_graph_to, .inl (cI, 30, .inl t_graph_to)), (q_t_graph_weight, .inl (cI, 30, .inl t_graph_weight))] (some (.long r)) [(q_t, .inr (3, [.ref q_t_graph, .ref q_t_labels])), (q_t_graph, .inr (2, [.ref q_t_graph_from, .ref q_t_graph_to, .ref q_t_graph_weight, .ref q_t_graph_order, .int t_graph_nodes, .int t_graph_numbered, .int t_graph_size, .long t_graph_present])), (q_t_labels, .inr (4, [.ref q_t_labels_label, .int t_labels_nodes', .int t_labels_groups'])), (q_t_labels_label, .inl (cI, 10, .inl t_labels_label')), (q_t_graph_order, .inl (cI, 30, .inl t_graph_order)), (q_t_graph_from, .inl (cI, 30, .inl t_graph_from)), (q_t_graph_to, .inl (cI, 30, .inl t_graph_to)), (q_t_graph_weight, .inl (cI, 30, .inl t_graph_weight))] := by
  intro sz
  refine Met.ofW (cc := b_JoiningTrees_treeCost) (maxL := 11) (ret := (some .long)) (by decide) rfl ?_
  intro p e s m args below meth c s₁ B hml hv
  obtain ⟨rfl, hsz, hP, hK, hD0⟩ := hv
  subst hsz
  have hD := hD0.self (sz := s.heap.size)
  generalize hAe : va_A [(q_t, .inr (3, [.ref q_t_graph, .ref q_t_labels])), (q_t_graph, .inr (2, [.ref q_t_graph_from, .ref q_t_graph_to, .ref q_t_graph_weight, .ref q_t_graph_order, .int t_graph_nodes, .int t_graph_numbered, .int t_graph_size, .long t_graph_present])), (q_t_labels, .inr (4, [.ref q_t_labels_label, .int t_labels_nodes0, .int t_labels_groups0])), (q_t_labels_label, .inl (cI, 10, .inl t_labels_label0)), (q_t_graph_order, .inl (cI, 30, .inl t_graph_order)), (q_t_graph_from, .inl (cI, 30, .inl t_graph_from)), (q_t_graph_to, .inl (cI, 30, .inl t_graph_to)), (q_t_graph_weight, .inl (cI, 30, .inl t_graph_weight))] s.heap.size = A at hD ⊢
  have C0 : CX p (headSpec ws_JoiningTrees_treeCost (rm_JoiningTrees_treeCost)).room s m _ meth c b_JoiningTrees_treeCost 11 R_JoiningTrees lw_g D CL (TYs cI cJ cG cZ) A 2 85 := ⟨B.exec, B.bytes, hml, findClass_of_methodNamed B.named, fun w h => atoms_spec (ws := ws_JoiningTrees_treeCost) B.pre w (List.mem_cons_of_mem _ h), hK, fun q h => by rw [← hAe]; exact Or.inr h, Nat.le_of_ble_eq_true rfl, Nat.le_of_ble_eq_true rfl, B.notSynchronized⟩
  have hl := lv_entry ([.ref q_t, .int p1, .long p2]) (n := 11) (Nat.le_of_ble_eq_true rfl)
  rw [lg_entry_eq]
  generalize (lg_sl ([.ref q_t, .int p1, .long p2]) ++ List.replicate (11 - (lg_sl ([.ref q_t, .int p1, .long p2])).length) Slot.unset).toArray = ls at hl ⊢
  have hl : lv_has ls 11 [(0, .ref q_t), (1, .int p1), (2, .long p2)] := hl
  exact w_JoiningTrees_treeCost_e C0 (fun pc ls H locs v t_labels_nodes t_labels_groups t_labels_label hdg hP hD hS e => by cases e; exact W.lret B.exec B.bytes B.returns (fun t ht hW => ⟨⟨rfl, by rw [ht]; exact hP, va_K.moved hW.alike hK, hD⟩, hS.F ht⟩) hS.2.2 hdg) _ _ _ hP hD va_S.rf (lv_sub hl [0, 1, 2] rfl) hf
