abbrev b_TreesFromRoot_contract : ByteArray := prog_9_method_12_code
def y_TreesFromRoot_contract : MethodName := ⟨R_TreesFromRoot, "contract", "(I)V"⟩
def ws_TreesFromRoot_contract : List Cond := .code y_TreesFromRoot_contract b_TreesFromRoot_contract 7 none :: lw_g
theorem wi_TreesFromRoot_contract : ∀ w ∈ ws_TreesFromRoot_contract, w ∈ lw_g := wi_of m_3_66
abbrev rm_TreesFromRoot_contract : Room := { frames := 0, cells := 0, slots := 0, locals := 0 }
theorem hd_TreesFromRoot_contract : y_TreesFromRoot_contract.cls = R_TreesFromRoot ∧ y_TreesFromRoot_contract.cls ≠ "java/lang/invoke/MethodHandle" ∧ y_TreesFromRoot_contract.cls ≠ "java/lang/invoke/VarHandle" ∧ (parseMethodDescriptor y_TreesFromRoot_contract.desc).map (fun d => d.parameters.length) = some 1 := by decide +kernel
theorem d_TreesFromRoot_contract_0 : decode b_TreesFromRoot_contract 0 = .ok (.iload_n 1, 1) := by decide +kernel
theorem d_TreesFromRoot_contract_1 : decode b_TreesFromRoot_contract 1 = .ok (.istore_n 2, 1) := by decide +kernel
theorem d_TreesFromRoot_contract_2 : decode b_TreesFromRoot_contract 2 = .ok (.iconst 0, 1) := by decide +kernel
theorem d_TreesFromRoot_contract_3 : decode b_TreesFromRoot_contract 3 = .ok (.istore_n 3, 1) := by decide +kernel
theorem d_TreesFromRoot_contract_4 : decode b_TreesFromRoot_contract 4 = .ok (.iload_n 3, 1) := by decide +kernel
theorem d_TreesFromRoot_contract_5 : decode b_TreesFromRoot_contract 5 = .ok (.aload_n 0, 1) := by decide +kernel
theorem d_TreesFromRoot_contract_6 : decode b_TreesFromRoot_contract 6 = .ok (.getfield 71, 3) := by decide +kernel
theorem d_TreesFromRoot_contract_9 : decode b_TreesFromRoot_contract 9 = .ok (.if_icmp .ge 28, 3) := by decide +kernel
theorem d_TreesFromRoot_contract_12 : decode b_TreesFromRoot_contract 12 = .ok (.aload_n 0, 1) := by decide +kernel
theorem d_TreesFromRoot_contract_13 : decode b_TreesFromRoot_contract 13 = .ok (.getfield 32, 3) := by decide +kernel
theorem d_TreesFromRoot_contract_16 : decode b_TreesFromRoot_contract 16 = .ok (.iload_n 3, 1) := by decide +kernel
theorem d_TreesFromRoot_contract_17 : decode b_TreesFromRoot_contract 17 = .ok (.iaload, 1) := by decide +kernel
theorem d_TreesFromRoot_contract_18 : decode b_TreesFromRoot_contract 18 = .ok (.ifCond .ge 13, 3) := by decide +kernel
theorem d_TreesFromRoot_contract_21 : decode b_TreesFromRoot_contract 21 = .ok (.aload_n 0, 1) := by decide +kernel
theorem d_TreesFromRoot_contract_22 : decode b_TreesFromRoot_contract 22 = .ok (.getfield 32, 3) := by decide +kernel
theorem d_TreesFromRoot_contract_25 : decode b_TreesFromRoot_contract 25 = .ok (.iload_n 3, 1) := by decide +kernel
theorem d_TreesFromRoot_contract_26 : decode b_TreesFromRoot_contract 26 = .ok (.iload_n 2, 1) := by decide +kernel
theorem d_TreesFromRoot_contract_27 : decode b_TreesFromRoot_contract 27 = .ok (.iastore, 1) := by decide +kernel
theorem d_TreesFromRoot_contract_28 : decode b_TreesFromRoot_contract 28 = .ok (.iinc 2 1, 3) := by decide +kernel
theorem d_TreesFromRoot_contract_31 : decode b_TreesFromRoot_contract 31 = .ok (.iinc 3 1, 3) := by decide +kernel
theorem d_TreesFromRoot_contract_34 : decode b_TreesFromRoot_contract 34 = .ok (.goto (-30), 3) := by decide +kernel
theorem d_TreesFromRoot_contract_37 : decode b_TreesFromRoot_contract 37 = .ok (.iconst 0, 1) := by decide +kernel
theorem d_TreesFromRoot_contract_38 : decode b_TreesFromRoot_contract 38 = .ok (.istore_n 3, 1) := by decide +kernel
theorem d_TreesFromRoot_contract_39 : decode b_TreesFromRoot_contract 39 = .ok (.iconst 0, 1) := by decide +kernel
theorem d_TreesFromRoot_contract_40 : decode b_TreesFromRoot_contract 40 = .ok (.istore 4, 2) := by decide +kernel
theorem d_TreesFromRoot_contract_42 : decode b_TreesFromRoot_contract 42 = .ok (.iload 4, 2) := by decide +kernel
theorem d_TreesFromRoot_contract_44 : decode b_TreesFromRoot_contract 44 = .ok (.aload_n 0, 1) := by decide +kernel
theorem d_TreesFromRoot_contract_45 : decode b_TreesFromRoot_contract 45 = .ok (.getfield 81, 3) := by decide +kernel
theorem d_TreesFromRoot_contract_48 : decode b_TreesFromRoot_contract 48 = .ok (.if_icmp .ge 89, 3) := by decide +kernel
theorem d_TreesFromRoot_contract_51 : decode b_TreesFromRoot_contract 51 = .ok (.aload_n 0, 1) := by decide +kernel
theorem d_TreesFromRoot_contract_52 : decode b_TreesFromRoot_contract 52 = .ok (.getfield 32, 3) := by decide +kernel
theorem d_TreesFromRoot_contract_55 : decode b_TreesFromRoot_contract 55 = .ok (.aload_n 0, 1) := by decide +kernel
theorem d_TreesFromRoot_contract_56 : decode b_TreesFromRoot_contract 56 = .ok (.getfield 15, 3) := by decide +kernel
theorem d_TreesFromRoot_contract_59 : decode b_TreesFromRoot_contract 59 = .ok (.iload 4, 2) := by decide +kernel
theorem d_TreesFromRoot_contract_61 : decode b_TreesFromRoot_contract 61 = .ok (.iaload, 1) := by decide +kernel
theorem d_TreesFromRoot_contract_62 : decode b_TreesFromRoot_contract 62 = .ok (.iaload, 1) := by decide +kernel
theorem d_TreesFromRoot_contract_63 : decode b_TreesFromRoot_contract 63 = .ok (.istore 5, 2) := by decide +kernel
theorem d_TreesFromRoot_contract_65 : decode b_TreesFromRoot_contract 65 = .ok (.aload_n 0, 1) := by decide +kernel
theorem d_TreesFromRoot_contract_66 : decode b_TreesFromRoot_contract 66 = .ok (.getfield 32, 3) := by decide +kernel
theorem d_TreesFromRoot_contract_69 : decode b_TreesFromRoot_contract 69 = .ok (.aload_n 0, 1) := by decide +kernel
theorem d_TreesFromRoot_contract_70 : decode b_TreesFromRoot_contract 70 = .ok (.getfield 19, 3) := by decide +kernel
theorem d_TreesFromRoot_contract_73 : decode b_TreesFromRoot_contract 73 = .ok (.iload 4, 2) := by decide +kernel
theorem d_TreesFromRoot_contract_75 : decode b_TreesFromRoot_contract 75 = .ok (.iaload, 1) := by decide +kernel
theorem d_TreesFromRoot_contract_76 : decode b_TreesFromRoot_contract 76 = .ok (.iaload, 1) := by decide +kernel
theorem d_TreesFromRoot_contract_77 : decode b_TreesFromRoot_contract 77 = .ok (.istore 6, 2) := by decide +kernel
theorem d_TreesFromRoot_contract_79 : decode b_TreesFromRoot_contract 79 = .ok (.iload 5, 2) := by decide +kernel
theorem d_TreesFromRoot_contract_81 : decode b_TreesFromRoot_contract 81 = .ok (.iload 6, 2) := by decide +kernel
theorem d_TreesFromRoot_contract_83 : decode b_TreesFromRoot_contract 83 = .ok (.if_icmp .eq 48, 3) := by decide +kernel
theorem d_TreesFromRoot_contract_86 : decode b_TreesFromRoot_contract 86 = .ok (.aload_n 0, 1) := by decide +kernel
theorem d_TreesFromRoot_contract_87 : decode b_TreesFromRoot_contract 87 = .ok (.getfield 22, 3) := by decide +kernel
theorem d_TreesFromRoot_contract_90 : decode b_TreesFromRoot_contract 90 = .ok (.iload_n 3, 1) := by decide +kernel
theorem d_TreesFromRoot_contract_91 : decode b_TreesFromRoot_contract 91 = .ok (.aload_n 0, 1) := by decide +kernel
theorem d_TreesFromRoot_contract_92 : decode b_TreesFromRoot_contract 92 = .ok (.getfield 22, 3) := by decide +kernel
theorem d_TreesFromRoot_contract_95 : decode b_TreesFromRoot_contract 95 = .ok (.iload 4, 2) := by decide +kernel
theorem d_TreesFromRoot_contract_97 : decode b_TreesFromRoot_contract 97 = .ok (.laload, 1) := by decide +kernel
theorem d_TreesFromRoot_contract_98 : decode b_TreesFromRoot_contract 98 = .ok (.aload_n 0, 1) := by decide +kernel
theorem d_TreesFromRoot_contract_99 : decode b_TreesFromRoot_contract 99 = .ok (.getfield 26, 3) := by decide +kernel
theorem d_TreesFromRoot_contract_102 : decode b_TreesFromRoot_contract 102 = .ok (.aload_n 0, 1) := by decide +kernel
theorem d_TreesFromRoot_contract_103 : decode b_TreesFromRoot_contract 103 = .ok (.getfield 19, 3) := by decide +kernel
theorem d_TreesFromRoot_contract_106 : decode b_TreesFromRoot_contract 106 = .ok (.iload 4, 2) := by decide +kernel
theorem d_TreesFromRoot_contract_108 : decode b_TreesFromRoot_contract 108 = .ok (.iaload, 1) := by decide +kernel
theorem d_TreesFromRoot_contract_109 : decode b_TreesFromRoot_contract 109 = .ok (.laload, 1) := by decide +kernel
theorem d_TreesFromRoot_contract_110 : decode b_TreesFromRoot_contract 110 = .ok (.lsub, 1) := by decide +kernel
theorem d_TreesFromRoot_contract_111 : decode b_TreesFromRoot_contract 111 = .ok (.lastore, 1) := by decide +kernel
theorem d_TreesFromRoot_contract_112 : decode b_TreesFromRoot_contract 112 = .ok (.aload_n 0, 1) := by decide +kernel
theorem d_TreesFromRoot_contract_113 : decode b_TreesFromRoot_contract 113 = .ok (.getfield 15, 3) := by decide +kernel
theorem d_TreesFromRoot_contract_116 : decode b_TreesFromRoot_contract 116 = .ok (.iload_n 3, 1) := by decide +kernel
theorem d_TreesFromRoot_contract_117 : decode b_TreesFromRoot_contract 117 = .ok (.iload 5, 2) := by decide +kernel
theorem d_TreesFromRoot_contract_119 : decode b_TreesFromRoot_contract 119 = .ok (.iastore, 1) := by decide +kernel
theorem d_TreesFromRoot_contract_120 : decode b_TreesFromRoot_contract 120 = .ok (.aload_n 0, 1) := by decide +kernel
theorem d_TreesFromRoot_contract_121 : decode b_TreesFromRoot_contract 121 = .ok (.getfield 19, 3) := by decide +kernel
theorem d_TreesFromRoot_contract_124 : decode b_TreesFromRoot_contract 124 = .ok (.iload_n 3, 1) := by decide +kernel
theorem d_TreesFromRoot_contract_125 : decode b_TreesFromRoot_contract 125 = .ok (.iload 6, 2) := by decide +kernel
theorem d_TreesFromRoot_contract_127 : decode b_TreesFromRoot_contract 127 = .ok (.iastore, 1) := by decide +kernel
theorem d_TreesFromRoot_contract_128 : decode b_TreesFromRoot_contract 128 = .ok (.iinc 3 1, 3) := by decide +kernel
theorem d_TreesFromRoot_contract_131 : decode b_TreesFromRoot_contract 131 = .ok (.iinc 4 1, 3) := by decide +kernel
theorem d_TreesFromRoot_contract_134 : decode b_TreesFromRoot_contract 134 = .ok (.goto (-92), 3) := by decide +kernel
theorem d_TreesFromRoot_contract_137 : decode b_TreesFromRoot_contract 137 = .ok (.aload_n 0, 1) := by decide +kernel
theorem d_TreesFromRoot_contract_138 : decode b_TreesFromRoot_contract 138 = .ok (.iload_n 3, 1) := by decide +kernel
theorem d_TreesFromRoot_contract_139 : decode b_TreesFromRoot_contract 139 = .ok (.putfield 81, 3) := by decide +kernel
theorem d_TreesFromRoot_contract_142 : decode b_TreesFromRoot_contract 142 = .ok (.aload_n 0, 1) := by decide +kernel
theorem d_TreesFromRoot_contract_143 : decode b_TreesFromRoot_contract 143 = .ok (.aload_n 0, 1) := by decide +kernel
theorem d_TreesFromRoot_contract_144 : decode b_TreesFromRoot_contract 144 = .ok (.getfield 32, 3) := by decide +kernel
theorem d_TreesFromRoot_contract_147 : decode b_TreesFromRoot_contract 147 = .ok (.aload_n 0, 1) := by decide +kernel
theorem d_TreesFromRoot_contract_148 : decode b_TreesFromRoot_contract 148 = .ok (.getfield 78, 3) := by decide +kernel
theorem d_TreesFromRoot_contract_151 : decode b_TreesFromRoot_contract 151 = .ok (.iaload, 1) := by decide +kernel
theorem d_TreesFromRoot_contract_152 : decode b_TreesFromRoot_contract 152 = .ok (.putfield 78, 3) := by decide +kernel
theorem d_TreesFromRoot_contract_155 : decode b_TreesFromRoot_contract 155 = .ok (.aload_n 0, 1) := by decide +kernel
theorem d_TreesFromRoot_contract_156 : decode b_TreesFromRoot_contract 156 = .ok (.iload_n 2, 1) := by decide +kernel
theorem d_TreesFromRoot_contract_157 : decode b_TreesFromRoot_contract 157 = .ok (.putfield 71, 3) := by decide +kernel
theorem d_TreesFromRoot_contract_160 : decode b_TreesFromRoot_contract 160 = .ok (.return_, 1) := by decide +kernel
def g_TreesFromRoot_contract_42 (t_leastInto : Nat → Int64) (k42 : Int32 → Int32 → Int32 → (Nat → Int32) → (Nat → Int64) → (Nat → Int32) → (Nat → Int32) → Int32 → Int32 → Int32 → Option ((Nat → Int32) × (Nat → Int64) × (Nat → Int32) × (Nat → Int32) × Int32 × Int32 × Int32)) (v2 : Int32) (v3 : Int32) (v4 : Int32) (t_group : Nat → Int32) (t_cost : Nat → Int64) (t_tail : Nat → Int32) (t_head : Nat → Int32) (t_arcs : Int32) (t_root : Int32) (t_nodes : Int32) : Option ((Nat → Int32) × (Nat → Int64) × (Nat → Int32) × (Nat → Int32) × Int32 × Int32 × Int32) :=
  if t_arcs ≤ v4 then
    gd (inb t_root 10) <|
    bn (t_group t_root.toNatClampNeg) fun x1 =>
    some (t_group, t_cost, t_tail, t_head, v3, x1, v2)
  else
    gd (inb v4 30) <|
    gd (inb (t_tail v4.toNatClampNeg) 10) <|
    bn (t_group (t_tail v4.toNatClampNeg).toNatClampNeg) fun x2 =>
    gd (inb v4 30) <|
    gd (inb (t_head v4.toNatClampNeg) 10) <|
    bn (t_group (t_head v4.toNatClampNeg).toNatClampNeg) fun x3 =>
    if x2 = x3 then
      bn (v4 + (1 : Int32)) fun x4 =>
      k42 v2 v3 x4 t_group t_cost t_tail t_head t_arcs t_root t_nodes
    else
      gd (inb v4 30) <|
      gd (inb v4 30) <|
      gd (inb (t_head v4.toNatClampNeg) 10) <|
      gd (inb v3 30) <|
      gd (inb v3 30) <|
      gd (inb v3 30) <|
      bn (v3 + (1 : Int32)) fun x5 =>
      bn (v4 + (1 : Int32)) fun x6 =>
      k42 v2 x5 x6 t_group (vp_updL t_cost v3.toNatClampNeg ((t_cost v4.toNatClampNeg) - (t_leastInto (t_head v4.toNatClampNeg).toNatClampNeg))) (upd t_tail v3.toNatClampNeg x2) (upd t_head v3.toNatClampNeg x3) t_arcs t_root t_nodes
def g_TreesFromRoot_contract_4 (N : Nat) (t_leastInto : Nat → Int64) (k4 : Int32 → Int32 → (Nat → Int32) → (Nat → Int64) → (Nat → Int32) → (Nat → Int32) → Int32 → Int32 → Int32 → Option ((Nat → Int32) × (Nat → Int64) × (Nat → Int32) × (Nat → Int32) × Int32 × Int32 × Int32)) (v2 : Int32) (v3 : Int32) (t_group : Nat → Int32) (t_cost : Nat → Int64) (t_tail : Nat → Int32) (t_head : Nat → Int32) (t_arcs : Int32) (t_root : Int32) (t_nodes : Int32) : Option ((Nat → Int32) × (Nat → Int64) × (Nat → Int32) × (Nat → Int32) × Int32 × Int32 × Int32) :=
  if t_nodes ≤ v3 then
    lo10 (g_TreesFromRoot_contract_42 t_leastInto) N v2 (0 : Int32) (0 : Int32) t_group t_cost t_tail t_head t_arcs t_root t_nodes
  else
    gd (inb v3 10) <|
    if 0 ≤ (t_group v3.toNatClampNeg) then
      bn (v3 + (1 : Int32)) fun x1 =>
      k4 v2 x1 t_group t_cost t_tail t_head t_arcs t_root t_nodes
    else
      gd (inb v3 10) <|
      bn (v2 + (1 : Int32)) fun x2 =>
      bn (v3 + (1 : Int32)) fun x3 =>
      k4 x2 x3 (upd t_group v3.toNatClampNeg v2) t_cost t_tail t_head t_arcs t_root t_nodes
def f_TreesFromRoot_contract (N : Nat) (p1 : Int32) (t_nodes0 : Int32) (t_arcs0 : Int32) (t_root0 : Int32) (t_group0 : Nat → Int32) (t_tail0 : Nat → Int32) (t_head0 : Nat → Int32) (t_cost0 : Nat → Int64) (t_leastInto : Nat → Int64) : Option ((Nat → Int32) × (Nat → Int64) × (Nat → Int32) × (Nat → Int32) × Int32 × Int32 × Int32) :=
  lo9 (g_TreesFromRoot_contract_4 N t_leastInto) N p1 (0 : Int32) t_group0 t_cost0 t_tail0 t_head0 t_arcs0 t_root0 t_nodes0
set_option maxRecDepth 100000 in
set_option maxHeartbeats 4000000 in
theorem w_TreesFromRoot_contract_42 {p : Program} {l : Launch} {e : Env} {R : Room} {s : State} {m : MethodId} {args : Array Value} {below : List Frame} {meth : Method} {c : Code} {D : va_G} {cI cJ cG cZ : ClassId} {A : Nat → Prop} {Q : State → Prop} {q_t q_t_graph q_t_tail q_t_head q_t_cost q_t_leastInto q_t_before q_t_group : Nat} {t_leastInto : Nat → Int64} {RR : (Nat → Int32) × (Nat → Int64) × (Nat → Int32) × (Nat → Int32) × Int32 × Int32 × Int32} (C0 : CX p R s m args meth c b_TreesFromRoot_contract 7 R_TreesFromRoot lw_g D CL (TYs cI cJ cG cZ) A 0 0) (hret : ∀ (pc : Nat) (ls : Array Slot) (H : Heap) (locs : List Loc) (t_group : Nat → Int32) (t_cost : Nat → Int64) (t_tail : Nat → Int32) (t_head : Nat → Int32) (t_arcs : Int32) (t_root : Int32) (t_nodes : Int32), decode b_TreesFromRoot_contract pc = .ok (.return_, 1) → va_P D CL [(q_t, .inr (6, [.ref q_t_graph, .ref q_t_tail, .ref q_t_head, .ref q_t_cost, .ref q_t_leastInto, .ref q_t_before, .ref q_t_group, .int t_nodes, .int t_arcs, .int t_root])), (q_t_group, .inl (cI, 10, .inl t_group)), (q_t_tail, .inl (cI, 30, .inl t_tail)), (q_t_head, .inl (cI, 30, .inl t_head)), (q_t_cost, .inl (cJ, 30, .inr (.inl t_cost))), (q_t_leastInto, .inl (cJ, 10, .inr (.inl t_leastInto)))] H → va_D A [(q_t, .inr (6, [.ref q_t_graph, .ref q_t_tail, .ref q_t_head, .ref q_t_cost, .ref q_t_leastInto, .ref q_t_before, .ref q_t_group, .int t_nodes, .int t_arcs, .int t_root])), (q_t_group, .inl (cI, 10, .inl t_group)), (q_t_tail, .inl (cI, 30, .inl t_tail)), (q_t_head, .inl (cI, 30, .inl t_head)), (q_t_cost, .inl (cJ, 30, .inr (.inl t_cost))), (q_t_leastInto, .inl (cJ, 10, .inr (.inl t_leastInto)))] → va_S A s.heap H locs → some (t_group, t_cost, t_tail, t_head, t_arcs, t_root, t_nodes) = some RR → W p l e R s m args below meth c H locs 0 0 Q (F0 m pc ls [])) (k42 : Int32 → Int32 → Int32 → (Nat → Int32) → (Nat → Int64) → (Nat → Int32) → (Nat → Int32) → Int32 → Int32 → Int32 → Option ((Nat → Int32) × (Nat → Int64) × (Nat → Int32) × (Nat → Int32) × Int32 × Int32 × Int32)) (hk42 : ∀ (v2 : Int32) (v3 : Int32) (v4 : Int32) (t_group : Nat → Int32) (t_cost : Nat → Int64) (t_tail : Nat → Int32) (t_head : Nat → Int32) (t_arcs : Int32) (t_root : Int32) (t_nodes : Int32) (H : Heap) (locs : List Loc) (ls : Array Slot), va_P D CL [(q_t, .inr (6, [.ref q_t_graph, .ref q_t_tail, .ref q_t_head, .ref q_t_cost, .ref q_t_leastInto, .ref q_t_before, .ref q_t_group, .int t_nodes, .int t_arcs, .int t_root])), (q_t_group, .inl (cI, 10, .inl t_group)), (q_t_tail, .inl (cI, 30, .inl t_tail)), (q_t_head, .inl (cI, 30, .inl t_head)), (q_t_cost, .inl (cJ, 30, .inr (.inl t_cost))), (q_t_leastInto, .inl (cJ, 10, .inr (.inl t_leastInto)))] H → va_D A [(q_t, .inr (6, [.ref q_t_graph, .ref q_t_tail, .ref q_t_head, .ref q_t_cost, .ref q_t_leastInto, .ref q_t_before, .ref q_t_group, .int t_nodes, .int t_arcs, .int t_root])), (q_t_group, .inl (cI, 10, .inl t_group)), (q_t_tail, .inl (cI, 30, .inl t_tail)), (q_t_head, .inl (cI, 30, .inl t_head)), (q_t_cost, .inl (cJ, 30, .inr (.inl t_cost))), (q_t_leastInto, .inl (cJ, 10, .inr (.inl t_leastInto)))] → va_S A s.heap H locs → lv_has ls 7 [(0, .ref q_t), (2, .int v2), (3, .int v3), (4, .int v4)] → k42 v2 v3 v4 t_group t_cost t_tail t_head t_arcs t_root t_nodes = some RR → W p l e R s m args below meth c H locs 0 0 Q (F0 m 42 ls [])) : ∀ (v2 : Int32) (v3 : Int32) (v4 : Int32) (t_group : Nat → Int32) (t_cost : Nat → Int64) (t_tail : Nat → Int32) (t_head : Nat → Int32) (t_arcs : Int32) (t_root : Int32) (t_nodes : Int32) (H : Heap) (locs : List Loc) (ls : Array Slot), va_P D CL [(q_t, .inr (6, [.ref q_t_graph, .ref q_t_tail, .ref q_t_head, .ref q_t_cost, .ref q_t_leastInto, .ref q_t_before, .ref q_t_group, .int t_nodes, .int t_arcs, .int t_root])), (q_t_group, .inl (cI, 10, .inl t_group)), (q_t_tail, .inl (cI, 30, .inl t_tail)), (q_t_head, .inl (cI, 30, .inl t_head)), (q_t_cost, .inl (cJ, 30, .inr (.inl t_cost))), (q_t_leastInto, .inl (cJ, 10, .inr (.inl t_leastInto)))] H → va_D A [(q_t, .inr (6, [.ref q_t_graph, .ref q_t_tail, .ref q_t_head, .ref q_t_cost, .ref q_t_leastInto, .ref q_t_before, .ref q_t_group, .int t_nodes, .int t_arcs, .int t_root])), (q_t_group, .inl (cI, 10, .inl t_group)), (q_t_tail, .inl (cI, 30, .inl t_tail)), (q_t_head, .inl (cI, 30, .inl t_head)), (q_t_cost, .inl (cJ, 30, .inr (.inl t_cost))), (q_t_leastInto, .inl (cJ, 10, .inr (.inl t_leastInto)))] → va_S A s.heap H locs → lv_has ls 7 [(0, .ref q_t), (2, .int v2), (3, .int v3), (4, .int v4)] → g_TreesFromRoot_contract_42 t_leastInto k42 v2 v3 v4 t_group t_cost t_tail t_head t_arcs t_root t_nodes = some RR → W p l e R s m args below meth c H locs 0 0 Q (F0 m 42 ls []) := by
  intro v2 v3 v4 t_group t_cost t_tail t_head t_arcs t_root t_nodes H locs ls hP hD hS hl hf
  obtain ⟨hx, hb, hml, hown, hts, hK, hA, hfr, hlo, hlk⟩ := id C0
  unfold g_TreesFromRoot_contract_42 at hf
  refine lv_iload hx hb d_TreesFromRoot_contract_42 (lv_at hl 3 rfl) ?_
  refine lv_aload_n hx hb d_TreesFromRoot_contract_44 rfl (lv_at hl 0 rfl) ?_
  refine va_get (D := D) (ci := 6) (v := .int t_arcs) (C := R_TreesFromRoot) (T := F_TreesFromRoot) (N := 10) hx hb hts i_TreesFromRoot hown hK hP 0 rfl rfl 8 (by decide) (hts _ m_1_195) (fun _ h9 => h9) rfl d_TreesFromRoot_contract_45 ?_
  refine lv_icmp_ge (tgt := 137) hx hb d_TreesFromRoot_contract_48 (by decide) (fun hc1 => ?_) (fun hc1 => ?_)
  · have hf := if_t hc1 hf
    refine lv_aload_n hx hb d_TreesFromRoot_contract_137 rfl (lv_at hl 0 rfl) ?_
    refine lv_iload_n hx hb d_TreesFromRoot_contract_138 rfl (lv_at hl 2 rfl) ?_
    refine va_put (D := D) (ci := 6) (v := .int v3) (ty := .int) (C := R_TreesFromRoot) (T := F_TreesFromRoot) (N := 10) hx hb hts i_TreesFromRoot t_TreesFromRoot to_TreesFromRoot n_TreesFromRoot hown hK hP hD hS 0 rfl rfl 8 (by decide) (hts _ m_1_195) (fun _ h9 => h9) rfl (by decide +kernel) rfl rfl (Nat.le_of_ble_eq_true rfl) d_TreesFromRoot_contract_139 (fun H locs hP hD hS => ?_)
    have hP : va_P D CL [(q_t, .inr (6, [.ref q_t_graph, .ref q_t_tail, .ref q_t_head, .ref q_t_cost, .ref q_t_leastInto, .ref q_t_before, .ref q_t_group, .int t_nodes, .int v3, .int t_root])), (q_t_group, .inl (cI, 10, .inl t_group)), (q_t_tail, .inl (cI, 30, .inl t_tail)), (q_t_head, .inl (cI, 30, .inl t_head)), (q_t_cost, .inl (cJ, 30, .inr (.inl t_cost))), (q_t_leastInto, .inl (cJ, 10, .inr (.inl t_leastInto)))] H := hP
    have hD : va_D A [(q_t, .inr (6, [.ref q_t_graph, .ref q_t_tail, .ref q_t_head, .ref q_t_cost, .ref q_t_leastInto, .ref q_t_before, .ref q_t_group, .int t_nodes, .int v3, .int t_root])), (q_t_group, .inl (cI, 10, .inl t_group)), (q_t_tail, .inl (cI, 30, .inl t_tail)), (q_t_head, .inl (cI, 30, .inl t_head)), (q_t_cost, .inl (cJ, 30, .inr (.inl t_cost))), (q_t_leastInto, .inl (cJ, 10, .inr (.inl t_leastInto)))] := hD
    refine lv_aload_n hx hb d_TreesFromRoot_contract_142 rfl (lv_at hl 0 rfl) ?_
    refine lv_aload_n hx hb d_TreesFromRoot_contract_143 rfl (lv_at hl 0 rfl) ?_
    refine va_get (D := D) (ci := 6) (v := .ref q_t_group) (C := R_TreesFromRoot) (T := F_TreesFromRoot) (N := 10) hx hb hts i_TreesFromRoot hown hK hP 0 rfl rfl 6 (by decide) (hts _ m_1_193) (fun _ h9 => h9) rfl d_TreesFromRoot_contract_144 ?_
    refine lv_aload_n hx hb d_TreesFromRoot_contract_147 rfl (lv_at hl 0 rfl) ?_
    refine va_get (D := D) (ci := 6) (v := .int t_root) (C := R_TreesFromRoot) (T := F_TreesFromRoot) (N := 10) hx hb hts i_TreesFromRoot hown hK hP 0 rfl rfl 9 (by decide) (hts _ m_1_196) (fun _ h9 => h9) rfl d_TreesFromRoot_contract_148 ?_
    obtain ⟨hg1, hf⟩ := gd_e hf
    refine va_iald hx hb hK hP 1 0 rfl rfl (inb_e hg1) d_TreesFromRoot_contract_151 ?_
    refine lv_topi (fun x1 ex1 => ?_)
    have hf := bn_e ex1 hf
    refine va_put (D := D) (ci := 6) (v := .int x1) (ty := .int) (C := R_TreesFromRoot) (T := F_TreesFromRoot) (N := 10) hx hb hts i_TreesFromRoot t_TreesFromRoot to_TreesFromRoot n_TreesFromRoot hown hK hP hD hS 0 rfl rfl 9 (by decide) (hts _ m_1_196) (fun _ h9 => h9) rfl (by decide +kernel) rfl rfl (Nat.le_of_ble_eq_true rfl) d_TreesFromRoot_contract_152 (fun H locs hP hD hS => ?_)
    have hP : va_P D CL [(q_t, .inr (6, [.ref q_t_graph, .ref q_t_tail, .ref q_t_head, .ref q_t_cost, .ref q_t_leastInto, .ref q_t_before, .ref q_t_group, .int t_nodes, .int v3, .int x1])), (q_t_group, .inl (cI, 10, .inl t_group)), (q_t_tail, .inl (cI, 30, .inl t_tail)), (q_t_head, .inl (cI, 30, .inl t_head)), (q_t_cost, .inl (cJ, 30, .inr (.inl t_cost))), (q_t_leastInto, .inl (cJ, 10, .inr (.inl t_leastInto)))] H := hP
    have hD : va_D A [(q_t, .inr (6, [.ref q_t_graph, .ref q_t_tail, .ref q_t_head, .ref q_t_cost, .ref q_t_leastInto, .ref q_t_before, .ref q_t_group, .int t_nodes, .int v3, .int x1])), (q_t_group, .inl (cI, 10, .inl t_group)), (q_t_tail, .inl (cI, 30, .inl t_tail)), (q_t_head, .inl (cI, 30, .inl t_head)), (q_t_cost, .inl (cJ, 30, .inr (.inl t_cost))), (q_t_leastInto, .inl (cJ, 10, .inr (.inl t_leastInto)))] := hD
    refine lv_aload_n hx hb d_TreesFromRoot_contract_155 rfl (lv_at hl 0 rfl) ?_
    refine lv_iload_n hx hb d_TreesFromRoot_contract_156 rfl (lv_at hl 1 rfl) ?_
    refine va_put (D := D) (ci := 6) (v := .int v2) (ty := .int) (C := R_TreesFromRoot) (T := F_TreesFromRoot) (N := 10) hx hb hts i_TreesFromRoot t_TreesFromRoot to_TreesFromRoot n_TreesFromRoot hown hK hP hD hS 0 rfl rfl 7 (by decide) (hts _ m_1_194) (fun _ h9 => h9) rfl (by decide +kernel) rfl rfl (Nat.le_of_ble_eq_true rfl) d_TreesFromRoot_contract_157 (fun H locs hP hD hS => ?_)
    have hP : va_P D CL [(q_t, .inr (6, [.ref q_t_graph, .ref q_t_tail, .ref q_t_head, .ref q_t_cost, .ref q_t_leastInto, .ref q_t_before, .ref q_t_group, .int v2, .int v3, .int x1])), (q_t_group, .inl (cI, 10, .inl t_group)), (q_t_tail, .inl (cI, 30, .inl t_tail)), (q_t_head, .inl (cI, 30, .inl t_head)), (q_t_cost, .inl (cJ, 30, .inr (.inl t_cost))), (q_t_leastInto, .inl (cJ, 10, .inr (.inl t_leastInto)))] H := hP
    have hD : va_D A [(q_t, .inr (6, [.ref q_t_graph, .ref q_t_tail, .ref q_t_head, .ref q_t_cost, .ref q_t_leastInto, .ref q_t_before, .ref q_t_group, .int v2, .int v3, .int x1])), (q_t_group, .inl (cI, 10, .inl t_group)), (q_t_tail, .inl (cI, 30, .inl t_tail)), (q_t_head, .inl (cI, 30, .inl t_head)), (q_t_cost, .inl (cJ, 30, .inr (.inl t_cost))), (q_t_leastInto, .inl (cJ, 10, .inr (.inl t_leastInto)))] := hD
    exact hret 160 _ _ _ t_group t_cost t_tail t_head v3 x1 v2 d_TreesFromRoot_contract_160 hP hD hS hf
  · have hf := if_f hc1 hf
    refine lv_aload_n hx hb d_TreesFromRoot_contract_51 rfl (lv_at hl 0 rfl) ?_
    refine va_get (D := D) (ci := 6) (v := .ref q_t_group) (C := R_TreesFromRoot) (T := F_TreesFromRoot) (N := 10) hx hb hts i_TreesFromRoot hown hK hP 0 rfl rfl 6 (by decide) (hts _ m_1_193) (fun _ h9 => h9) rfl d_TreesFromRoot_contract_52 ?_
    refine lv_aload_n hx hb d_TreesFromRoot_contract_55 rfl (lv_at hl 0 rfl) ?_
    refine va_get (D := D) (ci := 6) (v := .ref q_t_tail) (C := R_TreesFromRoot) (T := F_TreesFromRoot) (N := 10) hx hb hts i_TreesFromRoot hown hK hP 0 rfl rfl 1 (by decide) (hts _ m_1_188) (fun _ h9 => h9) rfl d_TreesFromRoot_contract_56 ?_
    refine lv_iload hx hb d_TreesFromRoot_contract_59 (lv_at hl 3 rfl) ?_
    obtain ⟨hg2, hf⟩ := gd_e hf
    refine va_iald hx hb hK hP 2 0 rfl rfl (inb_e hg2) d_TreesFromRoot_contract_61 ?_
    obtain ⟨hg3, hf⟩ := gd_e hf
    refine va_iald hx hb hK hP 1 0 rfl rfl (inb_e hg3) d_TreesFromRoot_contract_62 ?_
    refine lv_topi (fun x2 ex2 => ?_)
    have hf := bn_e ex2 hf
    refine lv_istore (lv' := [(5, .int x2), (0, .ref q_t), (2, .int v2), (3, .int v3), (4, .int v4)]) hx hb d_TreesFromRoot_contract_63 hl (by decide) rfl (fun ls hl => ?_)
    refine lv_aload_n hx hb d_TreesFromRoot_contract_65 rfl (lv_at hl 1 rfl) ?_
    refine va_get (D := D) (ci := 6) (v := .ref q_t_group) (C := R_TreesFromRoot) (T := F_TreesFromRoot) (N := 10) hx hb hts i_TreesFromRoot hown hK hP 0 rfl rfl 6 (by decide) (hts _ m_1_193) (fun _ h9 => h9) rfl d_TreesFromRoot_contract_66 ?_
    refine lv_aload_n hx hb d_TreesFromRoot_contract_69 rfl (lv_at hl 1 rfl) ?_
    refine va_get (D := D) (ci := 6) (v := .ref q_t_head) (C := R_TreesFromRoot) (T := F_TreesFromRoot) (N := 10) hx hb hts i_TreesFromRoot hown hK hP 0 rfl rfl 2 (by decide) (hts _ m_1_189) (fun _ h9 => h9) rfl d_TreesFromRoot_contract_70 ?_
    refine lv_iload hx hb d_TreesFromRoot_contract_73 (lv_at hl 4 rfl) ?_
    obtain ⟨hg4, hf⟩ := gd_e hf
    refine va_iald hx hb hK hP 3 0 rfl rfl (inb_e hg4) d_TreesFromRoot_contract_75 ?_
    obtain ⟨hg5, hf⟩ := gd_e hf
    refine va_iald hx hb hK hP 1 0 rfl rfl (inb_e hg5) d_TreesFromRoot_contract_76 ?_
    refine lv_topi (fun x3 ex3 => ?_)
    have hf := bn_e ex3 hf
    refine lv_istore (lv' := [(6, .int x3), (5, .int x2), (0, .ref q_t), (2, .int v2), (3, .int v3), (4, .int v4)]) hx hb d_TreesFromRoot_contract_77 hl (by decide) rfl (fun ls hl => ?_)
    refine lv_iload hx hb d_TreesFromRoot_contract_79 (lv_at hl 1 rfl) ?_
    refine lv_iload hx hb d_TreesFromRoot_contract_81 (lv_at hl 0 rfl) ?_
    refine lv_icmp_eq (tgt := 131) hx hb d_TreesFromRoot_contract_83 (by decide) (fun hc2 => ?_) (fun hc2 => ?_)
    · have hf := if_t hc2 hf
      obtain ⟨x4, ex4⟩ : ∃ y : Int32, y = v4 + (1 : Int32) := ⟨_, rfl⟩
      have hf := bn_e ex4 hf
      refine lv_iinc (v := x4) (lv' := [(4, .int x4), (6, .int x3), (5, .int x2), (0, .ref q_t), (2, .int v2), (3, .int v3)]) hx hb d_TreesFromRoot_contract_131 hl (k := 5) rfl (by rw [ex4]; rfl) (by decide) rfl (fun ls hl => ?_)
      refine lv_goto (tgt := 42) hx hb d_TreesFromRoot_contract_134 (by decide) ?_
      exact hk42 v2 v3 x4 t_group t_cost t_tail t_head t_arcs t_root t_nodes _ _ _ hP hD hS (lv_sub hl [3, 4, 5, 0] rfl) hf
    · have hf := if_f hc2 hf
      refine lv_aload_n hx hb d_TreesFromRoot_contract_86 rfl (lv_at hl 2 rfl) ?_
      refine va_get (D := D) (ci := 6) (v := .ref q_t_cost) (C := R_TreesFromRoot) (T := F_TreesFromRoot) (N := 10) hx hb hts i_TreesFromRoot hown hK hP 0 rfl rfl 3 (by decide) (hts _ m_1_190) (fun _ h9 => h9) rfl d_TreesFromRoot_contract_87 ?_
      refine lv_iload_n hx hb d_TreesFromRoot_contract_90 rfl (lv_at hl 4 rfl) ?_
      refine lv_aload_n hx hb d_TreesFromRoot_contract_91 rfl (lv_at hl 2 rfl) ?_
      refine va_get (D := D) (ci := 6) (v := .ref q_t_cost) (C := R_TreesFromRoot) (T := F_TreesFromRoot) (N := 10) hx hb hts i_TreesFromRoot hown hK hP 0 rfl rfl 3 (by decide) (hts _ m_1_190) (fun _ h9 => h9) rfl d_TreesFromRoot_contract_92 ?_
      refine lv_iload hx hb d_TreesFromRoot_contract_95 (lv_at hl 5 rfl) ?_
      obtain ⟨hg6, hf⟩ := gd_e hf
      refine va_lald hx hb hK hP 4 1 rfl rfl (inb_e hg6) d_TreesFromRoot_contract_97 ?_
      refine lv_aload_n hx hb d_TreesFromRoot_contract_98 rfl (lv_at hl 2 rfl) ?_
      refine va_get (D := D) (ci := 6) (v := .ref q_t_leastInto) (C := R_TreesFromRoot) (T := F_TreesFromRoot) (N := 10) hx hb hts i_TreesFromRoot hown hK hP 0 rfl rfl 4 (by decide) (hts _ m_1_191) (fun _ h9 => h9) rfl d_TreesFromRoot_contract_99 ?_
      refine lv_aload_n hx hb d_TreesFromRoot_contract_102 rfl (lv_at hl 2 rfl) ?_
      refine va_get (D := D) (ci := 6) (v := .ref q_t_head) (C := R_TreesFromRoot) (T := F_TreesFromRoot) (N := 10) hx hb hts i_TreesFromRoot hown hK hP 0 rfl rfl 2 (by decide) (hts _ m_1_189) (fun _ h9 => h9) rfl d_TreesFromRoot_contract_103 ?_
      refine lv_iload hx hb d_TreesFromRoot_contract_106 (lv_at hl 5 rfl) ?_
      obtain ⟨hg7, hf⟩ := gd_e hf
      refine va_iald hx hb hK hP 3 0 rfl rfl (inb_e hg7) d_TreesFromRoot_contract_108 ?_
      obtain ⟨hg8, hf⟩ := gd_e hf
      refine va_lald hx hb hK hP 5 1 rfl rfl (inb_e hg8) d_TreesFromRoot_contract_109 ?_
      refine lv_lsub hx hb d_TreesFromRoot_contract_110 ?_
      obtain ⟨hg9, hf⟩ := gd_e hf
      refine va_last hx hb hK hP hD hS 4 1 rfl rfl (inb_e hg9) d_TreesFromRoot_contract_111 (fun H locs hP hD hS => ?_)
      have hP : va_P D CL [(q_t, .inr (6, [.ref q_t_graph, .ref q_t_tail, .ref q_t_head, .ref q_t_cost, .ref q_t_leastInto, .ref q_t_before, .ref q_t_group, .int t_nodes, .int t_arcs, .int t_root])), (q_t_group, .inl (cI, 10, .inl t_group)), (q_t_tail, .inl (cI, 30, .inl t_tail)), (q_t_head, .inl (cI, 30, .inl t_head)), (q_t_cost, .inl (cJ, 30, .inr (.inl (vp_updL t_cost v3.toNatClampNeg ((t_cost v4.toNatClampNeg) - (t_leastInto (t_head v4.toNatClampNeg).toNatClampNeg)))))), (q_t_leastInto, .inl (cJ, 10, .inr (.inl t_leastInto)))] H := hP
      have hD : va_D A [(q_t, .inr (6, [.ref q_t_graph, .ref q_t_tail, .ref q_t_head, .ref q_t_cost, .ref q_t_leastInto, .ref q_t_before, .ref q_t_group, .int t_nodes, .int t_arcs, .int t_root])), (q_t_group, .inl (cI, 10, .inl t_group)), (q_t_tail, .inl (cI, 30, .inl t_tail)), (q_t_head, .inl (cI, 30, .inl t_head)), (q_t_cost, .inl (cJ, 30, .inr (.inl (vp_updL t_cost v3.toNatClampNeg ((t_cost v4.toNatClampNeg) - (t_leastInto (t_head v4.toNatClampNeg).toNatClampNeg)))))), (q_t_leastInto, .inl (cJ, 10, .inr (.inl t_leastInto)))] := hD
      refine lv_aload_n hx hb d_TreesFromRoot_contract_112 rfl (lv_at hl 2 rfl) ?_
      refine va_get (D := D) (ci := 6) (v := .ref q_t_tail) (C := R_TreesFromRoot) (T := F_TreesFromRoot) (N := 10) hx hb hts i_TreesFromRoot hown hK hP 0 rfl rfl 1 (by decide) (hts _ m_1_188) (fun _ h9 => h9) rfl d_TreesFromRoot_contract_113 ?_
      refine lv_iload_n hx hb d_TreesFromRoot_contract_116 rfl (lv_at hl 4 rfl) ?_
      refine lv_iload hx hb d_TreesFromRoot_contract_117 (lv_at hl 1 rfl) ?_
      obtain ⟨hg10, hf⟩ := gd_e hf
      refine va_iast hx hb hK hP hD hS 2 0 rfl rfl (inb_e hg10) d_TreesFromRoot_contract_119 (fun H locs hP hD hS => ?_)
      have hP : va_P D CL [(q_t, .inr (6, [.ref q_t_graph, .ref q_t_tail, .ref q_t_head, .ref q_t_cost, .ref q_t_leastInto, .ref q_t_before, .ref q_t_group, .int t_nodes, .int t_arcs, .int t_root])), (q_t_group, .inl (cI, 10, .inl t_group)), (q_t_tail, .inl (cI, 30, .inl (upd t_tail v3.toNatClampNeg x2))), (q_t_head, .inl (cI, 30, .inl t_head)), (q_t_cost, .inl (cJ, 30, .inr (.inl (vp_updL t_cost v3.toNatClampNeg ((t_cost v4.toNatClampNeg) - (t_leastInto (t_head v4.toNatClampNeg).toNatClampNeg)))))), (q_t_leastInto, .inl (cJ, 10, .inr (.inl t_leastInto)))] H := hP
      have hD : va_D A [(q_t, .inr (6, [.ref q_t_graph, .ref q_t_tail, .ref q_t_head, .ref q_t_cost, .ref q_t_leastInto, .ref q_t_before, .ref q_t_group, .int t_nodes, .int t_arcs, .int t_root])), (q_t_group, .inl (cI, 10, .inl t_group)), (q_t_tail, .inl (cI, 30, .inl (upd t_tail v3.toNatClampNeg x2))), (q_t_head, .inl (cI, 30, .inl t_head)), (q_t_cost, .inl (cJ, 30, .inr (.inl (vp_updL t_cost v3.toNatClampNeg ((t_cost v4.toNatClampNeg) - (t_leastInto (t_head v4.toNatClampNeg).toNatClampNeg)))))), (q_t_leastInto, .inl (cJ, 10, .inr (.inl t_leastInto)))] := hD
      refine lv_aload_n hx hb d_TreesFromRoot_contract_120 rfl (lv_at hl 2 rfl) ?_
      refine va_get (D := D) (ci := 6) (v := .ref q_t_head) (C := R_TreesFromRoot) (T := F_TreesFromRoot) (N := 10) hx hb hts i_TreesFromRoot hown hK hP 0 rfl rfl 2 (by decide) (hts _ m_1_189) (fun _ h9 => h9) rfl d_TreesFromRoot_contract_121 ?_
      refine lv_iload_n hx hb d_TreesFromRoot_contract_124 rfl (lv_at hl 4 rfl) ?_
      refine lv_iload hx hb d_TreesFromRoot_contract_125 (lv_at hl 0 rfl) ?_
      obtain ⟨hg11, hf⟩ := gd_e hf
      refine va_iast hx hb hK hP hD hS 3 0 rfl rfl (inb_e hg11) d_TreesFromRoot_contract_127 (fun H locs hP hD hS => ?_)
      have hP : va_P D CL [(q_t, .inr (6, [.ref q_t_graph, .ref q_t_tail, .ref q_t_head, .ref q_t_cost, .ref q_t_leastInto, .ref q_t_before, .ref q_t_group, .int t_nodes, .int t_arcs, .int t_root])), (q_t_group, .inl (cI, 10, .inl t_group)), (q_t_tail, .inl (cI, 30, .inl (upd t_tail v3.toNatClampNeg x2))), (q_t_head, .inl (cI, 30, .inl (upd t_head v3.toNatClampNeg x3))), (q_t_cost, .inl (cJ, 30, .inr (.inl (vp_updL t_cost v3.toNatClampNeg ((t_cost v4.toNatClampNeg) - (t_leastInto (t_head v4.toNatClampNeg).toNatClampNeg)))))), (q_t_leastInto, .inl (cJ, 10, .inr (.inl t_leastInto)))] H := hP
      have hD : va_D A [(q_t, .inr (6, [.ref q_t_graph, .ref q_t_tail, .ref q_t_head, .ref q_t_cost, .ref q_t_leastInto, .ref q_t_before, .ref q_t_group, .int t_nodes, .int t_arcs, .int t_root])), (q_t_group, .inl (cI, 10, .inl t_group)), (q_t_tail, .inl (cI, 30, .inl (upd t_tail v3.toNatClampNeg x2))), (q_t_head, .inl (cI, 30, .inl (upd t_head v3.toNatClampNeg x3))), (q_t_cost, .inl (cJ, 30, .inr (.inl (vp_updL t_cost v3.toNatClampNeg ((t_cost v4.toNatClampNeg) - (t_leastInto (t_head v4.toNatClampNeg).toNatClampNeg)))))), (q_t_leastInto, .inl (cJ, 10, .inr (.inl t_leastInto)))] := hD
      obtain ⟨x5, ex5⟩ : ∃ y : Int32, y = v3 + (1 : Int32) := ⟨_, rfl⟩
      have hf := bn_e ex5 hf
      refine lv_iinc (v := x5) (lv' := [(3, .int x5), (6, .int x3), (5, .int x2), (0, .ref q_t), (2, .int v2), (4, .int v4)]) hx hb d_TreesFromRoot_contract_128 hl (k := 4) rfl (by rw [ex5]; rfl) (by decide) rfl (fun ls hl => ?_)
      obtain ⟨x6, ex6⟩ : ∃ y : Int32, y = v4 + (1 : Int32) := ⟨_, rfl⟩
      have hf := bn_e ex6 hf
      refine lv_iinc (v := x6) (lv' := [(4, .int x6), (3, .int x5), (6, .int x3), (5, .int x2), (0, .ref q_t), (2, .int v2)]) hx hb d_TreesFromRoot_contract_131 hl (k := 5) rfl (by rw [ex6]; rfl) (by decide) rfl (fun ls hl => ?_)
      refine lv_goto (tgt := 42) hx hb d_TreesFromRoot_contract_134 (by decide) ?_
      exact hk42 v2 x5 x6 t_group (vp_updL t_cost v3.toNatClampNeg ((t_cost v4.toNatClampNeg) - (t_leastInto (t_head v4.toNatClampNeg).toNatClampNeg))) (upd t_tail v3.toNatClampNeg x2) (upd t_head v3.toNatClampNeg x3) t_arcs t_root t_nodes _ _ _ hP hD hS (lv_sub hl [4, 5, 1, 0] rfl) hf
set_option maxRecDepth 100000 in
set_option maxHeartbeats 4000000 in
theorem w_TreesFromRoot_contract_42_l {p : Program} {l : Launch} {e : Env} {R : Room} {s : State} {m : MethodId} {args : Array Value} {below : List Frame} {meth : Method} {c : Code} {D : va_G} {cI cJ cG cZ : ClassId} {A : Nat → Prop} {Q : State → Prop} {q_t q_t_graph q_t_tail q_t_head q_t_cost q_t_leastInto q_t_before q_t_group : Nat} {t_leastInto : Nat → Int64} {RR : (Nat → Int32) × (Nat → Int64) × (Nat → Int32) × (Nat → Int32) × Int32 × Int32 × Int32} (C0 : CX p R s m args meth c b_TreesFromRoot_contract 7 R_TreesFromRoot lw_g D CL (TYs cI cJ cG cZ) A 0 0) (hret : ∀ (pc : Nat) (ls : Array Slot) (H : Heap) (locs : List Loc) (t_group : Nat → Int32) (t_cost : Nat → Int64) (t_tail : Nat → Int32) (t_head : Nat → Int32) (t_arcs : Int32) (t_root : Int32) (t_nodes : Int32), decode b_TreesFromRoot_contract pc = .ok (.return_, 1) → va_P D CL [(q_t, .inr (6, [.ref q_t_graph, .ref q_t_tail, .ref q_t_head, .ref q_t_cost, .ref q_t_leastInto, .ref q_t_before, .ref q_t_group, .int t_nodes, .int t_arcs, .int t_root])), (q_t_group, .inl (cI, 10, .inl t_group)), (q_t_tail, .inl (cI, 30, .inl t_tail)), (q_t_head, .inl (cI, 30, .inl t_head)), (q_t_cost, .inl (cJ, 30, .inr (.inl t_cost))), (q_t_leastInto, .inl (cJ, 10, .inr (.inl t_leastInto)))] H → va_D A [(q_t, .inr (6, [.ref q_t_graph, .ref q_t_tail, .ref q_t_head, .ref q_t_cost, .ref q_t_leastInto, .ref q_t_before, .ref q_t_group, .int t_nodes, .int t_arcs, .int t_root])), (q_t_group, .inl (cI, 10, .inl t_group)), (q_t_tail, .inl (cI, 30, .inl t_tail)), (q_t_head, .inl (cI, 30, .inl t_head)), (q_t_cost, .inl (cJ, 30, .inr (.inl t_cost))), (q_t_leastInto, .inl (cJ, 10, .inr (.inl t_leastInto)))] → va_S A s.heap H locs → some (t_group, t_cost, t_tail, t_head, t_arcs, t_root, t_nodes) = some RR → W p l e R s m args below meth c H locs 0 0 Q (F0 m pc ls []))  : ∀ (n : Nat) (v2 : Int32) (v3 : Int32) (v4 : Int32) (t_group : Nat → Int32) (t_cost : Nat → Int64) (t_tail : Nat → Int32) (t_head : Nat → Int32) (t_arcs : Int32) (t_root : Int32) (t_nodes : Int32) (H : Heap) (locs : List Loc) (ls : Array Slot), va_P D CL [(q_t, .inr (6, [.ref q_t_graph, .ref q_t_tail, .ref q_t_head, .ref q_t_cost, .ref q_t_leastInto, .ref q_t_before, .ref q_t_group, .int t_nodes, .int t_arcs, .int t_root])), (q_t_group, .inl (cI, 10, .inl t_group)), (q_t_tail, .inl (cI, 30, .inl t_tail)), (q_t_head, .inl (cI, 30, .inl t_head)), (q_t_cost, .inl (cJ, 30, .inr (.inl t_cost))), (q_t_leastInto, .inl (cJ, 10, .inr (.inl t_leastInto)))] H → va_D A [(q_t, .inr (6, [.ref q_t_graph, .ref q_t_tail, .ref q_t_head, .ref q_t_cost, .ref q_t_leastInto, .ref q_t_before, .ref q_t_group, .int t_nodes, .int t_arcs, .int t_root])), (q_t_group, .inl (cI, 10, .inl t_group)), (q_t_tail, .inl (cI, 30, .inl t_tail)), (q_t_head, .inl (cI, 30, .inl t_head)), (q_t_cost, .inl (cJ, 30, .inr (.inl t_cost))), (q_t_leastInto, .inl (cJ, 10, .inr (.inl t_leastInto)))] → va_S A s.heap H locs → lv_has ls 7 [(0, .ref q_t), (2, .int v2), (3, .int v3), (4, .int v4)] → lo10 (g_TreesFromRoot_contract_42 t_leastInto) n v2 v3 v4 t_group t_cost t_tail t_head t_arcs t_root t_nodes = some RR → W p l e R s m args below meth c H locs 0 0 Q (F0 m 42 ls []) := by
  intro n
  induction n with
  | zero =>
    intro v2 v3 v4 t_group t_cost t_tail t_head t_arcs t_root t_nodes H locs ls hP hD hS hl hf
    exact absurd hf (by simp [lo10])
  | succ n ih =>
    intro v2 v3 v4 t_group t_cost t_tail t_head t_arcs t_root t_nodes H locs ls hP hD hS hl hf
    exact w_TreesFromRoot_contract_42 C0 hret  (lo10 (g_TreesFromRoot_contract_42 t_leastInto) n) ih v2 v3 v4 t_group t_cost t_tail t_head t_arcs t_root t_nodes H locs ls hP hD hS hl hf
set_option maxRecDepth 100000 in
set_option maxHeartbeats 4000000 in
theorem w_TreesFromRoot_contract_4 {p : Program} {l : Launch} {e : Env} {R : Room} {s : State} {m : MethodId} {args : Array Value} {below : List Frame} {meth : Method} {c : Code} {D : va_G} {cI cJ cG cZ : ClassId} {A : Nat → Prop} {Q : State → Prop} {q_t q_t_graph q_t_tail q_t_head q_t_cost q_t_leastInto q_t_before q_t_group : Nat} {t_leastInto : Nat → Int64} {N : Nat} {RR : (Nat → Int32) × (Nat → Int64) × (Nat → Int32) × (Nat → Int32) × Int32 × Int32 × Int32} (C0 : CX p R s m args meth c b_TreesFromRoot_contract 7 R_TreesFromRoot lw_g D CL (TYs cI cJ cG cZ) A 0 0) (hret : ∀ (pc : Nat) (ls : Array Slot) (H : Heap) (locs : List Loc) (t_group : Nat → Int32) (t_cost : Nat → Int64) (t_tail : Nat → Int32) (t_head : Nat → Int32) (t_arcs : Int32) (t_root : Int32) (t_nodes : Int32), decode b_TreesFromRoot_contract pc = .ok (.return_, 1) → va_P D CL [(q_t, .inr (6, [.ref q_t_graph, .ref q_t_tail, .ref q_t_head, .ref q_t_cost, .ref q_t_leastInto, .ref q_t_before, .ref q_t_group, .int t_nodes, .int t_arcs, .int t_root])), (q_t_group, .inl (cI, 10, .inl t_group)), (q_t_tail, .inl (cI, 30, .inl t_tail)), (q_t_head, .inl (cI, 30, .inl t_head)), (q_t_cost, .inl (cJ, 30, .inr (.inl t_cost))), (q_t_leastInto, .inl (cJ, 10, .inr (.inl t_leastInto)))] H → va_D A [(q_t, .inr (6, [.ref q_t_graph, .ref q_t_tail, .ref q_t_head, .ref q_t_cost, .ref q_t_leastInto, .ref q_t_before, .ref q_t_group, .int t_nodes, .int t_arcs, .int t_root])), (q_t_group, .inl (cI, 10, .inl t_group)), (q_t_tail, .inl (cI, 30, .inl t_tail)), (q_t_head, .inl (cI, 30, .inl t_head)), (q_t_cost, .inl (cJ, 30, .inr (.inl t_cost))), (q_t_leastInto, .inl (cJ, 10, .inr (.inl t_leastInto)))] → va_S A s.heap H locs → some (t_group, t_cost, t_tail, t_head, t_arcs, t_root, t_nodes) = some RR → W p l e R s m args below meth c H locs 0 0 Q (F0 m pc ls [])) (k4 : Int32 → Int32 → (Nat → Int32) → (Nat → Int64) → (Nat → Int32) → (Nat → Int32) → Int32 → Int32 → Int32 → Option ((Nat → Int32) × (Nat → Int64) × (Nat → Int32) × (Nat → Int32) × Int32 × Int32 × Int32)) (hk4 : ∀ (v2 : Int32) (v3 : Int32) (t_group : Nat → Int32) (t_cost : Nat → Int64) (t_tail : Nat → Int32) (t_head : Nat → Int32) (t_arcs : Int32) (t_root : Int32) (t_nodes : Int32) (H : Heap) (locs : List Loc) (ls : Array Slot), va_P D CL [(q_t, .inr (6, [.ref q_t_graph, .ref q_t_tail, .ref q_t_head, .ref q_t_cost, .ref q_t_leastInto, .ref q_t_before, .ref q_t_group, .int t_nodes, .int t_arcs, .int t_root])), (q_t_group, .inl (cI, 10, .inl t_group)), (q_t_tail, .inl (cI, 30, .inl t_tail)), (q_t_head, .inl (cI, 30, .inl t_head)), (q_t_cost, .inl (cJ, 30, .inr (.inl t_cost))), (q_t_leastInto, .inl (cJ, 10, .inr (.inl t_leastInto)))] H → va_D A [(q_t, .inr (6, [.ref q_t_graph, .ref q_t_tail, .ref q_t_head, .ref q_t_cost, .ref q_t_leastInto, .ref q_t_before, .ref q_t_group, .int t_nodes, .int t_arcs, .int t_root])), (q_t_group, .inl (cI, 10, .inl t_group)), (q_t_tail, .inl (cI, 30, .inl t_tail)), (q_t_head, .inl (cI, 30, .inl t_head)), (q_t_cost, .inl (cJ, 30, .inr (.inl t_cost))), (q_t_leastInto, .inl (cJ, 10, .inr (.inl t_leastInto)))] → va_S A s.heap H locs → lv_has ls 7 [(0, .ref q_t), (2, .int v2), (3, .int v3)] → k4 v2 v3 t_group t_cost t_tail t_head t_arcs t_root t_nodes = some RR → W p l e R s m args below meth c H locs 0 0 Q (F0 m 4 ls [])) : ∀ (v2 : Int32) (v3 : Int32) (t_group : Nat → Int32) (t_cost : Nat → Int64) (t_tail : Nat → Int32) (t_head : Nat → Int32) (t_arcs : Int32) (t_root : Int32) (t_nodes : Int32) (H : Heap) (locs : List Loc) (ls : Array Slot), va_P D CL [(q_t, .inr (6, [.ref q_t_graph, .ref q_t_tail, .ref q_t_head, .ref q_t_cost, .ref q_t_leastInto, .ref q_t_before, .ref q_t_group, .int t_nodes, .int t_arcs, .int t_root])), (q_t_group, .inl (cI, 10, .inl t_group)), (q_t_tail, .inl (cI, 30, .inl t_tail)), (q_t_head, .inl (cI, 30, .inl t_head)), (q_t_cost, .inl (cJ, 30, .inr (.inl t_cost))), (q_t_leastInto, .inl (cJ, 10, .inr (.inl t_leastInto)))] H → va_D A [(q_t, .inr (6, [.ref q_t_graph, .ref q_t_tail, .ref q_t_head, .ref q_t_cost, .ref q_t_leastInto, .ref q_t_before, .ref q_t_group, .int t_nodes, .int t_arcs, .int t_root])), (q_t_group, .inl (cI, 10, .inl t_group)), (q_t_tail, .inl (cI, 30, .inl t_tail)), (q_t_head, .inl (cI, 30, .inl t_head)), (q_t_cost, .inl (cJ, 30, .inr (.inl t_cost))), (q_t_leastInto, .inl (cJ, 10, .inr (.inl t_leastInto)))] → va_S A s.heap H locs → lv_has ls 7 [(0, .ref q_t), (2, .int v2), (3, .int v3)] → g_TreesFromRoot_contract_4 N t_leastInto k4 v2 v3 t_group t_cost t_tail t_head t_arcs t_root t_nodes = some RR → W p l e R s m args below meth c H locs 0 0 Q (F0 m 4 ls []) := by
  intro v2 v3 t_group t_cost t_tail t_head t_arcs t_root t_nodes H locs ls hP hD hS hl hf
  obtain ⟨hx, hb, hml, hown, hts, hK, hA, hfr, hlo, hlk⟩ := id C0
  unfold g_TreesFromRoot_contract_4 at hf
  refine lv_iload_n hx hb d_TreesFromRoot_contract_4 rfl (lv_at hl 2 rfl) ?_
  refine lv_aload_n hx hb d_TreesFromRoot_contract_5 rfl (lv_at hl 0 rfl) ?_
  refine va_get (D := D) (ci := 6) (v := .int t_nodes) (C := R_TreesFromRoot) (T := F_TreesFromRoot) (N := 10) hx hb hts i_TreesFromRoot hown hK hP 0 rfl rfl 7 (by decide) (hts _ m_1_194) (fun _ h9 => h9) rfl d_TreesFromRoot_contract_6 ?_
  refine lv_icmp_ge (tgt := 37) hx hb d_TreesFromRoot_contract_9 (by decide) (fun hc1 => ?_) (fun hc1 => ?_)
  · have hf := if_t hc1 hf
    refine lv_iconst (v := 0) hx hb d_TreesFromRoot_contract_37 (by decide) ?_
    refine lv_istore_n (lv' := [(3, .int (0 : Int32)), (0, .ref q_t), (2, .int v2)]) hx hb d_TreesFromRoot_contract_38 rfl hl (by decide) rfl (fun ls hl => ?_)
    refine lv_iconst (v := 0) hx hb d_TreesFromRoot_contract_39 (by decide) ?_
    refine lv_istore (lv' := [(4, .int (0 : Int32)), (3, .int (0 : Int32)), (0, .ref q_t), (2, .int v2)]) hx hb d_TreesFromRoot_contract_40 hl (by decide) rfl (fun ls hl => ?_)
    exact w_TreesFromRoot_contract_42_l C0 hret N v2 (0 : Int32) (0 : Int32) t_group t_cost t_tail t_head t_arcs t_root t_nodes _ _ _ hP hD hS (lv_sub hl [2, 3, 1, 0] rfl) hf
  · have hf := if_f hc1 hf
    refine lv_aload_n hx hb d_TreesFromRoot_contract_12 rfl (lv_at hl 0 rfl) ?_
    refine va_get (D := D) (ci := 6) (v := .ref q_t_group) (C := R_TreesFromRoot) (T := F_TreesFromRoot) (N := 10) hx hb hts i_TreesFromRoot hown hK hP 0 rfl rfl 6 (by decide) (hts _ m_1_193) (fun _ h9 => h9) rfl d_TreesFromRoot_contract_13 ?_
    refine lv_iload_n hx hb d_TreesFromRoot_contract_16 rfl (lv_at hl 2 rfl) ?_
    obtain ⟨hg1, hf⟩ := gd_e hf
    refine va_iald hx hb hK hP 1 0 rfl rfl (inb_e hg1) d_TreesFromRoot_contract_17 ?_
    refine lv_if_ge (tgt := 31) hx hb d_TreesFromRoot_contract_18 (by decide) (fun hc2 => ?_) (fun hc2 => ?_)
    · have hf := if_t hc2 hf
      obtain ⟨x1, ex1⟩ : ∃ y : Int32, y = v3 + (1 : Int32) := ⟨_, rfl⟩
      have hf := bn_e ex1 hf
      refine lv_iinc (v := x1) (lv' := [(3, .int x1), (0, .ref q_t), (2, .int v2)]) hx hb d_TreesFromRoot_contract_31 hl (k := 2) rfl (by rw [ex1]; rfl) (by decide) rfl (fun ls hl => ?_)
      refine lv_goto (tgt := 4) hx hb d_TreesFromRoot_contract_34 (by decide) ?_
      exact hk4 v2 x1 t_group t_cost t_tail t_head t_arcs t_root t_nodes _ _ _ hP hD hS (lv_sub hl [1, 2, 0] rfl) hf
    · have hf := if_f hc2 hf
      refine lv_aload_n hx hb d_TreesFromRoot_contract_21 rfl (lv_at hl 0 rfl) ?_
      refine va_get (D := D) (ci := 6) (v := .ref q_t_group) (C := R_TreesFromRoot) (T := F_TreesFromRoot) (N := 10) hx hb hts i_TreesFromRoot hown hK hP 0 rfl rfl 6 (by decide) (hts _ m_1_193) (fun _ h9 => h9) rfl d_TreesFromRoot_contract_22 ?_
      refine lv_iload_n hx hb d_TreesFromRoot_contract_25 rfl (lv_at hl 2 rfl) ?_
      refine lv_iload_n hx hb d_TreesFromRoot_contract_26 rfl (lv_at hl 1 rfl) ?_
      obtain ⟨hg2, hf⟩ := gd_e hf
      refine va_iast hx hb hK hP hD hS 1 0 rfl rfl (inb_e hg2) d_TreesFromRoot_contract_27 (fun H locs hP hD hS => ?_)
      have hP : va_P D CL [(q_t, .inr (6, [.ref q_t_graph, .ref q_t_tail, .ref q_t_head, .ref q_t_cost, .ref q_t_leastInto, .ref q_t_before, .ref q_t_group, .int t_nodes, .int t_arcs, .int t_root])), (q_t_group, .inl (cI, 10, .inl (upd t_group v3.toNatClampNeg v2))), (q_t_tail, .inl (cI, 30, .inl t_tail)), (q_t_head, .inl (cI, 30, .inl t_head)), (q_t_cost, .inl (cJ, 30, .inr (.inl t_cost))), (q_t_leastInto, .inl (cJ, 10, .inr (.inl t_leastInto)))] H := hP
      have hD : va_D A [(q_t, .inr (6, [.ref q_t_graph, .ref q_t_tail, .ref q_t_head, .ref q_t_cost, .ref q_t_leastInto, .ref q_t_before, .ref q_t_group, .int t_nodes, .int t_arcs, .int t_root])), (q_t_group, .inl (cI, 10, .inl (upd t_group v3.toNatClampNeg v2))), (q_t_tail, .inl (cI, 30, .inl t_tail)), (q_t_head, .inl (cI, 30, .inl t_head)), (q_t_cost, .inl (cJ, 30, .inr (.inl t_cost))), (q_t_leastInto, .inl (cJ, 10, .inr (.inl t_leastInto)))] := hD
      obtain ⟨x2, ex2⟩ : ∃ y : Int32, y = v2 + (1 : Int32) := ⟨_, rfl⟩
      have hf := bn_e ex2 hf
      refine lv_iinc (v := x2) (lv' := [(2, .int x2), (0, .ref q_t), (3, .int v3)]) hx hb d_TreesFromRoot_contract_28 hl (k := 1) rfl (by rw [ex2]; rfl) (by decide) rfl (fun ls hl => ?_)
      obtain ⟨x3, ex3⟩ : ∃ y : Int32, y = v3 + (1 : Int32) := ⟨_, rfl⟩
      have hf := bn_e ex3 hf
      refine lv_iinc (v := x3) (lv' := [(3, .int x3), (2, .int x2), (0, .ref q_t)]) hx hb d_TreesFromRoot_contract_31 hl (k := 2) rfl (by rw [ex3]; rfl) (by decide) rfl (fun ls hl => ?_)
      refine lv_goto (tgt := 4) hx hb d_TreesFromRoot_contract_34 (by decide) ?_
      exact hk4 x2 x3 (upd t_group v3.toNatClampNeg v2) t_cost t_tail t_head t_arcs t_root t_nodes _ _ _ hP hD hS (lv_sub hl [2, 1, 0] rfl) hf
set_option maxRecDepth 100000 in
set_option maxHeartbeats 4000000 in
theorem w_TreesFromRoot_contract_4_l {p : Program} {l : Launch} {e : Env} {R : Room} {s : State} {m : MethodId} {args : Array Value} {below : List Frame} {meth : Method} {c : Code} {D : va_G} {cI cJ cG cZ : ClassId} {A : Nat → Prop} {Q : State → Prop} {q_t q_t_graph q_t_tail q_t_head q_t_cost q_t_leastInto q_t_before q_t_group : Nat} {t_leastInto : Nat → Int64} {N : Nat} {RR : (Nat → Int32) × (Nat → Int64) × (Nat → Int32) × (Nat → Int32) × Int32 × Int32 × Int32} (C0 : CX p R s m args meth c b_TreesFromRoot_contract 7 R_TreesFromRoot lw_g D CL (TYs cI cJ cG cZ) A 0 0) (hret : ∀ (pc : Nat) (ls : Array Slot) (H : Heap) (locs : List Loc) (t_group : Nat → Int32) (t_cost : Nat → Int64) (t_tail : Nat → Int32) (t_head : Nat → Int32) (t_arcs : Int32) (t_root : Int32) (t_nodes : Int32), decode b_TreesFromRoot_contract pc = .ok (.return_, 1) → va_P D CL [(q_t, .inr (6, [.ref q_t_graph, .ref q_t_tail, .ref q_t_head, .ref q_t_cost, .ref q_t_leastInto, .ref q_t_before, .ref q_t_group, .int t_nodes, .int t_arcs, .int t_root])), (q_t_group, .inl (cI, 10, .inl t_group)), (q_t_tail, .inl (cI, 30, .inl t_tail)), (q_t_head, .inl (cI, 30, .inl t_head)), (q_t_cost, .inl (cJ, 30, .inr (.inl t_cost))), (q_t_leastInto, .inl (cJ, 10, .inr (.inl t_leastInto)))] H → va_D A [(q_t, .inr (6, [.ref q_t_graph, .ref q_t_tail, .ref q_t_head, .ref q_t_cost, .ref q_t_leastInto, .ref q_t_before, .ref q_t_group, .int t_nodes, .int t_arcs, .int t_root])), (q_t_group, .inl (cI, 10, .inl t_group)), (q_t_tail, .inl (cI, 30, .inl t_tail)), (q_t_head, .inl (cI, 30, .inl t_head)), (q_t_cost, .inl (cJ, 30, .inr (.inl t_cost))), (q_t_leastInto, .inl (cJ, 10, .inr (.inl t_leastInto)))] → va_S A s.heap H locs → some (t_group, t_cost, t_tail, t_head, t_arcs, t_root, t_nodes) = some RR → W p l e R s m args below meth c H locs 0 0 Q (F0 m pc ls []))  : ∀ (n : Nat) (v2 : Int32) (v3 : Int32) (t_group : Nat → Int32) (t_cost : Nat → Int64) (t_tail : Nat → Int32) (t_head : Nat → Int32) (t_arcs : Int32) (t_root : Int32) (t_nodes : Int32) (H : Heap) (locs : List Loc) (ls : Array Slot), va_P D CL [(q_t, .inr (6, [.ref q_t_graph, .ref q_t_tail, .ref q_t_head, .ref q_t_cost, .ref q_t_leastInto, .ref q_t_before, .ref q_t_group, .int t_nodes, .int t_arcs, .int t_root])), (q_t_group, .inl (cI, 10, .inl t_group)), (q_t_tail, .inl (cI, 30, .inl t_tail)), (q_t_head, .inl (cI, 30, .inl t_head)), (q_t_cost, .inl (cJ, 30, .inr (.inl t_cost))), (q_t_leastInto, .inl (cJ, 10, .inr (.inl t_leastInto)))] H → va_D A [(q_t, .inr (6, [.ref q_t_graph, .ref q_t_tail, .ref q_t_head, .ref q_t_cost, .ref q_t_leastInto, .ref q_t_before, .ref q_t_group, .int t_nodes, .int t_arcs, .int t_root])), (q_t_group, .inl (cI, 10, .inl t_group)), (q_t_tail, .inl (cI, 30, .inl t_tail)), (q_t_head, .inl (cI, 30, .inl t_head)), (q_t_cost, .inl (cJ, 30, .inr (.inl t_cost))), (q_t_leastInto, .inl (cJ, 10, .inr (.inl t_leastInto)))] → va_S A s.heap H locs → lv_has ls 7 [(0, .ref q_t), (2, .int v2), (3, .int v3)] → lo9 (g_TreesFromRoot_contract_4 N t_leastInto) n v2 v3 t_group t_cost t_tail t_head t_arcs t_root t_nodes = some RR → W p l e R s m args below meth c H locs 0 0 Q (F0 m 4 ls []) := by
  intro n
  induction n with
  | zero =>
    intro v2 v3 t_group t_cost t_tail t_head t_arcs t_root t_nodes H locs ls hP hD hS hl hf
    exact absurd hf (by simp [lo9])
  | succ n ih =>
    intro v2 v3 t_group t_cost t_tail t_head t_arcs t_root t_nodes H locs ls hP hD hS hl hf
    exact w_TreesFromRoot_contract_4 C0 hret  (lo9 (g_TreesFromRoot_contract_4 N t_leastInto) n) ih v2 v3 t_group t_cost t_tail t_head t_arcs t_root t_nodes H locs ls hP hD hS hl hf
set_option maxRecDepth 100000 in
set_option maxHeartbeats 4000000 in
theorem w_TreesFromRoot_contract_e {p : Program} {l : Launch} {e : Env} {R : Room} {s : State} {m : MethodId} {args : Array Value} {below : List Frame} {meth : Method} {c : Code} {D : va_G} {cI cJ cG cZ : ClassId} {A : Nat → Prop} {Q : State → Prop} {q_t q_t_graph q_t_tail q_t_head q_t_cost q_t_leastInto q_t_before q_t_group : Nat} {t_nodes0 : Int32} {t_arcs0 : Int32} {t_root0 : Int32} {t_group0 : Nat → Int32} {t_tail0 : Nat → Int32} {t_head0 : Nat → Int32} {t_cost0 : Nat → Int64} {t_leastInto : Nat → Int64} {p1 : Int32} {N : Nat} {RR : (Nat → Int32) × (Nat → Int64) × (Nat → Int32) × (Nat → Int32) × Int32 × Int32 × Int32} (C0 : CX p R s m args meth c b_TreesFromRoot_contract 7 R_TreesFromRoot lw_g D CL (TYs cI cJ cG cZ) A 0 0) (hret : ∀ (pc : Nat) (ls : Array Slot) (H : Heap) (locs : List Loc) (t_group : Nat → Int32) (t_cost : Nat → Int64) (t_tail : Nat → Int32) (t_head : Nat → Int32) (t_arcs : Int32) (t_root : Int32) (t_nodes : Int32), decode b_TreesFromRoot_contract pc = .ok (.return_, 1) → va_P D CL [(q_t, .inr (6, [.ref q_t_graph, .ref q_t_tail, .ref q_t_head, .ref q_t_cost, .ref q_t_leastInto, .ref q_t_before, .ref q_t_group, .int t_nodes, .int t_arcs, .int t_root])), (q_t_group, .inl (cI, 10, .inl t_group)), (q_t_tail, .inl (cI, 30, .inl t_tail)), (q_t_head, .inl (cI, 30, .inl t_head)), (q_t_cost, .inl (cJ, 30, .inr (.inl t_cost))), (q_t_leastInto, .inl (cJ, 10, .inr (.inl t_leastInto)))] H → va_D A [(q_t, .inr (6, [.ref q_t_graph, .ref q_t_tail, .ref q_t_head, .ref q_t_cost, .ref q_t_leastInto, .ref q_t_before, .ref q_t_group, .int t_nodes, .int t_arcs, .int t_root])), (q_t_group, .inl (cI, 10, .inl t_group)), (q_t_tail, .inl (cI, 30, .inl t_tail)), (q_t_head, .inl (cI, 30, .inl t_head)), (q_t_cost, .inl (cJ, 30, .inr (.inl t_cost))), (q_t_leastInto, .inl (cJ, 10, .inr (.inl t_leastInto)))] → va_S A s.heap H locs → some (t_group, t_cost, t_tail, t_head, t_arcs, t_root, t_nodes) = some RR → W p l e R s m args below meth c H locs 0 0 Q (F0 m pc ls [])) : ∀ (H : Heap) (locs : List Loc) (ls : Array Slot), va_P D CL [(q_t, .inr (6, [.ref q_t_graph, .ref q_t_tail, .ref q_t_head, .ref q_t_cost, .ref q_t_leastInto, .ref q_t_before, .ref q_t_group, .int t_nodes0, .int t_arcs0, .int t_root0])), (q_t_group, .inl (cI, 10, .inl t_group0)), (q_t_tail, .inl (cI, 30, .inl t_tail0)), (q_t_head, .inl (cI, 30, .inl t_head0)), (q_t_cost, .inl (cJ, 30, .inr (.inl t_cost0))), (q_t_leastInto, .inl (cJ, 10, .inr (.inl t_leastInto)))] H → va_D A [(q_t, .inr (6, [.ref q_t_graph, .ref q_t_tail, .ref q_t_head, .ref q_t_cost, .ref q_t_leastInto, .ref q_t_before, .ref q_t_group, .int t_nodes0, .int t_arcs0, .int t_root0])), (q_t_group, .inl (cI, 10, .inl t_group0)), (q_t_tail, .inl (cI, 30, .inl t_tail0)), (q_t_head, .inl (cI, 30, .inl t_head0)), (q_t_cost, .inl (cJ, 30, .inr (.inl t_cost0))), (q_t_leastInto, .inl (cJ, 10, .inr (.inl t_leastInto)))] → va_S A s.heap H locs → lv_has ls 7 [(0, .ref q_t), (1, .int p1)] → f_TreesFromRoot_contract N p1 t_nodes0 t_arcs0 t_root0 t_group0 t_tail0 t_head0 t_cost0 t_leastInto = some RR → W p l e R s m args below meth c H locs 0 0 Q (F0 m 0 ls []) := by
  intro H locs ls hP hD hS hl hf
  obtain ⟨hx, hb, hml, hown, hts, hK, hA, hfr, hlo, hlk⟩ := id C0
  unfold f_TreesFromRoot_contract at hf
  refine lv_iload_n hx hb d_TreesFromRoot_contract_0 rfl (lv_at hl 1 rfl) ?_
  refine lv_istore_n (lv' := [(2, .int p1), (0, .ref q_t), (1, .int p1)]) hx hb d_TreesFromRoot_contract_1 rfl hl (by decide) rfl (fun ls hl => ?_)
  refine lv_iconst (v := 0) hx hb d_TreesFromRoot_contract_2 (by decide) ?_
  refine lv_istore_n (lv' := [(3, .int (0 : Int32)), (2, .int p1), (0, .ref q_t), (1, .int p1)]) hx hb d_TreesFromRoot_contract_3 rfl hl (by decide) rfl (fun ls hl => ?_)
  exact w_TreesFromRoot_contract_4_l C0 hret N p1 (0 : Int32) t_group0 t_cost0 t_tail0 t_head0 t_arcs0 t_root0 t_nodes0 _ _ _ hP hD hS (lv_sub hl [2, 1, 0] rfl) hf
set_option maxRecDepth 100000 in
set_option maxHeartbeats 4000000 in
theorem c_TreesFromRoot_contract (l : Launch) (D : va_G) (cI cJ cG cZ : ClassId) (q_t q_t_graph q_t_tail q_t_head q_t_cost q_t_leastInto q_t_before q_t_group : Nat) (t_nodes0 : Int32) (t_arcs0 : Int32) (t_root0 : Int32) (t_group0 : Nat → Int32) (t_tail0 : Nat → Int32) (t_head0 : Nat → Int32) (t_cost0 : Nat → Int64) (t_leastInto : Nat → Int64) (p1 : Int32) {N : Nat} {t_group' : Nat → Int32} {t_cost' : Nat → Int64} {t_tail' : Nat → Int32} {t_head' : Nat → Int32} {t_arcs' : Int32} {t_root' : Int32} {t_nodes' : Int32} (hf : f_TreesFromRoot_contract N p1 t_nodes0 t_arcs0 t_root0 t_group0 t_tail0 t_head0 t_cost0 t_leastInto = some (t_group', t_cost', t_tail', t_head', t_arcs', t_root', t_nodes')) : MeG l D CL (TYs cI cJ cG cZ) y_TreesFromRoot_contract ws_TreesFromRoot_contract (rm_TreesFromRoot_contract) [.ref q_t, .int p1] [(q_t, .inr (6, [.ref q_t_graph, .ref q_t_tail, .ref q_t_head, .ref q_t_cost, .ref q_t_leastInto, .ref q_t_before, .ref q_t_group, .int t_nodes0, .int t_arcs0, .int t_root0])), (q_t_group, .inl (cI, 10, .inl t_group0)), (q_t_tail, .inl (cI, 30, .inl t_tail0)), (q_t_head, .inl (cI, 30, .inl t_head0)), (q_t_cost, .inl (cJ, 30, .inr (.inl t_cost0))), (q_t_leastInto, .inl (cJ, 10, .inr (.inl t_leastInto)))] none [(q_t, .inr (6, [.ref q_t_graph, .ref q_t_tail, .ref q_t_head, .ref q_t_cost, .ref q_t_leastInto, .ref q_t_before, .ref q_t_group, .int t_nodes', .int t_arcs', .int t_root'])), (q_t_group, .inl (cI, 10, .inl t_group')), (q_t_tail, .inl (cI, 30, .inl t_tail')), (q_t_head, .inl (cI, 30, .inl t_head')), (q_t_cost, .inl (cJ, 30, .inr (.inl t_cost'))), (q_t_leastInto, .inl (cJ, 10, .inr (.inl t_leastInto)))] := by
  intro sz
  refine Met.ofW (cc := b_TreesFromRoot_contract) (maxL := 7) (ret := none) (by decide) rfl ?_
  intro p e s m args below meth c s₁ B hml hv
  obtain ⟨rfl, hsz, hP, hK, hD0⟩ := hv
  subst hsz
  have hD := hD0.self (sz := s.heap.size)
  generalize hAe : va_A [(q_t, .inr (6, [.ref q_t_graph, .ref q_t_tail, .ref q_t_head, .ref q_t_cost, .ref q_t_leastInto, .ref q_t_before, .ref q_t_group, .int t_nodes0, .int t_arcs0, .int t_root0])), (q_t_group, .inl (cI, 10, .inl t_group0)), (q_t_tail, .inl (cI, 30, .inl t_tail0)), (q_t_head, .inl (cI, 30, .inl t_head0)), (q_t_cost, .inl (cJ, 30, .inr (.inl t_cost0))), (q_t_leastInto, .inl (cJ, 10, .inr (.inl t_leastInto)))] s.heap.size = A at hD ⊢
  have C0 : CX p (headSpec ws_TreesFromRoot_contract (rm_TreesFromRoot_contract)).room s m _ meth c b_TreesFromRoot_contract 7 R_TreesFromRoot lw_g D CL (TYs cI cJ cG cZ) A 0 0 := ⟨B.exec, B.bytes, hml, findClass_of_methodNamed B.named, fun w h => atoms_spec (ws := ws_TreesFromRoot_contract) B.pre w (List.mem_cons_of_mem _ h), hK, fun q h => by rw [← hAe]; exact Or.inr h, Nat.le_of_ble_eq_true rfl, Nat.le_of_ble_eq_true rfl, B.notSynchronized⟩
  have hl := lv_entry ([.ref q_t, .int p1]) (n := 7) (Nat.le_of_ble_eq_true rfl)
  rw [lg_entry_eq]
  generalize (lg_sl ([.ref q_t, .int p1]) ++ List.replicate (7 - (lg_sl ([.ref q_t, .int p1])).length) Slot.unset).toArray = ls at hl ⊢
  have hl : lv_has ls 7 [(0, .ref q_t), (1, .int p1)] := hl
  exact w_TreesFromRoot_contract_e C0 (fun pc ls H locs t_group t_cost t_tail t_head t_arcs t_root t_nodes hdg hP hD hS e => by cases e; exact W.vret B.exec B.bytes B.returns (fun t ht hW => ⟨⟨rfl, by rw [ht]; exact hP, va_K.moved hW.alike hK, hD⟩, hS.F ht⟩) hS.2.2 hdg) _ _ _ hP hD va_S.rf (lv_sub hl [0, 1] rfl) hf
