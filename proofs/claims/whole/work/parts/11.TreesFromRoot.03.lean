abbrev b_TreesFromRoot_chooseArcs : ByteArray := prog_9_method_8_code
def y_TreesFromRoot_chooseArcs : MethodName := ⟨R_TreesFromRoot, "chooseArcs", "()Z"⟩
def ws_TreesFromRoot_chooseArcs : List Cond := .code y_TreesFromRoot_chooseArcs b_TreesFromRoot_chooseArcs 3 (some .boolean) :: lw_g
theorem wi_TreesFromRoot_chooseArcs : ∀ w ∈ ws_TreesFromRoot_chooseArcs, w ∈ lw_g := wi_of m_3_47
abbrev rm_TreesFromRoot_chooseArcs : Room := { frames := 1, cells := 0, slots := 0, locals := 24 }
theorem hd_TreesFromRoot_chooseArcs : y_TreesFromRoot_chooseArcs.cls = R_TreesFromRoot ∧ y_TreesFromRoot_chooseArcs.cls ≠ "java/lang/invoke/MethodHandle" ∧ y_TreesFromRoot_chooseArcs.cls ≠ "java/lang/invoke/VarHandle" ∧ (parseMethodDescriptor y_TreesFromRoot_chooseArcs.desc).map (fun d => d.parameters.length) = some 0 := by decide +kernel
theorem d_TreesFromRoot_chooseArcs_0 : decode b_TreesFromRoot_chooseArcs 0 = .ok (.aload_n 0, 1) := by decide +kernel
theorem d_TreesFromRoot_chooseArcs_1 : decode b_TreesFromRoot_chooseArcs 1 = .ok (.getfield 26, 3) := by decide +kernel
theorem d_TreesFromRoot_chooseArcs_4 : decode b_TreesFromRoot_chooseArcs 4 = .ok (.ldc2_w 69, 3) := by decide +kernel
theorem d_TreesFromRoot_chooseArcs_7 : decode b_TreesFromRoot_chooseArcs 7 = .ok (.invokestatic 87, 3) := by decide +kernel
theorem d_TreesFromRoot_chooseArcs_10 : decode b_TreesFromRoot_chooseArcs 10 = .ok (.aload_n 0, 1) := by decide +kernel
theorem d_TreesFromRoot_chooseArcs_11 : decode b_TreesFromRoot_chooseArcs 11 = .ok (.getfield 26, 3) := by decide +kernel
theorem d_TreesFromRoot_chooseArcs_14 : decode b_TreesFromRoot_chooseArcs 14 = .ok (.aload_n 0, 1) := by decide +kernel
theorem d_TreesFromRoot_chooseArcs_15 : decode b_TreesFromRoot_chooseArcs 15 = .ok (.getfield 78, 3) := by decide +kernel
theorem d_TreesFromRoot_chooseArcs_18 : decode b_TreesFromRoot_chooseArcs 18 = .ok (.lconst 0, 1) := by decide +kernel
theorem d_TreesFromRoot_chooseArcs_19 : decode b_TreesFromRoot_chooseArcs 19 = .ok (.lastore, 1) := by decide +kernel
theorem d_TreesFromRoot_chooseArcs_20 : decode b_TreesFromRoot_chooseArcs 20 = .ok (.iconst 0, 1) := by decide +kernel
theorem d_TreesFromRoot_chooseArcs_21 : decode b_TreesFromRoot_chooseArcs 21 = .ok (.istore_n 1, 1) := by decide +kernel
theorem d_TreesFromRoot_chooseArcs_22 : decode b_TreesFromRoot_chooseArcs 22 = .ok (.iload_n 1, 1) := by decide +kernel
theorem d_TreesFromRoot_chooseArcs_23 : decode b_TreesFromRoot_chooseArcs 23 = .ok (.aload_n 0, 1) := by decide +kernel
theorem d_TreesFromRoot_chooseArcs_24 : decode b_TreesFromRoot_chooseArcs 24 = .ok (.getfield 81, 3) := by decide +kernel
theorem d_TreesFromRoot_chooseArcs_27 : decode b_TreesFromRoot_chooseArcs 27 = .ok (.if_icmp .ge 64, 3) := by decide +kernel
theorem d_TreesFromRoot_chooseArcs_30 : decode b_TreesFromRoot_chooseArcs 30 = .ok (.aload_n 0, 1) := by decide +kernel
theorem d_TreesFromRoot_chooseArcs_31 : decode b_TreesFromRoot_chooseArcs 31 = .ok (.getfield 22, 3) := by decide +kernel
theorem d_TreesFromRoot_chooseArcs_34 : decode b_TreesFromRoot_chooseArcs 34 = .ok (.iload_n 1, 1) := by decide +kernel
theorem d_TreesFromRoot_chooseArcs_35 : decode b_TreesFromRoot_chooseArcs 35 = .ok (.laload, 1) := by decide +kernel
theorem d_TreesFromRoot_chooseArcs_36 : decode b_TreesFromRoot_chooseArcs 36 = .ok (.aload_n 0, 1) := by decide +kernel
theorem d_TreesFromRoot_chooseArcs_37 : decode b_TreesFromRoot_chooseArcs 37 = .ok (.getfield 26, 3) := by decide +kernel
theorem d_TreesFromRoot_chooseArcs_40 : decode b_TreesFromRoot_chooseArcs 40 = .ok (.aload_n 0, 1) := by decide +kernel
theorem d_TreesFromRoot_chooseArcs_41 : decode b_TreesFromRoot_chooseArcs 41 = .ok (.getfield 19, 3) := by decide +kernel
theorem d_TreesFromRoot_chooseArcs_44 : decode b_TreesFromRoot_chooseArcs 44 = .ok (.iload_n 1, 1) := by decide +kernel
theorem d_TreesFromRoot_chooseArcs_45 : decode b_TreesFromRoot_chooseArcs 45 = .ok (.iaload, 1) := by decide +kernel
theorem d_TreesFromRoot_chooseArcs_46 : decode b_TreesFromRoot_chooseArcs 46 = .ok (.laload, 1) := by decide +kernel
theorem d_TreesFromRoot_chooseArcs_47 : decode b_TreesFromRoot_chooseArcs 47 = .ok (.lcmp, 1) := by decide +kernel
theorem d_TreesFromRoot_chooseArcs_48 : decode b_TreesFromRoot_chooseArcs 48 = .ok (.ifCond .ge 37, 3) := by decide +kernel
theorem d_TreesFromRoot_chooseArcs_51 : decode b_TreesFromRoot_chooseArcs 51 = .ok (.aload_n 0, 1) := by decide +kernel
theorem d_TreesFromRoot_chooseArcs_52 : decode b_TreesFromRoot_chooseArcs 52 = .ok (.getfield 26, 3) := by decide +kernel
theorem d_TreesFromRoot_chooseArcs_55 : decode b_TreesFromRoot_chooseArcs 55 = .ok (.aload_n 0, 1) := by decide +kernel
theorem d_TreesFromRoot_chooseArcs_56 : decode b_TreesFromRoot_chooseArcs 56 = .ok (.getfield 19, 3) := by decide +kernel
theorem d_TreesFromRoot_chooseArcs_59 : decode b_TreesFromRoot_chooseArcs 59 = .ok (.iload_n 1, 1) := by decide +kernel
theorem d_TreesFromRoot_chooseArcs_60 : decode b_TreesFromRoot_chooseArcs 60 = .ok (.iaload, 1) := by decide +kernel
theorem d_TreesFromRoot_chooseArcs_61 : decode b_TreesFromRoot_chooseArcs 61 = .ok (.aload_n 0, 1) := by decide +kernel
theorem d_TreesFromRoot_chooseArcs_62 : decode b_TreesFromRoot_chooseArcs 62 = .ok (.getfield 22, 3) := by decide +kernel
theorem d_TreesFromRoot_chooseArcs_65 : decode b_TreesFromRoot_chooseArcs 65 = .ok (.iload_n 1, 1) := by decide +kernel
theorem d_TreesFromRoot_chooseArcs_66 : decode b_TreesFromRoot_chooseArcs 66 = .ok (.laload, 1) := by decide +kernel
theorem d_TreesFromRoot_chooseArcs_67 : decode b_TreesFromRoot_chooseArcs 67 = .ok (.lastore, 1) := by decide +kernel
theorem d_TreesFromRoot_chooseArcs_68 : decode b_TreesFromRoot_chooseArcs 68 = .ok (.aload_n 0, 1) := by decide +kernel
theorem d_TreesFromRoot_chooseArcs_69 : decode b_TreesFromRoot_chooseArcs 69 = .ok (.getfield 29, 3) := by decide +kernel
theorem d_TreesFromRoot_chooseArcs_72 : decode b_TreesFromRoot_chooseArcs 72 = .ok (.aload_n 0, 1) := by decide +kernel
theorem d_TreesFromRoot_chooseArcs_73 : decode b_TreesFromRoot_chooseArcs 73 = .ok (.getfield 19, 3) := by decide +kernel
theorem d_TreesFromRoot_chooseArcs_76 : decode b_TreesFromRoot_chooseArcs 76 = .ok (.iload_n 1, 1) := by decide +kernel
theorem d_TreesFromRoot_chooseArcs_77 : decode b_TreesFromRoot_chooseArcs 77 = .ok (.iaload, 1) := by decide +kernel
theorem d_TreesFromRoot_chooseArcs_78 : decode b_TreesFromRoot_chooseArcs 78 = .ok (.aload_n 0, 1) := by decide +kernel
theorem d_TreesFromRoot_chooseArcs_79 : decode b_TreesFromRoot_chooseArcs 79 = .ok (.getfield 15, 3) := by decide +kernel
theorem d_TreesFromRoot_chooseArcs_82 : decode b_TreesFromRoot_chooseArcs 82 = .ok (.iload_n 1, 1) := by decide +kernel
theorem d_TreesFromRoot_chooseArcs_83 : decode b_TreesFromRoot_chooseArcs 83 = .ok (.iaload, 1) := by decide +kernel
theorem d_TreesFromRoot_chooseArcs_84 : decode b_TreesFromRoot_chooseArcs 84 = .ok (.iastore, 1) := by decide +kernel
theorem d_TreesFromRoot_chooseArcs_85 : decode b_TreesFromRoot_chooseArcs 85 = .ok (.iinc 1 1, 3) := by decide +kernel
theorem d_TreesFromRoot_chooseArcs_88 : decode b_TreesFromRoot_chooseArcs 88 = .ok (.goto (-66), 3) := by decide +kernel
theorem d_TreesFromRoot_chooseArcs_91 : decode b_TreesFromRoot_chooseArcs 91 = .ok (.iconst 1, 1) := by decide +kernel
theorem d_TreesFromRoot_chooseArcs_92 : decode b_TreesFromRoot_chooseArcs 92 = .ok (.istore_n 1, 1) := by decide +kernel
theorem d_TreesFromRoot_chooseArcs_93 : decode b_TreesFromRoot_chooseArcs 93 = .ok (.iconst 0, 1) := by decide +kernel
theorem d_TreesFromRoot_chooseArcs_94 : decode b_TreesFromRoot_chooseArcs 94 = .ok (.istore_n 2, 1) := by decide +kernel
theorem d_TreesFromRoot_chooseArcs_95 : decode b_TreesFromRoot_chooseArcs 95 = .ok (.iload_n 2, 1) := by decide +kernel
theorem d_TreesFromRoot_chooseArcs_96 : decode b_TreesFromRoot_chooseArcs 96 = .ok (.aload_n 0, 1) := by decide +kernel
theorem d_TreesFromRoot_chooseArcs_97 : decode b_TreesFromRoot_chooseArcs 97 = .ok (.getfield 71, 3) := by decide +kernel
theorem d_TreesFromRoot_chooseArcs_100 : decode b_TreesFromRoot_chooseArcs 100 = .ok (.if_icmp .ge 32, 3) := by decide +kernel
theorem d_TreesFromRoot_chooseArcs_103 : decode b_TreesFromRoot_chooseArcs 103 = .ok (.iload_n 1, 1) := by decide +kernel
theorem d_TreesFromRoot_chooseArcs_104 : decode b_TreesFromRoot_chooseArcs 104 = .ok (.ifCond .eq 20, 3) := by decide +kernel
theorem d_TreesFromRoot_chooseArcs_107 : decode b_TreesFromRoot_chooseArcs 107 = .ok (.aload_n 0, 1) := by decide +kernel
theorem d_TreesFromRoot_chooseArcs_108 : decode b_TreesFromRoot_chooseArcs 108 = .ok (.getfield 26, 3) := by decide +kernel
theorem d_TreesFromRoot_chooseArcs_111 : decode b_TreesFromRoot_chooseArcs 111 = .ok (.iload_n 2, 1) := by decide +kernel
theorem d_TreesFromRoot_chooseArcs_112 : decode b_TreesFromRoot_chooseArcs 112 = .ok (.laload, 1) := by decide +kernel
theorem d_TreesFromRoot_chooseArcs_113 : decode b_TreesFromRoot_chooseArcs 113 = .ok (.ldc2_w 69, 3) := by decide +kernel
theorem d_TreesFromRoot_chooseArcs_116 : decode b_TreesFromRoot_chooseArcs 116 = .ok (.lcmp, 1) := by decide +kernel
theorem d_TreesFromRoot_chooseArcs_117 : decode b_TreesFromRoot_chooseArcs 117 = .ok (.ifCond .ge 7, 3) := by decide +kernel
theorem d_TreesFromRoot_chooseArcs_120 : decode b_TreesFromRoot_chooseArcs 120 = .ok (.iconst 1, 1) := by decide +kernel
theorem d_TreesFromRoot_chooseArcs_121 : decode b_TreesFromRoot_chooseArcs 121 = .ok (.goto 4, 3) := by decide +kernel
theorem d_TreesFromRoot_chooseArcs_124 : decode b_TreesFromRoot_chooseArcs 124 = .ok (.iconst 0, 1) := by decide +kernel
theorem d_TreesFromRoot_chooseArcs_125 : decode b_TreesFromRoot_chooseArcs 125 = .ok (.istore_n 1, 1) := by decide +kernel
theorem d_TreesFromRoot_chooseArcs_126 : decode b_TreesFromRoot_chooseArcs 126 = .ok (.iinc 2 1, 3) := by decide +kernel
theorem d_TreesFromRoot_chooseArcs_129 : decode b_TreesFromRoot_chooseArcs 129 = .ok (.goto (-34), 3) := by decide +kernel
theorem d_TreesFromRoot_chooseArcs_132 : decode b_TreesFromRoot_chooseArcs 132 = .ok (.iload_n 1, 1) := by decide +kernel
theorem d_TreesFromRoot_chooseArcs_133 : decode b_TreesFromRoot_chooseArcs 133 = .ok (.ireturn, 1) := by decide +kernel
def g_TreesFromRoot_chooseArcs_95 (t_nodes : Int32) (k95 : Int32 → Int32 → (Nat → Int64) → (Nat → Int32) → Option (Int32 × (Nat → Int64) × (Nat → Int32))) (v1 : Int32) (v2 : Int32) (t_leastInto : Nat → Int64) (t_before : Nat → Int32) : Option (Int32 × (Nat → Int64) × (Nat → Int32)) :=
  if t_nodes ≤ v2 then
    gd (zb v1) <|
    some (v1, t_leastInto, t_before)
  else
    if v1 = 0 then
      bn (v2 + (1 : Int32)) fun x1 =>
      k95 (0 : Int32) x1 t_leastInto t_before
    else
      gd (inb v2 10) <|
      if 0 ≤ (lg_cmp (t_leastInto v2.toNatClampNeg) (1152921504606846976 : Int64)) then
        bn (v2 + (1 : Int32)) fun x2 =>
        k95 (0 : Int32) x2 t_leastInto t_before
      else
        bn (v2 + (1 : Int32)) fun x3 =>
        k95 (1 : Int32) x3 t_leastInto t_before
def g_TreesFromRoot_chooseArcs_22 (N : Nat) (t_nodes : Int32) (t_arcs : Int32) (t_cost : Nat → Int64) (t_head : Nat → Int32) (t_tail : Nat → Int32) (k22 : Int32 → (Nat → Int64) → (Nat → Int32) → Option (Int32 × (Nat → Int64) × (Nat → Int32))) (v1 : Int32) (t_leastInto : Nat → Int64) (t_before : Nat → Int32) : Option (Int32 × (Nat → Int64) × (Nat → Int32)) :=
  if t_arcs ≤ v1 then
    lo4 (g_TreesFromRoot_chooseArcs_95 t_nodes) N (1 : Int32) (0 : Int32) t_leastInto t_before
  else
    gd (inb v1 30) <|
    gd (inb v1 30) <|
    gd (inb (t_head v1.toNatClampNeg) 10) <|
    if 0 ≤ (lg_cmp (t_cost v1.toNatClampNeg) (t_leastInto (t_head v1.toNatClampNeg).toNatClampNeg)) then
      bn (v1 + (1 : Int32)) fun x1 =>
      k22 x1 t_leastInto t_before
    else
      gd (inb v1 30) <|
      gd (inb v1 30) <|
      gd (inb (t_head v1.toNatClampNeg) 10) <|
      gd (inb v1 30) <|
      gd (inb v1 30) <|
      gd (inb (t_head v1.toNatClampNeg) 10) <|
      bn (v1 + (1 : Int32)) fun x2 =>
      k22 x2 (vp_updL t_leastInto (t_head v1.toNatClampNeg).toNatClampNeg (t_cost v1.toNatClampNeg)) (upd t_before (t_head v1.toNatClampNeg).toNatClampNeg (t_tail v1.toNatClampNeg))
def f_TreesFromRoot_chooseArcs (N : Nat) (t_nodes : Int32) (t_arcs : Int32) (t_root : Int32) (t_leastInto0 : Nat → Int64) (t_cost : Nat → Int64) (t_head : Nat → Int32) (t_tail : Nat → Int32) (t_before0 : Nat → Int32) : Option (Int32 × (Nat → Int64) × (Nat → Int32)) :=
  bk1 (f_Arr_fill1 N (1152921504606846976 : Int64) t_leastInto0 10) fun c1 =>
  gd (inb t_root 10) <|
  lo3 (g_TreesFromRoot_chooseArcs_22 N t_nodes t_arcs t_cost t_head t_tail) N (0 : Int32) (vp_updL c1 t_root.toNatClampNeg (0 : Int64)) t_before0
set_option maxRecDepth 100000 in
set_option maxHeartbeats 4000000 in
theorem w_TreesFromRoot_chooseArcs_95 {p : Program} {l : Launch} {e : Env} {R : Room} {s : State} {m : MethodId} {args : Array Value} {below : List Frame} {meth : Method} {c : Code} {D : va_G} {cI cJ cG cZ : ClassId} {A : Nat → Prop} {Q : State → Prop} {q_t q_t_graph q_t_tail q_t_head q_t_cost q_t_leastInto q_t_before q_t_group : Nat} {t_nodes : Int32} {t_arcs : Int32} {t_root : Int32} {t_cost : Nat → Int64} {t_head : Nat → Int32} {t_tail : Nat → Int32} {RR : Int32 × (Nat → Int64) × (Nat → Int32)} (C0 : CX p R s m args meth c b_TreesFromRoot_chooseArcs 3 R_TreesFromRoot lw_g D CL (TYs cI cJ cG cZ) A 1 24) (hret : ∀ (pc : Nat) (ls : Array Slot) (H : Heap) (locs : List Loc) (v : Int32) (t_leastInto : Nat → Int64) (t_before : Nat → Int32), decode b_TreesFromRoot_chooseArcs pc = .ok (.ireturn, 1) → narrow .boolean (.int v) = .int v → va_P D CL [(q_t, .inr (6, [.ref q_t_graph, .ref q_t_tail, .ref q_t_head, .ref q_t_cost, .ref q_t_leastInto, .ref q_t_before, .ref q_t_group, .int t_nodes, .int t_arcs, .int t_root])), (q_t_leastInto, .inl (cJ, 10, .inr (.inl t_leastInto))), (q_t_cost, .inl (cJ, 30, .inr (.inl t_cost))), (q_t_head, .inl (cI, 30, .inl t_head)), (q_t_tail, .inl (cI, 30, .inl t_tail)), (q_t_before, .inl (cI, 10, .inl t_before))] H → va_D A [(q_t, .inr (6, [.ref q_t_graph, .ref q_t_tail, .ref q_t_head, .ref q_t_cost, .ref q_t_leastInto, .ref q_t_before, .ref q_t_group, .int t_nodes, .int t_arcs, .int t_root])), (q_t_leastInto, .inl (cJ, 10, .inr (.inl t_leastInto))), (q_t_cost, .inl (cJ, 30, .inr (.inl t_cost))), (q_t_head, .inl (cI, 30, .inl t_head)), (q_t_tail, .inl (cI, 30, .inl t_tail)), (q_t_before, .inl (cI, 10, .inl t_before))] → va_S A s.heap H locs → some (v, t_leastInto, t_before) = some RR → W p l e R s m args below meth c H locs 0 0 Q (F0 m pc ls [.int v])) (k95 : Int32 → Int32 → (Nat → Int64) → (Nat → Int32) → Option (Int32 × (Nat → Int64) × (Nat → Int32))) (hk95 : ∀ (v1 : Int32) (v2 : Int32) (t_leastInto : Nat → Int64) (t_before : Nat → Int32) (H : Heap) (locs : List Loc) (ls : Array Slot), va_P D CL [(q_t, .inr (6, [.ref q_t_graph, .ref q_t_tail, .ref q_t_head, .ref q_t_cost, .ref q_t_leastInto, .ref q_t_before, .ref q_t_group, .int t_nodes, .int t_arcs, .int t_root])), (q_t_leastInto, .inl (cJ, 10, .inr (.inl t_leastInto))), (q_t_cost, .inl (cJ, 30, .inr (.inl t_cost))), (q_t_head, .inl (cI, 30, .inl t_head)), (q_t_tail, .inl (cI, 30, .inl t_tail)), (q_t_before, .inl (cI, 10, .inl t_before))] H → va_D A [(q_t, .inr (6, [.ref q_t_graph, .ref q_t_tail, .ref q_t_head, .ref q_t_cost, .ref q_t_leastInto, .ref q_t_before, .ref q_t_group, .int t_nodes, .int t_arcs, .int t_root])), (q_t_leastInto, .inl (cJ, 10, .inr (.inl t_leastInto))), (q_t_cost, .inl (cJ, 30, .inr (.inl t_cost))), (q_t_head, .inl (cI, 30, .inl t_head)), (q_t_tail, .inl (cI, 30, .inl t_tail)), (q_t_before, .inl (cI, 10, .inl t_before))] → va_S A s.heap H locs → lv_has ls 3 [(0, .ref q_t), (1, .int v1), (2, .int v2)] → k95 v1 v2 t_leastInto t_before = some RR → W p l e R s m args below meth c H locs 0 0 Q (F0 m 95 ls [])) : ∀ (v1 : Int32) (v2 : Int32) (t_leastInto : Nat → Int64) (t_before : Nat → Int32) (H : Heap) (locs : List Loc) (ls : Array Slot), va_P D CL [(q_t, .inr (6, [.ref q_t_graph, .ref q_t_tail, .ref q_t_head, .ref q_t_cost, .ref q_t_leastInto, .ref q_t_before, .ref q_t_group, .int t_nodes, .int t_arcs, .int t_root])), (q_t_leastInto, .inl (cJ, 10, .inr (.inl t_leastInto))), (q_t_cost, .inl (cJ, 30, .inr (.inl t_cost))), (q_t_head, .inl (cI, 30, .inl t_head)), (q_t_tail, .inl (cI, 30, .inl t_tail)), (q_t_before, .inl (cI, 10, .inl t_before))] H → va_D A [(q_t, .inr (6, [.ref q_t_graph, .ref q_t_tail, .ref q_t_head, .ref q_t_cost, .ref q_t_leastInto, .ref q_t_before, .ref q_t_group, .int t_nodes, .int t_arcs, .int t_root])), (q_t_leastInto, .inl (cJ, 10, .inr (.inl t_leastInto))), (q_t_cost, .inl (cJ, 30, .inr (.inl t_cost))), (q_t_head, .inl (cI, 30, .inl t_head)), (q_t_tail, .inl (cI, 30, .inl t_tail)), (q_t_before, .inl (cI, 10, .inl t_before))] → va_S A s.heap H locs → lv_has ls 3 [(0, .ref q_t), (1, .int v1), (2, .int v2)] → g_TreesFromRoot_chooseArcs_95 t_nodes k95 v1 v2 t_leastInto t_before = some RR → W p l e R s m args below meth c H locs 0 0 Q (F0 m 95 ls []) := by
  intro v1 v2 t_leastInto t_before H locs ls hP hD hS hl hf
  obtain ⟨hx, hb, hml, hown, hts, hK, hA, hfr, hlo, hlk⟩ := id C0
  unfold g_TreesFromRoot_chooseArcs_95 at hf
  refine lv_iload_n hx hb d_TreesFromRoot_chooseArcs_95 rfl (lv_at hl 2 rfl) ?_
  refine lv_aload_n hx hb d_TreesFromRoot_chooseArcs_96 rfl (lv_at hl 0 rfl) ?_
  refine va_get (D := D) (ci := 6) (v := .int t_nodes) (C := R_TreesFromRoot) (T := F_TreesFromRoot) (N := 10) hx hb hts i_TreesFromRoot hown hK hP 0 rfl rfl 7 (by decide) (hts _ m_1_194) (fun _ h9 => h9) rfl d_TreesFromRoot_chooseArcs_97 ?_
  refine lv_icmp_ge (tgt := 132) hx hb d_TreesFromRoot_chooseArcs_100 (by decide) (fun hc1 => ?_) (fun hc1 => ?_)
  · have hf := if_t hc1 hf
    refine lv_iload_n hx hb d_TreesFromRoot_chooseArcs_132 rfl (lv_at hl 1 rfl) ?_
    obtain ⟨hg1, hf⟩ := gd_e hf
    exact hret 133 _ _ _ v1 t_leastInto t_before d_TreesFromRoot_chooseArcs_133 (zb_e hg1) hP hD hS hf
  · have hf := if_f hc1 hf
    refine lv_iload_n hx hb d_TreesFromRoot_chooseArcs_103 rfl (lv_at hl 1 rfl) ?_
    refine lv_if_eq (tgt := 124) hx hb d_TreesFromRoot_chooseArcs_104 (by decide) (fun hc2 => ?_) (fun hc2 => ?_)
    · have hf := if_t hc2 hf
      refine lv_iconst (v := 0) hx hb d_TreesFromRoot_chooseArcs_124 (by decide) ?_
      refine lv_istore_n (lv' := [(1, .int (0 : Int32)), (0, .ref q_t), (2, .int v2)]) hx hb d_TreesFromRoot_chooseArcs_125 rfl hl (by decide) rfl (fun ls hl => ?_)
      obtain ⟨x1, ex1⟩ : ∃ y : Int32, y = v2 + (1 : Int32) := ⟨_, rfl⟩
      have hf := bn_e ex1 hf
      refine lv_iinc (v := x1) (lv' := [(2, .int x1), (1, .int (0 : Int32)), (0, .ref q_t)]) hx hb d_TreesFromRoot_chooseArcs_126 hl (k := 2) rfl (by rw [ex1]; rfl) (by decide) rfl (fun ls hl => ?_)
      refine lv_goto (tgt := 95) hx hb d_TreesFromRoot_chooseArcs_129 (by decide) ?_
      exact hk95 (0 : Int32) x1 t_leastInto t_before _ _ _ hP hD hS (lv_sub hl [2, 1, 0] rfl) hf
    · have hf := if_f hc2 hf
      refine lv_aload_n hx hb d_TreesFromRoot_chooseArcs_107 rfl (lv_at hl 0 rfl) ?_
      refine va_get (D := D) (ci := 6) (v := .ref q_t_leastInto) (C := R_TreesFromRoot) (T := F_TreesFromRoot) (N := 10) hx hb hts i_TreesFromRoot hown hK hP 0 rfl rfl 4 (by decide) (hts _ m_1_191) (fun _ h9 => h9) rfl d_TreesFromRoot_chooseArcs_108 ?_
      refine lv_iload_n hx hb d_TreesFromRoot_chooseArcs_111 rfl (lv_at hl 2 rfl) ?_
      obtain ⟨hg2, hf⟩ := gd_e hf
      refine va_lald hx hb hK hP 1 1 rfl rfl (inb_e hg2) d_TreesFromRoot_chooseArcs_112 ?_
      refine lv_ldc2 (v := 1152921504606846976) hx hb hown (hts _ m_3_48) d_TreesFromRoot_chooseArcs_113 ?_
      refine W.lcmp hx hb d_TreesFromRoot_chooseArcs_116 ?_
      refine lv_if_ge (tgt := 124) hx hb d_TreesFromRoot_chooseArcs_117 (by decide) (fun hc3 => ?_) (fun hc3 => ?_)
      · have hf := if_t hc3 hf
        refine lv_iconst (v := 0) hx hb d_TreesFromRoot_chooseArcs_124 (by decide) ?_
        refine lv_istore_n (lv' := [(1, .int (0 : Int32)), (0, .ref q_t), (2, .int v2)]) hx hb d_TreesFromRoot_chooseArcs_125 rfl hl (by decide) rfl (fun ls hl => ?_)
        obtain ⟨x2, ex2⟩ : ∃ y : Int32, y = v2 + (1 : Int32) := ⟨_, rfl⟩
        have hf := bn_e ex2 hf
        refine lv_iinc (v := x2) (lv' := [(2, .int x2), (1, .int (0 : Int32)), (0, .ref q_t)]) hx hb d_TreesFromRoot_chooseArcs_126 hl (k := 2) rfl (by rw [ex2]; rfl) (by decide) rfl (fun ls hl => ?_)
        refine lv_goto (tgt := 95) hx hb d_TreesFromRoot_chooseArcs_129 (by decide) ?_
        exact hk95 (0 : Int32) x2 t_leastInto t_before _ _ _ hP hD hS (lv_sub hl [2, 1, 0] rfl) hf
      · have hf := if_f hc3 hf
        refine lv_iconst (v := 1) hx hb d_TreesFromRoot_chooseArcs_120 (by decide) ?_
        refine lv_goto (tgt := 125) hx hb d_TreesFromRoot_chooseArcs_121 (by decide) ?_
        refine lv_istore_n (lv' := [(1, .int (1 : Int32)), (0, .ref q_t), (2, .int v2)]) hx hb d_TreesFromRoot_chooseArcs_125 rfl hl (by decide) rfl (fun ls hl => ?_)
        obtain ⟨x3, ex3⟩ : ∃ y : Int32, y = v2 + (1 : Int32) := ⟨_, rfl⟩
        have hf := bn_e ex3 hf
        refine lv_iinc (v := x3) (lv' := [(2, .int x3), (1, .int (1 : Int32)), (0, .ref q_t)]) hx hb d_TreesFromRoot_chooseArcs_126 hl (k := 2) rfl (by rw [ex3]; rfl) (by decide) rfl (fun ls hl => ?_)
        refine lv_goto (tgt := 95) hx hb d_TreesFromRoot_chooseArcs_129 (by decide) ?_
        exact hk95 (1 : Int32) x3 t_leastInto t_before _ _ _ hP hD hS (lv_sub hl [2, 1, 0] rfl) hf
set_option maxRecDepth 100000 in
set_option maxHeartbeats 4000000 in
theorem w_TreesFromRoot_chooseArcs_95_l {p : Program} {l : Launch} {e : Env} {R : Room} {s : State} {m : MethodId} {args : Array Value} {below : List Frame} {meth : Method} {c : Code} {D : va_G} {cI cJ cG cZ : ClassId} {A : Nat → Prop} {Q : State → Prop} {q_t q_t_graph q_t_tail q_t_head q_t_cost q_t_leastInto q_t_before q_t_group : Nat} {t_nodes : Int32} {t_arcs : Int32} {t_root : Int32} {t_cost : Nat → Int64} {t_head : Nat → Int32} {t_tail : Nat → Int32} {RR : Int32 × (Nat → Int64) × (Nat → Int32)} (C0 : CX p R s m args meth c b_TreesFromRoot_chooseArcs 3 R_TreesFromRoot lw_g D CL (TYs cI cJ cG cZ) A 1 24) (hret : ∀ (pc : Nat) (ls : Array Slot) (H : Heap) (locs : List Loc) (v : Int32) (t_leastInto : Nat → Int64) (t_before : Nat → Int32), decode b_TreesFromRoot_chooseArcs pc = .ok (.ireturn, 1) → narrow .boolean (.int v) = .int v → va_P D CL [(q_t, .inr (6, [.ref q_t_graph, .ref q_t_tail, .ref q_t_head, .ref q_t_cost, .ref q_t_leastInto, .ref q_t_before, .ref q_t_group, .int t_nodes, .int t_arcs, .int t_root])), (q_t_leastInto, .inl (cJ, 10, .inr (.inl t_leastInto))), (q_t_cost, .inl (cJ, 30, .inr (.inl t_cost))), (q_t_head, .inl (cI, 30, .inl t_head)), (q_t_tail, .inl (cI, 30, .inl t_tail)), (q_t_before, .inl (cI, 10, .inl t_before))] H → va_D A [(q_t, .inr (6, [.ref q_t_graph, .ref q_t_tail, .ref q_t_head, .ref q_t_cost, .ref q_t_leastInto, .ref q_t_before, .ref q_t_group, .int t_nodes, .int t_arcs, .int t_root])), (q_t_leastInto, .inl (cJ, 10, .inr (.inl t_leastInto))), (q_t_cost, .inl (cJ, 30, .inr (.inl t_cost))), (q_t_head, .inl (cI, 30, .inl t_head)), (q_t_tail, .inl (cI, 30, .inl t_tail)), (q_t_before, .inl (cI, 10, .inl t_before))] → va_S A s.heap H locs → some (v, t_leastInto, t_before) = some RR → W p l e R s m args below meth c H locs 0 0 Q (F0 m pc ls [.int v]))  : ∀ (n : Nat) (v1 : Int32) (v2 : Int32) (t_leastInto : Nat → Int64) (t_before : Nat → Int32) (H : Heap) (locs : List Loc) (ls : Array Slot), va_P D CL [(q_t, .inr (6, [.ref q_t_graph, .ref q_t_tail, .ref q_t_head, .ref q_t_cost, .ref q_t_leastInto, .ref q_t_before, .ref q_t_group, .int t_nodes, .int t_arcs, .int t_root])), (q_t_leastInto, .inl (cJ, 10, .inr (.inl t_leastInto))), (q_t_cost, .inl (cJ, 30, .inr (.inl t_cost))), (q_t_head, .inl (cI, 30, .inl t_head)), (q_t_tail, .inl (cI, 30, .inl t_tail)), (q_t_before, .inl (cI, 10, .inl t_before))] H → va_D A [(q_t, .inr (6, [.ref q_t_graph, .ref q_t_tail, .ref q_t_head, .ref q_t_cost, .ref q_t_leastInto, .ref q_t_before, .ref q_t_group, .int t_nodes, .int t_arcs, .int t_root])), (q_t_leastInto, .inl (cJ, 10, .inr (.inl t_leastInto))), (q_t_cost, .inl (cJ, 30, .inr (.inl t_cost))), (q_t_head, .inl (cI, 30, .inl t_head)), (q_t_tail, .inl (cI, 30, .inl t_tail)), (q_t_before, .inl (cI, 10, .inl t_before))] → va_S A s.heap H locs → lv_has ls 3 [(0, .ref q_t), (1, .int v1), (2, .int v2)] → lo4 (g_TreesFromRoot_chooseArcs_95 t_nodes) n v1 v2 t_leastInto t_before = some RR → W p l e R s m args below meth c H locs 0 0 Q (F0 m 95 ls []) := by
  intro n
  induction n with
  | zero =>
    intro v1 v2 t_leastInto t_before H locs ls hP hD hS hl hf
    exact absurd hf (by simp [lo4])
  | succ n ih =>
    intro v1 v2 t_leastInto t_before H locs ls hP hD hS hl hf
    exact w_TreesFromRoot_chooseArcs_95 C0 hret  (lo4 (g_TreesFromRoot_chooseArcs_95 t_nodes) n) ih v1 v2 t_leastInto t_before H locs ls hP hD hS hl hf
set_option maxRecDepth 100000 in
set_option maxHeartbeats 4000000 in
theorem w_TreesFromRoot_chooseArcs_22 {p : Program} {l : Launch} {e : Env} {R : Room} {s : State} {m : MethodId} {args : Array Value} {below : List Frame} {meth : Method} {c : Code} {D : va_G} {cI cJ cG cZ : ClassId} {A : Nat → Prop} {Q : State → Prop} {q_t q_t_graph q_t_tail q_t_head q_t_cost q_t_leastInto q_t_before q_t_group : Nat} {t_nodes : Int32} {t_arcs : Int32} {t_root : Int32} {t_cost : Nat → Int64} {t_head : Nat → Int32} {t_tail : Nat → Int32} {N : Nat} {RR : Int32 × (Nat → Int64) × (Nat → Int32)} (C0 : CX p R s m args meth c b_TreesFromRoot_chooseArcs 3 R_TreesFromRoot lw_g D CL (TYs cI cJ cG cZ) A 1 24) (hret : ∀ (pc : Nat) (ls : Array Slot) (H : Heap) (locs : List Loc) (v : Int32) (t_leastInto : Nat → Int64) (t_before : Nat → Int32), decode b_TreesFromRoot_chooseArcs pc = .ok (.ireturn, 1) → narrow .boolean (.int v) = .int v → va_P D CL [(q_t, .inr (6, [.ref q_t_graph, .ref q_t_tail, .ref q_t_head, .ref q_t_cost, .ref q_t_leastInto, .ref q_t_before, .ref q_t_group, .int t_nodes, .int t_arcs, .int t_root])), (q_t_leastInto, .inl (cJ, 10, .inr (.inl t_leastInto))), (q_t_cost, .inl (cJ, 30, .inr (.inl t_cost))), (q_t_head, .inl (cI, 30, .inl t_head)), (q_t_tail, .inl (cI, 30, .inl t_tail)), (q_t_before, .inl (cI, 10, .inl t_before))] H → va_D A [(q_t, .inr (6, [.ref q_t_graph, .ref q_t_tail, .ref q_t_head, .ref q_t_cost, .ref q_t_leastInto, .ref q_t_before, .ref q_t_group, .int t_nodes, .int t_arcs, .int t_root])), (q_t_leastInto, .inl (cJ, 10, .inr (.inl t_leastInto))), (q_t_cost, .inl (cJ, 30, .inr (.inl t_cost))), (q_t_head, .inl (cI, 30, .inl t_head)), (q_t_tail, .inl (cI, 30, .inl t_tail)), (q_t_before, .inl (cI, 10, .inl t_before))] → va_S A s.heap H locs → some (v, t_leastInto, t_before) = some RR → W p l e R s m args below meth c H locs 0 0 Q (F0 m pc ls [.int v])) (k22 : Int32 → (Nat → Int64) → (Nat → Int32) → Option (Int32 × (Nat → Int64) × (Nat → Int32))) (hk22 : ∀ (v1 : Int32) (t_leastInto : Nat → Int64) (t_before : Nat → Int32) (H : Heap) (locs : List Loc) (ls : Array Slot), va_P D CL [(q_t, .inr (6, [.ref q_t_graph, .ref q_t_tail, .ref q_t_head, .ref q_t_cost, .ref q_t_leastInto, .ref q_t_before, .ref q_t_group, .int t_nodes, .int t_arcs, .int t_root])), (q_t_leastInto, .inl (cJ, 10, .inr (.inl t_leastInto))), (q_t_cost, .inl (cJ, 30, .inr (.inl t_cost))), (q_t_head, .inl (cI, 30, .inl t_head)), (q_t_tail, .inl (cI, 30, .inl t_tail)), (q_t_before, .inl (cI, 10, .inl t_before))] H → va_D A [(q_t, .inr (6, [.ref q_t_graph, .ref q_t_tail, .ref q_t_head, .ref q_t_cost, .ref q_t_leastInto, .ref q_t_before, .ref q_t_group, .int t_nodes, .int t_arcs, .int t_root])), (q_t_leastInto, .inl (cJ, 10, .inr (.inl t_leastInto))), (q_t_cost, .inl (cJ, 30, .inr (.inl t_cost))), (q_t_head, .inl (cI, 30, .inl t_head)), (q_t_tail, .inl (cI, 30, .inl t_tail)), (q_t_before, .inl (cI, 10, .inl t_before))] → va_S A s.heap H locs → lv_has ls 3 [(0, .ref q_t), (1, .int v1)] → k22 v1 t_leastInto t_before = some RR → W p l e R s m args below meth c H locs 0 0 Q (F0 m 22 ls [])) : ∀ (v1 : Int32) (t_leastInto : Nat → Int64) (t_before : Nat → Int32) (H : Heap) (locs : List Loc) (ls : Array Slot), va_P D CL [(q_t, .inr (6, [.ref q_t_graph, .ref q_t_tail, .ref q_t_head, .ref q_t_cost, .ref q_t_leastInto, .ref q_t_before, .ref q_t_group, .int t_nodes, .int t_arcs, .int t_root])), (q_t_leastInto, .inl (cJ, 10, .inr (.inl t_leastInto))), (q_t_cost, .inl (cJ, 30, .inr (.inl t_cost))), (q_t_head, .inl (cI, 30, .inl t_head)), (q_t_tail, .inl (cI, 30, .inl t_tail)), (q_t_before, .inl (cI, 10, .inl t_before))] H → va_D A [(q_t, .inr (6, [.ref q_t_graph, .ref q_t_tail, .ref q_t_head, .ref q_t_cost, .ref q_t_leastInto, .ref q_t_before, .ref q_t_group, .int t_nodes, .int t_arcs, .int t_root])), (q_t_leastInto, .inl (cJ, 10, .inr (.inl t_leastInto))), (q_t_cost, .inl (cJ, 30, .inr (.inl t_cost))), (q_t_head, .inl (cI, 30, .inl t_head)), (q_t_tail, .inl (cI, 30, .inl t_tail)), (q_t_before, .inl (cI, 10, .inl t_before))] → va_S A s.heap H locs → lv_has ls 3 [(0, .ref q_t), (1, .int v1)] → g_TreesFromRoot_chooseArcs_22 N t_nodes t_arcs t_cost t_head t_tail k22 v1 t_leastInto t_before = some RR → W p l e R s m args below meth c H locs 0 0 Q (F0 m 22 ls []) := by
  intro v1 t_leastInto t_before H locs ls hP hD hS hl hf
  obtain ⟨hx, hb, hml, hown, hts, hK, hA, hfr, hlo, hlk⟩ := id C0
  unfold g_TreesFromRoot_chooseArcs_22 at hf
  refine lv_iload_n hx hb d_TreesFromRoot_chooseArcs_22 rfl (lv_at hl 1 rfl) ?_
  refine lv_aload_n hx hb d_TreesFromRoot_chooseArcs_23 rfl (lv_at hl 0 rfl) ?_
  refine va_get (D := D) (ci := 6) (v := .int t_arcs) (C := R_TreesFromRoot) (T := F_TreesFromRoot) (N := 10) hx hb hts i_TreesFromRoot hown hK hP 0 rfl rfl 8 (by decide) (hts _ m_1_195) (fun _ h9 => h9) rfl d_TreesFromRoot_chooseArcs_24 ?_
  refine lv_icmp_ge (tgt := 91) hx hb d_TreesFromRoot_chooseArcs_27 (by decide) (fun hc1 => ?_) (fun hc1 => ?_)
  · have hf := if_t hc1 hf
    refine lv_iconst (v := 1) hx hb d_TreesFromRoot_chooseArcs_91 (by decide) ?_
    refine lv_istore_n (lv' := [(1, .int (1 : Int32)), (0, .ref q_t)]) hx hb d_TreesFromRoot_chooseArcs_92 rfl hl (by decide) rfl (fun ls hl => ?_)
    refine lv_iconst (v := 0) hx hb d_TreesFromRoot_chooseArcs_93 (by decide) ?_
    refine lv_istore_n (lv' := [(2, .int (0 : Int32)), (1, .int (1 : Int32)), (0, .ref q_t)]) hx hb d_TreesFromRoot_chooseArcs_94 rfl hl (by decide) rfl (fun ls hl => ?_)
    exact w_TreesFromRoot_chooseArcs_95_l C0 hret N (1 : Int32) (0 : Int32) t_leastInto t_before _ _ _ hP hD hS (lv_sub hl [2, 1, 0] rfl) hf
  · have hf := if_f hc1 hf
    refine lv_aload_n hx hb d_TreesFromRoot_chooseArcs_30 rfl (lv_at hl 0 rfl) ?_
    refine va_get (D := D) (ci := 6) (v := .ref q_t_cost) (C := R_TreesFromRoot) (T := F_TreesFromRoot) (N := 10) hx hb hts i_TreesFromRoot hown hK hP 0 rfl rfl 3 (by decide) (hts _ m_1_190) (fun _ h9 => h9) rfl d_TreesFromRoot_chooseArcs_31 ?_
    refine lv_iload_n hx hb d_TreesFromRoot_chooseArcs_34 rfl (lv_at hl 1 rfl) ?_
    obtain ⟨hg1, hf⟩ := gd_e hf
    refine va_lald hx hb hK hP 2 1 rfl rfl (inb_e hg1) d_TreesFromRoot_chooseArcs_35 ?_
    refine lv_aload_n hx hb d_TreesFromRoot_chooseArcs_36 rfl (lv_at hl 0 rfl) ?_
    refine va_get (D := D) (ci := 6) (v := .ref q_t_leastInto) (C := R_TreesFromRoot) (T := F_TreesFromRoot) (N := 10) hx hb hts i_TreesFromRoot hown hK hP 0 rfl rfl 4 (by decide) (hts _ m_1_191) (fun _ h9 => h9) rfl d_TreesFromRoot_chooseArcs_37 ?_
    refine lv_aload_n hx hb d_TreesFromRoot_chooseArcs_40 rfl (lv_at hl 0 rfl) ?_
    refine va_get (D := D) (ci := 6) (v := .ref q_t_head) (C := R_TreesFromRoot) (T := F_TreesFromRoot) (N := 10) hx hb hts i_TreesFromRoot hown hK hP 0 rfl rfl 2 (by decide) (hts _ m_1_189) (fun _ h9 => h9) rfl d_TreesFromRoot_chooseArcs_41 ?_
    refine lv_iload_n hx hb d_TreesFromRoot_chooseArcs_44 rfl (lv_at hl 1 rfl) ?_
    obtain ⟨hg2, hf⟩ := gd_e hf
    refine va_iald hx hb hK hP 3 0 rfl rfl (inb_e hg2) d_TreesFromRoot_chooseArcs_45 ?_
    obtain ⟨hg3, hf⟩ := gd_e hf
    refine va_lald hx hb hK hP 1 1 rfl rfl (inb_e hg3) d_TreesFromRoot_chooseArcs_46 ?_
    refine W.lcmp hx hb d_TreesFromRoot_chooseArcs_47 ?_
    refine lv_if_ge (tgt := 85) hx hb d_TreesFromRoot_chooseArcs_48 (by decide) (fun hc2 => ?_) (fun hc2 => ?_)
    · have hf := if_t hc2 hf
      obtain ⟨x1, ex1⟩ : ∃ y : Int32, y = v1 + (1 : Int32) := ⟨_, rfl⟩
      have hf := bn_e ex1 hf
      refine lv_iinc (v := x1) (lv' := [(1, .int x1), (0, .ref q_t)]) hx hb d_TreesFromRoot_chooseArcs_85 hl (k := 1) rfl (by rw [ex1]; rfl) (by decide) rfl (fun ls hl => ?_)
      refine lv_goto (tgt := 22) hx hb d_TreesFromRoot_chooseArcs_88 (by decide) ?_
      exact hk22 x1 t_leastInto t_before _ _ _ hP hD hS (lv_sub hl [1, 0] rfl) hf
    · have hf := if_f hc2 hf
      refine lv_aload_n hx hb d_TreesFromRoot_chooseArcs_51 rfl (lv_at hl 0 rfl) ?_
      refine va_get (D := D) (ci := 6) (v := .ref q_t_leastInto) (C := R_TreesFromRoot) (T := F_TreesFromRoot) (N := 10) hx hb hts i_TreesFromRoot hown hK hP 0 rfl rfl 4 (by decide) (hts _ m_1_191) (fun _ h9 => h9) rfl d_TreesFromRoot_chooseArcs_52 ?_
      refine lv_aload_n hx hb d_TreesFromRoot_chooseArcs_55 rfl (lv_at hl 0 rfl) ?_
      refine va_get (D := D) (ci := 6) (v := .ref q_t_head) (C := R_TreesFromRoot) (T := F_TreesFromRoot) (N := 10) hx hb hts i_TreesFromRoot hown hK hP 0 rfl rfl 2 (by decide) (hts _ m_1_189) (fun _ h9 => h9) rfl d_TreesFromRoot_chooseArcs_56 ?_
      refine lv_iload_n hx hb d_TreesFromRoot_chooseArcs_59 rfl (lv_at hl 1 rfl) ?_
      obtain ⟨hg4, hf⟩ := gd_e hf
      refine va_iald hx hb hK hP 3 0 rfl rfl (inb_e hg4) d_TreesFromRoot_chooseArcs_60 ?_
      refine lv_aload_n hx hb d_TreesFromRoot_chooseArcs_61 rfl (lv_at hl 0 rfl) ?_
      refine va_get (D := D) (ci := 6) (v := .ref q_t_cost) (C := R_TreesFromRoot) (T := F_TreesFromRoot) (N := 10) hx hb hts i_TreesFromRoot hown hK hP 0 rfl rfl 3 (by decide) (hts _ m_1_190) (fun _ h9 => h9) rfl d_TreesFromRoot_chooseArcs_62 ?_
      refine lv_iload_n hx hb d_TreesFromRoot_chooseArcs_65 rfl (lv_at hl 1 rfl) ?_
      obtain ⟨hg5, hf⟩ := gd_e hf
      refine va_lald hx hb hK hP 2 1 rfl rfl (inb_e hg5) d_TreesFromRoot_chooseArcs_66 ?_
      obtain ⟨hg6, hf⟩ := gd_e hf
      refine va_last hx hb hK hP hD hS 1 1 rfl rfl (inb_e hg6) d_TreesFromRoot_chooseArcs_67 (fun H locs hP hD hS => ?_)
      have hP : va_P D CL [(q_t, .inr (6, [.ref q_t_graph, .ref q_t_tail, .ref q_t_head, .ref q_t_cost, .ref q_t_leastInto, .ref q_t_before, .ref q_t_group, .int t_nodes, .int t_arcs, .int t_root])), (q_t_leastInto, .inl (cJ, 10, .inr (.inl (vp_updL t_leastInto (t_head v1.toNatClampNeg).toNatClampNeg (t_cost v1.toNatClampNeg))))), (q_t_cost, .inl (cJ, 30, .inr (.inl t_cost))), (q_t_head, .inl (cI, 30, .inl t_head)), (q_t_tail, .inl (cI, 30, .inl t_tail)), (q_t_before, .inl (cI, 10, .inl t_before))] H := hP
      have hD : va_D A [(q_t, .inr (6, [.ref q_t_graph, .ref q_t_tail, .ref q_t_head, .ref q_t_cost, .ref q_t_leastInto, .ref q_t_before, .ref q_t_group, .int t_nodes, .int t_arcs, .int t_root])), (q_t_leastInto, .inl (cJ, 10, .inr (.inl (vp_updL t_leastInto (t_head v1.toNatClampNeg).toNatClampNeg (t_cost v1.toNatClampNeg))))), (q_t_cost, .inl (cJ, 30, .inr (.inl t_cost))), (q_t_head, .inl (cI, 30, .inl t_head)), (q_t_tail, .inl (cI, 30, .inl t_tail)), (q_t_before, .inl (cI, 10, .inl t_before))] := hD
      refine lv_aload_n hx hb d_TreesFromRoot_chooseArcs_68 rfl (lv_at hl 0 rfl) ?_
      refine va_get (D := D) (ci := 6) (v := .ref q_t_before) (C := R_TreesFromRoot) (T := F_TreesFromRoot) (N := 10) hx hb hts i_TreesFromRoot hown hK hP 0 rfl rfl 5 (by decide) (hts _ m_1_192) (fun _ h9 => h9) rfl d_TreesFromRoot_chooseArcs_69 ?_
      refine lv_aload_n hx hb d_TreesFromRoot_chooseArcs_72 rfl (lv_at hl 0 rfl) ?_
      refine va_get (D := D) (ci := 6) (v := .ref q_t_head) (C := R_TreesFromRoot) (T := F_TreesFromRoot) (N := 10) hx hb hts i_TreesFromRoot hown hK hP 0 rfl rfl 2 (by decide) (hts _ m_1_189) (fun _ h9 => h9) rfl d_TreesFromRoot_chooseArcs_73 ?_
      refine lv_iload_n hx hb d_TreesFromRoot_chooseArcs_76 rfl (lv_at hl 1 rfl) ?_
      obtain ⟨hg7, hf⟩ := gd_e hf
      refine va_iald hx hb hK hP 3 0 rfl rfl (inb_e hg7) d_TreesFromRoot_chooseArcs_77 ?_
      refine lv_aload_n hx hb d_TreesFromRoot_chooseArcs_78 rfl (lv_at hl 0 rfl) ?_
      refine va_get (D := D) (ci := 6) (v := .ref q_t_tail) (C := R_TreesFromRoot) (T := F_TreesFromRoot) (N := 10) hx hb hts i_TreesFromRoot hown hK hP 0 rfl rfl 1 (by decide) (hts _ m_1_188) (fun _ h9 => h9) rfl d_TreesFromRoot_chooseArcs_79 ?_
      refine lv_iload_n hx hb d_TreesFromRoot_chooseArcs_82 rfl (lv_at hl 1 rfl) ?_
      obtain ⟨hg8, hf⟩ := gd_e hf
      refine va_iald hx hb hK hP 4 0 rfl rfl (inb_e hg8) d_TreesFromRoot_chooseArcs_83 ?_
      obtain ⟨hg9, hf⟩ := gd_e hf
      refine va_iast hx hb hK hP hD hS 5 0 rfl rfl (inb_e hg9) d_TreesFromRoot_chooseArcs_84 (fun H locs hP hD hS => ?_)
      have hP : va_P D CL [(q_t, .inr (6, [.ref q_t_graph, .ref q_t_tail, .ref q_t_head, .ref q_t_cost, .ref q_t_leastInto, .ref q_t_before, .ref q_t_group, .int t_nodes, .int t_arcs, .int t_root])), (q_t_leastInto, .inl (cJ, 10, .inr (.inl (vp_updL t_leastInto (t_head v1.toNatClampNeg).toNatClampNeg (t_cost v1.toNatClampNeg))))), (q_t_cost, .inl (cJ, 30, .inr (.inl t_cost))), (q_t_head, .inl (cI, 30, .inl t_head)), (q_t_tail, .inl (cI, 30, .inl t_tail)), (q_t_before, .inl (cI, 10, .inl (upd t_before (t_head v1.toNatClampNeg).toNatClampNeg (t_tail v1.toNatClampNeg))))] H := hP
      have hD : va_D A [(q_t, .inr (6, [.ref q_t_graph, .ref q_t_tail, .ref q_t_head, .ref q_t_cost, .ref q_t_leastInto, .ref q_t_before, .ref q_t_group, .int t_nodes, .int t_arcs, .int t_root])), (q_t_leastInto, .inl (cJ, 10, .inr (.inl (vp_updL t_leastInto (t_head v1.toNatClampNeg).toNatClampNeg (t_cost v1.toNatClampNeg))))), (q_t_cost, .inl (cJ, 30, .inr (.inl t_cost))), (q_t_head, .inl (cI, 30, .inl t_head)), (q_t_tail, .inl (cI, 30, .inl t_tail)), (q_t_before, .inl (cI, 10, .inl (upd t_before (t_head v1.toNatClampNeg).toNatClampNeg (t_tail v1.toNatClampNeg))))] := hD
      obtain ⟨x2, ex2⟩ : ∃ y : Int32, y = v1 + (1 : Int32) := ⟨_, rfl⟩
      have hf := bn_e ex2 hf
      refine lv_iinc (v := x2) (lv' := [(1, .int x2), (0, .ref q_t)]) hx hb d_TreesFromRoot_chooseArcs_85 hl (k := 1) rfl (by rw [ex2]; rfl) (by decide) rfl (fun ls hl => ?_)
      refine lv_goto (tgt := 22) hx hb d_TreesFromRoot_chooseArcs_88 (by decide) ?_
      exact hk22 x2 (vp_updL t_leastInto (t_head v1.toNatClampNeg).toNatClampNeg (t_cost v1.toNatClampNeg)) (upd t_before (t_head v1.toNatClampNeg).toNatClampNeg (t_tail v1.toNatClampNeg)) _ _ _ hP hD hS (lv_sub hl [1, 0] rfl) hf
set_option maxRecDepth 100000 in
set_option maxHeartbeats 4000000 in
theorem w_TreesFromRoot_chooseArcs_22_l {p : Program} {l : Launch} {e : Env} {R : Room} {s : State} {m : MethodId} {args : Array Value} {below : List Frame} {meth : Method} {c : Code} {D : va_G} {cI cJ cG cZ : ClassId} {A : Nat → Prop} {Q : State → Prop} {q_t q_t_graph q_t_tail q_t_head q_t_cost q_t_leastInto q_t_before q_t_group : Nat} {t_nodes : Int32} {t_arcs : Int32} {t_root : Int32} {t_cost : Nat → Int64} {t_head : Nat → Int32} {t_tail : Nat → Int32} {N : Nat} {RR : Int32 × (Nat → Int64) × (Nat → Int32)} (C0 : CX p R s m args meth c b_TreesFromRoot_chooseArcs 3 R_TreesFromRoot lw_g D CL (TYs cI cJ cG cZ) A 1 24) (hret : ∀ (pc : Nat) (ls : Array Slot) (H : Heap) (locs : List Loc) (v : Int32) (t_leastInto : Nat → Int64) (t_before : Nat → Int32), decode b_TreesFromRoot_chooseArcs pc = .ok (.ireturn, 1) → narrow .boolean (.int v) = .int v → va_P D CL [(q_t, .inr (6, [.ref q_t_graph, .ref q_t_tail, .ref q_t_head, .ref q_t_cost, .ref q_t_leastInto, .ref q_t_before, .ref q_t_group, .int t_nodes, .int t_arcs, .int t_root])), (q_t_leastInto, .inl (cJ, 10, .inr (.inl t_leastInto))), (q_t_cost, .inl (cJ, 30, .inr (.inl t_cost))), (q_t_head, .inl (cI, 30, .inl t_head)), (q_t_tail, .inl (cI, 30, .inl t_tail)), (q_t_before, .inl (cI, 10, .inl t_before))] H → va_D A [(q_t, .inr (6, [.ref q_t_graph, .ref q_t_tail, .ref q_t_head, .ref q_t_cost, .ref q_t_leastInto, .ref q_t_before, .ref q_t_group, .int t_nodes, .int t_arcs, .int t_root])), (q_t_leastInto, .inl (cJ, 10, .inr (.inl t_leastInto))), (q_t_cost, .inl (cJ, 30, .inr (.inl t_cost))), (q_t_head, .inl (cI, 30, .inl t_head)), (q_t_tail, .inl (cI, 30, .inl t_tail)), (q_t_before, .inl (cI, 10, .inl t_before))] → va_S A s.heap H locs → some (v, t_leastInto, t_before) = some RR → W p l e R s m args below meth c H locs 0 0 Q (F0 m pc ls [.int v]))  : ∀ (n : Nat) (v1 : Int32) (t_leastInto : Nat → Int64) (t_before : Nat → Int32) (H : Heap) (locs : List Loc) (ls : Array Slot), va_P D CL [(q_t, .inr (6, [.ref q_t_graph, .ref q_t_tail, .ref q_t_head, .ref q_t_cost, .ref q_t_leastInto, .ref q_t_before, .ref q_t_group, .int t_nodes, .int t_arcs, .int t_root])), (q_t_leastInto, .inl (cJ, 10, .inr (.inl t_leastInto))), (q_t_cost, .inl (cJ, 30, .inr (.inl t_cost))), (q_t_head, .inl (cI, 30, .inl t_head)), (q_t_tail, .inl (cI, 30, .inl t_tail)), (q_t_before, .inl (cI, 10, .inl t_before))] H → va_D A [(q_t, .inr (6, [.ref q_t_graph, .ref q_t_tail, .ref q_t_head, .ref q_t_cost, .ref q_t_leastInto, .ref q_t_before, .ref q_t_group, .int t_nodes, .int t_arcs, .int t_root])), (q_t_leastInto, .inl (cJ, 10, .inr (.inl t_leastInto))), (q_t_cost, .inl (cJ, 30, .inr (.inl t_cost))), (q_t_head, .inl (cI, 30, .inl t_head)), (q_t_tail, .inl (cI, 30, .inl t_tail)), (q_t_before, .inl (cI, 10, .inl t_before))] → va_S A s.heap H locs → lv_has ls 3 [(0, .ref q_t), (1, .int v1)] → lo3 (g_TreesFromRoot_chooseArcs_22 N t_nodes t_arcs t_cost t_head t_tail) n v1 t_leastInto t_before = some RR → W p l e R s m args below meth c H locs 0 0 Q (F0 m 22 ls []) := by
  intro n
  induction n with
  | zero =>
    intro v1 t_leastInto t_before H locs ls hP hD hS hl hf
    exact absurd hf (by simp [lo3])
  | succ n ih =>
    intro v1 t_leastInto t_before H locs ls hP hD hS hl hf
    exact w_TreesFromRoot_chooseArcs_22 C0 hret  (lo3 (g_TreesFromRoot_chooseArcs_22 N t_nodes t_arcs t_cost t_head t_tail) n) ih v1 t_leastInto t_before H locs ls hP hD hS hl hf
set_option maxRecDepth 100000 in
set_option maxHeartbeats 4000000 in
theorem w_TreesFromRoot_chooseArcs_e {p : Program} {l : Launch} {e : Env} {R : Room} {s : State} {m : MethodId} {args : Array Value} {below : List Frame} {meth : Method} {c : Code} {D : va_G} {cI cJ cG cZ : ClassId} {A : Nat → Prop} {Q : State → Prop} {q_t q_t_graph q_t_tail q_t_head q_t_cost q_t_leastInto q_t_before q_t_group : Nat} {t_nodes : Int32} {t_arcs : Int32} {t_root : Int32} {t_leastInto0 : Nat → Int64} {t_cost : Nat → Int64} {t_head : Nat → Int32} {t_tail : Nat → Int32} {t_before0 : Nat → Int32} {N : Nat} {RR : Int32 × (Nat → Int64) × (Nat → Int32)} (C0 : CX p R s m args meth c b_TreesFromRoot_chooseArcs 3 R_TreesFromRoot lw_g D CL (TYs cI cJ cG cZ) A 1 24) (hret : ∀ (pc : Nat) (ls : Array Slot) (H : Heap) (locs : List Loc) (v : Int32) (t_leastInto : Nat → Int64) (t_before : Nat → Int32), decode b_TreesFromRoot_chooseArcs pc = .ok (.ireturn, 1) → narrow .boolean (.int v) = .int v → va_P D CL [(q_t, .inr (6, [.ref q_t_graph, .ref q_t_tail, .ref q_t_head, .ref q_t_cost, .ref q_t_leastInto, .ref q_t_before, .ref q_t_group, .int t_nodes, .int t_arcs, .int t_root])), (q_t_leastInto, .inl (cJ, 10, .inr (.inl t_leastInto))), (q_t_cost, .inl (cJ, 30, .inr (.inl t_cost))), (q_t_head, .inl (cI, 30, .inl t_head)), (q_t_tail, .inl (cI, 30, .inl t_tail)), (q_t_before, .inl (cI, 10, .inl t_before))] H → va_D A [(q_t, .inr (6, [.ref q_t_graph, .ref q_t_tail, .ref q_t_head, .ref q_t_cost, .ref q_t_leastInto, .ref q_t_before, .ref q_t_group, .int t_nodes, .int t_arcs, .int t_root])), (q_t_leastInto, .inl (cJ, 10, .inr (.inl t_leastInto))), (q_t_cost, .inl (cJ, 30, .inr (.inl t_cost))), (q_t_head, .inl (cI, 30, .inl t_head)), (q_t_tail, .inl (cI, 30, .inl t_tail)), (q_t_before, .inl (cI, 10, .inl t_before))] → va_S A s.heap H locs → some (v, t_leastInto, t_before) = some RR → W p l e R s m args below meth c H locs 0 0 Q (F0 m pc ls [.int v])) : ∀ (H : Heap) (locs : List Loc) (ls : Array Slot), va_P D CL [(q_t, .inr (6, [.ref q_t_graph, .ref q_t_tail, .ref q_t_head, .ref q_t_cost, .ref q_t_leastInto, .ref q_t_before, .ref q_t_group, .int t_nodes, .int t_arcs, .int t_root])), (q_t_leastInto, .inl (cJ, 10, .inr (.inl t_leastInto0))), (q_t_cost, .inl (cJ, 30, .inr (.inl t_cost))), (q_t_head, .inl (cI, 30, .inl t_head)), (q_t_tail, .inl (cI, 30, .inl t_tail)), (q_t_before, .inl (cI, 10, .inl t_before0))] H → va_D A [(q_t, .inr (6, [.ref q_t_graph, .ref q_t_tail, .ref q_t_head, .ref q_t_cost, .ref q_t_leastInto, .ref q_t_before, .ref q_t_group, .int t_nodes, .int t_arcs, .int t_root])), (q_t_leastInto, .inl (cJ, 10, .inr (.inl t_leastInto0))), (q_t_cost, .inl (cJ, 30, .inr (.inl t_cost))), (q_t_head, .inl (cI, 30, .inl t_head)), (q_t_tail, .inl (cI, 30, .inl t_tail)), (q_t_before, .inl (cI, 10, .inl t_before0))] → va_S A s.heap H locs → lv_has ls 3 [(0, .ref q_t)] → f_TreesFromRoot_chooseArcs N t_nodes t_arcs t_root t_leastInto0 t_cost t_head t_tail t_before0 = some RR → W p l e R s m args below meth c H locs 0 0 Q (F0 m 0 ls []) := by
  intro H locs ls hP hD hS hl hf
  obtain ⟨hx, hb, hml, hown, hts, hK, hA, hfr, hlo, hlk⟩ := id C0
  unfold f_TreesFromRoot_chooseArcs at hf
  refine lv_aload_n hx hb d_TreesFromRoot_chooseArcs_0 rfl (lv_at hl 0 rfl) ?_
  refine va_get (D := D) (ci := 6) (v := .ref q_t_leastInto) (C := R_TreesFromRoot) (T := F_TreesFromRoot) (N := 10) hx hb hts i_TreesFromRoot hown hK hP 0 rfl rfl 4 (by decide) (hts _ m_1_191) (fun _ h9 => h9) rfl d_TreesFromRoot_chooseArcs_1 ?_
  refine lv_ldc2 (v := 1152921504606846976) hx hb hown (hts _ m_3_48) d_TreesFromRoot_chooseArcs_4 ?_
  obtain ⟨c1, hq1, hf⟩ := bk1_e hf
  refine cl_go (wr := [(q_t, .inr (6, [.ref q_t_graph, .ref q_t_tail, .ref q_t_head, .ref q_t_cost, .ref q_t_leastInto, .ref q_t_before, .ref q_t_group, .int t_nodes, .int t_arcs, .int t_root])), (q_t_cost, .inl (cJ, 30, .inr (.inl t_cost))), (q_t_head, .inl (cI, 30, .inl t_head)), (q_t_tail, .inl (cI, 30, .inl t_tail)), (q_t_before, .inl (cI, 10, .inl t_before0))]) (W1 := [(q_t, .inr (6, [.ref q_t_graph, .ref q_t_tail, .ref q_t_head, .ref q_t_cost, .ref q_t_leastInto, .ref q_t_before, .ref q_t_group, .int t_nodes, .int t_arcs, .int t_root])), (q_t_leastInto, .inl (cJ, 10, .inr (.inl c1))), (q_t_cost, .inl (cJ, 30, .inr (.inl t_cost))), (q_t_head, .inl (cI, 30, .inl t_head)), (q_t_tail, .inl (cI, 30, .inl t_tail)), (q_t_before, .inl (cI, 10, .inl t_before0))]) (va_runS (As := [.ref q_t_leastInto, .long (1152921504606846976 : Int64)]) (rest := []) ⟨hx, hb, hml, hown, hts⟩ (c_Arr_fill1 l D cI cJ cG cZ q_t_leastInto t_leastInto0 10 (1152921504606846976 : Int64) hq1 H.size) (va_cwS 2 hts (gi_S m_3_49 m_2_139 m_1_12 wi_Arr_fill1) rfl rfl rfl hd_Arr_fill1 ⟨Nat.le_trans (Nat.le_of_ble_eq_true rfl) hfr, Nat.le_trans (Nat.le_of_ble_eq_true rfl) hlo⟩) ⟨pw_blind, fun U hU hW => ⟨rfl, pw_in hU (hP.sub [1] rfl) (va_K.moved hW.alike hK) ((hD.sub [1] rfl rfl).weaken (fun _ _ _ _ => trivial))⟩⟩ rfl rfl hl.1 rfl (lv_room (Nat.le_of_ble_eq_true rfl)) d_TreesFromRoot_chooseArcs_7 ⟨Nat.zero_le _, Nat.zero_le _⟩) hP hD hS hA [1] [0, 2, 3, 4, 5] rfl rfl rfl rfl [0, 5, 1, 2, 3, 4] rfl rfl (fun H locs hP hD hS => ?_)
  have hP : va_P D CL [(q_t, .inr (6, [.ref q_t_graph, .ref q_t_tail, .ref q_t_head, .ref q_t_cost, .ref q_t_leastInto, .ref q_t_before, .ref q_t_group, .int t_nodes, .int t_arcs, .int t_root])), (q_t_leastInto, .inl (cJ, 10, .inr (.inl c1))), (q_t_cost, .inl (cJ, 30, .inr (.inl t_cost))), (q_t_head, .inl (cI, 30, .inl t_head)), (q_t_tail, .inl (cI, 30, .inl t_tail)), (q_t_before, .inl (cI, 10, .inl t_before0))] H := hP
  have hD : va_D A [(q_t, .inr (6, [.ref q_t_graph, .ref q_t_tail, .ref q_t_head, .ref q_t_cost, .ref q_t_leastInto, .ref q_t_before, .ref q_t_group, .int t_nodes, .int t_arcs, .int t_root])), (q_t_leastInto, .inl (cJ, 10, .inr (.inl c1))), (q_t_cost, .inl (cJ, 30, .inr (.inl t_cost))), (q_t_head, .inl (cI, 30, .inl t_head)), (q_t_tail, .inl (cI, 30, .inl t_tail)), (q_t_before, .inl (cI, 10, .inl t_before0))] := hD
  refine lv_aload_n hx hb d_TreesFromRoot_chooseArcs_10 rfl (lv_at hl 0 rfl) ?_
  refine va_get (D := D) (ci := 6) (v := .ref q_t_leastInto) (C := R_TreesFromRoot) (T := F_TreesFromRoot) (N := 10) hx hb hts i_TreesFromRoot hown hK hP 0 rfl rfl 4 (by decide) (hts _ m_1_191) (fun _ h9 => h9) rfl d_TreesFromRoot_chooseArcs_11 ?_
  refine lv_aload_n hx hb d_TreesFromRoot_chooseArcs_14 rfl (lv_at hl 0 rfl) ?_
  refine va_get (D := D) (ci := 6) (v := .int t_root) (C := R_TreesFromRoot) (T := F_TreesFromRoot) (N := 10) hx hb hts i_TreesFromRoot hown hK hP 0 rfl rfl 9 (by decide) (hts _ m_1_196) (fun _ h9 => h9) rfl d_TreesFromRoot_chooseArcs_15 ?_
  refine lv_lconst (v := 0) hx hb d_TreesFromRoot_chooseArcs_18 (by decide) ?_
  obtain ⟨hg1, hf⟩ := gd_e hf
  refine va_last hx hb hK hP hD hS 1 1 rfl rfl (inb_e hg1) d_TreesFromRoot_chooseArcs_19 (fun H locs hP hD hS => ?_)
  have hP : va_P D CL [(q_t, .inr (6, [.ref q_t_graph, .ref q_t_tail, .ref q_t_head, .ref q_t_cost, .ref q_t_leastInto, .ref q_t_before, .ref q_t_group, .int t_nodes, .int t_arcs, .int t_root])), (q_t_leastInto, .inl (cJ, 10, .inr (.inl (vp_updL c1 t_root.toNatClampNeg (0 : Int64))))), (q_t_cost, .inl (cJ, 30, .inr (.inl t_cost))), (q_t_head, .inl (cI, 30, .inl t_head)), (q_t_tail, .inl (cI, 30, .inl t_tail)), (q_t_before, .inl (cI, 10, .inl t_before0))] H := hP
  have hD : va_D A [(q_t, .inr (6, [.ref q_t_graph, .ref q_t_tail, .ref q_t_head, .ref q_t_cost, .ref q_t_leastInto, .ref q_t_before, .ref q_t_group, .int t_nodes, .int t_arcs, .int t_root])), (q_t_leastInto, .inl (cJ, 10, .inr (.inl (vp_updL c1 t_root.toNatClampNeg (0 : Int64))))), (q_t_cost, .inl (cJ, 30, .inr (.inl t_cost))), (q_t_head, .inl (cI, 30, .inl t_head)), (q_t_tail, .inl (cI, 30, .inl t_tail)), (q_t_before, .inl (cI, 10, .inl t_before0))] := hD
  refine lv_iconst (v := 0) hx hb d_TreesFromRoot_chooseArcs_20 (by decide) ?_
  refine lv_istore_n (lv' := [(1, .int (0 : Int32)), (0, .ref q_t)]) hx hb d_TreesFromRoot_chooseArcs_21 rfl hl (by decide) rfl (fun ls hl => ?_)
  exact w_TreesFromRoot_chooseArcs_22_l C0 hret N (0 : Int32) (vp_updL c1 t_root.toNatClampNeg (0 : Int64)) t_before0 _ _ _ hP hD hS (lv_sub hl [1, 0] rfl) hf
set_option maxRecDepth 100000 in
set_option maxHeartbeats 4000000 in
theorem c_TreesFromRoot_chooseArcs (l : Launch) (D : va_G) (cI cJ cG cZ : ClassId) (q_t q_t_graph q_t_tail q_t_head q_t_cost q_t_leastInto q_t_before q_t_group : Nat) (t_nodes : Int32) (t_arcs : Int32) (t_root : Int32) (t_leastInto0 : Nat → Int64) (t_cost : Nat → Int64) (t_head : Nat → Int32) (t_tail : Nat → Int32) (t_before0 : Nat → Int32) {N : Nat} {r : Int32} {t_leastInto' : Nat → Int64} {t_before' : Nat → Int32} (hf : f_TreesFromRoot_chooseArcs N t_nodes t_arcs t_root t_leastInto0 t_cost t_head t_tail t_before0 = some (r, t_leastInto', t_before')) : MeG l D CL (TYs cI cJ cG cZ) y_TreesFromRoot_chooseArcs ws_TreesFromRoot_chooseArcs (rm_TreesFromRoot_chooseArcs) [.ref q_t] [(q_t, .inr (6, [.ref q_t_graph, .ref q_t_tail, .ref q_t_head, .ref q_t_cost, .ref q_t_leastInto, .ref q_t_before, .ref q_t_group, .int t_nodes, .int t_arcs, .int t_root])), (q_t_leastInto, .inl (cJ, 10, .inr (.inl t_leastInto0))), (q_t_cost, .inl (cJ, 30, .inr (.inl t_cost))), (q_t_head, .inl (cI, 30, .inl t_head)), (q_t_tail, .inl (cI, 30, .inl t_tail)), (q_t_before, .inl (cI, 10, .inl t_before0))] (some (.int r)) [(q_t, .inr (6, [.ref q_t_graph, .ref q_t_tail, .ref q_t_head, .ref q_t_cost, .ref q_t_leastInto, .ref q_t_before, .ref q_t_group, .int t_nodes, .int t_arcs, .int t_root])), (q_t_leastInto, .inl (cJ, 10, .inr (.inl t_leastInto'))), (q_t_cost, .inl (cJ, 30, .inr (.inl t_cost))), (q_t_head, .inl (cI, 30, .inl t_head)), (q_t_tail, .inl (cI, 30, .inl t_tail)), (q_t_before, .inl (cI, 10, .inl t_before'))] := by
  intro sz
  refine Met.ofW (cc := b_TreesFromRoot_chooseArcs) (maxL := 3) (ret := (some .boolean)) (by decide) rfl ?_
  intro p e s m args below meth c s₁ B hml hv
  obtain ⟨rfl, hsz, hP, hK, hD0⟩ := hv
  subst hsz
  have hD := hD0.self (sz := s.heap.size)
  generalize hAe : va_A [(q_t, .inr (6, [.ref q_t_graph, .ref q_t_tail, .ref q_t_head, .ref q_t_cost, .ref q_t_leastInto, .ref q_t_before, .ref q_t_group, .int t_nodes, .int t_arcs, .int t_root])), (q_t_leastInto, .inl (cJ, 10, .inr (.inl t_leastInto0))), (q_t_cost, .inl (cJ, 30, .inr (.inl t_cost))), (q_t_head, .inl (cI, 30, .inl t_head)), (q_t_tail, .inl (cI, 30, .inl t_tail)), (q_t_before, .inl (cI, 10, .inl t_before0))] s.heap.size = A at hD ⊢
  have C0 : CX p (headSpec ws_TreesFromRoot_chooseArcs (rm_TreesFromRoot_chooseArcs)).room s m _ meth c b_TreesFromRoot_chooseArcs 3 R_TreesFromRoot lw_g D CL (TYs cI cJ cG cZ) A 1 24 := ⟨B.exec, B.bytes, hml, findClass_of_methodNamed B.named, fun w h => atoms_spec (ws := ws_TreesFromRoot_chooseArcs) B.pre w (List.mem_cons_of_mem _ h), hK, fun q h => by rw [← hAe]; exact Or.inr h, Nat.le_of_ble_eq_true rfl, Nat.le_of_ble_eq_true rfl, B.notSynchronized⟩
  have hl := lv_entry ([.ref q_t]) (n := 3) (Nat.le_of_ble_eq_true rfl)
  rw [lg_entry_eq]
  generalize (lg_sl ([.ref q_t]) ++ List.replicate (3 - (lg_sl ([.ref q_t])).length) Slot.unset).toArray = ls at hl ⊢
  have hl : lv_has ls 3 [(0, .ref q_t)] := hl
  exact w_TreesFromRoot_chooseArcs_e C0 (fun pc ls H locs v t_leastInto t_before hdg hz hP hD hS e => by cases e; exact W.zret B.exec B.bytes B.returns hz (fun t ht hW => ⟨⟨rfl, by rw [ht]; exact hP, va_K.moved hW.alike hK, hD⟩, hS.F ht⟩) hS.2.2 hdg) _ _ _ hP hD va_S.rf (lv_sub hl [0] rfl) hf
