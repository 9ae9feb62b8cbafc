abbrev b_BoundedTrees_splitOffOne : ByteArray := prog_2_method_9_code
def y_BoundedTrees_splitOffOne : MethodName := ⟨R_BoundedTrees, "splitOffOne", "(II)V"⟩
def ws_BoundedTrees_splitOffOne : List Cond := .code y_BoundedTrees_splitOffOne b_BoundedTrees_splitOffOne 10 none :: lw_g
theorem wi_BoundedTrees_splitOffOne : ∀ w ∈ ws_BoundedTrees_splitOffOne, w ∈ lw_g := wi_of m_3_12
abbrev rm_BoundedTrees_splitOffOne : Room := { frames := 1, cells := 0, slots := 0, locals := 60 }
theorem hd_BoundedTrees_splitOffOne : y_BoundedTrees_splitOffOne.cls = R_BoundedTrees ∧ y_BoundedTrees_splitOffOne.cls ≠ "java/lang/invoke/MethodHandle" ∧ y_BoundedTrees_splitOffOne.cls ≠ "java/lang/invoke/VarHandle" ∧ (parseMethodDescriptor y_BoundedTrees_splitOffOne.desc).map (fun d => d.parameters.length) = some 2 := by decide +kernel
theorem d_BoundedTrees_splitOffOne_0 : decode b_BoundedTrees_splitOffOne 0 = .ok (.iload_n 2, 1) := by decide +kernel
theorem d_BoundedTrees_splitOffOne_1 : decode b_BoundedTrees_splitOffOne 1 = .ok (.iload_n 2, 1) := by decide +kernel
theorem d_BoundedTrees_splitOffOne_2 : decode b_BoundedTrees_splitOffOne 2 = .ok (.ineg, 1) := by decide +kernel
theorem d_BoundedTrees_splitOffOne_3 : decode b_BoundedTrees_splitOffOne 3 = .ok (.iand, 1) := by decide +kernel
theorem d_BoundedTrees_splitOffOne_4 : decode b_BoundedTrees_splitOffOne 4 = .ok (.istore_n 3, 1) := by decide +kernel
theorem d_BoundedTrees_splitOffOne_5 : decode b_BoundedTrees_splitOffOne 5 = .ok (.iload_n 2, 1) := by decide +kernel
theorem d_BoundedTrees_splitOffOne_6 : decode b_BoundedTrees_splitOffOne 6 = .ok (.istore 4, 2) := by decide +kernel
theorem d_BoundedTrees_splitOffOne_8 : decode b_BoundedTrees_splitOffOne 8 = .ok (.iload 4, 2) := by decide +kernel
theorem d_BoundedTrees_splitOffOne_10 : decode b_BoundedTrees_splitOffOne 10 = .ok (.ifCond .le 122, 3) := by decide +kernel
theorem d_BoundedTrees_splitOffOne_13 : decode b_BoundedTrees_splitOffOne 13 = .ok (.iload 4, 2) := by decide +kernel
theorem d_BoundedTrees_splitOffOne_15 : decode b_BoundedTrees_splitOffOne 15 = .ok (.iload_n 3, 1) := by decide +kernel
theorem d_BoundedTrees_splitOffOne_16 : decode b_BoundedTrees_splitOffOne 16 = .ok (.iand, 1) := by decide +kernel
theorem d_BoundedTrees_splitOffOne_17 : decode b_BoundedTrees_splitOffOne 17 = .ok (.ifCond .eq 104, 3) := by decide +kernel
theorem d_BoundedTrees_splitOffOne_20 : decode b_BoundedTrees_splitOffOne 20 = .ok (.aload_n 0, 1) := by decide +kernel
theorem d_BoundedTrees_splitOffOne_21 : decode b_BoundedTrees_splitOffOne 21 = .ok (.getfield 20, 3) := by decide +kernel
theorem d_BoundedTrees_splitOffOne_24 : decode b_BoundedTrees_splitOffOne 24 = .ok (.iload_n 1, 1) := by decide +kernel
theorem d_BoundedTrees_splitOffOne_25 : decode b_BoundedTrees_splitOffOne 25 = .ok (.aaload, 1) := by decide +kernel
theorem d_BoundedTrees_splitOffOne_26 : decode b_BoundedTrees_splitOffOne 26 = .ok (.iload 4, 2) := by decide +kernel
theorem d_BoundedTrees_splitOffOne_28 : decode b_BoundedTrees_splitOffOne 28 = .ok (.laload, 1) := by decide +kernel
theorem d_BoundedTrees_splitOffOne_29 : decode b_BoundedTrees_splitOffOne 29 = .ok (.ldc2_w 39, 3) := by decide +kernel
theorem d_BoundedTrees_splitOffOne_32 : decode b_BoundedTrees_splitOffOne 32 = .ok (.lcmp, 1) := by decide +kernel
theorem d_BoundedTrees_splitOffOne_33 : decode b_BoundedTrees_splitOffOne 33 = .ok (.ifCond .ge 88, 3) := by decide +kernel
theorem d_BoundedTrees_splitOffOne_36 : decode b_BoundedTrees_splitOffOne 36 = .ok (.iconst 1, 1) := by decide +kernel
theorem d_BoundedTrees_splitOffOne_37 : decode b_BoundedTrees_splitOffOne 37 = .ok (.istore 5, 2) := by decide +kernel
theorem d_BoundedTrees_splitOffOne_39 : decode b_BoundedTrees_splitOffOne 39 = .ok (.iload 5, 2) := by decide +kernel
theorem d_BoundedTrees_splitOffOne_41 : decode b_BoundedTrees_splitOffOne 41 = .ok (.aload_n 0, 1) := by decide +kernel
theorem d_BoundedTrees_splitOffOne_42 : decode b_BoundedTrees_splitOffOne 42 = .ok (.getfield 41, 3) := by decide +kernel
theorem d_BoundedTrees_splitOffOne_45 : decode b_BoundedTrees_splitOffOne 45 = .ok (.if_icmp .gt 76, 3) := by decide +kernel
theorem d_BoundedTrees_splitOffOne_48 : decode b_BoundedTrees_splitOffOne 48 = .ok (.aload_n 0, 1) := by decide +kernel
theorem d_BoundedTrees_splitOffOne_49 : decode b_BoundedTrees_splitOffOne 49 = .ok (.getfield 20, 3) := by decide +kernel
theorem d_BoundedTrees_splitOffOne_52 : decode b_BoundedTrees_splitOffOne 52 = .ok (.iload_n 1, 1) := by decide +kernel
theorem d_BoundedTrees_splitOffOne_53 : decode b_BoundedTrees_splitOffOne 53 = .ok (.aaload, 1) := by decide +kernel
theorem d_BoundedTrees_splitOffOne_54 : decode b_BoundedTrees_splitOffOne 54 = .ok (.iload 4, 2) := by decide +kernel
theorem d_BoundedTrees_splitOffOne_56 : decode b_BoundedTrees_splitOffOne 56 = .ok (.laload, 1) := by decide +kernel
theorem d_BoundedTrees_splitOffOne_57 : decode b_BoundedTrees_splitOffOne 57 = .ok (.aload_n 0, 1) := by decide +kernel
theorem d_BoundedTrees_splitOffOne_58 : decode b_BoundedTrees_splitOffOne 58 = .ok (.getfield 23, 3) := by decide +kernel
theorem d_BoundedTrees_splitOffOne_61 : decode b_BoundedTrees_splitOffOne 61 = .ok (.iload 5, 2) := by decide +kernel
theorem d_BoundedTrees_splitOffOne_63 : decode b_BoundedTrees_splitOffOne 63 = .ok (.iconst 1, 1) := by decide +kernel
theorem d_BoundedTrees_splitOffOne_64 : decode b_BoundedTrees_splitOffOne 64 = .ok (.isub, 1) := by decide +kernel
theorem d_BoundedTrees_splitOffOne_65 : decode b_BoundedTrees_splitOffOne 65 = .ok (.iload_n 1, 1) := by decide +kernel
theorem d_BoundedTrees_splitOffOne_66 : decode b_BoundedTrees_splitOffOne 66 = .ok (.invokestatic 57, 3) := by decide +kernel
theorem d_BoundedTrees_splitOffOne_69 : decode b_BoundedTrees_splitOffOne 69 = .ok (.aaload, 1) := by decide +kernel
theorem d_BoundedTrees_splitOffOne_70 : decode b_BoundedTrees_splitOffOne 70 = .ok (.iload_n 2, 1) := by decide +kernel
theorem d_BoundedTrees_splitOffOne_71 : decode b_BoundedTrees_splitOffOne 71 = .ok (.iload 4, 2) := by decide +kernel
theorem d_BoundedTrees_splitOffOne_73 : decode b_BoundedTrees_splitOffOne 73 = .ok (.iconst (-1), 1) := by decide +kernel
theorem d_BoundedTrees_splitOffOne_74 : decode b_BoundedTrees_splitOffOne 74 = .ok (.ixor, 1) := by decide +kernel
theorem d_BoundedTrees_splitOffOne_75 : decode b_BoundedTrees_splitOffOne 75 = .ok (.iand, 1) := by decide +kernel
theorem d_BoundedTrees_splitOffOne_76 : decode b_BoundedTrees_splitOffOne 76 = .ok (.laload, 1) := by decide +kernel
theorem d_BoundedTrees_splitOffOne_77 : decode b_BoundedTrees_splitOffOne 77 = .ok (.ladd, 1) := by decide +kernel
theorem d_BoundedTrees_splitOffOne_78 : decode b_BoundedTrees_splitOffOne 78 = .ok (.lstore 6, 2) := by decide +kernel
theorem d_BoundedTrees_splitOffOne_80 : decode b_BoundedTrees_splitOffOne 80 = .ok (.aload_n 0, 1) := by decide +kernel
theorem d_BoundedTrees_splitOffOne_81 : decode b_BoundedTrees_splitOffOne 81 = .ok (.getfield 23, 3) := by decide +kernel
theorem d_BoundedTrees_splitOffOne_84 : decode b_BoundedTrees_splitOffOne 84 = .ok (.iload 5, 2) := by decide +kernel
theorem d_BoundedTrees_splitOffOne_86 : decode b_BoundedTrees_splitOffOne 86 = .ok (.iload_n 1, 1) := by decide +kernel
theorem d_BoundedTrees_splitOffOne_87 : decode b_BoundedTrees_splitOffOne 87 = .ok (.invokestatic 57, 3) := by decide +kernel
theorem d_BoundedTrees_splitOffOne_90 : decode b_BoundedTrees_splitOffOne 90 = .ok (.aaload, 1) := by decide +kernel
theorem d_BoundedTrees_splitOffOne_91 : decode b_BoundedTrees_splitOffOne 91 = .ok (.iload_n 2, 1) := by decide +kernel
theorem d_BoundedTrees_splitOffOne_92 : decode b_BoundedTrees_splitOffOne 92 = .ok (.laload, 1) := by decide +kernel
theorem d_BoundedTrees_splitOffOne_93 : decode b_BoundedTrees_splitOffOne 93 = .ok (.lstore 8, 2) := by decide +kernel
theorem d_BoundedTrees_splitOffOne_95 : decode b_BoundedTrees_splitOffOne 95 = .ok (.aload_n 0, 1) := by decide +kernel
theorem d_BoundedTrees_splitOffOne_96 : decode b_BoundedTrees_splitOffOne 96 = .ok (.getfield 23, 3) := by decide +kernel
theorem d_BoundedTrees_splitOffOne_99 : decode b_BoundedTrees_splitOffOne 99 = .ok (.iload 5, 2) := by decide +kernel
theorem d_BoundedTrees_splitOffOne_101 : decode b_BoundedTrees_splitOffOne 101 = .ok (.iload_n 1, 1) := by decide +kernel
theorem d_BoundedTrees_splitOffOne_102 : decode b_BoundedTrees_splitOffOne 102 = .ok (.invokestatic 57, 3) := by decide +kernel
theorem d_BoundedTrees_splitOffOne_105 : decode b_BoundedTrees_splitOffOne 105 = .ok (.aaload, 1) := by decide +kernel
theorem d_BoundedTrees_splitOffOne_106 : decode b_BoundedTrees_splitOffOne 106 = .ok (.iload_n 2, 1) := by decide +kernel
theorem d_BoundedTrees_splitOffOne_107 : decode b_BoundedTrees_splitOffOne 107 = .ok (.lload 8, 2) := by decide +kernel
theorem d_BoundedTrees_splitOffOne_109 : decode b_BoundedTrees_splitOffOne 109 = .ok (.lload 6, 2) := by decide +kernel
theorem d_BoundedTrees_splitOffOne_111 : decode b_BoundedTrees_splitOffOne 111 = .ok (.invokestatic 88, 3) := by decide +kernel
theorem d_BoundedTrees_splitOffOne_114 : decode b_BoundedTrees_splitOffOne 114 = .ok (.lastore, 1) := by decide +kernel
theorem d_BoundedTrees_splitOffOne_115 : decode b_BoundedTrees_splitOffOne 115 = .ok (.iinc 5 1, 3) := by decide +kernel
theorem d_BoundedTrees_splitOffOne_118 : decode b_BoundedTrees_splitOffOne 118 = .ok (.goto (-79), 3) := by decide +kernel
theorem d_BoundedTrees_splitOffOne_121 : decode b_BoundedTrees_splitOffOne 121 = .ok (.iload 4, 2) := by decide +kernel
theorem d_BoundedTrees_splitOffOne_123 : decode b_BoundedTrees_splitOffOne 123 = .ok (.iconst 1, 1) := by decide +kernel
theorem d_BoundedTrees_splitOffOne_124 : decode b_BoundedTrees_splitOffOne 124 = .ok (.isub, 1) := by decide +kernel
theorem d_BoundedTrees_splitOffOne_125 : decode b_BoundedTrees_splitOffOne 125 = .ok (.iload_n 2, 1) := by decide +kernel
theorem d_BoundedTrees_splitOffOne_126 : decode b_BoundedTrees_splitOffOne 126 = .ok (.iand, 1) := by decide +kernel
theorem d_BoundedTrees_splitOffOne_127 : decode b_BoundedTrees_splitOffOne 127 = .ok (.istore 4, 2) := by decide +kernel
theorem d_BoundedTrees_splitOffOne_129 : decode b_BoundedTrees_splitOffOne 129 = .ok (.goto (-121), 3) := by decide +kernel
theorem d_BoundedTrees_splitOffOne_132 : decode b_BoundedTrees_splitOffOne 132 = .ok (.return_, 1) := by decide +kernel
def g_BoundedTrees_splitOffOne_121 (p2 : Int32) (k8 : Int32 → Int32 → (Nat → Nat → Int64) → Option ((Nat → Nat → Int64))) (v3 : Int32) (v4 : Int32) (t_branches : Nat → Nat → Int64) : Option ((Nat → Nat → Int64)) :=
  bn ((v4 - (1 : Int32)) &&& p2) fun x1 =>
  k8 v3 x1 t_branches
def g_BoundedTrees_splitOffOne_39 (p1 : Int32) (p2 : Int32) (t_bound : Int32) (t_branch : Nat → Nat → Int64) (k8 : Int32 → Int32 → (Nat → Nat → Int64) → Option ((Nat → Nat → Int64))) (k39 : Int32 → Int32 → Int32 → (Nat → Nat → Int64) → Option ((Nat → Nat → Int64))) (v3 : Int32) (v4 : Int32) (v5 : Int32) (t_branches : Nat → Nat → Int64) : Option ((Nat → Nat → Int64)) :=
  if t_bound < v5 then
    g_BoundedTrees_splitOffOne_121 p2 k8 v3 v4 t_branches
  else
    gd (inb p1 7) <|
    gd (inb v4 64) <|
    bk1 (f_BoundedTrees_row (v5 - (1 : Int32)) p1) fun r1 =>
    gd (inb r1 49) <|
    gd (inb (p2 &&& (v4 ^^^ (-1 : Int32))) 64) <|
    bn ((t_branch p1.toNatClampNeg v4.toNatClampNeg) + (t_branches r1.toNatClampNeg (p2 &&& (v4 ^^^ (-1 : Int32))).toNatClampNeg)) fun x2 =>
    bk1 (f_BoundedTrees_row v5 p1) fun r3 =>
    gd (inb r3 49) <|
    gd (inb p2 64) <|
    bn (t_branches r3.toNatClampNeg p2.toNatClampNeg) fun x4 =>
    bk1 (f_BoundedTrees_row v5 p1) fun r5 =>
    gd (inb r5 49) <|
    bn (if x2 < x4 then x2 else x4) fun x6 =>
    gd (inb p2 64) <|
    bn (v5 + (1 : Int32)) fun x7 =>
    k39 v3 v4 x7 (upGL t_branches r5.toNatClampNeg p2.toNatClampNeg x6)
def g_BoundedTrees_splitOffOne_8 (N : Nat) (p1 : Int32) (p2 : Int32) (t_bound : Int32) (t_branch : Nat → Nat → Int64) (k8 : Int32 → Int32 → (Nat → Nat → Int64) → Option ((Nat → Nat → Int64))) (v3 : Int32) (v4 : Int32) (t_branches : Nat → Nat → Int64) : Option ((Nat → Nat → Int64)) :=
  if v4 ≤ 0 then
    some (t_branches)
  else
    if (v4 &&& v3) = 0 then
      g_BoundedTrees_splitOffOne_121 p2 k8 v3 v4 t_branches
    else
      gd (inb p1 7) <|
      gd (inb v4 64) <|
      if 0 ≤ (lg_cmp (t_branch p1.toNatClampNeg v4.toNatClampNeg) (1152921504606846976 : Int64)) then
        g_BoundedTrees_splitOffOne_121 p2 k8 v3 v4 t_branches
      else
        lo4 (g_BoundedTrees_splitOffOne_39 p1 p2 t_bound t_branch k8) N v3 v4 (1 : Int32) t_branches
def f_BoundedTrees_splitOffOne (N : Nat) (p1 : Int32) (p2 : Int32) (t_bound : Int32) (t_branch : Nat → Nat → Int64) (t_branches0 : Nat → Nat → Int64) : Option ((Nat → Nat → Int64)) :=
  bn (p2 &&& (-p2)) fun x1 =>
  lo3 (g_BoundedTrees_splitOffOne_8 N p1 p2 t_bound t_branch) N x1 p2 t_branches0
set_option maxRecDepth 100000 in
set_option maxHeartbeats 4000000 in
theorem w_BoundedTrees_splitOffOne_121 {p : Program} {l : Launch} {e : Env} {R : Room} {s : State} {m : MethodId} {args : Array Value} {below : List Frame} {meth : Method} {c : Code} {D : va_G} {cI cJ cG cZ : ClassId} {A : Nat → Prop} {Q : State → Prop} {q_t q_t_graph q_t_between q_t_branch q_t_branches : Nat} {ra_t_branch ra_t_branches : Nat → Nat} {t_nodes : Int32} {t_bound : Int32} {t_branch : Nat → Nat → Int64} {p1 : Int32} {p2 : Int32} {RR : (Nat → Nat → Int64)} (C0 : CX p R s m args meth c b_BoundedTrees_splitOffOne 10 R_BoundedTrees lw_g D CL (TYs cI cJ cG cZ) A 1 60) (hret : ∀ (pc : Nat) (ls : Array Slot) (H : Heap) (locs : List Loc) (t_branches : Nat → Nat → Int64), decode b_BoundedTrees_splitOffOne pc = .ok (.return_, 1) → va_P D CL (wa [(q_t, .inr (0, [.ref q_t_graph, .ref q_t_between, .ref q_t_branch, .ref q_t_branches, .int t_nodes, .int t_bound])), (q_t_branch, .inl (cG, 7, .inr (.inr (.inr (.inr (fun i => some (ra_t_branch i))))))), (q_t_branches, .inl (cG, 49, .inr (.inr (.inr (.inr (fun i => some (ra_t_branches i)))))))] (wa (gsL 7 64 cJ ra_t_branch t_branch) (wa (gsL 49 64 cJ ra_t_branches t_branches) []))) H → va_D A (wa [(q_t, .inr (0, [.ref q_t_graph, .ref q_t_between, .ref q_t_branch, .ref q_t_branches, .int t_nodes, .int t_bound])), (q_t_branch, .inl (cG, 7, .inr (.inr (.inr (.inr (fun i => some (ra_t_branch i))))))), (q_t_branches, .inl (cG, 49, .inr (.inr (.inr (.inr (fun i => some (ra_t_branches i)))))))] (wa (gsL 7 64 cJ ra_t_branch t_branch) (wa (gsL 49 64 cJ ra_t_branches t_branches) []))) → va_S A s.heap H locs → some (t_branches) = some RR → W p l e R s m args below meth c H locs 0 0 Q (F0 m pc ls [])) (k8 : Int32 → Int32 → (Nat → Nat → Int64) → Option ((Nat → Nat → Int64))) (hk8 : ∀ (v3 : Int32) (v4 : Int32) (t_branches : Nat → Nat → Int64) (H : Heap) (locs : List Loc) (ls : Array Slot), va_P D CL (wa [(q_t, .inr (0, [.ref q_t_graph, .ref q_t_between, .ref q_t_branch, .ref q_t_branches, .int t_nodes, .int t_bound])), (q_t_branch, .inl (cG, 7, .inr (.inr (.inr (.inr (fun i => some (ra_t_branch i))))))), (q_t_branches, .inl (cG, 49, .inr (.inr (.inr (.inr (fun i => some (ra_t_branches i)))))))] (wa (gsL 7 64 cJ ra_t_branch t_branch) (wa (gsL 49 64 cJ ra_t_branches t_branches) []))) H → va_D A (wa [(q_t, .inr (0, [.ref q_t_graph, .ref q_t_between, .ref q_t_branch, .ref q_t_branches, .int t_nodes, .int t_bound])), (q_t_branch, .inl (cG, 7, .inr (.inr (.inr (.inr (fun i => some (ra_t_branch i))))))), (q_t_branches, .inl (cG, 49, .inr (.inr (.inr (.inr (fun i => some (ra_t_branches i)))))))] (wa (gsL 7 64 cJ ra_t_branch t_branch) (wa (gsL 49 64 cJ ra_t_branches t_branches) []))) → va_S A s.heap H locs → lv_has ls 10 [(0, .ref q_t), (1, .int p1), (2, .int p2), (3, .int v3), (4, .int v4)] → k8 v3 v4 t_branches = some RR → W p l e R s m args below meth c H locs 0 0 Q (F0 m 8 ls [])) : ∀ (v3 : Int32) (v4 : Int32) (t_branches : Nat → Nat → Int64) (H : Heap) (locs : List Loc) (ls : Array Slot), va_P D CL (wa [(q_t, .inr (0, [.ref q_t_graph, .ref q_t_between, .ref q_t_branch, .ref q_t_branches, .int t_nodes, .int t_bound])), (q_t_branch, .inl (cG, 7, .inr (.inr (.inr (.inr (fun i => some (ra_t_branch i))))))), (q_t_branches, .inl (cG, 49, .inr (.inr (.inr (.inr (fun i => some (ra_t_branches i)))))))] (wa (gsL 7 64 cJ ra_t_branch t_branch) (wa (gsL 49 64 cJ ra_t_branches t_branches) []))) H → va_D A (wa [(q_t, .inr (0, [.ref q_t_graph, .ref q_t_between, .ref q_t_branch, .ref q_t_branches, .int t_nodes, .int t_bound])), (q_t_branch, .inl (cG, 7, .inr (.inr (.inr (.inr (fun i => some (ra_t_branch i))))))), (q_t_branches, .inl (cG, 49, .inr (.inr (.inr (.inr (fun i => some (ra_t_branches i)))))))] (wa (gsL 7 64 cJ ra_t_branch t_branch) (wa (gsL 49 64 cJ ra_t_branches t_branches) []))) → va_S A s.heap H locs → lv_has ls 10 [(0, .ref q_t), (1, .int p1), (2, .int p2), (3, .int v3), (4, .int v4)] → g_BoundedTrees_splitOffOne_121 p2 k8 v3 v4 t_branches = some RR → W p l e R s m args below meth c H locs 0 0 Q (F0 m 121 ls []) := by
  intro v3 v4 t_branches H locs ls hP hD hS hl hf
  obtain ⟨hx, hb, hml, hown, hts, hK, hA, hfr, hlo, hlk⟩ := id C0
  unfold g_BoundedTrees_splitOffOne_121 at hf
  refine lv_iload hx hb d_BoundedTrees_splitOffOne_121 (lv_at hl 4 rfl) ?_
  refine lv_iconst (v := 1) hx hb d_BoundedTrees_splitOffOne_123 (by decide) ?_
  refine lv_isub hx hb d_BoundedTrees_splitOffOne_124 ?_
  refine lv_iload_n hx hb d_BoundedTrees_splitOffOne_125 rfl (lv_at hl 2 rfl) ?_
  refine lv_iand hx hb d_BoundedTrees_splitOffOne_126 ?_
  refine lv_topi (fun x1 ex1 => ?_)
  have hf := bn_e ex1 hf
  refine lv_istore (lv' := [(4, .int x1), (0, .ref q_t), (1, .int p1), (2, .int p2), (3, .int v3)]) hx hb d_BoundedTrees_splitOffOne_127 hl (by decide) rfl (fun ls hl => ?_)
  refine lv_goto (tgt := 8) hx hb d_BoundedTrees_splitOffOne_129 (by decide) ?_
  exact hk8 v3 x1 t_branches _ _ _ hP hD hS (lv_sub hl [1, 2, 3, 4, 0] rfl) hf
set_option maxRecDepth 100000 in
set_option maxHeartbeats 4000000 in
theorem w_BoundedTrees_splitOffOne_39 {p : Program} {l : Launch} {e : Env} {R : Room} {s : State} {m : MethodId} {args : Array Value} {below : List Frame} {meth : Method} {c : Code} {D : va_G} {cI cJ cG cZ : ClassId} {A : Nat → Prop} {Q : State → Prop} {q_t q_t_graph q_t_between q_t_branch q_t_branches : Nat} {ra_t_branch ra_t_branches : Nat → Nat} {t_nodes : Int32} {t_bound : Int32} {t_branch : Nat → Nat → Int64} {p1 : Int32} {p2 : Int32} {RR : (Nat → Nat → Int64)} (C0 : CX p R s m args meth c b_BoundedTrees_splitOffOne 10 R_BoundedTrees lw_g D CL (TYs cI cJ cG cZ) A 1 60) (hret : ∀ (pc : Nat) (ls : Array Slot) (H : Heap) (locs : List Loc) (t_branches : Nat → Nat → Int64), decode b_BoundedTrees_splitOffOne pc = .ok (.return_, 1) → va_P D CL (wa [(q_t, .inr (0, [.ref q_t_graph, .ref q_t_between, .ref q_t_branch, .ref q_t_branches, .int t_nodes, .int t_bound])), (q_t_branch, .inl (cG, 7, .inr (.inr (.inr (.inr (fun i => some (ra_t_branch i))))))), (q_t_branches, .inl (cG, 49, .inr (.inr (.inr (.inr (fun i => some (ra_t_branches i)))))))] (wa (gsL 7 64 cJ ra_t_branch t_branch) (wa (gsL 49 64 cJ ra_t_branches t_branches) []))) H → va_D A (wa [(q_t, .inr (0, [.ref q_t_graph, .ref q_t_between, .ref q_t_branch, .ref q_t_branches, .int t_nodes, .int t_bound])), (q_t_branch, .inl (cG, 7, .inr (.inr (.inr (.inr (fun i => some (ra_t_branch i))))))), (q_t_branches, .inl (cG, 49, .inr (.inr (.inr (.inr (fun i => some (ra_t_branches i)))))))] (wa (gsL 7 64 cJ ra_t_branch t_branch) (wa (gsL 49 64 cJ ra_t_branches t_branches) []))) → va_S A s.heap H locs → some (t_branches) = some RR → W p l e R s m args below meth c H locs 0 0 Q (F0 m pc ls [])) (k8 : Int32 → Int32 → (Nat → Nat → Int64) → Option ((Nat → Nat → Int64))) (hk8 : ∀ (v3 : Int32) (v4 : Int32) (t_branches : Nat → Nat → Int64) (H : Heap) (locs : List Loc) (ls : Array Slot), va_P D CL (wa [(q_t, .inr (0, [.ref q_t_graph, .ref q_t_between, .ref q_t_branch, .ref q_t_branches, .int t_nodes, .int t_bound])), (q_t_branch, .inl (cG, 7, .inr (.inr (.inr (.inr (fun i => some (ra_t_branch i))))))), (q_t_branches, .inl (cG, 49, .inr (.inr (.inr (.inr (fun i => some (ra_t_branches i)))))))] (wa (gsL 7 64 cJ ra_t_branch t_branch) (wa (gsL 49 64 cJ ra_t_branches t_branches) []))) H → va_D A (wa [(q_t, .inr (0, [.ref q_t_graph, .ref q_t_between, .ref q_t_branch, .ref q_t_branches, .int t_nodes, .int t_bound])), (q_t_branch, .inl (cG, 7, .inr (.inr (.inr (.inr (fun i => some (ra_t_branch i))))))), (q_t_branches, .inl (cG, 49, .inr (.inr (.inr (.inr (fun i => some (ra_t_branches i)))))))] (wa (gsL 7 64 cJ ra_t_branch t_branch) (wa (gsL 49 64 cJ ra_t_branches t_branches) []))) → va_S A s.heap H locs → lv_has ls 10 [(0, .ref q_t), (1, .int p1), (2, .int p2), (3, .int v3), (4, .int v4)] → k8 v3 v4 t_branches = some RR → W p l e R s m args below meth c H locs 0 0 Q (F0 m 8 ls [])) (k39 : Int32 → Int32 → Int32 → (Nat → Nat → Int64) → Option ((Nat → Nat → Int64))) (hk39 : ∀ (v3 : Int32) (v4 : Int32) (v5 : Int32) (t_branches : Nat → Nat → Int64) (H : Heap) (locs : List Loc) (ls : Array Slot), va_P D CL (wa [(q_t, .inr (0, [.ref q_t_graph, .ref q_t_between, .ref q_t_branch, .ref q_t_branches, .int t_nodes, .int t_bound])), (q_t_branch, .inl (cG, 7, .inr (.inr (.inr (.inr (fun i => some (ra_t_branch i))))))), (q_t_branches, .inl (cG, 49, .inr (.inr (.inr (.inr (fun i => some (ra_t_branches i)))))))] (wa (gsL 7 64 cJ ra_t_branch t_branch) (wa (gsL 49 64 cJ ra_t_branches t_branches) []))) H → va_D A (wa [(q_t, .inr (0, [.ref q_t_graph, .ref q_t_between, .ref q_t_branch, .ref q_t_branches, .int t_nodes, .int t_bound])), (q_t_branch, .inl (cG, 7, .inr (.inr (.inr (.inr (fun i => some (ra_t_branch i))))))), (q_t_branches, .inl (cG, 49, .inr (.inr (.inr (.inr (fun i => some (ra_t_branches i)))))))] (wa (gsL 7 64 cJ ra_t_branch t_branch) (wa (gsL 49 64 cJ ra_t_branches t_branches) []))) → va_S A s.heap H locs → lv_has ls 10 [(0, .ref q_t), (1, .int p1), (2, .int p2), (3, .int v3), (4, .int v4), (5, .int v5)] → k39 v3 v4 v5 t_branches = some RR → W p l e R s m args below meth c H locs 0 0 Q (F0 m 39 ls [])) : ∀ (v3 : Int32) (v4 : Int32) (v5 : Int32) (t_branches : Nat → Nat → Int64) (H : Heap) (locs : List Loc) (ls : Array Slot), va_P D CL (wa [(q_t, .inr (0, [.ref q_t_graph, .ref q_t_between, .ref q_t_branch, .ref q_t_branches, .int t_nodes, .int t_bound])), (q_t_branch, .inl (cG, 7, .inr (.inr (.inr (.inr (fun i => some (ra_t_branch i))))))), (q_t_branches, .inl (cG, 49, .inr (.inr (.inr (.inr (fun i => some (ra_t_branches i)))))))] (wa (gsL 7 64 cJ ra_t_branch t_branch) (wa (gsL 49 64 cJ ra_t_branches t_branches) []))) H → va_D A (wa [(q_t, .inr (0, [.ref q_t_graph, .ref q_t_between, .ref q_t_branch, .ref q_t_branches, .int t_nodes, .int t_bound])), (q_t_branch, .inl (cG, 7, .inr (.inr (.inr (.inr (fun i => some (ra_t_branch i))))))), (q_t_branches, .inl (cG, 49, .inr (.inr (.inr (.inr (fun i => some (ra_t_branches i)))))))] (wa (gsL 7 64 cJ ra_t_branch t_branch) (wa (gsL 49 64 cJ ra_t_branches t_branches) []))) → va_S A s.heap H locs → lv_has ls 10 [(0, .ref q_t), (1, .int p1), (2, .int p2), (3, .int v3), (4, .int v4), (5, .int v5)] → g_BoundedTrees_splitOffOne_39 p1 p2 t_bound t_branch k8 k39 v3 v4 v5 t_branches = some RR → W p l e R s m args below meth c H locs 0 0 Q (F0 m 39 ls []) := by
  intro v3 v4 v5 t_branches H locs ls hP hD hS hl hf
  obtain ⟨hx, hb, hml, hown, hts, hK, hA, hfr, hlo, hlk⟩ := id C0
  unfold g_BoundedTrees_splitOffOne_39 at hf
  refine lv_iload hx hb d_BoundedTrees_splitOffOne_39 (lv_at hl 5 rfl) ?_
  refine lv_aload_n hx hb d_BoundedTrees_splitOffOne_41 rfl (lv_at hl 0 rfl) ?_
  refine va_get (D := D) (ci := 0) (v := .int t_bound) (C := R_BoundedTrees) (T := F_BoundedTrees) (N := 6) hx hb hts i_BoundedTrees hown hK hP 0 rfl rfl 5 (by decide) (hts _ m_1_167) (fun _ h9 => h9) rfl d_BoundedTrees_splitOffOne_42 ?_
  refine lv_icmp_gt (tgt := 121) hx hb d_BoundedTrees_splitOffOne_45 (by decide) (fun hc1 => ?_) (fun hc1 => ?_)
  · have hf := if_t hc1 hf
    exact w_BoundedTrees_splitOffOne_121 C0 hret k8 hk8  v3 v4 t_branches _ _ _ hP hD hS (lv_sub hl [0, 1, 2, 3, 4] rfl) hf
  · have hf := if_f hc1 hf
    refine lv_aload_n hx hb d_BoundedTrees_splitOffOne_48 rfl (lv_at hl 0 rfl) ?_
    refine va_get (D := D) (ci := 0) (v := .ref q_t_branch) (C := R_BoundedTrees) (T := F_BoundedTrees) (N := 6) hx hb hts i_BoundedTrees hown hK hP 0 rfl rfl 2 (by decide) (hts _ m_1_164) (fun _ h9 => h9) rfl d_BoundedTrees_splitOffOne_49 ?_
    refine lv_iload_n hx hb d_BoundedTrees_splitOffOne_52 rfl (lv_at hl 1 rfl) ?_
    obtain ⟨hg1, hf⟩ := gd_e hf
    refine ga_ld hx hb hK hP 1 2 rfl rfl (inb_e hg1) d_BoundedTrees_splitOffOne_53 ?_
    refine lv_iload hx hb d_BoundedTrees_splitOffOne_54 (lv_at hl 4 rfl) ?_
    obtain ⟨hg2, hf⟩ := gd_e hf
    refine va_lald hx hb hK hP (3 + p1.toNatClampNeg) 1 (gg0 rfl (inb_lt hg1)) rfl (inb_e hg2) d_BoundedTrees_splitOffOne_56 ?_
    refine lv_aload_n hx hb d_BoundedTrees_splitOffOne_57 rfl (lv_at hl 0 rfl) ?_
    refine va_get (D := D) (ci := 0) (v := .ref q_t_branches) (C := R_BoundedTrees) (T := F_BoundedTrees) (N := 6) hx hb hts i_BoundedTrees hown hK hP 0 rfl rfl 3 (by decide) (hts _ m_1_165) (fun _ h9 => h9) rfl d_BoundedTrees_splitOffOne_58 ?_
    refine lv_iload hx hb d_BoundedTrees_splitOffOne_61 (lv_at hl 5 rfl) ?_
    refine lv_iconst (v := 1) hx hb d_BoundedTrees_splitOffOne_63 (by decide) ?_
    refine lv_isub hx hb d_BoundedTrees_splitOffOne_64 ?_
    refine lv_iload_n hx hb d_BoundedTrees_splitOffOne_65 rfl (lv_at hl 1 rfl) ?_
    obtain ⟨r1, hq1, hf⟩ := bk1_e hf
    refine cl_nil (va_runS (As := [.int (v5 - (1 : Int32)), .int p1]) (rest := [.ref q_t_branches, .long (t_branch p1.toNatClampNeg v4.toNatClampNeg)]) ⟨hx, hb, hml, hown, hts⟩ (c_BoundedTrees_row l D cI cJ cG cZ (v5 - (1 : Int32)) p1 hq1 H.size) (va_cwS 2 hts (gi_S m_2_235 m_2_236 m_1_6 wi_BoundedTrees_row) rfl rfl rfl hd_BoundedTrees_row ⟨Nat.le_trans (Nat.le_of_ble_eq_true rfl) hfr, Nat.le_trans (Nat.le_of_ble_eq_true rfl) hlo⟩) ⟨pw_blind, fun U hU hW => ⟨rfl, pw_in hU pn_P (va_K.moved hW.alike hK) pn_D⟩⟩ rfl rfl hl.1 rfl (lv_room (Nat.le_of_ble_eq_true rfl)) d_BoundedTrees_splitOffOne_66 ⟨Nat.zero_le _, Nat.zero_le _⟩) hP hD hS hA (fun H locs hP hD hS => ?_)
    have hP : va_P D CL (wa [(q_t, .inr (0, [.ref q_t_graph, .ref q_t_between, .ref q_t_branch, .ref q_t_branches, .int t_nodes, .int t_bound])), (q_t_branch, .inl (cG, 7, .inr (.inr (.inr (.inr (fun i => some (ra_t_branch i))))))), (q_t_branches, .inl (cG, 49, .inr (.inr (.inr (.inr (fun i => some (ra_t_branches i)))))))] (wa (gsL 7 64 cJ ra_t_branch t_branch) (wa (gsL 49 64 cJ ra_t_branches t_branches) []))) H := hP
    have hD : va_D A (wa [(q_t, .inr (0, [.ref q_t_graph, .ref q_t_between, .ref q_t_branch, .ref q_t_branches, .int t_nodes, .int t_bound])), (q_t_branch, .inl (cG, 7, .inr (.inr (.inr (.inr (fun i => some (ra_t_branch i))))))), (q_t_branches, .inl (cG, 49, .inr (.inr (.inr (.inr (fun i => some (ra_t_branches i)))))))] (wa (gsL 7 64 cJ ra_t_branch t_branch) (wa (gsL 49 64 cJ ra_t_branches t_branches) []))) := hD
    obtain ⟨hg3, hf⟩ := gd_e hf
    refine ga_ld hx hb hK hP 2 2 rfl rfl (inb_e hg3) d_BoundedTrees_splitOffOne_69 ?_
    refine lv_iload_n hx hb d_BoundedTrees_splitOffOne_70 rfl (lv_at hl 2 rfl) ?_
    refine lv_iload hx hb d_BoundedTrees_splitOffOne_71 (lv_at hl 4 rfl) ?_
    refine lv_iconst (v := -1) hx hb d_BoundedTrees_splitOffOne_73 (by decide) ?_
    refine lv_ixor hx hb d_BoundedTrees_splitOffOne_74 ?_
    refine lv_iand hx hb d_BoundedTrees_splitOffOne_75 ?_
    obtain ⟨hg4, hf⟩ := gd_e hf
    refine va_lald hx hb hK hP (10 + r1.toNatClampNeg) 1 (gg1 rfl (inb_lt hg3)) rfl (inb_e hg4) d_BoundedTrees_splitOffOne_76 ?_
    refine lv_ladd hx hb d_BoundedTrees_splitOffOne_77 ?_
    refine lv_topl (fun x2 ex2 => ?_)
    have hf := bn_e ex2 hf
    refine lv_lstore (lv' := [(6, .long x2), (0, .ref q_t), (1, .int p1), (2, .int p2), (3, .int v3), (4, .int v4), (5, .int v5)]) hx hb d_BoundedTrees_splitOffOne_78 hl (by decide) rfl (fun ls hl => ?_)
    refine lv_aload_n hx hb d_BoundedTrees_splitOffOne_80 rfl (lv_at hl 1 rfl) ?_
    refine va_get (D := D) (ci := 0) (v := .ref q_t_branches) (C := R_BoundedTrees) (T := F_BoundedTrees) (N := 6) hx hb hts i_BoundedTrees hown hK hP 0 rfl rfl 3 (by decide) (hts _ m_1_165) (fun _ h9 => h9) rfl d_BoundedTrees_splitOffOne_81 ?_
    refine lv_iload hx hb d_BoundedTrees_splitOffOne_84 (lv_at hl 6 rfl) ?_
    refine lv_iload_n hx hb d_BoundedTrees_splitOffOne_86 rfl (lv_at hl 2 rfl) ?_
    obtain ⟨r3, hq2, hf⟩ := bk1_e hf
    refine cl_nil (va_runS (As := [.int v5, .int p1]) (rest := [.ref q_t_branches]) ⟨hx, hb, hml, hown, hts⟩ (c_BoundedTrees_row l D cI cJ cG cZ v5 p1 hq2 H.size) (va_cwS 2 hts (gi_S m_2_235 m_2_236 m_1_6 wi_BoundedTrees_row) rfl rfl rfl hd_BoundedTrees_row ⟨Nat.le_trans (Nat.le_of_ble_eq_true rfl) hfr, Nat.le_trans (Nat.le_of_ble_eq_true rfl) hlo⟩) ⟨pw_blind, fun U hU hW => ⟨rfl, pw_in hU pn_P (va_K.moved hW.alike hK) pn_D⟩⟩ rfl rfl hl.1 rfl (lv_room (Nat.le_of_ble_eq_true rfl)) d_BoundedTrees_splitOffOne_87 ⟨Nat.zero_le _, Nat.zero_le _⟩) hP hD hS hA (fun H locs hP hD hS => ?_)
    have hP : va_P D CL (wa [(q_t, .inr (0, [.ref q_t_graph, .ref q_t_between, .ref q_t_branch, .ref q_t_branches, .int t_nodes, .int t_bound])), (q_t_branch, .inl (cG, 7, .inr (.inr (.inr (.inr (fun i => some (ra_t_branch i))))))), (q_t_branches, .inl (cG, 49, .inr (.inr (.inr (.inr (fun i => some (ra_t_branches i)))))))] (wa (gsL 7 64 cJ ra_t_branch t_branch) (wa (gsL 49 64 cJ ra_t_branches t_branches) []))) H := hP
    have hD : va_D A (wa [(q_t, .inr (0, [.ref q_t_graph, .ref q_t_between, .ref q_t_branch, .ref q_t_branches, .int t_nodes, .int t_bound])), (q_t_branch, .inl (cG, 7, .inr (.inr (.inr (.inr (fun i => some (ra_t_branch i))))))), (q_t_branches, .inl (cG, 49, .inr (.inr (.inr (.inr (fun i => some (ra_t_branches i)))))))] (wa (gsL 7 64 cJ ra_t_branch t_branch) (wa (gsL 49 64 cJ ra_t_branches t_branches) []))) := hD
    obtain ⟨hg5, hf⟩ := gd_e hf
    refine ga_ld hx hb hK hP 2 2 rfl rfl (inb_e hg5) d_BoundedTrees_splitOffOne_90 ?_
    refine lv_iload_n hx hb d_BoundedTrees_splitOffOne_91 rfl (lv_at hl 3 rfl) ?_
    obtain ⟨hg6, hf⟩ := gd_e hf
    refine va_lald hx hb hK hP (10 + r3.toNatClampNeg) 1 (gg1 rfl (inb_lt hg5)) rfl (inb_e hg6) d_BoundedTrees_splitOffOne_92 ?_
    refine lv_topl (fun x4 ex4 => ?_)
    have hf := bn_e ex4 hf
    refine lv_lstore (lv' := [(8, .long x4), (6, .long x2), (0, .ref q_t), (1, .int p1), (2, .int p2), (3, .int v3), (4, .int v4), (5, .int v5)]) hx hb d_BoundedTrees_splitOffOne_93 hl (by decide) rfl (fun ls hl => ?_)
    refine lv_aload_n hx hb d_BoundedTrees_splitOffOne_95 rfl (lv_at hl 2 rfl) ?_
    refine va_get (D := D) (ci := 0) (v := .ref q_t_branches) (C := R_BoundedTrees) (T := F_BoundedTrees) (N := 6) hx hb hts i_BoundedTrees hown hK hP 0 rfl rfl 3 (by decide) (hts _ m_1_165) (fun _ h9 => h9) rfl d_BoundedTrees_splitOffOne_96 ?_
    refine lv_iload hx hb d_BoundedTrees_splitOffOne_99 (lv_at hl 7 rfl) ?_
    refine lv_iload_n hx hb d_BoundedTrees_splitOffOne_101 rfl (lv_at hl 3 rfl) ?_
    obtain ⟨r5, hq3, hf⟩ := bk1_e hf
    refine cl_nil (va_runS (As := [.int v5, .int p1]) (rest := [.ref q_t_branches]) ⟨hx, hb, hml, hown, hts⟩ (c_BoundedTrees_row l D cI cJ cG cZ v5 p1 hq3 H.size) (va_cwS 2 hts (gi_S m_2_235 m_2_236 m_1_6 wi_BoundedTrees_row) rfl rfl rfl hd_BoundedTrees_row ⟨Nat.le_trans (Nat.le_of_ble_eq_true rfl) hfr, Nat.le_trans (Nat.le_of_ble_eq_true rfl) hlo⟩) ⟨pw_blind, fun U hU hW => ⟨rfl, pw_in hU pn_P (va_K.moved hW.alike hK) pn_D⟩⟩ rfl rfl hl.1 rfl (lv_room (Nat.le_of_ble_eq_true rfl)) d_BoundedTrees_splitOffOne_102 ⟨Nat.zero_le _, Nat.zero_le _⟩) hP hD hS hA (fun H locs hP hD hS => ?_)
    have hP : va_P D CL (wa [(q_t, .inr (0, [.ref q_t_graph, .ref q_t_between, .ref q_t_branch, .ref q_t_branches, .int t_nodes, .int t_bound])), (q_t_branch, .inl (cG, 7, .inr (.inr (.inr (.inr (fun i => some (ra_t_branch i))))))), (q_t_branches, .inl (cG, 49, .inr (.inr (.inr (.inr (fun i => some (ra_t_branches i)))))))] (wa (gsL 7 64 cJ ra_t_branch t_branch) (wa (gsL 49 64 cJ ra_t_branches t_branches) []))) H := hP
    have hD : va_D A (wa [(q_t, .inr (0, [.ref q_t_graph, .ref q_t_between, .ref q_t_branch, .ref q_t_branches, .int t_nodes, .int t_bound])), (q_t_branch, .inl (cG, 7, .inr (.inr (.inr (.inr (fun i => some (ra_t_branch i))))))), (q_t_branches, .inl (cG, 49, .inr (.inr (.inr (.inr (fun i => some (ra_t_branches i)))))))] (wa (gsL 7 64 cJ ra_t_branch t_branch) (wa (gsL 49 64 cJ ra_t_branches t_branches) []))) := hD
    obtain ⟨hg7, hf⟩ := gd_e hf
    refine ga_ld hx hb hK hP 2 2 rfl rfl (inb_e hg7) d_BoundedTrees_splitOffOne_105 ?_
    refine lv_iload_n hx hb d_BoundedTrees_splitOffOne_106 rfl (lv_at hl 4 rfl) ?_
    refine lv_lload hx hb d_BoundedTrees_splitOffOne_107 (lv_at hl 0 rfl) ?_
    refine lv_lload hx hb d_BoundedTrees_splitOffOne_109 (lv_at hl 1 rfl) ?_
    refine va_mmin_long hx hb (hml.trans hl.1.symm) hown (hts _ m_2_228) (hts _ m_2_229) (hts _ m_1_10) (hts _ m_2_230) (Nat.le_trans (Nat.le_of_ble_eq_true rfl) hfr) (Nat.le_trans (Nat.le_of_ble_eq_true rfl) hlo) (Nat.zero_le _) (Nat.zero_le _) d_BoundedTrees_splitOffOne_111 ?_
    refine lv_topl (fun x6 ex6 => ?_)
    have hf := bn_e ex6 hf
    obtain ⟨hg8, hf⟩ := gd_e hf
    refine va_last hx hb hK hP hD hS (10 + r5.toNatClampNeg) 1 (gg1 rfl (inb_lt hg7)) rfl (inb_e hg8) d_BoundedTrees_splitOffOne_114 (fun H locs hP hD hS => ?_)
    have hW9 : List.set (wa [(q_t, .inr (0, [.ref q_t_graph, .ref q_t_between, .ref q_t_branch, .ref q_t_branches, .int t_nodes, .int t_bound])), (q_t_branch, .inl (cG, 7, .inr (.inr (.inr (.inr (fun i => some (ra_t_branch i))))))), (q_t_branches, .inl (cG, 49, .inr (.inr (.inr (.inr (fun i => some (ra_t_branches i)))))))] (wa (gsL 7 64 cJ ra_t_branch t_branch) (wa (gsL 49 64 cJ ra_t_branches t_branches) []))) (10 + r5.toNatClampNeg) (ra_t_branches r5.toNatClampNeg, .inl (cJ, 64, .inr (.inl (vp_updL (t_branches r5.toNatClampNeg) p2.toNatClampNeg x6)))) = (wa [(q_t, .inr (0, [.ref q_t_graph, .ref q_t_between, .ref q_t_branch, .ref q_t_branches, .int t_nodes, .int t_bound])), (q_t_branch, .inl (cG, 7, .inr (.inr (.inr (.inr (fun i => some (ra_t_branch i))))))), (q_t_branches, .inl (cG, 49, .inr (.inr (.inr (.inr (fun i => some (ra_t_branches i)))))))] (wa (gsL 7 64 cJ ra_t_branch t_branch) (wa (gsL 49 64 cJ ra_t_branches (upGL t_branches r5.toNatClampNeg p2.toNatClampNeg x6)) []))) := gt1 rfl (inb_lt hg7)
    rw [hW9] at hP hD
    obtain ⟨x7, ex7⟩ : ∃ y : Int32, y = v5 + (1 : Int32) := ⟨_, rfl⟩
    have hf := bn_e ex7 hf
    refine lv_iinc (v := x7) (lv' := [(5, .int x7), (8, .long x4), (6, .long x2), (0, .ref q_t), (1, .int p1), (2, .int p2), (3, .int v3), (4, .int v4)]) hx hb d_BoundedTrees_splitOffOne_115 hl (k := 7) rfl (by rw [ex7]; rfl) (by decide) rfl (fun ls hl => ?_)
    refine lv_goto (tgt := 39) hx hb d_BoundedTrees_splitOffOne_118 (by decide) ?_
    exact hk39 v3 v4 x7 (upGL t_branches r5.toNatClampNeg p2.toNatClampNeg x6) _ _ _ hP hD hS (lv_sub hl [3, 4, 5, 6, 7, 0] rfl) hf
set_option maxRecDepth 100000 in
set_option maxHeartbeats 4000000 in
theorem w_BoundedTrees_splitOffOne_39_l {p : Program} {l : Launch} {e : Env} {R : Room} {s : State} {m : MethodId} {args : Array Value} {below : List Frame} {meth : Method} {c : Code} {D : va_G} {cI cJ cG cZ : ClassId} {A : Nat → Prop} {Q : State → Prop} {q_t q_t_graph q_t_between q_t_branch q_t_branches : Nat} {ra_t_branch ra_t_branches : Nat → Nat} {t_nodes : Int32} {t_bound : Int32} {t_branch : Nat → Nat → Int64} {p1 : Int32} {p2 : Int32} {RR : (Nat → Nat → Int64)} (C0 : CX p R s m args meth c b_BoundedTrees_splitOffOne 10 R_BoundedTrees lw_g D CL (TYs cI cJ cG cZ) A 1 60) (hret : ∀ (pc : Nat) (ls : Array Slot) (H : Heap) (locs : List Loc) (t_branches : Nat → Nat → Int64), decode b_BoundedTrees_splitOffOne pc = .ok (.return_, 1) → va_P D CL (wa [(q_t, .inr (0, [.ref q_t_graph, .ref q_t_between, .ref q_t_branch, .ref q_t_branches, .int t_nodes, .int t_bound])), (q_t_branch, .inl (cG, 7, .inr (.inr (.inr (.inr (fun i => some (ra_t_branch i))))))), (q_t_branches, .inl (cG, 49, .inr (.inr (.inr (.inr (fun i => some (ra_t_branches i)))))))] (wa (gsL 7 64 cJ ra_t_branch t_branch) (wa (gsL 49 64 cJ ra_t_branches t_branches) []))) H → va_D A (wa [(q_t, .inr (0, [.ref q_t_graph, .ref q_t_between, .ref q_t_branch, .ref q_t_branches, .int t_nodes, .int t_bound])), (q_t_branch, .inl (cG, 7, .inr (.inr (.inr (.inr (fun i => some (ra_t_branch i))))))), (q_t_branches, .inl (cG, 49, .inr (.inr (.inr (.inr (fun i => some (ra_t_branches i)))))))] (wa (gsL 7 64 cJ ra_t_branch t_branch) (wa (gsL 49 64 cJ ra_t_branches t_branches) []))) → va_S A s.heap H locs → some (t_branches) = some RR → W p l e R s m args below meth c H locs 0 0 Q (F0 m pc ls [])) (k8 : Int32 → Int32 → (Nat → Nat → Int64) → Option ((Nat → Nat → Int64))) (hk8 : ∀ (v3 : Int32) (v4 : Int32) (t_branches : Nat → Nat → Int64) (H : Heap) (locs : List Loc) (ls : Array Slot), va_P D CL (wa [(q_t, .inr (0, [.ref q_t_graph, .ref q_t_between, .ref q_t_branch, .ref q_t_branches, .int t_nodes, .int t_bound])), (q_t_branch, .inl (cG, 7, .inr (.inr (.inr (.inr (fun i => some (ra_t_branch i))))))), (q_t_branches, .inl (cG, 49, .inr (.inr (.inr (.inr (fun i => some (ra_t_branches i)))))))] (wa (gsL 7 64 cJ ra_t_branch t_branch) (wa (gsL 49 64 cJ ra_t_branches t_branches) []))) H → va_D A (wa [(q_t, .inr (0, [.ref q_t_graph, .ref q_t_between, .ref q_t_branch, .ref q_t_branches, .int t_nodes, .int t_bound])), (q_t_branch, .inl (cG, 7, .inr (.inr (.inr (.inr (fun i => some (ra_t_branch i))))))), (q_t_branches, .inl (cG, 49, .inr (.inr (.inr (.inr (fun i => some (ra_t_branches i)))))))] (wa (gsL 7 64 cJ ra_t_branch t_branch) (wa (gsL 49 64 cJ ra_t_branches t_branches) []))) → va_S A s.heap H locs → lv_has ls 10 [(0, .ref q_t), (1, .int p1), (2, .int p2), (3, .int v3), (4, .int v4)] → k8 v3 v4 t_branches = some RR → W p l e R s m args below meth c H locs 0 0 Q (F0 m 8 ls [])) : ∀ (n : Nat) (v3 : Int32) (v4 : Int32) (v5 : Int32) (t_branches : Nat → Nat → Int64) (H : Heap) (locs : List Loc) (ls : Array Slot), va_P D CL (wa [(q_t, .inr (0, [.ref q_t_graph, .ref q_t_between, .ref q_t_branch, .ref q_t_branches, .int t_nodes, .int t_bound])), (q_t_branch, .inl (cG, 7, .inr (.inr (.inr (.inr (fun i => some (ra_t_branch i))))))), (q_t_branches, .inl (cG, 49, .inr (.inr (.inr (.inr (fun i => some (ra_t_branches i)))))))] (wa (gsL 7 64 cJ ra_t_branch t_branch) (wa (gsL 49 64 cJ ra_t_branches t_branches) []))) H → va_D A (wa [(q_t, .inr (0, [.ref q_t_graph, .ref q_t_between, .ref q_t_branch, .ref q_t_branches, .int t_nodes, .int t_bound])), (q_t_branch, .inl (cG, 7, .inr (.inr (.inr (.inr (fun i => some (ra_t_branch i))))))), (q_t_branches, .inl (cG, 49, .inr (.inr (.inr (.inr (fun i => some (ra_t_branches i)))))))] (wa (gsL 7 64 cJ ra_t_branch t_branch) (wa (gsL 49 64 cJ ra_t_branches t_branches) []))) → va_S A s.heap H locs → lv_has ls 10 [(0, .ref q_t), (1, .int p1), (2, .int p2), (3, .int v3), (4, .int v4), (5, .int v5)] → lo4 (g_BoundedTrees_splitOffOne_39 p1 p2 t_bound t_branch k8) n v3 v4 v5 t_branches = some RR → W p l e R s m args below meth c H locs 0 0 Q (F0 m 39 ls []) := by
  intro n
  induction n with
  | zero =>
    intro v3 v4 v5 t_branches H locs ls hP hD hS hl hf
    exact absurd hf (by simp [lo4])
  | succ n ih =>
    intro v3 v4 v5 t_branches H locs ls hP hD hS hl hf
    exact w_BoundedTrees_splitOffOne_39 C0 hret k8 hk8 (lo4 (g_BoundedTrees_splitOffOne_39 p1 p2 t_bound t_branch k8) n) ih v3 v4 v5 t_branches H locs ls hP hD hS hl hf
set_option maxRecDepth 100000 in
set_option maxHeartbeats 4000000 in
theorem w_BoundedTrees_splitOffOne_8 {p : Program} {l : Launch} {e : Env} {R : Room} {s : State} {m : MethodId} {args : Array Value} {below : List Frame} {meth : Method} {c : Code} {D : va_G} {cI cJ cG cZ : ClassId} {A : Nat → Prop} {Q : State → Prop} {q_t q_t_graph q_t_between q_t_branch q_t_branches : Nat} {ra_t_branch ra_t_branches : Nat → Nat} {t_nodes : Int32} {t_bound : Int32} {t_branch : Nat → Nat → Int64} {p1 : Int32} {p2 : Int32} {N : Nat} {RR : (Nat → Nat → Int64)} (C0 : CX p R s m args meth c b_BoundedTrees_splitOffOne 10 R_BoundedTrees lw_g D CL (TYs cI cJ cG cZ) A 1 60) (hret : ∀ (pc : Nat) (ls : Array Slot) (H : Heap) (locs : List Loc) (t_branches : Nat → Nat → Int64), decode b_BoundedTrees_splitOffOne pc = .ok (.return_, 1) → va_P D CL (wa [(q_t, .inr (0, [.ref q_t_graph, .ref q_t_between, .ref q_t_branch, .ref q_t_branches, .int t_nodes, .int t_bound])), (q_t_branch, .inl (cG, 7, .inr (.inr (.inr (.inr (fun i => some (ra_t_branch i))))))), (q_t_branches, .inl (cG, 49, .inr (.inr (.inr (.inr (fun i => some (ra_t_branches i)))))))] (wa (gsL 7 64 cJ ra_t_branch t_branch) (wa (gsL 49 64 cJ ra_t_branches t_branches) []))) H → va_D A (wa [(q_t, .inr (0, [.ref q_t_graph, .ref q_t_between, .ref q_t_branch, .ref q_t_branches, .int t_nodes, .int t_bound])), (q_t_branch, .inl (cG, 7, .inr (.inr (.inr (.inr (fun i => some (ra_t_branch i))))))), (q_t_branches, .inl (cG, 49, .inr (.inr (.inr (.inr (fun i => some (ra_t_branches i)))))))] (wa (gsL 7 64 cJ ra_t_branch t_branch) (wa (gsL 49 64 cJ ra_t_branches t_branches) []))) → va_S A s.heap H locs → some (t_branches) = some RR → W p l e R s m args below meth c H locs 0 0 Q (F0 m pc ls [])) (k8 : Int32 → Int32 → (Nat → Nat → Int64) → Option ((Nat → Nat → Int64))) (hk8 : ∀ (v3 : Int32) (v4 : Int32) (t_branches : Nat → Nat → Int64) (H : Heap) (locs : List Loc) (ls : Array Slot), va_P D CL (wa [(q_t, .inr (0, [.ref q_t_graph, .ref q_t_between, .ref q_t_branch, .ref q_t_branches, .int t_nodes, .int t_bound])), (q_t_branch, .inl (cG, 7, .inr (.inr (.inr (.inr (fun i => some (ra_t_branch i))))))), (q_t_branches, .inl (cG, 49, .inr (.inr (.inr (.inr (fun i => some (ra_t_branches i)))))))] (wa (gsL 7 64 cJ ra_t_branch t_branch) (wa (gsL 49 64 cJ ra_t_branches t_branches) []))) H → va_D A (wa [(q_t, .inr (0, [.ref q_t_graph, .ref q_t_between, .ref q_t_branch, .ref q_t_branches, .int t_nodes, .int t_bound])), (q_t_branch, .inl (cG, 7, .inr (.inr (.inr (.inr (fun i => some (ra_t_branch i))))))), (q_t_branches, .inl (cG, 49, .inr (.inr (.inr (.inr (fun i => some (ra_t_branches i)))))))] (wa (gsL 7 64 cJ ra_t_branch t_branch) (wa (gsL 49 64 cJ ra_t_branches t_branches) []))) → va_S A s.heap H locs → lv_has ls 10 [(0, .ref q_t), (1, .int p1), (2, .int p2), (3, .int v3), (4, .int v4)] → k8 v3 v4 t_branches = some RR → W p l e R s m args below meth c H locs 0 0 Q (F0 m 8 ls [])) : ∀ (v3 : Int32) (v4 : Int32) (t_branches : Nat → Nat → Int64) (H : Heap) (locs : List Loc) (ls : Array Slot), va_P D CL (wa [(q_t, .inr (0, [.ref q_t_graph, .ref q_t_between, .ref q_t_branch, .ref q_t_branches, .int t_nodes, .int t_bound])), (q_t_branch, .inl (cG, 7, .inr (.inr (.inr (.inr (fun i => some (ra_t_branch i))))))), (q_t_branches, .inl (cG, 49, .inr (.inr (.inr (.inr (fun i => some (ra_t_branches i)))))))] (wa (gsL 7 64 cJ ra_t_branch t_branch) (wa (gsL 49 64 cJ ra_t_branches t_branches) []))) H → va_D A (wa [(q_t, .inr (0, [.ref q_t_graph, .ref q_t_between, .ref q_t_branch, .ref q_t_branches, .int t_nodes, .int t_bound])), (q_t_branch, .inl (cG, 7, .inr (.inr (.inr (.inr (fun i => some (ra_t_branch i))))))), (q_t_branches, .inl (cG, 49, .inr (.inr (.inr (.inr (fun i => some (ra_t_branches i)))))))] (wa (gsL 7 64 cJ ra_t_branch t_branch) (wa (gsL 49 64 cJ ra_t_branches t_branches) []))) → va_S A s.heap H locs → lv_has ls 10 [(0, .ref q_t), (1, .int p1), (2, .int p2), (3, .int v3), (4, .int v4)] → g_BoundedTrees_splitOffOne_8 N p1 p2 t_bound t_branch k8 v3 v4 t_branches = some RR → W p l e R s m args below meth c H locs 0 0 Q (F0 m 8 ls []) := by
  intro v3 v4 t_branches H locs ls hP hD hS hl hf
  obtain ⟨hx, hb, hml, hown, hts, hK, hA, hfr, hlo, hlk⟩ := id C0
  unfold g_BoundedTrees_splitOffOne_8 at hf
  refine lv_iload hx hb d_BoundedTrees_splitOffOne_8 (lv_at hl 4 rfl) ?_
  refine lv_if_le (tgt := 132) hx hb d_BoundedTrees_splitOffOne_10 (by decide) (fun hc1 => ?_) (fun hc1 => ?_)
  · have hf := if_t hc1 hf
    exact hret 132 _ _ _ t_branches d_BoundedTrees_splitOffOne_132 hP hD hS hf
  · have hf := if_f hc1 hf
    refine lv_iload hx hb d_BoundedTrees_splitOffOne_13 (lv_at hl 4 rfl) ?_
    refine lv_iload_n hx hb d_BoundedTrees_splitOffOne_15 rfl (lv_at hl 3 rfl) ?_
    refine lv_iand hx hb d_BoundedTrees_splitOffOne_16 ?_
    refine lv_if_eq (tgt := 121) hx hb d_BoundedTrees_splitOffOne_17 (by decide) (fun hc2 => ?_) (fun hc2 => ?_)
    · have hf := if_t hc2 hf
      exact w_BoundedTrees_splitOffOne_121 C0 hret k8 hk8  v3 v4 t_branches _ _ _ hP hD hS (lv_sub hl [0, 1, 2, 3, 4] rfl) hf
    · have hf := if_f hc2 hf
      refine lv_aload_n hx hb d_BoundedTrees_splitOffOne_20 rfl (lv_at hl 0 rfl) ?_
      refine va_get (D := D) (ci := 0) (v := .ref q_t_branch) (C := R_BoundedTrees) (T := F_BoundedTrees) (N := 6) hx hb hts i_BoundedTrees hown hK hP 0 rfl rfl 2 (by decide) (hts _ m_1_164) (fun _ h9 => h9) rfl d_BoundedTrees_splitOffOne_21 ?_
      refine lv_iload_n hx hb d_BoundedTrees_splitOffOne_24 rfl (lv_at hl 1 rfl) ?_
      obtain ⟨hg1, hf⟩ := gd_e hf
      refine ga_ld hx hb hK hP 1 2 rfl rfl (inb_e hg1) d_BoundedTrees_splitOffOne_25 ?_
      refine lv_iload hx hb d_BoundedTrees_splitOffOne_26 (lv_at hl 4 rfl) ?_
      obtain ⟨hg2, hf⟩ := gd_e hf
      refine va_lald hx hb hK hP (3 + p1.toNatClampNeg) 1 (gg0 rfl (inb_lt hg1)) rfl (inb_e hg2) d_BoundedTrees_splitOffOne_28 ?_
      refine lv_ldc2 (v := 1152921504606846976) hx hb hown (hts _ m_2_219) d_BoundedTrees_splitOffOne_29 ?_
      refine W.lcmp hx hb d_BoundedTrees_splitOffOne_32 ?_
      refine lv_if_ge (tgt := 121) hx hb d_BoundedTrees_splitOffOne_33 (by decide) (fun hc3 => ?_) (fun hc3 => ?_)
      · have hf := if_t hc3 hf
        exact w_BoundedTrees_splitOffOne_121 C0 hret k8 hk8  v3 v4 t_branches _ _ _ hP hD hS (lv_sub hl [0, 1, 2, 3, 4] rfl) hf
      · have hf := if_f hc3 hf
        refine lv_iconst (v := 1) hx hb d_BoundedTrees_splitOffOne_36 (by decide) ?_
        refine lv_istore (lv' := [(5, .int (1 : Int32)), (0, .ref q_t), (1, .int p1), (2, .int p2), (3, .int v3), (4, .int v4)]) hx hb d_BoundedTrees_splitOffOne_37 hl (by decide) rfl (fun ls hl => ?_)
        exact w_BoundedTrees_splitOffOne_39_l C0 hret k8 hk8 N v3 v4 (1 : Int32) t_branches _ _ _ hP hD hS (lv_sub hl [1, 2, 3, 4, 5, 0] rfl) hf
set_option maxRecDepth 100000 in
set_option maxHeartbeats 4000000 in
theorem w_BoundedTrees_splitOffOne_8_l {p : Program} {l : Launch} {e : Env} {R : Room} {s : State} {m : MethodId} {args : Array Value} {below : List Frame} {meth : Method} {c : Code} {D : va_G} {cI cJ cG cZ : ClassId} {A : Nat → Prop} {Q : State → Prop} {q_t q_t_graph q_t_between q_t_branch q_t_branches : Nat} {ra_t_branch ra_t_branches : Nat → Nat} {t_nodes : Int32} {t_bound : Int32} {t_branch : Nat → Nat → Int64} {p1 : Int32} {p2 : Int32} {N : Nat} {RR : (Nat → Nat → Int64)} (C0 : CX p R s m args meth c b_BoundedTrees_splitOffOne 10 R_BoundedTrees lw_g D CL (TYs cI cJ cG cZ) A 1 60) (hret : ∀ (pc : Nat) (ls : Array Slot) (H : Heap) (locs : List Loc) (t_branches : Nat → Nat → Int64), decode b_BoundedTrees_splitOffOne pc = .ok (.return_, 1) → va_P D CL (wa [(q_t, .inr (0, [.ref q_t_graph, .ref q_t_between, .ref q_t_branch, .ref q_t_branches, .int t_nodes, .int t_bound])), (q_t_branch, .inl (cG, 7, .inr (.inr (.inr (.inr (fun i => some (ra_t_branch i))))))), (q_t_branches, .inl (cG, 49, .inr (.inr (.inr (.inr (fun i => some (ra_t_branches i)))))))] (wa (gsL 7 64 cJ ra_t_branch t_branch) (wa (gsL 49 64 cJ ra_t_branches t_branches) []))) H → va_D A (wa [(q_t, .inr (0, [.ref q_t_graph, .ref q_t_between, .ref q_t_branch, .ref q_t_branches, .int t_nodes, .int t_bound])), (q_t_branch, .inl (cG, 7, .inr (.inr (.inr (.inr (fun i => some (ra_t_branch i))))))), (q_t_branches, .inl (cG, 49, .inr (.inr (.inr (.inr (fun i => some (ra_t_branches i)))))))] (wa (gsL 7 64 cJ ra_t_branch t_branch) (wa (gsL 49 64 cJ ra_t_branches t_branches) []))) → va_S A s.heap H locs → some (t_branches) = some RR → W p l e R s m args below meth c H locs 0 0 Q (F0 m pc ls []))  : ∀ (n : Nat) (v3 : Int32) (v4 : Int32) (t_branches : Nat → Nat → Int64) (H : Heap) (locs : List Loc) (ls : Array Slot), va_P D CL (wa [(q_t, .inr (0, [.ref q_t_graph, .ref q_t_between, .ref q_t_branch, .ref q_t_branches, .int t_nodes, .int t_bound])), (q_t_branch, .inl (cG, 7, .inr (.inr (.inr (.inr (fun i => some (ra_t_branch i))))))), (q_t_branches, .inl (cG, 49, .inr (.inr (.inr (.inr (fun i => some (ra_t_branches i)))))))] (wa (gsL 7 64 cJ ra_t_branch t_branch) (wa (gsL 49 64 cJ ra_t_branches t_branches) []))) H → va_D A (wa [(q_t, .inr (0, [.ref q_t_graph, .ref q_t_between, .ref q_t_branch, .ref q_t_branches, .int t_nodes, .int t_bound])), (q_t_branch, .inl (cG, 7, .inr (.inr (.inr (.inr (fun i => some (ra_t_branch i))))))), (q_t_branches, .inl (cG, 49, .inr (.inr (.inr (.inr (fun i => some (ra_t_branches i)))))))] (wa (gsL 7 64 cJ ra_t_branch t_branch) (wa (gsL 49 64 cJ ra_t_branches t_branches) []))) → va_S A s.heap H locs → lv_has ls 10 [(0, .ref q_t), (1, .int p1), (2, .int p2), (3, .int v3), (4, .int v4)] → lo3 (g_BoundedTrees_splitOffOne_8 N p1 p2 t_bound t_branch) n v3 v4 t_branches = some RR → W p l e R s m args below meth c H locs 0 0 Q (F0 m 8 ls []) := by
  intro n
  induction n with
  | zero =>
    intro v3 v4 t_branches H locs ls hP hD hS hl hf
    exact absurd hf (by simp [lo3])
  | succ n ih =>
    intro v3 v4 t_branches H locs ls hP hD hS hl hf
    exact w_BoundedTrees_splitOffOne_8 C0 hret  (lo3 (g_BoundedTrees_splitOffOne_8 N p1 p2 t_bound t_branch) n) ih v3 v4 t_branches H locs ls hP hD hS hl hf
set_option maxRecDepth 100000 in
set_option maxHeartbeats 4000000 in
theorem w_BoundedTrees_splitOffOne_e {p : Program} {l : Launch} {e : Env} {R : Room} {s : State} {m : MethodId} {args : Array Value} {below : List Frame} {meth : Method} {c : Code} {D : va_G} {cI cJ cG cZ : ClassId} {A : Nat → Prop} {Q : State → Prop} {q_t q_t_graph q_t_between q_t_branch q_t_branches : Nat} {ra_t_branch ra_t_branches : Nat → Nat} {t_nodes : Int32} {t_bound : Int32} {t_branch : Nat → Nat → Int64} {t_branches0 : Nat → Nat → Int64} {p1 : Int32} {p2 : Int32} {N : Nat} {RR : (Nat → Nat → Int64)} (C0 : CX p R s m args meth c b_BoundedTrees_splitOffOne 10 R_BoundedTrees lw_g D CL (TYs cI cJ cG cZ) A 1 60) (hret : ∀ (pc : Nat) (ls : Array Slot) (H : Heap) (locs : List Loc) (t_branches : Nat → Nat → Int64), decode b_BoundedTrees_splitOffOne pc = .ok (.return_, 1) → va_P D CL (wa [(q_t, .inr (0, [.ref q_t_graph, .ref q_t_between, .ref q_t_branch, .ref q_t_branches, .int t_nodes, .int t_bound])), (q_t_branch, .inl (cG, 7, .inr (.inr (.inr (.inr (fun i => some (ra_t_branch i))))))), (q_t_branches, .inl (cG, 49, .inr (.inr (.inr (.inr (fun i => some (ra_t_branches i)))))))] (wa (gsL 7 64 cJ ra_t_branch t_branch) (wa (gsL 49 64 cJ ra_t_branches t_branches) []))) H → va_D A (wa [(q_t, .inr (0, [.ref q_t_graph, .ref q_t_between, .ref q_t_branch, .ref q_t_branches, .int t_nodes, .int t_bound])), (q_t_branch, .inl (cG, 7, .inr (.inr (.inr (.inr (fun i => some (ra_t_branch i))))))), (q_t_branches, .inl (cG, 49, .inr (.inr (.inr (.inr (fun i => some (ra_t_branches i)))))))] (wa (gsL 7 64 cJ ra_t_branch t_branch) (wa (gsL 49 64 cJ ra_t_branches t_branches) []))) → va_S A s.heap H locs → some (t_branches) = some RR → W p l e R s m args below meth c H locs 0 0 Q (F0 m pc ls [])) : ∀ (H : Heap) (locs : List Loc) (ls : Array Slot), va_P D CL (wa [(q_t, .inr (0, [.ref q_t_graph, .ref q_t_between, .ref q_t_branch, .ref q_t_branches, .int t_nodes, .int t_bound])), (q_t_branch, .inl (cG, 7, .inr (.inr (.inr (.inr (fun i => some (ra_t_branch i))))))), (q_t_branches, .inl (cG, 49, .inr (.inr (.inr (.inr (fun i => some (ra_t_branches i)))))))] (wa (gsL 7 64 cJ ra_t_branch t_branch) (wa (gsL 49 64 cJ ra_t_branches t_branches0) []))) H → va_D A (wa [(q_t, .inr (0, [.ref q_t_graph, .ref q_t_between, .ref q_t_branch, .ref q_t_branches, .int t_nodes, .int t_bound])), (q_t_branch, .inl (cG, 7, .inr (.inr (.inr (.inr (fun i => some (ra_t_branch i))))))), (q_t_branches, .inl (cG, 49, .inr (.inr (.inr (.inr (fun i => some (ra_t_branches i)))))))] (wa (gsL 7 64 cJ ra_t_branch t_branch) (wa (gsL 49 64 cJ ra_t_branches t_branches0) []))) → va_S A s.heap H locs → lv_has ls 10 [(0, .ref q_t), (1, .int p1), (2, .int p2)] → f_BoundedTrees_splitOffOne N p1 p2 t_bound t_branch t_branches0 = some RR → W p l e R s m args below meth c H locs 0 0 Q (F0 m 0 ls []) := by
  intro H locs ls hP hD hS hl hf
  obtain ⟨hx, hb, hml, hown, hts, hK, hA, hfr, hlo, hlk⟩ := id C0
  unfold f_BoundedTrees_splitOffOne at hf
  refine lv_iload_n hx hb d_BoundedTrees_splitOffOne_0 rfl (lv_at hl 2 rfl) ?_
  refine lv_iload_n hx hb d_BoundedTrees_splitOffOne_1 rfl (lv_at hl 2 rfl) ?_
  refine lv_ineg hx hb d_BoundedTrees_splitOffOne_2 ?_
  refine lv_iand hx hb d_BoundedTrees_splitOffOne_3 ?_
  refine lv_topi (fun x1 ex1 => ?_)
  have hf := bn_e ex1 hf
  refine lv_istore_n (lv' := [(3, .int x1), (0, .ref q_t), (1, .int p1), (2, .int p2)]) hx hb d_BoundedTrees_splitOffOne_4 rfl hl (by decide) rfl (fun ls hl => ?_)
  refine lv_iload_n hx hb d_BoundedTrees_splitOffOne_5 rfl (lv_at hl 3 rfl) ?_
  refine lv_istore (lv' := [(4, .int p2), (3, .int x1), (0, .ref q_t), (1, .int p1), (2, .int p2)]) hx hb d_BoundedTrees_splitOffOne_6 hl (by decide) rfl (fun ls hl => ?_)
  exact w_BoundedTrees_splitOffOne_8_l C0 hret N x1 p2 t_branches0 _ _ _ hP hD hS (lv_sub hl [2, 3, 4, 1, 0] rfl) hf
set_option maxRecDepth 100000 in
set_option maxHeartbeats 4000000 in
theorem c_BoundedTrees_splitOffOne (l : Launch) (D : va_G) (cI cJ cG cZ : ClassId) (q_t q_t_graph q_t_between q_t_branch q_t_branches : Nat) (ra_t_branch ra_t_branches : Nat → Nat) (t_nodes : Int32) (t_bound : Int32) (t_branch : Nat → Nat → Int64) (t_branches0 : Nat → Nat → Int64) (p1 : Int32) (p2 : Int32) {N : Nat} {t_branches' : Nat → Nat → Int64} (hf : f_BoundedTrees_splitOffOne N p1 p2 t_bound t_branch t_branches0 = some (t_branches')) : MeG l D CL (TYs cI cJ cG cZ) y_BoundedTrees_splitOffOne ws_BoundedTrees_splitOffOne (rm_BoundedTrees_splitOffOne) [.ref q_t, .int p1, .int p2] (wa [(q_t, .inr (0, [.ref q_t_graph, .ref q_t_between, .ref q_t_branch, .ref q_t_branches, .int t_nodes, .int t_bound])), (q_t_branch, .inl (cG, 7, .inr (.inr (.inr (.inr (fun i => some (ra_t_branch i))))))), (q_t_branches, .inl (cG, 49, .inr (.inr (.inr (.inr (fun i => some (ra_t_branches i)))))))] (wa (gsL 7 64 cJ ra_t_branch t_branch) (wa (gsL 49 64 cJ ra_t_branches t_branches0) []))) none (wa [(q_t, .inr (0, [.ref q_t_graph, .ref q_t_between, .ref q_t_branch, .ref q_t_branches, .int t_nodes, .int t_bound])), (q_t_branch, .inl (cG, 7, .inr (.inr (.inr (.inr (fun i => some (ra_t_branch i))))))), (q_t_branches, .inl (cG, 49, .inr (.inr (.inr (.inr (fun i => some (ra_t_branches i)))))))] (wa (gsL 7 64 cJ ra_t_branch t_branch) (wa (gsL 49 64 cJ ra_t_branches t_branches') []))) := by
  intro sz
  refine Met.ofW (cc := b_BoundedTrees_splitOffOne) (maxL := 10) (ret := none) (by decide) rfl ?_
  intro p e s m args below meth c s₁ B hml hv
  obtain ⟨rfl, hsz, hP, hK, hD0⟩ := hv
  subst hsz
  have hD := hD0.self (sz := s.heap.size)
  generalize hAe : va_A (wa [(q_t, .inr (0, [.ref q_t_graph, .ref q_t_between, .ref q_t_branch, .ref q_t_branches, .int t_nodes, .int t_bound])), (q_t_branch, .inl (cG, 7, .inr (.inr (.inr (.inr (fun i => some (ra_t_branch i))))))), (q_t_branches, .inl (cG, 49, .inr (.inr (.inr (.inr (fun i => some (ra_t_branches i)))))))] (wa (gsL 7 64 cJ ra_t_branch t_branch) (wa (gsL 49 64 cJ ra_t_branches t_branches0) []))) s.heap.size = A at hD ⊢
  have C0 : CX p (headSpec ws_BoundedTrees_splitOffOne (rm_BoundedTrees_splitOffOne)).room s m _ meth c b_BoundedTrees_splitOffOne 10 R_BoundedTrees lw_g D CL (TYs cI cJ cG cZ) A 1 60 := ⟨B.exec, B.bytes, hml, findClass_of_methodNamed B.named, fun w h => atoms_spec (ws := ws_BoundedTrees_splitOffOne) B.pre w (List.mem_cons_of_mem _ h), hK, fun q h => by rw [← hAe]; exact Or.inr h, Nat.le_of_ble_eq_true rfl, Nat.le_of_ble_eq_true rfl, B.notSynchronized⟩
  have hl := lv_entry ([.ref q_t, .int p1, .int p2]) (n := 10) (Nat.le_of_ble_eq_true rfl)
  rw [lg_entry_eq]
  generalize (lg_sl ([.ref q_t, .int p1, .int p2]) ++ List.replicate (10 - (lg_sl ([.ref q_t, .int p1, .int p2])).length) Slot.unset).toArray = ls at hl ⊢
  have hl : lv_has ls 10 [(0, .ref q_t), (1, .int p1), (2, .int p2)] := hl
  exact w_BoundedTrees_splitOffOne_e C0 (fun pc ls H locs t_branches hdg hP hD hS e => by cases e; exact W.vret B.exec B.bytes B.returns (fun t ht hW => ⟨⟨rfl, by rw [ht]; exact hP, va_K.moved hW.alike hK, hD⟩, hS.F ht⟩) hS.2.2 hdg) _ _ _ hP hD va_S.rf (lv_sub hl [0, 1, 2] rfl) hf
