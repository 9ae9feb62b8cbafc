abbrev b_RT_node : ByteArray := prog_1_method_2_code
def y_RT_node : MethodName := ⟨R_RT, "node", "()I"⟩
def ws_RT_node : List Cond := .code y_RT_node b_RT_node 1 (some .int) :: lw_g
theorem wi_RT_node : ∀ w ∈ ws_RT_node, w ∈ lw_g := wi_of m_2_12
abbrev rm_RT_node : Room := { frames := 1, cells := 0, slots := 0, locals := 20 }
theorem hd_RT_node : y_RT_node.cls = R_RT ∧ y_RT_node.cls ≠ "java/lang/invoke/MethodHandle" ∧ y_RT_node.cls ≠ "java/lang/invoke/VarHandle" ∧ (parseMethodDescriptor y_RT_node.desc).map (fun d => d.parameters.length) = some 0 := by decide +kernel
theorem d_RT_node_0 : decode b_RT_node 0 = .ok (.aload_n 0, 1) := by decide +kernel
theorem d_RT_node_1 : decode b_RT_node 1 = .ok (.getfield 10, 3) := by decide +kernel
theorem d_RT_node_4 : decode b_RT_node 4 = .ok (.getfield 46, 3) := by decide +kernel
theorem d_RT_node_7 : decode b_RT_node 7 = .ok (.bipush 10, 2) := by decide +kernel
theorem d_RT_node_9 : decode b_RT_node 9 = .ok (.if_icmp .lt 6, 3) := by decide +kernel
theorem d_RT_node_12 : decode b_RT_node 12 = .ok (.bipush (-4), 2) := by decide +kernel
theorem d_RT_node_14 : decode b_RT_node 14 = .ok (.ireturn, 1) := by decide +kernel
theorem d_RT_node_15 : decode b_RT_node 15 = .ok (.aload_n 0, 1) := by decide +kernel
theorem d_RT_node_16 : decode b_RT_node 16 = .ok (.getfield 10, 3) := by decide +kernel
theorem d_RT_node_19 : decode b_RT_node 19 = .ok (.invokevirtual 50, 3) := by decide +kernel
theorem d_RT_node_22 : decode b_RT_node 22 = .ok (.ireturn, 1) := by decide +kernel
def f_RT_node (t_graph_nodes0 : Int32) : Option (Int32 × Int32) :=
  if t_graph_nodes0 < (10 : Int32) then
    bk2 (f_Graph_addNode t_graph_nodes0) fun r1 c2 =>
    some (r1, c2)
  else
    some ((-4 : Int32), t_graph_nodes0)
set_option maxRecDepth 100000 in
set_option maxHeartbeats 4000000 in
theorem w_RT_node_e {p : Program} {l : Launch} {e : Env} {R : Room} {s : State} {m : MethodId} {args : Array Value} {below : List Frame} {meth : Method} {c : Code} {D : va_G} {cI cJ cG cZ : ClassId} {A : Nat → Prop} {Q : State → Prop} {q_t q_t_graph q_t_forests q_t_boundedTrees q_t_treesFromRoot q_t_joiningTrees q_t_graph_from q_t_graph_to q_t_graph_weight q_t_graph_order : Nat} {t_graph_nodes0 : Int32} {t_graph_numbered : Int32} {t_graph_size : Int32} {t_graph_present : Int64} {RR : Int32 × Int32} (C0 : CX p R s m args meth c b_RT_node 1 R_RT lw_g D CL (TYs cI cJ cG cZ) A 1 20) (hret : ∀ (pc : Nat) (ls : Array Slot) (H : Heap) (locs : List Loc) (v : Int32) (t_graph_nodes : Int32), decode b_RT_node pc = .ok (.ireturn, 1) → va_P D CL [(q_t, .inr (7, [.ref q_t_graph, .ref q_t_forests, .ref q_t_boundedTrees, .ref q_t_treesFromRoot, .ref q_t_joiningTrees])), (q_t_graph, .inr (2, [.ref q_t_graph_from, .ref q_t_graph_to, .ref q_t_graph_weight, .ref q_t_graph_order, .int t_graph_nodes, .int t_graph_numbered, .int t_graph_size, .long t_graph_present]))] H → va_D A [(q_t, .inr (7, [.ref q_t_graph, .ref q_t_forests, .ref q_t_boundedTrees, .ref q_t_treesFromRoot, .ref q_t_joiningTrees])), (q_t_graph, .inr (2, [.ref q_t_graph_from, .ref q_t_graph_to, .ref q_t_graph_weight, .ref q_t_graph_order, .int t_graph_nodes, .int t_graph_numbered, .int t_graph_size, .long t_graph_present]))] → va_S A s.heap H locs → some (v, t_graph_nodes) = some RR → W p l e R s m args below meth c H locs 0 0 Q (F0 m pc ls [.int v])) : ∀ (H : Heap) (locs : List Loc) (ls : Array Slot), va_P D CL [(q_t, .inr (7, [.ref q_t_graph, .ref q_t_forests, .ref q_t_boundedTrees, .ref q_t_treesFromRoot, .ref q_t_joiningTrees])), (q_t_graph, .inr (2, [.ref q_t_graph_from, .ref q_t_graph_to, .ref q_t_graph_weight, .ref q_t_graph_order, .int t_graph_nodes0, .int t_graph_numbered, .int t_graph_size, .long t_graph_present]))] H → va_D A [(q_t, .inr (7, [.ref q_t_graph, .ref q_t_forests, .ref q_t_boundedTrees, .ref q_t_treesFromRoot, .ref q_t_joiningTrees])), (q_t_graph, .inr (2, [.ref q_t_graph_from, .ref q_t_graph_to, .ref q_t_graph_weight, .ref q_t_graph_order, .int t_graph_nodes0, .int t_graph_numbered, .int t_graph_size, .long t_graph_present]))] → va_S A s.heap H locs → lv_has ls 1 [(0, .ref q_t)] → f_RT_node t_graph_nodes0 = some RR → W p l e R s m args below meth c H locs 0 0 Q (F0 m 0 ls []) := by
  intro H locs ls hP hD hS hl hf
  obtain ⟨hx, hb, hml, hown, hts, hK, hA, hfr, hlo, hlk⟩ := id C0
  unfold f_RT_node at hf
  refine lv_aload_n hx hb d_RT_node_0 rfl (lv_at hl 0 rfl) ?_
  refine va_get (D := D) (ci := 7) (v := .ref q_t_graph) (C := R_RT) (T := F_RT) (N := 5) hx hb hts i_RT hown hK hP 0 rfl rfl 0 (by decide) (hts _ m_1_233) (fun _ h9 => h9) rfl d_RT_node_1 ?_
  refine va_get (D := D) (ci := 2) (v := .int t_graph_nodes0) (C := R_Graph) (T := F_Graph) (N := 8) hx hb hts i_Graph hown hK hP 1 rfl rfl 4 (by decide) (hts _ m_1_50) (fun _ h9 => h9) rfl d_RT_node_4 ?_
  refine lv_bipush (v := 10) hx hb d_RT_node_7 (by decide) ?_
  refine lv_icmp_lt (tgt := 15) hx hb d_RT_node_9 (by decide) (fun hc1 => ?_) (fun hc1 => ?_)
  · have hf := if_t hc1 hf
    refine lv_aload_n hx hb d_RT_node_15 rfl (lv_at hl 0 rfl) ?_
    refine va_get (D := D) (ci := 7) (v := .ref q_t_graph) (C := R_RT) (T := F_RT) (N := 5) hx hb hts i_RT hown hK hP 0 rfl rfl 0 (by decide) (hts _ m_1_233) (fun _ h9 => h9) rfl d_RT_node_16 ?_
    obtain ⟨r1, c2, hq1, hf⟩ := bk2_e hf
    refine cl_go (wr := [(q_t, .inr (7, [.ref q_t_graph, .ref q_t_forests, .ref q_t_boundedTrees, .ref q_t_treesFromRoot, .ref q_t_joiningTrees]))]) (W1 := [(q_t, .inr (7, [.ref q_t_graph, .ref q_t_forests, .ref q_t_boundedTrees, .ref q_t_treesFromRoot, .ref q_t_joiningTrees])), (q_t_graph, .inr (2, [.ref q_t_graph_from, .ref q_t_graph_to, .ref q_t_graph_weight, .ref q_t_graph_order, .int c2, .int t_graph_numbered, .int t_graph_size, .long t_graph_present]))]) (va_runV (As := []) (rest := []) ⟨hx, hb, hml, hown, hts⟩ (c_Graph_addNode l D cI cJ cG cZ q_t_graph q_t_graph_from q_t_graph_to q_t_graph_weight q_t_graph_order t_graph_nodes0 t_graph_numbered t_graph_size t_graph_present hq1 H.size) (cwV 0 hts (gi_V m_2_13 m_2_14 m_2_15 m_1_2 wi_Graph_addNode) rfl rfl rfl hd_Graph_addNode ⟨Nat.le_trans (Nat.le_of_ble_eq_true rfl) hfr, Nat.le_trans (Nat.le_of_ble_eq_true rfl) hlo⟩) ⟨pw_blind, va_recv hK hP (ci := 2) (q0 := 1) rfl rfl, fun U hU hW => ⟨rfl, pw_in hU (hP.sub [1] rfl) (va_K.moved hW.alike hK) ((hD.sub [1] rfl rfl).weaken (fun _ _ _ _ => trivial))⟩⟩ rfl rfl hl.1 rfl (lv_room (Nat.le_of_ble_eq_true rfl)) d_RT_node_19 ⟨Nat.zero_le _, Nat.zero_le _⟩) hP hD hS hA [1] [0] rfl rfl rfl rfl [0, 1] rfl rfl (fun H locs hP hD hS => ?_)
    have hP : va_P D CL [(q_t, .inr (7, [.ref q_t_graph, .ref q_t_forests, .ref q_t_boundedTrees, .ref q_t_treesFromRoot, .ref q_t_joiningTrees])), (q_t_graph, .inr (2, [.ref q_t_graph_from, .ref q_t_graph_to, .ref q_t_graph_weight, .ref q_t_graph_order, .int c2, .int t_graph_numbered, .int t_graph_size, .long t_graph_present]))] H := hP
    have hD : va_D A [(q_t, .inr (7, [.ref q_t_graph, .ref q_t_forests, .ref q_t_boundedTrees, .ref q_t_treesFromRoot, .ref q_t_joiningTrees])), (q_t_graph, .inr (2, [.ref q_t_graph_from, .ref q_t_graph_to, .ref q_t_graph_weight, .ref q_t_graph_order, .int c2, .int t_graph_numbered, .int t_graph_size, .long t_graph_present]))] := hD
    exact hret 22 _ _ _ r1 c2 d_RT_node_22 hP hD hS hf
  · have hf := if_f hc1 hf
    refine lv_bipush (v := -4) hx hb d_RT_node_12 (by decide) ?_
    exact hret 14 _ _ _ (-4 : Int32) t_graph_nodes0 d_RT_node_14 hP hD hS hf
set_option maxRecDepth 100000 in
set_option maxHeartbeats 4000000 in
theorem c_RT_node (l : Launch) (D : va_G) (cI cJ cG cZ : ClassId) (q_t q_t_graph q_t_forests q_t_boundedTrees q_t_treesFromRoot q_t_joiningTrees q_t_graph_from q_t_graph_to q_t_graph_weight q_t_graph_order : Nat) (t_graph_nodes0 : Int32) (t_graph_numbered : Int32) (t_graph_size : Int32) (t_graph_present : Int64) {r : Int32} {t_graph_nodes' : Int32} (hf : f_RT_node t_graph_nodes0 = some (r, t_graph_nodes')) : MeG l D CL (TYs cI cJ cG cZ) y_RT_node ws_RT_node (rm_RT_node) [.ref q_t] [(q_t, .inr (7, [.ref q_t_graph, .ref q_t_forests, .ref q_t_boundedTrees, .ref q_t_treesFromRoot, .ref q_t_joiningTrees])), (q_t_graph, .inr (2, [.ref q_t_graph_from, .ref q_t_graph_to, .ref q_t_graph_weight, .ref q_t_graph_order, .int t_graph_nodes0, .int t_graph_numbered, .int t_graph_size, .long t_graph_present]))] (some (.int r)) [(q_t, .inr (7, [.ref q_t_graph, .ref q_t_forests, .ref q_t_boundedTrees, .ref q_t_treesFromRoot, .ref q_t_joiningTrees])), (q_t_graph, .inr (2, [.ref q_t_graph_from, .ref q_t_graph_to, .ref q_t_graph_weight, .ref q_t_graph_order, .int t_graph_nodes', .int t_graph_numbered, .int t_graph_size, .long t_graph_present]))] := by
  intro sz
  refine Met.ofW (cc := b_RT_node) (maxL := 1) (ret := (some .int)) (by decide) rfl ?_
  intro p e s m args below meth c s₁ B hml hv
  obtain ⟨rfl, hsz, hP, hK, hD0⟩ := hv
  subst hsz
  have hD := hD0.self (sz := s.heap.size)
  generalize hAe : va_A [(q_t, .inr (7, [.ref q_t_graph, .ref q_t_forests, .ref q_t_boundedTrees, .ref q_t_treesFromRoot, .ref q_t_joiningTrees])), (q_t_graph, .inr (2, [.ref q_t_graph_from, .ref q_t_graph_to, .ref q_t_graph_weight, .ref q_t_graph_order, .int t_graph_nodes0, .int t_graph_numbered, .int t_graph_size, .long t_graph_present]))] s.heap.size = A at hD ⊢
  have C0 : CX p (headSpec ws_RT_node (rm_RT_node)).room s m _ meth c b_RT_node 1 R_RT lw_g D CL (TYs cI cJ cG cZ) A 1 20 := ⟨B.exec, B.bytes, hml, findClass_of_methodNamed B.named, fun w h => atoms_spec (ws := ws_RT_node) B.pre w (List.mem_cons_of_mem _ h), hK, fun q h => by rw [← hAe]; exact Or.inr h, Nat.le_of_ble_eq_true rfl, Nat.le_of_ble_eq_true rfl, B.notSynchronized⟩
  have hl := lv_entry ([.ref q_t]) (n := 1) (Nat.le_of_ble_eq_true rfl)
  rw [lg_entry_eq]
  generalize (lg_sl ([.ref q_t]) ++ List.replicate (1 - (lg_sl ([.ref q_t])).length) Slot.unset).toArray = ls at hl ⊢
  have hl : lv_has ls 1 [(0, .ref q_t)] := hl
  exact w_RT_node_e C0 (fun pc ls H locs v t_graph_nodes hdg hP hD hS e => by cases e; exact W.iret B.exec B.bytes B.returns (fun t ht hW => ⟨⟨rfl, by rw [ht]; exact hP, va_K.moved hW.alike hK, hD⟩, hS.F ht⟩) hS.2.2 hdg) _ _ _ hP hD va_S.rf (lv_sub hl [0] rfl) hf
abbrev b_RT_isWeight : ByteArray := prog_1_method_22_code
def y_RT_isWeight : MethodName := ⟨R_RT, "isWeight", "(I)Z"⟩
def ws_RT_isWeight : List Cond := .code y_RT_isWeight b_RT_isWeight 1 (some .boolean) :: lw_g
theorem wi_RT_isWeight : ∀ w ∈ ws_RT_isWeight, w ∈ lw_g := wi_of m_2_27
abbrev rm_RT_isWeight : Room := { frames := 0, cells := 0, slots := 0, locals := 0 }
theorem hd_RT_isWeight : y_RT_isWeight.cls ≠ "java/lang/invoke/MethodHandle" ∧ y_RT_isWeight.cls ≠ "java/lang/invoke/VarHandle" ∧ (parseMethodDescriptor y_RT_isWeight.desc).map (fun d => d.parameters.length) = some 1 := by decide +kernel
theorem d_RT_isWeight_0 : decode b_RT_isWeight 0 = .ok (.iload_n 0, 1) := by decide +kernel
theorem d_RT_isWeight_1 : decode b_RT_isWeight 1 = .ok (.ifCond .lt 14, 3) := by decide +kernel
theorem d_RT_isWeight_4 : decode b_RT_isWeight 4 = .ok (.iload_n 0, 1) := by decide +kernel
theorem d_RT_isWeight_5 : decode b_RT_isWeight 5 = .ok (.sipush 1000, 3) := by decide +kernel
theorem d_RT_isWeight_8 : decode b_RT_isWeight 8 = .ok (.if_icmp .gt 7, 3) := by decide +kernel
theorem d_RT_isWeight_11 : decode b_RT_isWeight 11 = .ok (.iconst 1, 1) := by decide +kernel
theorem d_RT_isWeight_12 : decode b_RT_isWeight 12 = .ok (.goto 4, 3) := by decide +kernel
theorem d_RT_isWeight_15 : decode b_RT_isWeight 15 = .ok (.iconst 0, 1) := by decide +kernel
theorem d_RT_isWeight_16 : decode b_RT_isWeight 16 = .ok (.ireturn, 1) := by decide +kernel
def f_RT_isWeight (p0 : Int32) : Option (Int32) :=
  if p0 < 0 then
    some ((0 : Int32))
  else
    if (1000 : Int32) < p0 then
      some ((0 : Int32))
    else
      some ((1 : Int32))
set_option maxRecDepth 100000 in
set_option maxHeartbeats 4000000 in
theorem w_RT_isWeight_e {p : Program} {l : Launch} {e : Env} {R : Room} {s : State} {m : MethodId} {args : Array Value} {below : List Frame} {meth : Method} {c : Code} {D : va_G} {cI cJ cG cZ : ClassId} {A : Nat → Prop} {Q : State → Prop} {p0 : Int32} {RR : Int32} (C0 : CX p R s m args meth c b_RT_isWeight 1 R_RT lw_g D CL (TYs cI cJ cG cZ) A 0 0) (hret : ∀ (pc : Nat) (ls : Array Slot) (H : Heap) (locs : List Loc) (v : Int32) , decode b_RT_isWeight pc = .ok (.ireturn, 1) → narrow .boolean (.int v) = .int v → va_P D CL [] H → va_D A [] → va_S A s.heap H locs → some (v) = some RR → W p l e R s m args below meth c H locs 0 0 Q (F0 m pc ls [.int v])) : ∀ (H : Heap) (locs : List Loc) (ls : Array Slot), va_P D CL [] H → va_D A [] → va_S A s.heap H locs → lv_has ls 1 [(0, .int p0)] → f_RT_isWeight p0 = some RR → W p l e R s m args below meth c H locs 0 0 Q (F0 m 0 ls []) := by
  intro H locs ls hP hD hS hl hf
  obtain ⟨hx, hb, hml, hown, hts, hK, hA, hfr, hlo, hlk⟩ := id C0
  unfold f_RT_isWeight at hf
  refine lv_iload_n hx hb d_RT_isWeight_0 rfl (lv_at hl 0 rfl) ?_
  refine lv_if_lt (tgt := 15) hx hb d_RT_isWeight_1 (by decide) (fun hc1 => ?_) (fun hc1 => ?_)
  · have hf := if_t hc1 hf
    refine lv_iconst (v := 0) hx hb d_RT_isWeight_15 (by decide) ?_
    exact hret 16 _ _ _ (0 : Int32) d_RT_isWeight_16 rfl hP hD hS hf
  · have hf := if_f hc1 hf
    refine lv_iload_n hx hb d_RT_isWeight_4 rfl (lv_at hl 0 rfl) ?_
    refine lv_sipush (v := 1000) hx hb d_RT_isWeight_5 (by decide) ?_
    refine lv_icmp_gt (tgt := 15) hx hb d_RT_isWeight_8 (by decide) (fun hc2 => ?_) (fun hc2 => ?_)
    · have hf := if_t hc2 hf
      refine lv_iconst (v := 0) hx hb d_RT_isWeight_15 (by decide) ?_
      exact hret 16 _ _ _ (0 : Int32) d_RT_isWeight_16 rfl hP hD hS hf
    · have hf := if_f hc2 hf
      refine lv_iconst (v := 1) hx hb d_RT_isWeight_11 (by decide) ?_
      refine lv_goto (tgt := 16) hx hb d_RT_isWeight_12 (by decide) ?_
      exact hret 16 _ _ _ (1 : Int32) d_RT_isWeight_16 rfl hP hD hS hf
set_option maxRecDepth 100000 in
set_option maxHeartbeats 4000000 in
theorem c_RT_isWeight (l : Launch) (D : va_G) (cI cJ cG cZ : ClassId) (p0 : Int32) {r : Int32} (hf : f_RT_isWeight p0 = some (r)) : MeG l D CL (TYs cI cJ cG cZ) y_RT_isWeight ws_RT_isWeight (rm_RT_isWeight) [.int p0] [] (some (.int r)) [] := by
  intro sz
  refine Met.ofW (cc := b_RT_isWeight) (maxL := 1) (ret := (some .boolean)) (by decide) rfl ?_
  intro p e s m args below meth c s₁ B hml hv
  obtain ⟨rfl, hsz, hP, hK, hD0⟩ := hv
  subst hsz
  have hD := hD0.self (sz := s.heap.size)
  generalize hAe : va_A [] s.heap.size = A at hD ⊢
  have C0 : CX p (headSpec ws_RT_isWeight (rm_RT_isWeight)).room s m _ meth c b_RT_isWeight 1 R_RT lw_g D CL (TYs cI cJ cG cZ) A 0 0 := ⟨B.exec, B.bytes, hml, findClass_of_methodNamed B.named, fun w h => atoms_spec (ws := ws_RT_isWeight) B.pre w (List.mem_cons_of_mem _ h), hK, fun q h => by rw [← hAe]; exact Or.inr h, Nat.le_of_ble_eq_true rfl, Nat.le_of_ble_eq_true rfl, B.notSynchronized⟩
  have hl := lv_entry ([.int p0]) (n := 1) (Nat.le_of_ble_eq_true rfl)
  rw [lg_entry_eq]
  generalize (lg_sl ([.int p0]) ++ List.replicate (1 - (lg_sl ([.int p0])).length) Slot.unset).toArray = ls at hl ⊢
  have hl : lv_has ls 1 [(0, .int p0)] := hl
  exact w_RT_isWeight_e C0 (fun pc ls H locs v hdg hz hP hD hS e => by cases e; exact W.zret B.exec B.bytes B.returns hz (fun t ht hW => ⟨⟨rfl, by rw [ht]; exact hP, va_K.moved hW.alike hK, hD⟩, hS.F ht⟩) hS.2.2 hdg) _ _ _ hP hD va_S.rf (lv_sub hl [0] rfl) hf
abbrev b_RT_arc : ByteArray := prog_1_method_3_code
def y_RT_arc : MethodName := ⟨R_RT, "arc", "(III)I"⟩
def ws_RT_arc : List Cond := .code y_RT_arc b_RT_arc 4 (some .int) :: lw_g
theorem wi_RT_arc : ∀ w ∈ ws_RT_arc, w ∈ lw_g := wi_of m_2_20
abbrev rm_RT_arc : Room := { frames := 3, cells := 0, slots := 0, locals := 68 }
theorem hd_RT_arc : y_RT_arc.cls = R_RT ∧ y_RT_arc.cls ≠ "java/lang/invoke/MethodHandle" ∧ y_RT_arc.cls ≠ "java/lang/invoke/VarHandle" ∧ (parseMethodDescriptor y_RT_arc.desc).map (fun d => d.parameters.length) = some 3 := by decide +kernel
theorem d_RT_arc_0 : decode b_RT_arc 0 = .ok (.aload_n 0, 1) := by decide +kernel
theorem d_RT_arc_1 : decode b_RT_arc 1 = .ok (.getfield 10, 3) := by decide +kernel
theorem d_RT_arc_4 : decode b_RT_arc 4 = .ok (.iload_n 1, 1) := by decide +kernel
theorem d_RT_arc_5 : decode b_RT_arc 5 = .ok (.invokevirtual 54, 3) := by decide +kernel
theorem d_RT_arc_8 : decode b_RT_arc 8 = .ok (.ifCond .eq 19, 3) := by decide +kernel
theorem d_RT_arc_11 : decode b_RT_arc 11 = .ok (.aload_n 0, 1) := by decide +kernel
theorem d_RT_arc_12 : decode b_RT_arc 12 = .ok (.getfield 10, 3) := by decide +kernel
theorem d_RT_arc_15 : decode b_RT_arc 15 = .ok (.iload_n 2, 1) := by decide +kernel
theorem d_RT_arc_16 : decode b_RT_arc 16 = .ok (.invokevirtual 54, 3) := by decide +kernel
theorem d_RT_arc_19 : decode b_RT_arc 19 = .ok (.ifCond .eq 8, 3) := by decide +kernel
theorem d_RT_arc_22 : decode b_RT_arc 22 = .ok (.iload_n 1, 1) := by decide +kernel
theorem d_RT_arc_23 : decode b_RT_arc 23 = .ok (.iload_n 2, 1) := by decide +kernel
theorem d_RT_arc_24 : decode b_RT_arc 24 = .ok (.if_icmp .ne 5, 3) := by decide +kernel
theorem d_RT_arc_27 : decode b_RT_arc 27 = .ok (.iconst (-1), 1) := by decide +kernel
theorem d_RT_arc_28 : decode b_RT_arc 28 = .ok (.ireturn, 1) := by decide +kernel
theorem d_RT_arc_29 : decode b_RT_arc 29 = .ok (.iload_n 3, 1) := by decide +kernel
theorem d_RT_arc_30 : decode b_RT_arc 30 = .ok (.invokestatic 58, 3) := by decide +kernel
theorem d_RT_arc_33 : decode b_RT_arc 33 = .ok (.ifCond .ne 6, 3) := by decide +kernel
theorem d_RT_arc_36 : decode b_RT_arc 36 = .ok (.bipush (-2), 2) := by decide +kernel
theorem d_RT_arc_38 : decode b_RT_arc 38 = .ok (.ireturn, 1) := by decide +kernel
theorem d_RT_arc_39 : decode b_RT_arc 39 = .ok (.aload_n 0, 1) := by decide +kernel
theorem d_RT_arc_40 : decode b_RT_arc 40 = .ok (.getfield 10, 3) := by decide +kernel
theorem d_RT_arc_43 : decode b_RT_arc 43 = .ok (.getfield 61, 3) := by decide +kernel
theorem d_RT_arc_46 : decode b_RT_arc 46 = .ok (.bipush 30, 2) := by decide +kernel
theorem d_RT_arc_48 : decode b_RT_arc 48 = .ok (.if_icmp .lt 6, 3) := by decide +kernel
theorem d_RT_arc_51 : decode b_RT_arc 51 = .ok (.bipush (-4), 2) := by decide +kernel
theorem d_RT_arc_53 : decode b_RT_arc 53 = .ok (.ireturn, 1) := by decide +kernel
theorem d_RT_arc_54 : decode b_RT_arc 54 = .ok (.aload_n 0, 1) := by decide +kernel
theorem d_RT_arc_55 : decode b_RT_arc 55 = .ok (.getfield 10, 3) := by decide +kernel
theorem d_RT_arc_58 : decode b_RT_arc 58 = .ok (.iload_n 1, 1) := by decide +kernel
theorem d_RT_arc_59 : decode b_RT_arc 59 = .ok (.iload_n 2, 1) := by decide +kernel
theorem d_RT_arc_60 : decode b_RT_arc 60 = .ok (.iload_n 3, 1) := by decide +kernel
theorem d_RT_arc_61 : decode b_RT_arc 61 = .ok (.invokevirtual 64, 3) := by decide +kernel
theorem d_RT_arc_64 : decode b_RT_arc 64 = .ok (.ireturn, 1) := by decide +kernel
def f_RT_arc (N : Nat) (p1 : Int32) (p2 : Int32) (p3 : Int32) (t_graph_nodes : Int32) (t_graph_numbered0 : Int32) (t_graph_size0 : Int32) (t_graph_present0 : Int64) (t_graph_from0 : Nat → Int32) (t_graph_to0 : Nat → Int32) (t_graph_weight0 : Nat → Int32) (t_graph_order0 : Nat → Int32) : Option (Int32 × Int32 × (Nat → Int32) × (Nat → Int32) × (Nat → Int32) × Int64 × (Nat → Int32) × Int32) :=
  bk1 (f_Graph_hasNode p1 t_graph_nodes) fun r1 =>
  if r1 = 0 then
    some ((-1 : Int32), t_graph_numbered0, t_graph_from0, t_graph_to0, t_graph_weight0, t_graph_present0, t_graph_order0, t_graph_size0)
  else
    bk1 (f_Graph_hasNode p2 t_graph_nodes) fun r2 =>
    if r2 = 0 then
      some ((-1 : Int32), t_graph_numbered0, t_graph_from0, t_graph_to0, t_graph_weight0, t_graph_present0, t_graph_order0, t_graph_size0)
    else
      if p1 = p2 then
        some ((-1 : Int32), t_graph_numbered0, t_graph_from0, t_graph_to0, t_graph_weight0, t_graph_present0, t_graph_order0, t_graph_size0)
      else
        bk1 (f_RT_isWeight p3) fun r3 =>
        if r3 = 0 then
          some ((-2 : Int32), t_graph_numbered0, t_graph_from0, t_graph_to0, t_graph_weight0, t_graph_present0, t_graph_order0, t_graph_size0)
        else
          if t_graph_numbered0 < (30 : Int32) then
            bk8 (f_Graph_addArc N p1 p2 p3 t_graph_numbered0 t_graph_size0 t_graph_present0 t_graph_from0 t_graph_to0 t_graph_weight0 t_graph_order0) fun r4 c5 c6 c7 c8 c9 c10 c11 =>
            some (r4, c5, c6, c7, c8, c9, c10, c11)
          else
            some ((-4 : Int32), t_graph_numbered0, t_graph_from0, t_graph_to0, t_graph_weight0, t_graph_present0, t_graph_order0, t_graph_size0)
set_option maxRecDepth 100000 in
set_option maxHeartbeats 4000000 in
theorem w_RT_arc_e {p : Program} {l : Launch} {e : Env} {R : Room} {s : State} {m : MethodId} {args : Array Value} {below : List Frame} {meth : Method} {c : Code} {D : va_G} {cI cJ cG cZ : ClassId} {A : Nat → Prop} {Q : State → Prop} {q_t q_t_graph q_t_forests q_t_boundedTrees q_t_treesFromRoot q_t_joiningTrees q_t_graph_from q_t_graph_to q_t_graph_weight q_t_graph_order : Nat} {t_graph_nodes : Int32} {t_graph_numbered0 : Int32} {t_graph_size0 : Int32} {t_graph_present0 : Int64} {t_graph_from0 : Nat → Int32} {t_graph_to0 : Nat → Int32} {t_graph_weight0 : Nat → Int32} {t_graph_order0 : Nat → Int32} {p1 : Int32} {p2 : Int32} {p3 : Int32} {N : Nat} {RR : Int32 × Int32 × (Nat → Int32) × (Nat → Int32) × (Nat → Int32) × Int64 × (Nat → Int32) × Int32} (C0 : CX p R s m args meth c b_RT_arc 4 R_RT lw_g D CL (TYs cI cJ cG cZ) A 3 68) (hret : ∀ (pc : Nat) (ls : Array Slot) (H : Heap) (locs : List Loc) (v : Int32) (t_graph_numbered : Int32) (t_graph_from : Nat → Int32) (t_graph_to : Nat → Int32) (t_graph_weight : Nat → Int32) (t_graph_present : Int64) (t_graph_order : Nat → Int32) (t_graph_size : Int32), decode b_RT_arc pc = .ok (.ireturn, 1) → va_P D CL [(q_t, .inr (7, [.ref q_t_graph, .ref q_t_forests, .ref q_t_boundedTrees, .ref q_t_treesFromRoot, .ref q_t_joiningTrees])), (q_t_graph, .inr (2, [.ref q_t_graph_from, .ref q_t_graph_to, .ref q_t_graph_weight, .ref q_t_graph_order, .int t_graph_nodes, .int t_graph_numbered, .int t_graph_size, .long t_graph_present])), (q_t_graph_from, .inl (cI, 30, .inl t_graph_from)), (q_t_graph_to, .inl (cI, 30, .inl t_graph_to)), (q_t_graph_weight, .inl (cI, 30, .inl t_graph_weight)), (q_t_graph_order, .inl (cI, 30, .inl t_graph_order))] H → va_D A [(q_t, .inr (7, [.ref q_t_graph, .ref q_t_forests, .ref q_t_boundedTrees, .ref q_t_treesFromRoot, .ref q_t_joiningTrees])), (q_t_graph, .inr (2, [.ref q_t_graph_from, .ref q_t_graph_to, .ref q_t_graph_weight, .ref q_t_graph_order, .int t_graph_nodes, .int t_graph_numbered, .int t_graph_size, .long t_graph_present])), (q_t_graph_from, .inl (cI, 30, .inl t_graph_from)), (q_t_graph_to, .inl (cI, 30, .inl t_graph_to)), (q_t_graph_weight, .inl (cI, 30, .inl t_graph_weight)), (q_t_graph_order, .inl (cI, 30, .inl t_graph_order))] → va_S A s.heap H locs → some (v, t_graph_numbered, t_graph_from, t_graph_to, t_graph_weight, t_graph_present, t_graph_order, t_graph_size) = some RR → W p l e R s m args below meth c H locs 0 0 Q (F0 m pc ls [.int v])) : ∀ (H : Heap) (locs : List Loc) (ls : Array Slot), va_P D CL [(q_t, .inr (7, [.ref q_t_graph, .ref q_t_forests, .ref q_t_boundedTrees, .ref q_t_treesFromRoot, .ref q_t_joiningTrees])), (q_t_graph, .inr (2, [.ref q_t_graph_from, .ref q_t_graph_to, .ref q_t_graph_weight, .ref q_t_graph_order, .int t_graph_nodes, .int t_graph_numbered0, .int t_graph_size0, .long t_graph_present0])), (q_t_graph_from, .inl (cI, 30, .inl t_graph_from0)), (q_t_graph_to, .inl (cI, 30, .inl t_graph_to0)), (q_t_graph_weight, .inl (cI, 30, .inl t_graph_weight0)), (q_t_graph_order, .inl (cI, 30, .inl t_graph_order0))] H → va_D A [(q_t, .inr (7, [.ref q_t_graph, .ref q_t_forests, .ref q_t_boundedTrees, .ref q_t_treesFromRoot, .ref q_t_joiningTrees])), (q_t_graph, .inr (2, [.ref q_t_graph_from, .ref q_t_graph_to, .ref q_t_graph_weight, .ref q_t_graph_order, .int t_graph_nodes, .int t_graph_numbered0, .int t_graph_size0, .long t_graph_present0])), (q_t_graph_from, .inl (cI, 30, .inl t_graph_from0)), (q_t_graph_to, .inl (cI, 30, .inl t_graph_to0)), (q_t_graph_weight, .inl (cI, 30, .inl t_graph_weight0)), (q_t_graph_order, .inl (cI, 30, .inl t_graph_order0))] → va_S A s.heap H locs → lv_has ls 4 [(0, .ref q_t), (1, .int p1), (2, .int p2), (3, .int p3)] → f_RT_arc N p1 p2 p3 t_graph_nodes t_graph_numbered0 t_graph_size0 t_graph_present0 t_graph_from0 t_graph_to0 t_graph_weight0 t_graph_order0 = some RR → W p l e R s m args below meth c H locs 0 0 Q (F0 m 0 ls []) := by
  intro H locs ls hP hD hS hl hf
  obtain ⟨hx, hb, hml, hown, hts, hK, hA, hfr, hlo, hlk⟩ := id C0
  unfold f_RT_arc at hf
  refine lv_aload_n hx hb d_RT_arc_0 rfl (lv_at hl 0 rfl) ?_
  refine va_get (D := D) (ci := 7) (v := .ref q_t_graph) (C := R_RT) (T := F_RT) (N := 5) hx hb hts i_RT hown hK hP 0 rfl rfl 0 (by decide) (hts _ m_1_233) (fun _ h9 => h9) rfl d_RT_arc_1 ?_
  refine lv_iload_n hx hb d_RT_arc_4 rfl (lv_at hl 1 rfl) ?_
  obtain ⟨r1, hq1, hf⟩ := bk1_e hf
  refine cl_go (wr := [(q_t, .inr (7, [.ref q_t_graph, .ref q_t_forests, .ref q_t_boundedTrees, .ref q_t_treesFromRoot, .ref q_t_joiningTrees])), (q_t_graph_from, .inl (cI, 30, .inl t_graph_from0)), (q_t_graph_to, .inl (cI, 30, .inl t_graph_to0)), (q_t_graph_weight, .inl (cI, 30, .inl t_graph_weight0)), (q_t_graph_order, .inl (cI, 30, .inl t_graph_order0))]) (W1 := [(q_t, .inr (7, [.ref q_t_graph, .ref q_t_forests, .ref q_t_boundedTrees, .ref q_t_treesFromRoot, .ref q_t_joiningTrees])), (q_t_graph, .inr (2, [.ref q_t_graph_from, .ref q_t_graph_to, .ref q_t_graph_weight, .ref q_t_graph_order, .int t_graph_nodes, .int t_graph_numbered0, .int t_graph_size0, .long t_graph_present0])), (q_t_graph_from, .inl (cI, 30, .inl t_graph_from0)), (q_t_graph_to, .inl (cI, 30, .inl t_graph_to0)), (q_t_graph_weight, .inl (cI, 30, .inl t_graph_weight0)), (q_t_graph_order, .inl (cI, 30, .inl t_graph_order0))]) (va_runV (As := [.int p1]) (rest := []) ⟨hx, hb, hml, hown, hts⟩ (c_Graph_hasNode l D cI cJ cG cZ q_t_graph q_t_graph_from q_t_graph_to q_t_graph_weight q_t_graph_order t_graph_nodes t_graph_numbered0 t_graph_size0 t_graph_present0 p1 hq1 H.size) (cwV 1 hts (gi_V m_2_21 m_2_22 m_2_23 m_1_2 wi_Graph_hasNode) rfl rfl rfl hd_Graph_hasNode ⟨Nat.le_trans (Nat.le_of_ble_eq_true rfl) hfr, Nat.le_trans (Nat.le_of_ble_eq_true rfl) hlo⟩) ⟨pw_blind, va_recv hK hP (ci := 2) (q0 := 1) rfl rfl, fun U hU hW => ⟨rfl, pw_in hU (hP.sub [1] rfl) (va_K.moved hW.alike hK) ((hD.sub [1] rfl rfl).weaken (fun _ _ _ _ => trivial))⟩⟩ rfl rfl hl.1 rfl (lv_room (Nat.le_of_ble_eq_true rfl)) d_RT_arc_5 ⟨Nat.zero_le _, Nat.zero_le _⟩) hP hD hS hA [1] [0, 2, 3, 4, 5] rfl rfl rfl rfl [0, 5, 1, 2, 3, 4] rfl rfl (fun H locs hP hD hS => ?_)
  have hP : va_P D CL [(q_t, .inr (7, [.ref q_t_graph, .ref q_t_forests, .ref q_t_boundedTrees, .ref q_t_treesFromRoot, .ref q_t_joiningTrees])), (q_t_graph, .inr (2, [.ref q_t_graph_from, .ref q_t_graph_to, .ref q_t_graph_weight, .ref q_t_graph_order, .int t_graph_nodes, .int t_graph_numbered0, .int t_graph_size0, .long t_graph_present0])), (q_t_graph_from, .inl (cI, 30, .inl t_graph_from0)), (q_t_graph_to, .inl (cI, 30, .inl t_graph_to0)), (q_t_graph_weight, .inl (cI, 30, .inl t_graph_weight0)), (q_t_graph_order, .inl (cI, 30, .inl t_graph_order0))] H := hP
  have hD : va_D A [(q_t, .inr (7, [.ref q_t_graph, .ref q_t_forests, .ref q_t_boundedTrees, .ref q_t_treesFromRoot, .ref q_t_joiningTrees])), (q_t_graph, .inr (2, [.ref q_t_graph_from, .ref q_t_graph_to, .ref q_t_graph_weight, .ref q_t_graph_order, .int t_graph_nodes, .int t_graph_numbered0, .int t_graph_size0, .long t_graph_present0])), (q_t_graph_from, .inl (cI, 30, .inl t_graph_from0)), (q_t_graph_to, .inl (cI, 30, .inl t_graph_to0)), (q_t_graph_weight, .inl (cI, 30, .inl t_graph_weight0)), (q_t_graph_order, .inl (cI, 30, .inl t_graph_order0))] := hD
  refine lv_if_eq (tgt := 27) hx hb d_RT_arc_8 (by decide) (fun hc1 => ?_) (fun hc1 => ?_)
  · have hf := if_t hc1 hf
    refine lv_iconst (v := -1) hx hb d_RT_arc_27 (by decide) ?_
    exact hret 28 _ _ _ (-1 : Int32) t_graph_numbered0 t_graph_from0 t_graph_to0 t_graph_weight0 t_graph_present0 t_graph_order0 t_graph_size0 d_RT_arc_28 hP hD hS hf
  · have hf := if_f hc1 hf
    refine lv_aload_n hx hb d_RT_arc_11 rfl (lv_at hl 0 rfl) ?_
    refine va_get (D := D) (ci := 7) (v := .ref q_t_graph) (C := R_RT) (T := F_RT) (N := 5) hx hb hts i_RT hown hK hP 0 rfl rfl 0 (by decide) (hts _ m_1_233) (fun _ h9 => h9) rfl d_RT_arc_12 ?_
    refine lv_iload_n hx hb d_RT_arc_15 rfl (lv_at hl 2 rfl) ?_
    obtain ⟨r2, hq2, hf⟩ := bk1_e hf
    refine cl_go (wr := [(q_t, .inr (7, [.ref q_t_graph, .ref q_t_forests, .ref q_t_boundedTrees, .ref q_t_treesFromRoot, .ref q_t_joiningTrees])), (q_t_graph_from, .inl (cI, 30, .inl t_graph_from0)), (q_t_graph_to, .inl (cI, 30, .inl t_graph_to0)), (q_t_graph_weight, .inl (cI, 30, .inl t_graph_weight0)), (q_t_graph_order, .inl (cI, 30, .inl t_graph_order0))]) (W1 := [(q_t, .inr (7, [.ref q_t_graph, .ref q_t_forests, .ref q_t_boundedTrees, .ref q_t_treesFromRoot, .ref q_t_joiningTrees])), (q_t_graph, .inr (2, [.ref q_t_graph_from, .ref q_t_graph_to, .ref q_t_graph_weight, .ref q_t_graph_order, .int t_graph_nodes, .int t_graph_numbered0, .int t_graph_size0, .long t_graph_present0])), (q_t_graph_from, .inl (cI, 30, .inl t_graph_from0)), (q_t_graph_to, .inl (cI, 30, .inl t_graph_to0)), (q_t_graph_weight, .inl (cI, 30, .inl t_graph_weight0)), (q_t_graph_order, .inl (cI, 30, .inl t_graph_order0))]) (va_runV (As := [.int p2]) (rest := []) ⟨hx, hb, hml, hown, hts⟩ (c_Graph_hasNode l D cI cJ cG cZ q_t_graph q_t_graph_from q_t_graph_to q_t_graph_weight q_t_graph_order t_graph_nodes t_graph_numbered0 t_graph_size0 t_graph_present0 p2 hq2 H.size) (cwV 1 hts (gi_V m_2_21 m_2_22 m_2_23 m_1_2 wi_Graph_hasNode) rfl rfl rfl hd_Graph_hasNode ⟨Nat.le_trans (Nat.le_of_ble_eq_true rfl) hfr, Nat.le_trans (Nat.le_of_ble_eq_true rfl) hlo⟩) ⟨pw_blind, va_recv hK hP (ci := 2) (q0 := 1) rfl rfl, fun U hU hW => ⟨rfl, pw_in hU (hP.sub [1] rfl) (va_K.moved hW.alike hK) ((hD.sub [1] rfl rfl).weaken (fun _ _ _ _ => trivial))⟩⟩ rfl rfl hl.1 rfl (lv_room (Nat.le_of_ble_eq_true rfl)) d_RT_arc_16 ⟨Nat.zero_le _, Nat.zero_le _⟩) hP hD hS hA [1] [0, 2, 3, 4, 5] rfl rfl rfl rfl [0, 5, 1, 2, 3, 4] rfl rfl (fun H locs hP hD hS => ?_)
    have hP : va_P D CL [(q_t, .inr (7, [.ref q_t_graph, .ref q_t_forests, .ref q_t_boundedTrees, .ref q_t_treesFromRoot, .ref q_t_joiningTrees])), (q_t_graph, .inr (2, [.ref q_t_graph_from, .ref q_t_graph_to, .ref q_t_graph_weight, .ref q_t_graph_order, .int t_graph_nodes, .int t_graph_numbered0, .int t_graph_size0, .long t_graph_present0])), (q_t_graph_from, .inl (cI, 30, .inl t_graph_from0)), (q_t_graph_to, .inl (cI, 30, .inl t_graph_to0)), (q_t_graph_weight, .inl (cI, 30, .inl t_graph_weight0)), (q_t_graph_order, .inl (cI, 30, .inl t_graph_order0))] H := hP
    have hD : va_D A [(q_t, .inr (7, [.ref q_t_graph, .ref q_t_forests, .ref q_t_boundedTrees, .ref q_t_treesFromRoot, .ref q_t_joiningTrees])), (q_t_graph, .inr (2, [.ref q_t_graph_from, .ref q_t_graph_to, .ref q_t_graph_weight, .ref q_t_graph_order, .int t_graph_nodes, .int t_graph_numbered0, .int t_graph_size0, .long t_graph_present0])), (q_t_graph_from, .inl (cI, 30, .inl t_graph_from0)), (q_t_graph_to, .inl (cI, 30, .inl t_graph_to0)), (q_t_graph_weight, .inl (cI, 30, .inl t_graph_weight0)), (q_t_graph_order, .inl (cI, 30, .inl t_graph_order0))] := hD
    refine lv_if_eq (tgt := 27) hx hb d_RT_arc_19 (by decide) (fun hc2 => ?_) (fun hc2 => ?_)
    · have hf := if_t hc2 hf
      refine lv_iconst (v := -1) hx hb d_RT_arc_27 (by decide) ?_
      exact hret 28 _ _ _ (-1 : Int32) t_graph_numbered0 t_graph_from0 t_graph_to0 t_graph_weight0 t_graph_present0 t_graph_order0 t_graph_size0 d_RT_arc_28 hP hD hS hf
    · have hf := if_f hc2 hf
      refine lv_iload_n hx hb d_RT_arc_22 rfl (lv_at hl 1 rfl) ?_
      refine lv_iload_n hx hb d_RT_arc_23 rfl (lv_at hl 2 rfl) ?_
      refine lv_icmp_ne (tgt := 29) hx hb d_RT_arc_24 (by decide) (fun hc3 => ?_) (fun hc3 => ?_)
      · have hf := if_f hc3 hf
        refine lv_iload_n hx hb d_RT_arc_29 rfl (lv_at hl 3 rfl) ?_
        obtain ⟨r3, hq3, hf⟩ := bk1_e hf
        refine cl_nil (va_runS (As := [.int p3]) (rest := []) ⟨hx, hb, hml, hown, hts⟩ (c_RT_isWeight l D cI cJ cG cZ p3 hq3 H.size) (va_cwS 1 hts (gi_S m_2_25 m_2_26 m_1_1 wi_RT_isWeight) rfl rfl rfl hd_RT_isWeight ⟨Nat.le_trans (Nat.le_of_ble_eq_true rfl) hfr, Nat.le_trans (Nat.le_of_ble_eq_true rfl) hlo⟩) ⟨pw_blind, fun U hU hW => ⟨rfl, pw_in hU pn_P (va_K.moved hW.alike hK) pn_D⟩⟩ rfl rfl hl.1 rfl (lv_room (Nat.le_of_ble_eq_true rfl)) d_RT_arc_30 ⟨Nat.zero_le _, Nat.zero_le _⟩) hP hD hS hA (fun H locs hP hD hS => ?_)
        have hP : va_P D CL [(q_t, .inr (7, [.ref q_t_graph, .ref q_t_forests, .ref q_t_boundedTrees, .ref q_t_treesFromRoot, .ref q_t_joiningTrees])), (q_t_graph, .inr (2, [.ref q_t_graph_from, .ref q_t_graph_to, .ref q_t_graph_weight, .ref q_t_graph_order, .int t_graph_nodes, .int t_graph_numbered0, .int t_graph_size0, .long t_graph_present0])), (q_t_graph_from, .inl (cI, 30, .inl t_graph_from0)), (q_t_graph_to, .inl (cI, 30, .inl t_graph_to0)), (q_t_graph_weight, .inl (cI, 30, .inl t_graph_weight0)), (q_t_graph_order, .inl (cI, 30, .inl t_graph_order0))] H := hP
        have hD : va_D A [(q_t, .inr (7, [.ref q_t_graph, .ref q_t_forests, .ref q_t_boundedTrees, .ref q_t_treesFromRoot, .ref q_t_joiningTrees])), (q_t_graph, .inr (2, [.ref q_t_graph_from, .ref q_t_graph_to, .ref q_t_graph_weight, .ref q_t_graph_order, .int t_graph_nodes, .int t_graph_numbered0, .int t_graph_size0, .long t_graph_present0])), (q_t_graph_from, .inl (cI, 30, .inl t_graph_from0)), (q_t_graph_to, .inl (cI, 30, .inl t_graph_to0)), (q_t_graph_weight, .inl (cI, 30, .inl t_graph_weight0)), (q_t_graph_order, .inl (cI, 30, .inl t_graph_order0))] := hD
        refine lv_if_ne (tgt := 39) hx hb d_RT_arc_33 (by decide) (fun hc4 => ?_) (fun hc4 => ?_)
        · have hf := if_f hc4 hf
          refine lv_aload_n hx hb d_RT_arc_39 rfl (lv_at hl 0 rfl) ?_
          refine va_get (D := D) (ci := 7) (v := .ref q_t_graph) (C := R_RT) (T := F_RT) (N := 5) hx hb hts i_RT hown hK hP 0 rfl rfl 0 (by decide) (hts _ m_1_233) (fun _ h9 => h9) rfl d_RT_arc_40 ?_
          refine va_get (D := D) (ci := 2) (v := .int t_graph_numbered0) (C := R_Graph) (T := F_Graph) (N := 8) hx hb hts i_Graph hown hK hP 1 rfl rfl 5 (by decide) (hts _ m_1_56) (fun _ h9 => h9) rfl d_RT_arc_43 ?_
          refine lv_bipush (v := 30) hx hb d_RT_arc_46 (by decide) ?_
          refine lv_icmp_lt (tgt := 54) hx hb d_RT_arc_48 (by decide) (fun hc5 => ?_) (fun hc5 => ?_)
          · have hf := if_t hc5 hf
            refine lv_aload_n hx hb d_RT_arc_54 rfl (lv_at hl 0 rfl) ?_
            refine va_get (D := D) (ci := 7) (v := .ref q_t_graph) (C := R_RT) (T := F_RT) (N := 5) hx hb hts i_RT hown hK hP 0 rfl rfl 0 (by decide) (hts _ m_1_233) (fun _ h9 => h9) rfl d_RT_arc_55 ?_
            refine lv_iload_n hx hb d_RT_arc_58 rfl (lv_at hl 1 rfl) ?_
            refine lv_iload_n hx hb d_RT_arc_59 rfl (lv_at hl 2 rfl) ?_
            refine lv_iload_n hx hb d_RT_arc_60 rfl (lv_at hl 3 rfl) ?_
            obtain ⟨r4, c5, c6, c7, c8, c9, c10, c11, hq4, hf⟩ := bk8_e hf
            refine cl_go (wr := [(q_t, .inr (7, [.ref q_t_graph, .ref q_t_forests, .ref q_t_boundedTrees, .ref q_t_treesFromRoot, .ref q_t_joiningTrees]))]) (W1 := [(q_t, .inr (7, [.ref q_t_graph, .ref q_t_forests, .ref q_t_boundedTrees, .ref q_t_treesFromRoot, .ref q_t_joiningTrees])), (q_t_graph, .inr (2, [.ref q_t_graph_from, .ref q_t_graph_to, .ref q_t_graph_weight, .ref q_t_graph_order, .int t_graph_nodes, .int c5, .int c11, .long c9])), (q_t_graph_from, .inl (cI, 30, .inl c6)), (q_t_graph_to, .inl (cI, 30, .inl c7)), (q_t_graph_weight, .inl (cI, 30, .inl c8)), (q_t_graph_order, .inl (cI, 30, .inl c10))]) (va_runV (As := [.int p1, .int p2, .int p3]) (rest := []) ⟨hx, hb, hml, hown, hts⟩ (c_Graph_addArc l D cI cJ cG cZ q_t_graph q_t_graph_from q_t_graph_to q_t_graph_weight q_t_graph_order t_graph_nodes t_graph_numbered0 t_graph_size0 t_graph_present0 t_graph_from0 t_graph_to0 t_graph_weight0 t_graph_order0 p1 p2 p3 hq4 H.size) (cwV 3 hts (gi_V m_2_28 m_2_29 m_2_30 m_1_2 wi_Graph_addArc) rfl rfl rfl hd_Graph_addArc ⟨Nat.le_trans (Nat.le_of_ble_eq_true rfl) hfr, Nat.le_trans (Nat.le_of_ble_eq_true rfl) hlo⟩) ⟨pw_blind, va_recv hK hP (ci := 2) (q0 := 1) rfl rfl, fun U hU hW => ⟨rfl, pw_in hU (hP.sub [1, 2, 3, 4, 5] rfl) (va_K.moved hW.alike hK) ((hD.sub [1, 2, 3, 4, 5] rfl rfl).weaken (fun _ _ _ _ => trivial))⟩⟩ rfl rfl hl.1 rfl (lv_room (Nat.le_of_ble_eq_true rfl)) d_RT_arc_61 ⟨Nat.zero_le _, Nat.zero_le _⟩) hP hD hS hA [1, 2, 3, 4, 5] [0] rfl rfl rfl rfl [0, 1, 2, 3, 4, 5] rfl rfl (fun H locs hP hD hS => ?_)
            have hP : va_P D CL [(q_t, .inr (7, [.ref q_t_graph, .ref q_t_forests, .ref q_t_boundedTrees, .ref q_t_treesFromRoot, .ref q_t_joiningTrees])), (q_t_graph, .inr (2, [.ref q_t_graph_from, .ref q_t_graph_to, .ref q_t_graph_weight, .ref q_t_graph_order, .int t_graph_nodes, .int c5, .int c11, .long c9])), (q_t_graph_from, .inl (cI, 30, .inl c6)), (q_t_graph_to, .inl (cI, 30, .inl c7)), (q_t_graph_weight, .inl (cI, 30, .inl c8)), (q_t_graph_order, .inl (cI, 30, .inl c10))] H := hP
            have hD : va_D A [(q_t, .inr (7, [.ref q_t_graph, .ref q_t_forests, .ref q_t_boundedTrees, .ref q_t_treesFromRoot, .ref q_t_joiningTrees])), (q_t_graph, .inr (2, [.ref q_t_graph_from, .ref q_t_graph_to, .ref q_t_graph_weight, .ref q_t_graph_order, .int t_graph_nodes, .int c5, .int c11, .long c9])), (q_t_graph_from, .inl (cI, 30, .inl c6)), (q_t_graph_to, .inl (cI, 30, .inl c7)), (q_t_graph_weight, .inl (cI, 30, .inl c8)), (q_t_graph_order, .inl (cI, 30, .inl c10))] := hD
            exact hret 64 _ _ _ r4 c5 c6 c7 c8 c9 c10 c11 d_RT_arc_64 hP hD hS hf
          · have hf := if_f hc5 hf
            refine lv_bipush (v := -4) hx hb d_RT_arc_51 (by decide) ?_
            exact hret 53 _ _ _ (-4 : Int32) t_graph_numbered0 t_graph_from0 t_graph_to0 t_graph_weight0 t_graph_present0 t_graph_order0 t_graph_size0 d_RT_arc_53 hP hD hS hf
        · have hf := if_t hc4 hf
          refine lv_bipush (v := -2) hx hb d_RT_arc_36 (by decide) ?_
          exact hret 38 _ _ _ (-2 : Int32) t_graph_numbered0 t_graph_from0 t_graph_to0 t_graph_weight0 t_graph_present0 t_graph_order0 t_graph_size0 d_RT_arc_38 hP hD hS hf
      · have hf := if_t hc3 hf
        refine lv_iconst (v := -1) hx hb d_RT_arc_27 (by decide) ?_
        exact hret 28 _ _ _ (-1 : Int32) t_graph_numbered0 t_graph_from0 t_graph_to0 t_graph_weight0 t_graph_present0 t_graph_order0 t_graph_size0 d_RT_arc_28 hP hD hS hf
set_option maxRecDepth 100000 in
set_option maxHeartbeats 4000000 in
theorem c_RT_arc (l : Launch) (D : va_G) (cI cJ cG cZ : ClassId) (q_t q_t_graph q_t_forests q_t_boundedTrees q_t_treesFromRoot q_t_joiningTrees q_t_graph_from q_t_graph_to q_t_graph_weight q_t_graph_order : Nat) (t_graph_nodes : Int32) (t_graph_numbered0 : Int32) (t_graph_size0 : Int32) (t_graph_present0 : Int64) (t_graph_from0 : Nat → Int32) (t_graph_to0 : Nat → Int32) (t_graph_weight0 : Nat → Int32) (t_graph_order0 : Nat → Int32) (p1 : Int32) (p2 : Int32) (p3 : Int32) {N : Nat} {r : Int32} {t_graph_numbered' : Int32} {t_graph_from' : Nat → Int32} {t_graph_to' : Nat → Int32} {t_graph_weight' : Nat → Int32} {t_graph_present' : Int64} {t_graph_order' : Nat → Int32} {t_graph_size' : Int32} (hf : f_RT_arc N p1 p2 p3 t_graph_nodes t_graph_numbered0 t_graph_size0 t_graph_present0 t_graph_from0 t_graph_to0 t_graph_weight0 t_graph_order0 = some (r, t_graph_numbered', t_graph_from', t_graph_to', t_graph_weight', t_graph_present', t_graph_order', t_graph_size')) : MeG l D CL (TYs cI cJ cG cZ) y_RT_arc ws_RT_arc (rm_RT_arc) [.ref q_t, .int p1, .int p2, .int p3] [(q_t, .inr (7, [.ref q_t_graph, .ref q_t_forests, .ref q_t_boundedTrees, .ref q_t_treesFromRoot, .ref q_t_joiningTrees])), (q_t_graph, .inr (2, [.ref q_t_graph_from, .ref q_t_graph_to, .ref q_t_graph_weight, .ref q_t_graph_order, .int t_graph_nodes, .int t_graph_numbered0, .int t_graph_size0, .long t_graph_present0])), (q_t_graph_from, .inl (cI, 30, .inl t_graph_from0)), (q_t_graph_to, .inl (cI, 30, .inl t_graph_to0)), (q_t_graph_weight, .inl (cI, 30, .inl t_graph_weight0)), (q_t_graph_order, .inl (cI, 30, .inl t_graph_order0))] (some (.int r)) [(q_t, .inr (7, [.ref q_t_graph, .ref q_t_forests, .ref q_t_boundedTrees, .ref q_t_treesFromRoot, .ref q_t_joiningTrees])), (q_t_graph, .inr (2, [.ref q_t_graph_from, .ref q_t_graph_to, .ref q_t_graph_weight, .ref q_t_graph_order, .int t_graph_nodes, .int t_graph_numbered', .int t_graph_size', .long t_graph_present'])), (q_t_graph_from, .inl (cI, 30, .inl t_graph_from')), (q_t_graph_to, .inl (cI, 30, .inl t_graph_to')), (q_t_graph_weight, .inl (cI, 30, .inl t_graph_weight')), (q_t_graph_order, .inl (cI, 30, .inl t_graph_order'))] := by
  intro sz
  refine Met.ofW (cc := b_RT_arc) (maxL := 4) (ret := (some .int)) (by decide) rfl ?_
  intro p e s m args below meth c s₁ B hml hv
  obtain ⟨rfl, hsz, hP, hK, hD0⟩ := hv
  subst hsz
  have hD := hD0.self (sz := s.heap.size)
  generalize hAe : va_A [(q_t, .inr (7, [.ref q_t_graph, .ref q_t_forests, .ref q_t_boundedTrees, .ref q_t_treesFromRoot, .ref q_t_joiningTrees])), (q_t_graph, .inr (2, [.ref q_t_graph_from, .ref q_t_graph_to, .ref q_t_graph_weight, .ref q_t_graph_order, .int t_graph_nodes, .int t_graph_numbered0, .int t_graph_size0, .long t_graph_present0])), (q_t_graph_from, .inl (cI, 30, .inl t_graph_from0)), (q_t_graph_to, .inl (cI, 30, .inl t_graph_to0)), (q_t_graph_weight, .inl (cI, 30, .inl t_graph_weight0)), (q_t_graph_order, .inl (cI, 30, .inl t_graph_order0))] s.heap.size = A at hD ⊢
  have C0 : CX p (headSpec ws_RT_arc (rm_RT_arc)).room s m _ meth c b_RT_arc 4 R_RT lw_g D CL (TYs cI cJ cG cZ) A 3 68 := ⟨B.exec, B.bytes, hml, findClass_of_methodNamed B.named, fun w h => atoms_spec (ws := ws_RT_arc) B.pre w (List.mem_cons_of_mem _ h), hK, fun q h => by rw [← hAe]; exact Or.inr h, Nat.le_of_ble_eq_true rfl, Nat.le_of_ble_eq_true rfl, B.notSynchronized⟩
  have hl := lv_entry ([.ref q_t, .int p1, .int p2, .int p3]) (n := 4) (Nat.le_of_ble_eq_true rfl)
  rw [lg_entry_eq]
  generalize (lg_sl ([.ref q_t, .int p1, .int p2, .int p3]) ++ List.replicate (4 - (lg_sl ([.ref q_t, .int p1, .int p2, .int p3])).length) Slot.unset).toArray = ls at hl ⊢
  have hl : lv_has ls 4 [(0, .ref q_t), (1, .int p1), (2, .int p2), (3, .int p3)] := hl
  exact w_RT_arc_e C0 (fun pc ls H locs v t_graph_numbered t_graph_from t_graph_to t_graph_weight t_graph_present t_graph_order t_graph_size hdg hP hD hS e => by cases e; exact W.iret B.exec B.bytes B.returns (fun t ht hW => ⟨⟨rfl, by rw [ht]; exact hP, va_K.moved hW.alike hK, hD⟩, hS.F ht⟩) hS.2.2 hdg) _ _ _ hP hD va_S.rf (lv_sub hl [0, 1, 2, 3] rfl) hf
