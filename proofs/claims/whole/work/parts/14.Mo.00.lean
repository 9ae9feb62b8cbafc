abbrev b_Mo_isNode : ByteArray := prog_11_method_2_code
def y_Mo_isNode : MethodName := ⟨R_Mo, "isNode", "(I)Z"⟩
def ws_Mo_isNode : List Cond := .code y_Mo_isNode b_Mo_isNode 2 (some .boolean) :: lw_g
theorem wi_Mo_isNode : ∀ w ∈ ws_Mo_isNode, w ∈ lw_g := wi_of m_3_207
abbrev rm_Mo_isNode : Room := { frames := 0, cells := 0, slots := 0, locals := 0 }
theorem hd_Mo_isNode : y_Mo_isNode.cls = R_Mo ∧ y_Mo_isNode.cls ≠ "java/lang/invoke/MethodHandle" ∧ y_Mo_isNode.cls ≠ "java/lang/invoke/VarHandle" ∧ (parseMethodDescriptor y_Mo_isNode.desc).map (fun d => d.parameters.length) = some 1 := by decide +kernel
theorem d_Mo_isNode_0 : decode b_Mo_isNode 0 = .ok (.iload_n 1, 1) := by decide +kernel
theorem d_Mo_isNode_1 : decode b_Mo_isNode 1 = .ok (.ifCond .lt 15, 3) := by decide +kernel
theorem d_Mo_isNode_4 : decode b_Mo_isNode 4 = .ok (.iload_n 1, 1) := by decide +kernel
theorem d_Mo_isNode_5 : decode b_Mo_isNode 5 = .ok (.aload_n 0, 1) := by decide +kernel
theorem d_Mo_isNode_6 : decode b_Mo_isNode 6 = .ok (.getfield 57, 3) := by decide +kernel
theorem d_Mo_isNode_9 : decode b_Mo_isNode 9 = .ok (.if_icmp .ge 7, 3) := by decide +kernel
theorem d_Mo_isNode_12 : decode b_Mo_isNode 12 = .ok (.iconst 1, 1) := by decide +kernel
theorem d_Mo_isNode_13 : decode b_Mo_isNode 13 = .ok (.goto 4, 3) := by decide +kernel
theorem d_Mo_isNode_16 : decode b_Mo_isNode 16 = .ok (.iconst 0, 1) := by decide +kernel
theorem d_Mo_isNode_17 : decode b_Mo_isNode 17 = .ok (.ireturn, 1) := by decide +kernel
def f_Mo_isNode (p1 : Int32) (t_nodes : Int32) : Option (Int32) :=
  if p1 < 0 then
    some ((0 : Int32))
  else
    if t_nodes ≤ p1 then
      some ((0 : Int32))
    else
      some ((1 : Int32))
set_option maxRecDepth 100000 in
set_option maxHeartbeats 4000000 in
theorem w_Mo_isNode_e {p : Program} {l : Launch} {e : Env} {R : Room} {s : State} {m : MethodId} {args : Array Value} {below : List Frame} {meth : Method} {c : Code} {D : va_G} {cI cJ cG cZ : ClassId} {A : Nat → Prop} {Q : State → Prop} {q_t q_t_froms q_t_tos q_t_weights q_t_there q_t_part q_t_matrix q_t_row q_t_low q_t_own q_t_chosen q_t_degrees q_t_fixed q_t_grown q_t_costs q_t_order : Nat} {t_nodes : Int32} {t_arcs : Int32} {t_left : Int32} {t_swapIn : Int32} {t_swapOut : Int32} {t_boundedSet : Int64} {t_joinedSet : Int64} {p1 : Int32} {RR : Int32} (C0 : CX p R s m args meth c b_Mo_isNode 2 R_Mo lw_g D CL (TYs cI cJ cG cZ) A 0 0) (hret : ∀ (pc : Nat) (ls : Array Slot) (H : Heap) (locs : List Loc) (v : Int32) , decode b_Mo_isNode pc = .ok (.ireturn, 1) → narrow .boolean (.int v) = .int v → va_P D CL [(q_t, .inr (8, [.int t_nodes, .int t_arcs, .int t_left, .ref q_t_froms, .ref q_t_tos, .ref q_t_weights, .ref q_t_there, .ref q_t_part, .ref q_t_matrix, .ref q_t_row, .ref q_t_low, .int t_swapIn, .int t_swapOut, .ref q_t_own, .ref q_t_chosen, .ref q_t_degrees, .long t_boundedSet, .ref q_t_fixed, .ref q_t_grown, .ref q_t_costs, .ref q_t_order, .long t_joinedSet]))] H → va_D A [(q_t, .inr (8, [.int t_nodes, .int t_arcs, .int t_left, .ref q_t_froms, .ref q_t_tos, .ref q_t_weights, .ref q_t_there, .ref q_t_part, .ref q_t_matrix, .ref q_t_row, .ref q_t_low, .int t_swapIn, .int t_swapOut, .ref q_t_own, .ref q_t_chosen, .ref q_t_degrees, .long t_boundedSet, .ref q_t_fixed, .ref q_t_grown, .ref q_t_costs, .ref q_t_order, .long t_joinedSet]))] → va_S A s.heap H locs → some (v) = some RR → W p l e R s m args below meth c H locs 0 0 Q (F0 m pc ls [.int v])) : ∀ (H : Heap) (locs : List Loc) (ls : Array Slot), va_P D CL [(q_t, .inr (8, [.int t_nodes, .int t_arcs, .int t_left, .ref q_t_froms, .ref q_t_tos, .ref q_t_weights, .ref q_t_there, .ref q_t_part, .ref q_t_matrix, .ref q_t_row, .ref q_t_low, .int t_swapIn, .int t_swapOut, .ref q_t_own, .ref q_t_chosen, .ref q_t_degrees, .long t_boundedSet, .ref q_t_fixed, .ref q_t_grown, .ref q_t_costs, .ref q_t_order, .long t_joinedSet]))] H → va_D A [(q_t, .inr (8, [.int t_nodes, .int t_arcs, .int t_left, .ref q_t_froms, .ref q_t_tos, .ref q_t_weights, .ref q_t_there, .ref q_t_part, .ref q_t_matrix, .ref q_t_row, .ref q_t_low, .int t_swapIn, .int t_swapOut, .ref q_t_own, .ref q_t_chosen, .ref q_t_degrees, .long t_boundedSet, .ref q_t_fixed, .ref q_t_grown, .ref q_t_costs, .ref q_t_order, .long t_joinedSet]))] → va_S A s.heap H locs → lv_has ls 2 [(0, .ref q_t), (1, .int p1)] → f_Mo_isNode p1 t_nodes = some RR → W p l e R s m args below meth c H locs 0 0 Q (F0 m 0 ls []) := by
  intro H locs ls hP hD hS hl hf
  obtain ⟨hx, hb, hml, hown, hts, hK, hA, hfr, hlo, hlk⟩ := id C0
  unfold f_Mo_isNode at hf
  refine lv_iload_n hx hb d_Mo_isNode_0 rfl (lv_at hl 1 rfl) ?_
  refine lv_if_lt (tgt := 16) hx hb d_Mo_isNode_1 (by decide) (fun hc1 => ?_) (fun hc1 => ?_)
  · have hf := if_t hc1 hf
    refine lv_iconst (v := 0) hx hb d_Mo_isNode_16 (by decide) ?_
    exact hret 17 _ _ _ (0 : Int32) d_Mo_isNode_17 rfl hP hD hS hf
  · have hf := if_f hc1 hf
    refine lv_iload_n hx hb d_Mo_isNode_4 rfl (lv_at hl 1 rfl) ?_
    refine lv_aload_n hx hb d_Mo_isNode_5 rfl (lv_at hl 0 rfl) ?_
    refine va_get (D := D) (ci := 8) (v := .int t_nodes) (C := R_Mo) (T := F_Mo) (N := 22) hx hb hts i_Mo hown hK hP 0 rfl rfl 0 (by decide) (hts _ m_3_128) (fun _ h9 => h9) rfl d_Mo_isNode_6 ?_
    refine lv_icmp_ge (tgt := 16) hx hb d_Mo_isNode_9 (by decide) (fun hc2 => ?_) (fun hc2 => ?_)
    · have hf := if_t hc2 hf
      refine lv_iconst (v := 0) hx hb d_Mo_isNode_16 (by decide) ?_
      exact hret 17 _ _ _ (0 : Int32) d_Mo_isNode_17 rfl hP hD hS hf
    · have hf := if_f hc2 hf
      refine lv_iconst (v := 1) hx hb d_Mo_isNode_12 (by decide) ?_
      refine lv_goto (tgt := 17) hx hb d_Mo_isNode_13 (by decide) ?_
      exact hret 17 _ _ _ (1 : Int32) d_Mo_isNode_17 rfl hP hD hS hf
set_option maxRecDepth 100000 in
set_option maxHeartbeats 4000000 in
theorem c_Mo_isNode (l : Launch) (D : va_G) (cI cJ cG cZ : ClassId) (q_t q_t_froms q_t_tos q_t_weights q_t_there q_t_part q_t_matrix q_t_row q_t_low q_t_own q_t_chosen q_t_degrees q_t_fixed q_t_grown q_t_costs q_t_order : Nat) (t_nodes : Int32) (t_arcs : Int32) (t_left : Int32) (t_swapIn : Int32) (t_swapOut : Int32) (t_boundedSet : Int64) (t_joinedSet : Int64) (p1 : Int32) {r : Int32} (hf : f_Mo_isNode p1 t_nodes = some (r)) : MeG l D CL (TYs cI cJ cG cZ) y_Mo_isNode ws_Mo_isNode (rm_Mo_isNode) [.ref q_t, .int p1] [(q_t, .inr (8, [.int t_nodes, .int t_arcs, .int t_left, .ref q_t_froms, .ref q_t_tos, .ref q_t_weights, .ref q_t_there, .ref q_t_part, .ref q_t_matrix, .ref q_t_row, .ref q_t_low, .int t_swapIn, .int t_swapOut, .ref q_t_own, .ref q_t_chosen, .ref q_t_degrees, .long t_boundedSet, .ref q_t_fixed, .ref q_t_grown, .ref q_t_costs, .ref q_t_order, .long t_joinedSet]))] (some (.int r)) [(q_t, .inr (8, [.int t_nodes, .int t_arcs, .int t_left, .ref q_t_froms, .ref q_t_tos, .ref q_t_weights, .ref q_t_there, .ref q_t_part, .ref q_t_matrix, .ref q_t_row, .ref q_t_low, .int t_swapIn, .int t_swapOut, .ref q_t_own, .ref q_t_chosen, .ref q_t_degrees, .long t_boundedSet, .ref q_t_fixed, .ref q_t_grown, .ref q_t_costs, .ref q_t_order, .long t_joinedSet]))] := by
  intro sz
  refine Met.ofW (cc := b_Mo_isNode) (maxL := 2) (ret := (some .boolean)) (by decide) rfl ?_
  intro p e s m args below meth c s₁ B hml hv
  obtain ⟨rfl, hsz, hP, hK, hD0⟩ := hv
  subst hsz
  have hD := hD0.self (sz := s.heap.size)
  generalize hAe : va_A [(q_t, .inr (8, [.int t_nodes, .int t_arcs, .int t_left, .ref q_t_froms, .ref q_t_tos, .ref q_t_weights, .ref q_t_there, .ref q_t_part, .ref q_t_matrix, .ref q_t_row, .ref q_t_low, .int t_swapIn, .int t_swapOut, .ref q_t_own, .ref q_t_chosen, .ref q_t_degrees, .long t_boundedSet, .ref q_t_fixed, .ref q_t_grown, .ref q_t_costs, .ref q_t_order, .long t_joinedSet]))] s.heap.size = A at hD ⊢
  have C0 : CX p (headSpec ws_Mo_isNode (rm_Mo_isNode)).room s m _ meth c b_Mo_isNode 2 R_Mo lw_g D CL (TYs cI cJ cG cZ) A 0 0 := ⟨B.exec, B.bytes, hml, findClass_of_methodNamed B.named, fun w h => atoms_spec (ws := ws_Mo_isNode) B.pre w (List.mem_cons_of_mem _ h), hK, fun q h => by rw [← hAe]; exact Or.inr h, Nat.le_of_ble_eq_true rfl, Nat.le_of_ble_eq_true rfl, B.notSynchronized⟩
  have hl := lv_entry ([.ref q_t, .int p1]) (n := 2) (Nat.le_of_ble_eq_true rfl)
  rw [lg_entry_eq]
  generalize (lg_sl ([.ref q_t, .int p1]) ++ List.replicate (2 - (lg_sl ([.ref q_t, .int p1])).length) Slot.unset).toArray = ls at hl ⊢
  have hl : lv_has ls 2 [(0, .ref q_t), (1, .int p1)] := hl
  exact w_Mo_isNode_e C0 (fun pc ls H locs v hdg hz hP hD hS e => by cases e; exact W.zret B.exec B.bytes B.returns hz (fun t ht hW => ⟨⟨rfl, by rw [ht]; exact hP, va_K.moved hW.alike hK, hD⟩, hS.F ht⟩) hS.2.2 hdg) _ _ _ hP hD va_S.rf (lv_sub hl [0, 1] rfl) hf
abbrev b_Mo_isArc : ByteArray := prog_11_method_3_code
def y_Mo_isArc : MethodName := ⟨R_Mo, "isArc", "(I)Z"⟩
def ws_Mo_isArc : List Cond := .code y_Mo_isArc b_Mo_isArc 2 (some .boolean) :: lw_g
theorem wi_Mo_isArc : ∀ w ∈ ws_Mo_isArc, w ∈ lw_g := wi_of m_3_215
abbrev rm_Mo_isArc : Room := { frames := 0, cells := 0, slots := 0, locals := 0 }
theorem hd_Mo_isArc : y_Mo_isArc.cls = R_Mo ∧ y_Mo_isArc.cls ≠ "java/lang/invoke/MethodHandle" ∧ y_Mo_isArc.cls ≠ "java/lang/invoke/VarHandle" ∧ (parseMethodDescriptor y_Mo_isArc.desc).map (fun d => d.parameters.length) = some 1 := by decide +kernel
theorem d_Mo_isArc_0 : decode b_Mo_isArc 0 = .ok (.iload_n 1, 1) := by decide +kernel
theorem d_Mo_isArc_1 : decode b_Mo_isArc 1 = .ok (.ifCond .lt 24, 3) := by decide +kernel
theorem d_Mo_isArc_4 : decode b_Mo_isArc 4 = .ok (.iload_n 1, 1) := by decide +kernel
theorem d_Mo_isArc_5 : decode b_Mo_isArc 5 = .ok (.aload_n 0, 1) := by decide +kernel
theorem d_Mo_isArc_6 : decode b_Mo_isArc 6 = .ok (.getfield 61, 3) := by decide +kernel
theorem d_Mo_isArc_9 : decode b_Mo_isArc 9 = .ok (.if_icmp .ge 16, 3) := by decide +kernel
theorem d_Mo_isArc_12 : decode b_Mo_isArc 12 = .ok (.aload_n 0, 1) := by decide +kernel
theorem d_Mo_isArc_13 : decode b_Mo_isArc 13 = .ok (.getfield 19, 3) := by decide +kernel
theorem d_Mo_isArc_16 : decode b_Mo_isArc 16 = .ok (.iload_n 1, 1) := by decide +kernel
theorem d_Mo_isArc_17 : decode b_Mo_isArc 17 = .ok (.baload, 1) := by decide +kernel
theorem d_Mo_isArc_18 : decode b_Mo_isArc 18 = .ok (.ifCond .eq 7, 3) := by decide +kernel
theorem d_Mo_isArc_21 : decode b_Mo_isArc 21 = .ok (.iconst 1, 1) := by decide +kernel
theorem d_Mo_isArc_22 : decode b_Mo_isArc 22 = .ok (.goto 4, 3) := by decide +kernel
theorem d_Mo_isArc_25 : decode b_Mo_isArc 25 = .ok (.iconst 0, 1) := by decide +kernel
theorem d_Mo_isArc_26 : decode b_Mo_isArc 26 = .ok (.ireturn, 1) := by decide +kernel
def f_Mo_isArc (p1 : Int32) (t_arcs : Int32) (t_there : Nat → Int32) : Option (Int32) :=
  if p1 < 0 then
    some ((0 : Int32))
  else
    if t_arcs ≤ p1 then
      some ((0 : Int32))
    else
      gd (inb p1 30) <|
      if (t_there p1.toNatClampNeg) = 0 then
        some ((0 : Int32))
      else
        some ((1 : Int32))
set_option maxRecDepth 100000 in
set_option maxHeartbeats 4000000 in
theorem w_Mo_isArc_e {p : Program} {l : Launch} {e : Env} {R : Room} {s : State} {m : MethodId} {args : Array Value} {below : List Frame} {meth : Method} {c : Code} {D : va_G} {cI cJ cG cZ : ClassId} {A : Nat → Prop} {Q : State → Prop} {q_t q_t_froms q_t_tos q_t_weights q_t_there q_t_part q_t_matrix q_t_row q_t_low q_t_own q_t_chosen q_t_degrees q_t_fixed q_t_grown q_t_costs q_t_order : Nat} {t_nodes : Int32} {t_arcs : Int32} {t_left : Int32} {t_swapIn : Int32} {t_swapOut : Int32} {t_boundedSet : Int64} {t_joinedSet : Int64} {t_there : Nat → Int32} {p1 : Int32} {RR : Int32} (C0 : CX p R s m args meth c b_Mo_isArc 2 R_Mo lw_g D CL (TYs cI cJ cG cZ) A 0 0) (hret : ∀ (pc : Nat) (ls : Array Slot) (H : Heap) (locs : List Loc) (v : Int32) , decode b_Mo_isArc pc = .ok (.ireturn, 1) → narrow .boolean (.int v) = .int v → va_P D CL [(q_t, .inr (8, [.int t_nodes, .int t_arcs, .int t_left, .ref q_t_froms, .ref q_t_tos, .ref q_t_weights, .ref q_t_there, .ref q_t_part, .ref q_t_matrix, .ref q_t_row, .ref q_t_low, .int t_swapIn, .int t_swapOut, .ref q_t_own, .ref q_t_chosen, .ref q_t_degrees, .long t_boundedSet, .ref q_t_fixed, .ref q_t_grown, .ref q_t_costs, .ref q_t_order, .long t_joinedSet])), (q_t_there, .inl (cZ, 30, .inl t_there))] H → va_D A [(q_t, .inr (8, [.int t_nodes, .int t_arcs, .int t_left, .ref q_t_froms, .ref q_t_tos, .ref q_t_weights, .ref q_t_there, .ref q_t_part, .ref q_t_matrix, .ref q_t_row, .ref q_t_low, .int t_swapIn, .int t_swapOut, .ref q_t_own, .ref q_t_chosen, .ref q_t_degrees, .long t_boundedSet, .ref q_t_fixed, .ref q_t_grown, .ref q_t_costs, .ref q_t_order, .long t_joinedSet])), (q_t_there, .inl (cZ, 30, .inl t_there))] → va_S A s.heap H locs → some (v) = some RR → W p l e R s m args below meth c H locs 0 0 Q (F0 m pc ls [.int v])) : ∀ (H : Heap) (locs : List Loc) (ls : Array Slot), va_P D CL [(q_t, .inr (8, [.int t_nodes, .int t_arcs, .int t_left, .ref q_t_froms, .ref q_t_tos, .ref q_t_weights, .ref q_t_there, .ref q_t_part, .ref q_t_matrix, .ref q_t_row, .ref q_t_low, .int t_swapIn, .int t_swapOut, .ref q_t_own, .ref q_t_chosen, .ref q_t_degrees, .long t_boundedSet, .ref q_t_fixed, .ref q_t_grown, .ref q_t_costs, .ref q_t_order, .long t_joinedSet])), (q_t_there, .inl (cZ, 30, .inl t_there))] H → va_D A [(q_t, .inr (8, [.int t_nodes, .int t_arcs, .int t_left, .ref q_t_froms, .ref q_t_tos, .ref q_t_weights, .ref q_t_there, .ref q_t_part, .ref q_t_matrix, .ref q_t_row, .ref q_t_low, .int t_swapIn, .int t_swapOut, .ref q_t_own, .ref q_t_chosen, .ref q_t_degrees, .long t_boundedSet, .ref q_t_fixed, .ref q_t_grown, .ref q_t_costs, .ref q_t_order, .long t_joinedSet])), (q_t_there, .inl (cZ, 30, .inl t_there))] → va_S A s.heap H locs → lv_has ls 2 [(0, .ref q_t), (1, .int p1)] → f_Mo_isArc p1 t_arcs t_there = some RR → W p l e R s m args below meth c H locs 0 0 Q (F0 m 0 ls []) := by
  intro H locs ls hP hD hS hl hf
  obtain ⟨hx, hb, hml, hown, hts, hK, hA, hfr, hlo, hlk⟩ := id C0
  unfold f_Mo_isArc at hf
  refine lv_iload_n hx hb d_Mo_isArc_0 rfl (lv_at hl 1 rfl) ?_
  refine lv_if_lt (tgt := 25) hx hb d_Mo_isArc_1 (by decide) (fun hc1 => ?_) (fun hc1 => ?_)
  · have hf := if_t hc1 hf
    refine lv_iconst (v := 0) hx hb d_Mo_isArc_25 (by decide) ?_
    exact hret 26 _ _ _ (0 : Int32) d_Mo_isArc_26 rfl hP hD hS hf
  · have hf := if_f hc1 hf
    refine lv_iload_n hx hb d_Mo_isArc_4 rfl (lv_at hl 1 rfl) ?_
    refine lv_aload_n hx hb d_Mo_isArc_5 rfl (lv_at hl 0 rfl) ?_
    refine va_get (D := D) (ci := 8) (v := .int t_arcs) (C := R_Mo) (T := F_Mo) (N := 22) hx hb hts i_Mo hown hK hP 0 rfl rfl 1 (by decide) (hts _ m_3_129) (fun _ h9 => h9) rfl d_Mo_isArc_6 ?_
    refine lv_icmp_ge (tgt := 25) hx hb d_Mo_isArc_9 (by decide) (fun hc2 => ?_) (fun hc2 => ?_)
    · have hf := if_t hc2 hf
      refine lv_iconst (v := 0) hx hb d_Mo_isArc_25 (by decide) ?_
      exact hret 26 _ _ _ (0 : Int32) d_Mo_isArc_26 rfl hP hD hS hf
    · have hf := if_f hc2 hf
      refine lv_aload_n hx hb d_Mo_isArc_12 rfl (lv_at hl 0 rfl) ?_
      refine va_get (D := D) (ci := 8) (v := .ref q_t_there) (C := R_Mo) (T := F_Mo) (N := 22) hx hb hts i_Mo hown hK hP 0 rfl rfl 6 (by decide) (hts _ m_3_134) (fun _ h9 => h9) rfl d_Mo_isArc_13 ?_
      refine lv_iload_n hx hb d_Mo_isArc_16 rfl (lv_at hl 1 rfl) ?_
      obtain ⟨hg1, hf⟩ := gd_e hf
      refine va_zald hx hb hK hP 1 3 rfl rfl (inb_e hg1) d_Mo_isArc_17 ?_
      refine lv_if_eq (tgt := 25) hx hb d_Mo_isArc_18 (by decide) (fun hc3 => ?_) (fun hc3 => ?_)
      · have hf := if_t hc3 hf
        refine lv_iconst (v := 0) hx hb d_Mo_isArc_25 (by decide) ?_
        exact hret 26 _ _ _ (0 : Int32) d_Mo_isArc_26 rfl hP hD hS hf
      · have hf := if_f hc3 hf
        refine lv_iconst (v := 1) hx hb d_Mo_isArc_21 (by decide) ?_
        refine lv_goto (tgt := 26) hx hb d_Mo_isArc_22 (by decide) ?_
        exact hret 26 _ _ _ (1 : Int32) d_Mo_isArc_26 rfl hP hD hS hf
set_option maxRecDepth 100000 in
set_option maxHeartbeats 4000000 in
theorem c_Mo_isArc (l : Launch) (D : va_G) (cI cJ cG cZ : ClassId) (q_t q_t_froms q_t_tos q_t_weights q_t_there q_t_part q_t_matrix q_t_row q_t_low q_t_own q_t_chosen q_t_degrees q_t_fixed q_t_grown q_t_costs q_t_order : Nat) (t_nodes : Int32) (t_arcs : Int32) (t_left : Int32) (t_swapIn : Int32) (t_swapOut : Int32) (t_boundedSet : Int64) (t_joinedSet : Int64) (t_there : Nat → Int32) (p1 : Int32) {r : Int32} (hf : f_Mo_isArc p1 t_arcs t_there = some (r)) : MeG l D CL (TYs cI cJ cG cZ) y_Mo_isArc ws_Mo_isArc (rm_Mo_isArc) [.ref q_t, .int p1] [(q_t, .inr (8, [.int t_nodes, .int t_arcs, .int t_left, .ref q_t_froms, .ref q_t_tos, .ref q_t_weights, .ref q_t_there, .ref q_t_part, .ref q_t_matrix, .ref q_t_row, .ref q_t_low, .int t_swapIn, .int t_swapOut, .ref q_t_own, .ref q_t_chosen, .ref q_t_degrees, .long t_boundedSet, .ref q_t_fixed, .ref q_t_grown, .ref q_t_costs, .ref q_t_order, .long t_joinedSet])), (q_t_there, .inl (cZ, 30, .inl t_there))] (some (.int r)) [(q_t, .inr (8, [.int t_nodes, .int t_arcs, .int t_left, .ref q_t_froms, .ref q_t_tos, .ref q_t_weights, .ref q_t_there, .ref q_t_part, .ref q_t_matrix, .ref q_t_row, .ref q_t_low, .int t_swapIn, .int t_swapOut, .ref q_t_own, .ref q_t_chosen, .ref q_t_degrees, .long t_boundedSet, .ref q_t_fixed, .ref q_t_grown, .ref q_t_costs, .ref q_t_order, .long t_joinedSet])), (q_t_there, .inl (cZ, 30, .inl t_there))] := by
  intro sz
  refine Met.ofW (cc := b_Mo_isArc) (maxL := 2) (ret := (some .boolean)) (by decide) rfl ?_
  intro p e s m args below meth c s₁ B hml hv
  obtain ⟨rfl, hsz, hP, hK, hD0⟩ := hv
  subst hsz
  have hD := hD0.self (sz := s.heap.size)
  generalize hAe : va_A [(q_t, .inr (8, [.int t_nodes, .int t_arcs, .int t_left, .ref q_t_froms, .ref q_t_tos, .ref q_t_weights, .ref q_t_there, .ref q_t_part, .ref q_t_matrix, .ref q_t_row, .ref q_t_low, .int t_swapIn, .int t_swapOut, .ref q_t_own, .ref q_t_chosen, .ref q_t_degrees, .long t_boundedSet, .ref q_t_fixed, .ref q_t_grown, .ref q_t_costs, .ref q_t_order, .long t_joinedSet])), (q_t_there, .inl (cZ, 30, .inl t_there))] s.heap.size = A at hD ⊢
  have C0 : CX p (headSpec ws_Mo_isArc (rm_Mo_isArc)).room s m _ meth c b_Mo_isArc 2 R_Mo lw_g D CL (TYs cI cJ cG cZ) A 0 0 := ⟨B.exec, B.bytes, hml, findClass_of_methodNamed B.named, fun w h => atoms_spec (ws := ws_Mo_isArc) B.pre w (List.mem_cons_of_mem _ h), hK, fun q h => by rw [← hAe]; exact Or.inr h, Nat.le_of_ble_eq_true rfl, Nat.le_of_ble_eq_true rfl, B.notSynchronized⟩
  have hl := lv_entry ([.ref q_t, .int p1]) (n := 2) (Nat.le_of_ble_eq_true rfl)
  rw [lg_entry_eq]
  generalize (lg_sl ([.ref q_t, .int p1]) ++ List.replicate (2 - (lg_sl ([.ref q_t, .int p1])).length) Slot.unset).toArray = ls at hl ⊢
  have hl : lv_has ls 2 [(0, .ref q_t), (1, .int p1)] := hl
  exact w_Mo_isArc_e C0 (fun pc ls H locs v hdg hz hP hD hS e => by cases e; exact W.zret B.exec B.bytes B.returns hz (fun t ht hW => ⟨⟨rfl, by rw [ht]; exact hP, va_K.moved hW.alike hK, hD⟩, hS.F ht⟩) hS.2.2 hdg) _ _ _ hP hD va_S.rf (lv_sub hl [0, 1] rfl) hf
abbrev b_Mo_node : ByteArray := prog_11_method_4_code
def y_Mo_node : MethodName := ⟨R_Mo, "node", "()I"⟩
def ws_Mo_node : List Cond := .code y_Mo_node b_Mo_node 1 (some .int) :: lw_g
theorem wi_Mo_node : ∀ w ∈ ws_Mo_node, w ∈ lw_g := wi_of m_3_199
abbrev rm_Mo_node : Room := { frames := 0, cells := 0, slots := 0, locals := 0 }
theorem hd_Mo_node : y_Mo_node.cls = R_Mo ∧ y_Mo_node.cls ≠ "java/lang/invoke/MethodHandle" ∧ y_Mo_node.cls ≠ "java/lang/invoke/VarHandle" ∧ (parseMethodDescriptor y_Mo_node.desc).map (fun d => d.parameters.length) = some 0 := by decide +kernel
theorem d_Mo_node_0 : decode b_Mo_node 0 = .ok (.aload_n 0, 1) := by decide +kernel
theorem d_Mo_node_1 : decode b_Mo_node 1 = .ok (.getfield 57, 3) := by decide +kernel
theorem d_Mo_node_4 : decode b_Mo_node 4 = .ok (.bipush 10, 2) := by decide +kernel
theorem d_Mo_node_6 : decode b_Mo_node 6 = .ok (.if_icmp .ne 6, 3) := by decide +kernel
theorem d_Mo_node_9 : decode b_Mo_node 9 = .ok (.bipush (-4), 2) := by decide +kernel
theorem d_Mo_node_11 : decode b_Mo_node 11 = .ok (.ireturn, 1) := by decide +kernel
theorem d_Mo_node_12 : decode b_Mo_node 12 = .ok (.aload_n 0, 1) := by decide +kernel
theorem d_Mo_node_13 : decode b_Mo_node 13 = .ok (.dup, 1) := by decide +kernel
theorem d_Mo_node_14 : decode b_Mo_node 14 = .ok (.getfield 57, 3) := by decide +kernel
theorem d_Mo_node_17 : decode b_Mo_node 17 = .ok (.iconst 1, 1) := by decide +kernel
theorem d_Mo_node_18 : decode b_Mo_node 18 = .ok (.iadd, 1) := by decide +kernel
theorem d_Mo_node_19 : decode b_Mo_node 19 = .ok (.putfield 57, 3) := by decide +kernel
theorem d_Mo_node_22 : decode b_Mo_node 22 = .ok (.aload_n 0, 1) := by decide +kernel
theorem d_Mo_node_23 : decode b_Mo_node 23 = .ok (.getfield 57, 3) := by decide +kernel
theorem d_Mo_node_26 : decode b_Mo_node 26 = .ok (.iconst 1, 1) := by decide +kernel
theorem d_Mo_node_27 : decode b_Mo_node 27 = .ok (.isub, 1) := by decide +kernel
theorem d_Mo_node_28 : decode b_Mo_node 28 = .ok (.ireturn, 1) := by decide +kernel
def f_Mo_node (t_nodes0 : Int32) : Option (Int32 × Int32) :=
  if t_nodes0 = (10 : Int32) then
    some ((-4 : Int32), t_nodes0)
  else
    bn (t_nodes0 + (1 : Int32)) fun x1 =>
    some (x1 - (1 : Int32), x1)
set_option maxRecDepth 100000 in
set_option maxHeartbeats 4000000 in
theorem w_Mo_node_e {p : Program} {l : Launch} {e : Env} {R : Room} {s : State} {m : MethodId} {args : Array Value} {below : List Frame} {meth : Method} {c : Code} {D : va_G} {cI cJ cG cZ : ClassId} {A : Nat → Prop} {Q : State → Prop} {q_t q_t_froms q_t_tos q_t_weights q_t_there q_t_part q_t_matrix q_t_row q_t_low q_t_own q_t_chosen q_t_degrees q_t_fixed q_t_grown q_t_costs q_t_order : Nat} {t_nodes0 : Int32} {t_arcs : Int32} {t_left : Int32} {t_swapIn : Int32} {t_swapOut : Int32} {t_boundedSet : Int64} {t_joinedSet : Int64} {RR : Int32 × Int32} (C0 : CX p R s m args meth c b_Mo_node 1 R_Mo lw_g D CL (TYs cI cJ cG cZ) A 0 0) (hret : ∀ (pc : Nat) (ls : Array Slot) (H : Heap) (locs : List Loc) (v : Int32) (t_nodes : Int32), decode b_Mo_node pc = .ok (.ireturn, 1) → va_P D CL [(q_t, .inr (8, [.int t_nodes, .int t_arcs, .int t_left, .ref q_t_froms, .ref q_t_tos, .ref q_t_weights, .ref q_t_there, .ref q_t_part, .ref q_t_matrix, .ref q_t_row, .ref q_t_low, .int t_swapIn, .int t_swapOut, .ref q_t_own, .ref q_t_chosen, .ref q_t_degrees, .long t_boundedSet, .ref q_t_fixed, .ref q_t_grown, .ref q_t_costs, .ref q_t_order, .long t_joinedSet]))] H → va_D A [(q_t, .inr (8, [.int t_nodes, .int t_arcs, .int t_left, .ref q_t_froms, .ref q_t_tos, .ref q_t_weights, .ref q_t_there, .ref q_t_part, .ref q_t_matrix, .ref q_t_row, .ref q_t_low, .int t_swapIn, .int t_swapOut, .ref q_t_own, .ref q_t_chosen, .ref q_t_degrees, .long t_boundedSet, .ref q_t_fixed, .ref q_t_grown, .ref q_t_costs, .ref q_t_order, .long t_joinedSet]))] → va_S A s.heap H locs → some (v, t_nodes) = some RR → W p l e R s m args below meth c H locs 0 0 Q (F0 m pc ls [.int v])) : ∀ (H : Heap) (locs : List Loc) (ls : Array Slot), va_P D CL [(q_t, .inr (8, [.int t_nodes0, .int t_arcs, .int t_left, .ref q_t_froms, .ref q_t_tos, .ref q_t_weights, .ref q_t_there, .ref q_t_part, .ref q_t_matrix, .ref q_t_row, .ref q_t_low, .int t_swapIn, .int t_swapOut, .ref q_t_own, .ref q_t_chosen, .ref q_t_degrees, .long t_boundedSet, .ref q_t_fixed, .ref q_t_grown, .ref q_t_costs, .ref q_t_order, .long t_joinedSet]))] H → va_D A [(q_t, .inr (8, [.int t_nodes0, .int t_arcs, .int t_left, .ref q_t_froms, .ref q_t_tos, .ref q_t_weights, .ref q_t_there, .ref q_t_part, .ref q_t_matrix, .ref q_t_row, .ref q_t_low, .int t_swapIn, .int t_swapOut, .ref q_t_own, .ref q_t_chosen, .ref q_t_degrees, .long t_boundedSet, .ref q_t_fixed, .ref q_t_grown, .ref q_t_costs, .ref q_t_order, .long t_joinedSet]))] → va_S A s.heap H locs → lv_has ls 1 [(0, .ref q_t)] → f_Mo_node t_nodes0 = some RR → W p l e R s m args below meth c H locs 0 0 Q (F0 m 0 ls []) := by
  intro H locs ls hP hD hS hl hf
  obtain ⟨hx, hb, hml, hown, hts, hK, hA, hfr, hlo, hlk⟩ := id C0
  unfold f_Mo_node at hf
  refine lv_aload_n hx hb d_Mo_node_0 rfl (lv_at hl 0 rfl) ?_
  refine va_get (D := D) (ci := 8) (v := .int t_nodes0) (C := R_Mo) (T := F_Mo) (N := 22) hx hb hts i_Mo hown hK hP 0 rfl rfl 0 (by decide) (hts _ m_3_128) (fun _ h9 => h9) rfl d_Mo_node_1 ?_
  refine lv_bipush (v := 10) hx hb d_Mo_node_4 (by decide) ?_
  refine lv_icmp_ne (tgt := 12) hx hb d_Mo_node_6 (by decide) (fun hc1 => ?_) (fun hc1 => ?_)
  · have hf := if_f hc1 hf
    refine lv_aload_n hx hb d_Mo_node_12 rfl (lv_at hl 0 rfl) ?_
    refine lv_dup hx hb d_Mo_node_13 rfl ?_
    refine va_get (D := D) (ci := 8) (v := .int t_nodes0) (C := R_Mo) (T := F_Mo) (N := 22) hx hb hts i_Mo hown hK hP 0 rfl rfl 0 (by decide) (hts _ m_3_128) (fun _ h9 => h9) rfl d_Mo_node_14 ?_
    refine lv_iconst (v := 1) hx hb d_Mo_node_17 (by decide) ?_
    refine lv_iadd hx hb d_Mo_node_18 ?_
    refine lv_topi (fun x1 ex1 => ?_)
    have hf := bn_e ex1 hf
    refine va_put (D := D) (ci := 8) (v := .int x1) (ty := .int) (C := R_Mo) (T := F_Mo) (N := 22) hx hb hts i_Mo t_Mo to_Mo n_Mo hown hK hP hD hS 0 rfl rfl 0 (by decide) (hts _ m_3_128) (fun _ h9 => h9) rfl (by decide +kernel) rfl rfl (Nat.le_of_ble_eq_true rfl) d_Mo_node_19 (fun H locs hP hD hS => ?_)
    have hP : va_P D CL [(q_t, .inr (8, [.int x1, .int t_arcs, .int t_left, .ref q_t_froms, .ref q_t_tos, .ref q_t_weights, .ref q_t_there, .ref q_t_part, .ref q_t_matrix, .ref q_t_row, .ref q_t_low, .int t_swapIn, .int t_swapOut, .ref q_t_own, .ref q_t_chosen, .ref q_t_degrees, .long t_boundedSet, .ref q_t_fixed, .ref q_t_grown, .ref q_t_costs, .ref q_t_order, .long t_joinedSet]))] H := hP
    have hD : va_D A [(q_t, .inr (8, [.int x1, .int t_arcs, .int t_left, .ref q_t_froms, .ref q_t_tos, .ref q_t_weights, .ref q_t_there, .ref q_t_part, .ref q_t_matrix, .ref q_t_row, .ref q_t_low, .int t_swapIn, .int t_swapOut, .ref q_t_own, .ref q_t_chosen, .ref q_t_degrees, .long t_boundedSet, .ref q_t_fixed, .ref q_t_grown, .ref q_t_costs, .ref q_t_order, .long t_joinedSet]))] := hD
    refine lv_aload_n hx hb d_Mo_node_22 rfl (lv_at hl 0 rfl) ?_
    refine va_get (D := D) (ci := 8) (v := .int x1) (C := R_Mo) (T := F_Mo) (N := 22) hx hb hts i_Mo hown hK hP 0 rfl rfl 0 (by decide) (hts _ m_3_128) (fun _ h9 => h9) rfl d_Mo_node_23 ?_
    refine lv_iconst (v := 1) hx hb d_Mo_node_26 (by decide) ?_
    refine lv_isub hx hb d_Mo_node_27 ?_
    exact hret 28 _ _ _ (x1 - (1 : Int32)) x1 d_Mo_node_28 hP hD hS hf
  · have hf := if_t hc1 hf
    refine lv_bipush (v := -4) hx hb d_Mo_node_9 (by decide) ?_
    exact hret 11 _ _ _ (-4 : Int32) t_nodes0 d_Mo_node_11 hP hD hS hf
set_option maxRecDepth 100000 in
set_option maxHeartbeats 4000000 in
theorem c_Mo_node (l : Launch) (D : va_G) (cI cJ cG cZ : ClassId) (q_t q_t_froms q_t_tos q_t_weights q_t_there q_t_part q_t_matrix q_t_row q_t_low q_t_own q_t_chosen q_t_degrees q_t_fixed q_t_grown q_t_costs q_t_order : Nat) (t_nodes0 : Int32) (t_arcs : Int32) (t_left : Int32) (t_swapIn : Int32) (t_swapOut : Int32) (t_boundedSet : Int64) (t_joinedSet : Int64) {r : Int32} {t_nodes' : Int32} (hf : f_Mo_node t_nodes0 = some (r, t_nodes')) : MeG l D CL (TYs cI cJ cG cZ) y_Mo_node ws_Mo_node (rm_Mo_node) [.ref q_t] [(q_t, .inr (8, [.int t_nodes0, .int t_arcs, .int t_left, .ref q_t_froms, .ref q_t_tos, .ref q_t_weights, .ref q_t_there, .ref q_t_part, .ref q_t_matrix, .ref q_t_row, .ref q_t_low, .int t_swapIn, .int t_swapOut, .ref q_t_own, .ref q_t_chosen, .ref q_t_degrees, .long t_boundedSet, .ref q_t_fixed, .ref q_t_grown, .ref q_t_costs, .ref q_t_order, .long t_joinedSet]))] (some (.int r)) [(q_t, .inr (8, [.int t_nodes', .int t_arcs, .int t_left, .ref q_t_froms, .ref q_t_tos, .ref q_t_weights, .ref q_t_there, .ref q_t_part, .ref q_t_matrix, .ref q_t_row, .ref q_t_low, .int t_swapIn, .int t_swapOut, .ref q_t_own, .ref q_t_chosen, .ref q_t_degrees, .long t_boundedSet, .ref q_t_fixed, .ref q_t_grown, .ref q_t_costs, .ref q_t_order, .long t_joinedSet]))] := by
  intro sz
  refine Met.ofW (cc := b_Mo_node) (maxL := 1) (ret := (some .int)) (by decide) rfl ?_
  intro p e s m args below meth c s₁ B hml hv
  obtain ⟨rfl, hsz, hP, hK, hD0⟩ := hv
  subst hsz
  have hD := hD0.self (sz := s.heap.size)
  generalize hAe : va_A [(q_t, .inr (8, [.int t_nodes0, .int t_arcs, .int t_left, .ref q_t_froms, .ref q_t_tos, .ref q_t_weights, .ref q_t_there, .ref q_t_part, .ref q_t_matrix, .ref q_t_row, .ref q_t_low, .int t_swapIn, .int t_swapOut, .ref q_t_own, .ref q_t_chosen, .ref q_t_degrees, .long t_boundedSet, .ref q_t_fixed, .ref q_t_grown, .ref q_t_costs, .ref q_t_order, .long t_joinedSet]))] s.heap.size = A at hD ⊢
  have C0 : CX p (headSpec ws_Mo_node (rm_Mo_node)).room s m _ meth c b_Mo_node 1 R_Mo lw_g D CL (TYs cI cJ cG cZ) A 0 0 := ⟨B.exec, B.bytes, hml, findClass_of_methodNamed B.named, fun w h => atoms_spec (ws := ws_Mo_node) B.pre w (List.mem_cons_of_mem _ h), hK, fun q h => by rw [← hAe]; exact Or.inr h, Nat.le_of_ble_eq_true rfl, Nat.le_of_ble_eq_true rfl, B.notSynchronized⟩
  have hl := lv_entry ([.ref q_t]) (n := 1) (Nat.le_of_ble_eq_true rfl)
  rw [lg_entry_eq]
  generalize (lg_sl ([.ref q_t]) ++ List.replicate (1 - (lg_sl ([.ref q_t])).length) Slot.unset).toArray = ls at hl ⊢
  have hl : lv_has ls 1 [(0, .ref q_t)] := hl
  exact w_Mo_node_e C0 (fun pc ls H locs v t_nodes hdg hP hD hS e => by cases e; exact W.iret B.exec B.bytes B.returns (fun t ht hW => ⟨⟨rfl, by rw [ht]; exact hP, va_K.moved hW.alike hK, hD⟩, hS.F ht⟩) hS.2.2 hdg) _ _ _ hP hD va_S.rf (lv_sub hl [0] rfl) hf
