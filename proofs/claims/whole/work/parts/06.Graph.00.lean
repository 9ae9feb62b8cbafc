abbrev b_Graph_addNode : ByteArray := prog_5_method_2_code
def y_Graph_addNode : MethodName := ⟨R_Graph, "addNode", "()I"⟩
def ws_Graph_addNode : List Cond := .code y_Graph_addNode b_Graph_addNode 1 (some .int) :: lw_g
theorem wi_Graph_addNode : ∀ w ∈ ws_Graph_addNode, w ∈ lw_g := wi_of m_2_16
abbrev rm_Graph_addNode : Room := { frames := 0, cells := 0, slots := 0, locals := 0 }
theorem hd_Graph_addNode : y_Graph_addNode.cls = R_Graph ∧ y_Graph_addNode.cls ≠ "java/lang/invoke/MethodHandle" ∧ y_Graph_addNode.cls ≠ "java/lang/invoke/VarHandle" ∧ (parseMethodDescriptor y_Graph_addNode.desc).map (fun d => d.parameters.length) = some 0 := by decide +kernel
theorem d_Graph_addNode_0 : decode b_Graph_addNode 0 = .ok (.aload_n 0, 1) := by decide +kernel
theorem d_Graph_addNode_1 : decode b_Graph_addNode 1 = .ok (.dup, 1) := by decide +kernel
theorem d_Graph_addNode_2 : decode b_Graph_addNode 2 = .ok (.getfield 24, 3) := by decide +kernel
theorem d_Graph_addNode_5 : decode b_Graph_addNode 5 = .ok (.iconst 1, 1) := by decide +kernel
theorem d_Graph_addNode_6 : decode b_Graph_addNode 6 = .ok (.iadd, 1) := by decide +kernel
theorem d_Graph_addNode_7 : decode b_Graph_addNode 7 = .ok (.putfield 24, 3) := by decide +kernel
theorem d_Graph_addNode_10 : decode b_Graph_addNode 10 = .ok (.aload_n 0, 1) := by decide +kernel
theorem d_Graph_addNode_11 : decode b_Graph_addNode 11 = .ok (.getfield 24, 3) := by decide +kernel
theorem d_Graph_addNode_14 : decode b_Graph_addNode 14 = .ok (.iconst 1, 1) := by decide +kernel
theorem d_Graph_addNode_15 : decode b_Graph_addNode 15 = .ok (.isub, 1) := by decide +kernel
theorem d_Graph_addNode_16 : decode b_Graph_addNode 16 = .ok (.ireturn, 1) := by decide +kernel
def f_Graph_addNode (t_nodes0 : Int32) : Option (Int32 × Int32) :=
  bn (t_nodes0 + (1 : Int32)) fun x1 =>
  some (x1 - (1 : Int32), x1)
set_option maxRecDepth 100000 in
set_option maxHeartbeats 4000000 in
theorem w_Graph_addNode_e {p : Program} {l : Launch} {e : Env} {R : Room} {s : State} {m : MethodId} {args : Array Value} {below : List Frame} {meth : Method} {c : Code} {D : va_G} {cI cJ cG cZ : ClassId} {A : Nat → Prop} {Q : State → Prop} {q_t q_t_from q_t_to q_t_weight q_t_order : Nat} {t_nodes0 : Int32} {t_numbered : Int32} {t_size : Int32} {t_present : Int64} {RR : Int32 × Int32} (C0 : CX p R s m args meth c b_Graph_addNode 1 R_Graph lw_g D CL (TYs cI cJ cG cZ) A 0 0) (hret : ∀ (pc : Nat) (ls : Array Slot) (H : Heap) (locs : List Loc) (v : Int32) (t_nodes : Int32), decode b_Graph_addNode pc = .ok (.ireturn, 1) → va_P D CL [(q_t, .inr (2, [.ref q_t_from, .ref q_t_to, .ref q_t_weight, .ref q_t_order, .int t_nodes, .int t_numbered, .int t_size, .long t_present]))] H → va_D A [(q_t, .inr (2, [.ref q_t_from, .ref q_t_to, .ref q_t_weight, .ref q_t_order, .int t_nodes, .int t_numbered, .int t_size, .long t_present]))] → va_S A s.heap H locs → some (v, t_nodes) = some RR → W p l e R s m args below meth c H locs 0 0 Q (F0 m pc ls [.int v])) : ∀ (H : Heap) (locs : List Loc) (ls : Array Slot), va_P D CL [(q_t, .inr (2, [.ref q_t_from, .ref q_t_to, .ref q_t_weight, .ref q_t_order, .int t_nodes0, .int t_numbered, .int t_size, .long t_present]))] H → va_D A [(q_t, .inr (2, [.ref q_t_from, .ref q_t_to, .ref q_t_weight, .ref q_t_order, .int t_nodes0, .int t_numbered, .int t_size, .long t_present]))] → va_S A s.heap H locs → lv_has ls 1 [(0, .ref q_t)] → f_Graph_addNode t_nodes0 = some RR → W p l e R s m args below meth c H locs 0 0 Q (F0 m 0 ls []) := by
  intro H locs ls hP hD hS hl hf
  obtain ⟨hx, hb, hml, hown, hts, hK, hA, hfr, hlo, hlk⟩ := id C0
  unfold f_Graph_addNode at hf
  refine lv_aload_n hx hb d_Graph_addNode_0 rfl (lv_at hl 0 rfl) ?_
  refine lv_dup hx hb d_Graph_addNode_1 rfl ?_
  refine va_get (D := D) (ci := 2) (v := .int t_nodes0) (C := R_Graph) (T := F_Graph) (N := 8) hx hb hts i_Graph hown hK hP 0 rfl rfl 4 (by decide) (hts _ m_1_49) (fun _ h9 => h9) rfl d_Graph_addNode_2 ?_
  refine lv_iconst (v := 1) hx hb d_Graph_addNode_5 (by decide) ?_
  refine lv_iadd hx hb d_Graph_addNode_6 ?_
  refine lv_topi (fun x1 ex1 => ?_)
  have hf := bn_e ex1 hf
  refine va_put (D := D) (ci := 2) (v := .int x1) (ty := .int) (C := R_Graph) (T := F_Graph) (N := 8) hx hb hts i_Graph t_Graph to_Graph n_Graph hown hK hP hD hS 0 rfl rfl 4 (by decide) (hts _ m_1_49) (fun _ h9 => h9) rfl (by decide +kernel) rfl rfl (Nat.le_of_ble_eq_true rfl) d_Graph_addNode_7 (fun H locs hP hD hS => ?_)
  have hP : va_P D CL [(q_t, .inr (2, [.ref q_t_from, .ref q_t_to, .ref q_t_weight, .ref q_t_order, .int x1, .int t_numbered, .int t_size, .long t_present]))] H := hP
  have hD : va_D A [(q_t, .inr (2, [.ref q_t_from, .ref q_t_to, .ref q_t_weight, .ref q_t_order, .int x1, .int t_numbered, .int t_size, .long t_present]))] := hD
  refine lv_aload_n hx hb d_Graph_addNode_10 rfl (lv_at hl 0 rfl) ?_
  refine va_get (D := D) (ci := 2) (v := .int x1) (C := R_Graph) (T := F_Graph) (N := 8) hx hb hts i_Graph hown hK hP 0 rfl rfl 4 (by decide) (hts _ m_1_49) (fun _ h9 => h9) rfl d_Graph_addNode_11 ?_
  refine lv_iconst (v := 1) hx hb d_Graph_addNode_14 (by decide) ?_
  refine lv_isub hx hb d_Graph_addNode_15 ?_
  exact hret 16 _ _ _ (x1 - (1 : Int32)) x1 d_Graph_addNode_16 hP hD hS hf
set_option maxRecDepth 100000 in
set_option maxHeartbeats 4000000 in
theorem c_Graph_addNode (l : Launch) (D : va_G) (cI cJ cG cZ : ClassId) (q_t q_t_from q_t_to q_t_weight q_t_order : Nat) (t_nodes0 : Int32) (t_numbered : Int32) (t_size : Int32) (t_present : Int64) {r : Int32} {t_nodes' : Int32} (hf : f_Graph_addNode t_nodes0 = some (r, t_nodes')) : MeG l D CL (TYs cI cJ cG cZ) y_Graph_addNode ws_Graph_addNode (rm_Graph_addNode) [.ref q_t] [(q_t, .inr (2, [.ref q_t_from, .ref q_t_to, .ref q_t_weight, .ref q_t_order, .int t_nodes0, .int t_numbered, .int t_size, .long t_present]))] (some (.int r)) [(q_t, .inr (2, [.ref q_t_from, .ref q_t_to, .ref q_t_weight, .ref q_t_order, .int t_nodes', .int t_numbered, .int t_size, .long t_present]))] := by
  intro sz
  refine Met.ofW (cc := b_Graph_addNode) (maxL := 1) (ret := (some .int)) (by decide) rfl ?_
  intro p e s m args below meth c s₁ B hml hv
  obtain ⟨rfl, hsz, hP, hK, hD0⟩ := hv
  subst hsz
  have hD := hD0.self (sz := s.heap.size)
  generalize hAe : va_A [(q_t, .inr (2, [.ref q_t_from, .ref q_t_to, .ref q_t_weight, .ref q_t_order, .int t_nodes0, .int t_numbered, .int t_size, .long t_present]))] s.heap.size = A at hD ⊢
  have C0 : CX p (headSpec ws_Graph_addNode (rm_Graph_addNode)).room s m _ meth c b_Graph_addNode 1 R_Graph lw_g D CL (TYs cI cJ cG cZ) A 0 0 := ⟨B.exec, B.bytes, hml, findClass_of_methodNamed B.named, fun w h => atoms_spec (ws := ws_Graph_addNode) B.pre w (List.mem_cons_of_mem _ h), hK, fun q h => by rw [← hAe]; exact Or.inr h, Nat.le_of_ble_eq_true rfl, Nat.le_of_ble_eq_true rfl, B.notSynchronized⟩
  have hl := lv_entry ([.ref q_t]) (n := 1) (Nat.le_of_ble_eq_true rfl)
  rw [lg_entry_eq]
  generalize (lg_sl ([.ref q_t]) ++ List.replicate (1 - (lg_sl ([.ref q_t])).length) Slot.unset).toArray = ls at hl ⊢
  have hl : lv_has ls 1 [(0, .ref q_t)] := hl
  exact w_Graph_addNode_e C0 (fun pc ls H locs v t_nodes hdg hP hD hS e => by cases e; exact W.iret B.exec B.bytes B.returns (fun t ht hW => ⟨⟨rfl, by rw [ht]; exact hP, va_K.moved hW.alike hK, hD⟩, hS.F ht⟩) hS.2.2 hdg) _ _ _ hP hD va_S.rf (lv_sub hl [0] rfl) hf
abbrev b_Graph_isAhead : ByteArray := prog_5_method_12_code
def y_Graph_isAhead : MethodName := ⟨R_Graph, "isAhead", "(II)Z"⟩
def ws_Graph_isAhead : List Cond := .code y_Graph_isAhead b_Graph_isAhead 3 (some .boolean) :: lw_g
theorem wi_Graph_isAhead : ∀ w ∈ ws_Graph_isAhead, w ∈ lw_g := wi_of m_2_39
abbrev rm_Graph_isAhead : Room := { frames := 0, cells := 0, slots := 0, locals := 0 }
theorem hd_Graph_isAhead : y_Graph_isAhead.cls = R_Graph ∧ y_Graph_isAhead.cls ≠ "java/lang/invoke/MethodHandle" ∧ y_Graph_isAhead.cls ≠ "java/lang/invoke/VarHandle" ∧ (parseMethodDescriptor y_Graph_isAhead.desc).map (fun d => d.parameters.length) = some 2 := by decide +kernel
theorem d_Graph_isAhead_0 : decode b_Graph_isAhead 0 = .ok (.aload_n 0, 1) := by decide +kernel
theorem d_Graph_isAhead_1 : decode b_Graph_isAhead 1 = .ok (.getfield 18, 3) := by decide +kernel
theorem d_Graph_isAhead_4 : decode b_Graph_isAhead 4 = .ok (.iload_n 1, 1) := by decide +kernel
theorem d_Graph_isAhead_5 : decode b_Graph_isAhead 5 = .ok (.iaload, 1) := by decide +kernel
theorem d_Graph_isAhead_6 : decode b_Graph_isAhead 6 = .ok (.aload_n 0, 1) := by decide +kernel
theorem d_Graph_isAhead_7 : decode b_Graph_isAhead 7 = .ok (.getfield 18, 3) := by decide +kernel
theorem d_Graph_isAhead_10 : decode b_Graph_isAhead 10 = .ok (.iload_n 2, 1) := by decide +kernel
theorem d_Graph_isAhead_11 : decode b_Graph_isAhead 11 = .ok (.iaload, 1) := by decide +kernel
theorem d_Graph_isAhead_12 : decode b_Graph_isAhead 12 = .ok (.if_icmp .lt 23, 3) := by decide +kernel
theorem d_Graph_isAhead_15 : decode b_Graph_isAhead 15 = .ok (.aload_n 0, 1) := by decide +kernel
theorem d_Graph_isAhead_16 : decode b_Graph_isAhead 16 = .ok (.getfield 18, 3) := by decide +kernel
theorem d_Graph_isAhead_19 : decode b_Graph_isAhead 19 = .ok (.iload_n 1, 1) := by decide +kernel
theorem d_Graph_isAhead_20 : decode b_Graph_isAhead 20 = .ok (.iaload, 1) := by decide +kernel
theorem d_Graph_isAhead_21 : decode b_Graph_isAhead 21 = .ok (.aload_n 0, 1) := by decide +kernel
theorem d_Graph_isAhead_22 : decode b_Graph_isAhead 22 = .ok (.getfield 18, 3) := by decide +kernel
theorem d_Graph_isAhead_25 : decode b_Graph_isAhead 25 = .ok (.iload_n 2, 1) := by decide +kernel
theorem d_Graph_isAhead_26 : decode b_Graph_isAhead 26 = .ok (.iaload, 1) := by decide +kernel
theorem d_Graph_isAhead_27 : decode b_Graph_isAhead 27 = .ok (.if_icmp .ne 12, 3) := by decide +kernel
theorem d_Graph_isAhead_30 : decode b_Graph_isAhead 30 = .ok (.iload_n 1, 1) := by decide +kernel
theorem d_Graph_isAhead_31 : decode b_Graph_isAhead 31 = .ok (.iload_n 2, 1) := by decide +kernel
theorem d_Graph_isAhead_32 : decode b_Graph_isAhead 32 = .ok (.if_icmp .ge 7, 3) := by decide +kernel
theorem d_Graph_isAhead_35 : decode b_Graph_isAhead 35 = .ok (.iconst 1, 1) := by decide +kernel
theorem d_Graph_isAhead_36 : decode b_Graph_isAhead 36 = .ok (.goto 4, 3) := by decide +kernel
theorem d_Graph_isAhead_39 : decode b_Graph_isAhead 39 = .ok (.iconst 0, 1) := by decide +kernel
theorem d_Graph_isAhead_40 : decode b_Graph_isAhead 40 = .ok (.ireturn, 1) := by decide +kernel
def f_Graph_isAhead (p1 : Int32) (p2 : Int32) (t_weight : Nat → Int32) : Option (Int32) :=
  gd (inb p1 30) <|
  gd (inb p2 30) <|
  if (t_weight p1.toNatClampNeg) < (t_weight p2.toNatClampNeg) then
    some ((1 : Int32))
  else
    gd (inb p1 30) <|
    gd (inb p2 30) <|
    if (t_weight p1.toNatClampNeg) = (t_weight p2.toNatClampNeg) then
      if p2 ≤ p1 then
        some ((0 : Int32))
      else
        some ((1 : Int32))
    else
      some ((0 : Int32))
set_option maxRecDepth 100000 in
set_option maxHeartbeats 4000000 in
theorem w_Graph_isAhead_e {p : Program} {l : Launch} {e : Env} {R : Room} {s : State} {m : MethodId} {args : Array Value} {below : List Frame} {meth : Method} {c : Code} {D : va_G} {cI cJ cG cZ : ClassId} {A : Nat → Prop} {Q : State → Prop} {q_t q_t_from q_t_to q_t_weight q_t_order : Nat} {t_nodes : Int32} {t_numbered : Int32} {t_size : Int32} {t_present : Int64} {t_weight : Nat → Int32} {p1 : Int32} {p2 : Int32} {RR : Int32} (C0 : CX p R s m args meth c b_Graph_isAhead 3 R_Graph lw_g D CL (TYs cI cJ cG cZ) A 0 0) (hret : ∀ (pc : Nat) (ls : Array Slot) (H : Heap) (locs : List Loc) (v : Int32) , decode b_Graph_isAhead pc = .ok (.ireturn, 1) → narrow .boolean (.int v) = .int v → va_P D CL [(q_t, .inr (2, [.ref q_t_from, .ref q_t_to, .ref q_t_weight, .ref q_t_order, .int t_nodes, .int t_numbered, .int t_size, .long t_present])), (q_t_weight, .inl (cI, 30, .inl t_weight))] H → va_D A [(q_t, .inr (2, [.ref q_t_from, .ref q_t_to, .ref q_t_weight, .ref q_t_order, .int t_nodes, .int t_numbered, .int t_size, .long t_present])), (q_t_weight, .inl (cI, 30, .inl t_weight))] → va_S A s.heap H locs → some (v) = some RR → W p l e R s m args below meth c H locs 0 0 Q (F0 m pc ls [.int v])) : ∀ (H : Heap) (locs : List Loc) (ls : Array Slot), va_P D CL [(q_t, .inr (2, [.ref q_t_from, .ref q_t_to, .ref q_t_weight, .ref q_t_order, .int t_nodes, .int t_numbered, .int t_size, .long t_present])), (q_t_weight, .inl (cI, 30, .inl t_weight))] H → va_D A [(q_t, .inr (2, [.ref q_t_from, .ref q_t_to, .ref q_t_weight, .ref q_t_order, .int t_nodes, .int t_numbered, .int t_size, .long t_present])), (q_t_weight, .inl (cI, 30, .inl t_weight))] → va_S A s.heap H locs → lv_has ls 3 [(0, .ref q_t), (1, .int p1), (2, .int p2)] → f_Graph_isAhead p1 p2 t_weight = some RR → W p l e R s m args below meth c H locs 0 0 Q (F0 m 0 ls []) := by
  intro H locs ls hP hD hS hl hf
  obtain ⟨hx, hb, hml, hown, hts, hK, hA, hfr, hlo, hlk⟩ := id C0
  unfold f_Graph_isAhead at hf
  refine lv_aload_n hx hb d_Graph_isAhead_0 rfl (lv_at hl 0 rfl) ?_
  refine va_get (D := D) (ci := 2) (v := .ref q_t_weight) (C := R_Graph) (T := F_Graph) (N := 8) hx hb hts i_Graph hown hK hP 0 rfl rfl 2 (by decide) (hts _ m_1_39) (fun _ h9 => h9) rfl d_Graph_isAhead_1 ?_
  refine lv_iload_n hx hb d_Graph_isAhead_4 rfl (lv_at hl 1 rfl) ?_
  obtain ⟨hg1, hf⟩ := gd_e hf
  refine va_iald hx hb hK hP 1 0 rfl rfl (inb_e hg1) d_Graph_isAhead_5 ?_
  refine lv_aload_n hx hb d_Graph_isAhead_6 rfl (lv_at hl 0 rfl) ?_
  refine va_get (D := D) (ci := 2) (v := .ref q_t_weight) (C := R_Graph) (T := F_Graph) (N := 8) hx hb hts i_Graph hown hK hP 0 rfl rfl 2 (by decide) (hts _ m_1_39) (fun _ h9 => h9) rfl d_Graph_isAhead_7 ?_
  refine lv_iload_n hx hb d_Graph_isAhead_10 rfl (lv_at hl 2 rfl) ?_
  obtain ⟨hg2, hf⟩ := gd_e hf
  refine va_iald hx hb hK hP 1 0 rfl rfl (inb_e hg2) d_Graph_isAhead_11 ?_
  refine lv_icmp_lt (tgt := 35) hx hb d_Graph_isAhead_12 (by decide) (fun hc1 => ?_) (fun hc1 => ?_)
  · have hf := if_t hc1 hf
    refine lv_iconst (v := 1) hx hb d_Graph_isAhead_35 (by decide) ?_
    refine lv_goto (tgt := 40) hx hb d_Graph_isAhead_36 (by decide) ?_
    exact hret 40 _ _ _ (1 : Int32) d_Graph_isAhead_40 rfl hP hD hS hf
  · have hf := if_f hc1 hf
    refine lv_aload_n hx hb d_Graph_isAhead_15 rfl (lv_at hl 0 rfl) ?_
    refine va_get (D := D) (ci := 2) (v := .ref q_t_weight) (C := R_Graph) (T := F_Graph) (N := 8) hx hb hts i_Graph hown hK hP 0 rfl rfl 2 (by decide) (hts _ m_1_39) (fun _ h9 => h9) rfl d_Graph_isAhead_16 ?_
    refine lv_iload_n hx hb d_Graph_isAhead_19 rfl (lv_at hl 1 rfl) ?_
    obtain ⟨hg3, hf⟩ := gd_e hf
    refine va_iald hx hb hK hP 1 0 rfl rfl (inb_e hg3) d_Graph_isAhead_20 ?_
    refine lv_aload_n hx hb d_Graph_isAhead_21 rfl (lv_at hl 0 rfl) ?_
    refine va_get (D := D) (ci := 2) (v := .ref q_t_weight) (C := R_Graph) (T := F_Graph) (N := 8) hx hb hts i_Graph hown hK hP 0 rfl rfl 2 (by decide) (hts _ m_1_39) (fun _ h9 => h9) rfl d_Graph_isAhead_22 ?_
    refine lv_iload_n hx hb d_Graph_isAhead_25 rfl (lv_at hl 2 rfl) ?_
    obtain ⟨hg4, hf⟩ := gd_e hf
    refine va_iald hx hb hK hP 1 0 rfl rfl (inb_e hg4) d_Graph_isAhead_26 ?_
    refine lv_icmp_ne (tgt := 39) hx hb d_Graph_isAhead_27 (by decide) (fun hc2 => ?_) (fun hc2 => ?_)
    · have hf := if_f hc2 hf
      refine lv_iconst (v := 0) hx hb d_Graph_isAhead_39 (by decide) ?_
      exact hret 40 _ _ _ (0 : Int32) d_Graph_isAhead_40 rfl hP hD hS hf
    · have hf := if_t hc2 hf
      refine lv_iload_n hx hb d_Graph_isAhead_30 rfl (lv_at hl 1 rfl) ?_
      refine lv_iload_n hx hb d_Graph_isAhead_31 rfl (lv_at hl 2 rfl) ?_
      refine lv_icmp_ge (tgt := 39) hx hb d_Graph_isAhead_32 (by decide) (fun hc3 => ?_) (fun hc3 => ?_)
      · have hf := if_t hc3 hf
        refine lv_iconst (v := 0) hx hb d_Graph_isAhead_39 (by decide) ?_
        exact hret 40 _ _ _ (0 : Int32) d_Graph_isAhead_40 rfl hP hD hS hf
      · have hf := if_f hc3 hf
        refine lv_iconst (v := 1) hx hb d_Graph_isAhead_35 (by decide) ?_
        refine lv_goto (tgt := 40) hx hb d_Graph_isAhead_36 (by decide) ?_
        exact hret 40 _ _ _ (1 : Int32) d_Graph_isAhead_40 rfl hP hD hS hf
set_option maxRecDepth 100000 in
set_option maxHeartbeats 4000000 in
theorem c_Graph_isAhead (l : Launch) (D : va_G) (cI cJ cG cZ : ClassId) (q_t q_t_from q_t_to q_t_weight q_t_order : Nat) (t_nodes : Int32) (t_numbered : Int32) (t_size : Int32) (t_present : Int64) (t_weight : Nat → Int32) (p1 : Int32) (p2 : Int32) {r : Int32} (hf : f_Graph_isAhead p1 p2 t_weight = some (r)) : MeG l D CL (TYs cI cJ cG cZ) y_Graph_isAhead ws_Graph_isAhead (rm_Graph_isAhead) [.ref q_t, .int p1, .int p2] [(q_t, .inr (2, [.ref q_t_from, .ref q_t_to, .ref q_t_weight, .ref q_t_order, .int t_nodes, .int t_numbered, .int t_size, .long t_present])), (q_t_weight, .inl (cI, 30, .inl t_weight))] (some (.int r)) [(q_t, .inr (2, [.ref q_t_from, .ref q_t_to, .ref q_t_weight, .ref q_t_order, .int t_nodes, .int t_numbered, .int t_size, .long t_present])), (q_t_weight, .inl (cI, 30, .inl t_weight))] := by
  intro sz
  refine Met.ofW (cc := b_Graph_isAhead) (maxL := 3) (ret := (some .boolean)) (by decide) rfl ?_
  intro p e s m args below meth c s₁ B hml hv
  obtain ⟨rfl, hsz, hP, hK, hD0⟩ := hv
  subst hsz
  have hD := hD0.self (sz := s.heap.size)
  generalize hAe : va_A [(q_t, .inr (2, [.ref q_t_from, .ref q_t_to, .ref q_t_weight, .ref q_t_order, .int t_nodes, .int t_numbered, .int t_size, .long t_present])), (q_t_weight, .inl (cI, 30, .inl t_weight))] s.heap.size = A at hD ⊢
  have C0 : CX p (headSpec ws_Graph_isAhead (rm_Graph_isAhead)).room s m _ meth c b_Graph_isAhead 3 R_Graph lw_g D CL (TYs cI cJ cG cZ) A 0 0 := ⟨B.exec, B.bytes, hml, findClass_of_methodNamed B.named, fun w h => atoms_spec (ws := ws_Graph_isAhead) B.pre w (List.mem_cons_of_mem _ h), hK, fun q h => by rw [← hAe]; exact Or.inr h, Nat.le_of_ble_eq_true rfl, Nat.le_of_ble_eq_true rfl, B.notSynchronized⟩
  have hl := lv_entry ([.ref q_t, .int p1, .int p2]) (n := 3) (Nat.le_of_ble_eq_true rfl)
  rw [lg_entry_eq]
  generalize (lg_sl ([.ref q_t, .int p1, .int p2]) ++ List.replicate (3 - (lg_sl ([.ref q_t, .int p1, .int p2])).length) Slot.unset).toArray = ls at hl ⊢
  have hl : lv_has ls 3 [(0, .ref q_t), (1, .int p1), (2, .int p2)] := hl
  exact w_Graph_isAhead_e C0 (fun pc ls H locs v hdg hz hP hD hS e => by cases e; exact W.zret B.exec B.bytes B.returns hz (fun t ht hW => ⟨⟨rfl, by rw [ht]; exact hP, va_K.moved hW.alike hK, hD⟩, hS.F ht⟩) hS.2.2 hdg) _ _ _ hP hD va_S.rf (lv_sub hl [0, 1, 2] rfl) hf
abbrev b_Graph_putInOrder : ByteArray := prog_5_method_13_code
def y_Graph_putInOrder : MethodName := ⟨R_Graph, "putInOrder", "(I)V"⟩
def ws_Graph_putInOrder : List Cond := .code y_Graph_putInOrder b_Graph_putInOrder 3 none :: lw_g
theorem wi_Graph_putInOrder : ∀ w ∈ ws_Graph_putInOrder, w ∈ lw_g := wi_of m_2_35
abbrev rm_Graph_putInOrder : Room := { frames := 1, cells := 0, slots := 0, locals := 22 }
theorem hd_Graph_putInOrder : y_Graph_putInOrder.cls = R_Graph ∧ y_Graph_putInOrder.cls ≠ "java/lang/invoke/MethodHandle" ∧ y_Graph_putInOrder.cls ≠ "java/lang/invoke/VarHandle" ∧ (parseMethodDescriptor y_Graph_putInOrder.desc).map (fun d => d.parameters.length) = some 1 := by decide +kernel
theorem d_Graph_putInOrder_0 : decode b_Graph_putInOrder 0 = .ok (.aload_n 0, 1) := by decide +kernel
theorem d_Graph_putInOrder_1 : decode b_Graph_putInOrder 1 = .ok (.getfield 44, 3) := by decide +kernel
theorem d_Graph_putInOrder_4 : decode b_Graph_putInOrder 4 = .ok (.istore_n 2, 1) := by decide +kernel
theorem d_Graph_putInOrder_5 : decode b_Graph_putInOrder 5 = .ok (.iload_n 2, 1) := by decide +kernel
theorem d_Graph_putInOrder_6 : decode b_Graph_putInOrder 6 = .ok (.ifCond .le 39, 3) := by decide +kernel
theorem d_Graph_putInOrder_9 : decode b_Graph_putInOrder 9 = .ok (.aload_n 0, 1) := by decide +kernel
theorem d_Graph_putInOrder_10 : decode b_Graph_putInOrder 10 = .ok (.iload_n 1, 1) := by decide +kernel
theorem d_Graph_putInOrder_11 : decode b_Graph_putInOrder 11 = .ok (.aload_n 0, 1) := by decide +kernel
theorem d_Graph_putInOrder_12 : decode b_Graph_putInOrder 12 = .ok (.getfield 21, 3) := by decide +kernel
theorem d_Graph_putInOrder_15 : decode b_Graph_putInOrder 15 = .ok (.iload_n 2, 1) := by decide +kernel
theorem d_Graph_putInOrder_16 : decode b_Graph_putInOrder 16 = .ok (.iconst 1, 1) := by decide +kernel
theorem d_Graph_putInOrder_17 : decode b_Graph_putInOrder 17 = .ok (.isub, 1) := by decide +kernel
theorem d_Graph_putInOrder_18 : decode b_Graph_putInOrder 18 = .ok (.iaload, 1) := by decide +kernel
theorem d_Graph_putInOrder_19 : decode b_Graph_putInOrder 19 = .ok (.invokevirtual 51, 3) := by decide +kernel
theorem d_Graph_putInOrder_22 : decode b_Graph_putInOrder 22 = .ok (.ifCond .eq 23, 3) := by decide +kernel
theorem d_Graph_putInOrder_25 : decode b_Graph_putInOrder 25 = .ok (.aload_n 0, 1) := by decide +kernel
theorem d_Graph_putInOrder_26 : decode b_Graph_putInOrder 26 = .ok (.getfield 21, 3) := by decide +kernel
theorem d_Graph_putInOrder_29 : decode b_Graph_putInOrder 29 = .ok (.iload_n 2, 1) := by decide +kernel
theorem d_Graph_putInOrder_30 : decode b_Graph_putInOrder 30 = .ok (.aload_n 0, 1) := by decide +kernel
theorem d_Graph_putInOrder_31 : decode b_Graph_putInOrder 31 = .ok (.getfield 21, 3) := by decide +kernel
theorem d_Graph_putInOrder_34 : decode b_Graph_putInOrder 34 = .ok (.iload_n 2, 1) := by decide +kernel
theorem d_Graph_putInOrder_35 : decode b_Graph_putInOrder 35 = .ok (.iconst 1, 1) := by decide +kernel
theorem d_Graph_putInOrder_36 : decode b_Graph_putInOrder 36 = .ok (.isub, 1) := by decide +kernel
theorem d_Graph_putInOrder_37 : decode b_Graph_putInOrder 37 = .ok (.iaload, 1) := by decide +kernel
theorem d_Graph_putInOrder_38 : decode b_Graph_putInOrder 38 = .ok (.iastore, 1) := by decide +kernel
theorem d_Graph_putInOrder_39 : decode b_Graph_putInOrder 39 = .ok (.iinc 2 (-1), 3) := by decide +kernel
theorem d_Graph_putInOrder_42 : decode b_Graph_putInOrder 42 = .ok (.goto (-37), 3) := by decide +kernel
theorem d_Graph_putInOrder_45 : decode b_Graph_putInOrder 45 = .ok (.aload_n 0, 1) := by decide +kernel
theorem d_Graph_putInOrder_46 : decode b_Graph_putInOrder 46 = .ok (.getfield 21, 3) := by decide +kernel
theorem d_Graph_putInOrder_49 : decode b_Graph_putInOrder 49 = .ok (.iload_n 2, 1) := by decide +kernel
theorem d_Graph_putInOrder_50 : decode b_Graph_putInOrder 50 = .ok (.iload_n 1, 1) := by decide +kernel
theorem d_Graph_putInOrder_51 : decode b_Graph_putInOrder 51 = .ok (.iastore, 1) := by decide +kernel
theorem d_Graph_putInOrder_52 : decode b_Graph_putInOrder 52 = .ok (.aload_n 0, 1) := by decide +kernel
theorem d_Graph_putInOrder_53 : decode b_Graph_putInOrder 53 = .ok (.dup, 1) := by decide +kernel
theorem d_Graph_putInOrder_54 : decode b_Graph_putInOrder 54 = .ok (.getfield 44, 3) := by decide +kernel
theorem d_Graph_putInOrder_57 : decode b_Graph_putInOrder 57 = .ok (.iconst 1, 1) := by decide +kernel
theorem d_Graph_putInOrder_58 : decode b_Graph_putInOrder 58 = .ok (.iadd, 1) := by decide +kernel
theorem d_Graph_putInOrder_59 : decode b_Graph_putInOrder 59 = .ok (.putfield 44, 3) := by decide +kernel
theorem d_Graph_putInOrder_62 : decode b_Graph_putInOrder 62 = .ok (.return_, 1) := by decide +kernel
def g_Graph_putInOrder_45 (p1 : Int32) (v2 : Int32) (t_order : Nat → Int32) (t_size : Int32) : Option ((Nat → Int32) × Int32) :=
  gd (inb v2 30) <|
  bn (t_size + (1 : Int32)) fun x1 =>
  some (upd t_order v2.toNatClampNeg p1, x1)
def g_Graph_putInOrder_5 (p1 : Int32) (t_weight : Nat → Int32) (k5 : Int32 → (Nat → Int32) → Int32 → Option ((Nat → Int32) × Int32)) (v2 : Int32) (t_order : Nat → Int32) (t_size : Int32) : Option ((Nat → Int32) × Int32) :=
  if v2 ≤ 0 then
    g_Graph_putInOrder_45 p1 v2 t_order t_size
  else
    gd (inb (v2 - (1 : Int32)) 30) <|
    bk1 (f_Graph_isAhead p1 (t_order (v2 - (1 : Int32)).toNatClampNeg) t_weight) fun r1 =>
    if r1 = 0 then
      g_Graph_putInOrder_45 p1 v2 t_order t_size
    else
      gd (inb (v2 - (1 : Int32)) 30) <|
      gd (inb v2 30) <|
      bn (v2 + (-1 : Int32)) fun x2 =>
      k5 x2 (upd t_order v2.toNatClampNeg (t_order (v2 - (1 : Int32)).toNatClampNeg)) t_size
def f_Graph_putInOrder (N : Nat) (p1 : Int32) (t_size0 : Int32) (t_order0 : Nat → Int32) (t_weight : Nat → Int32) : Option ((Nat → Int32) × Int32) :=
  lo3 (g_Graph_putInOrder_5 p1 t_weight) N t_size0 t_order0 t_size0
set_option maxRecDepth 100000 in
set_option maxHeartbeats 4000000 in
theorem w_Graph_putInOrder_45 {p : Program} {l : Launch} {e : Env} {R : Room} {s : State} {m : MethodId} {args : Array Value} {below : List Frame} {meth : Method} {c : Code} {D : va_G} {cI cJ cG cZ : ClassId} {A : Nat → Prop} {Q : State → Prop} {q_t q_t_from q_t_to q_t_weight q_t_order : Nat} {t_nodes : Int32} {t_numbered : Int32} {t_present : Int64} {t_weight : Nat → Int32} {p1 : Int32} {RR : (Nat → Int32) × Int32} (C0 : CX p R s m args meth c b_Graph_putInOrder 3 R_Graph lw_g D CL (TYs cI cJ cG cZ) A 1 22) (hret : ∀ (pc : Nat) (ls : Array Slot) (H : Heap) (locs : List Loc) (t_order : Nat → Int32) (t_size : Int32), decode b_Graph_putInOrder pc = .ok (.return_, 1) → va_P D CL [(q_t, .inr (2, [.ref q_t_from, .ref q_t_to, .ref q_t_weight, .ref q_t_order, .int t_nodes, .int t_numbered, .int t_size, .long t_present])), (q_t_order, .inl (cI, 30, .inl t_order)), (q_t_weight, .inl (cI, 30, .inl t_weight))] H → va_D A [(q_t, .inr (2, [.ref q_t_from, .ref q_t_to, .ref q_t_weight, .ref q_t_order, .int t_nodes, .int t_numbered, .int t_size, .long t_present])), (q_t_order, .inl (cI, 30, .inl t_order)), (q_t_weight, .inl (cI, 30, .inl t_weight))] → va_S A s.heap H locs → some (t_order, t_size) = some RR → W p l e R s m args below meth c H locs 0 0 Q (F0 m pc ls []))  : ∀ (v2 : Int32) (t_order : Nat → Int32) (t_size : Int32) (H : Heap) (locs : List Loc) (ls : Array Slot), va_P D CL [(q_t, .inr (2, [.ref q_t_from, .ref q_t_to, .ref q_t_weight, .ref q_t_order, .int t_nodes, .int t_numbered, .int t_size, .long t_present])), (q_t_order, .inl (cI, 30, .inl t_order)), (q_t_weight, .inl (cI, 30, .inl t_weight))] H → va_D A [(q_t, .inr (2, [.ref q_t_from, .ref q_t_to, .ref q_t_weight, .ref q_t_order, .int t_nodes, .int t_numbered, .int t_size, .long t_present])), (q_t_order, .inl (cI, 30, .inl t_order)), (q_t_weight, .inl (cI, 30, .inl t_weight))] → va_S A s.heap H locs → lv_has ls 3 [(0, .ref q_t), (1, .int p1), (2, .int v2)] → g_Graph_putInOrder_45 p1 v2 t_order t_size = some RR → W p l e R s m args below meth c H locs 0 0 Q (F0 m 45 ls []) := by
  intro v2 t_order t_size H locs ls hP hD hS hl hf
  obtain ⟨hx, hb, hml, hown, hts, hK, hA, hfr, hlo, hlk⟩ := id C0
  unfold g_Graph_putInOrder_45 at hf
  refine lv_aload_n hx hb d_Graph_putInOrder_45 rfl (lv_at hl 0 rfl) ?_
  refine va_get (D := D) (ci := 2) (v := .ref q_t_order) (C := R_Graph) (T := F_Graph) (N := 8) hx hb hts i_Graph hown hK hP 0 rfl rfl 3 (by decide) (hts _ m_1_44) (fun _ h9 => h9) rfl d_Graph_putInOrder_46 ?_
  refine lv_iload_n hx hb d_Graph_putInOrder_49 rfl (lv_at hl 2 rfl) ?_
  refine lv_iload_n hx hb d_Graph_putInOrder_50 rfl (lv_at hl 1 rfl) ?_
  obtain ⟨hg1, hf⟩ := gd_e hf
  refine va_iast hx hb hK hP hD hS 1 0 rfl rfl (inb_e hg1) d_Graph_putInOrder_51 (fun H locs hP hD hS => ?_)
  have hP : va_P D CL [(q_t, .inr (2, [.ref q_t_from, .ref q_t_to, .ref q_t_weight, .ref q_t_order, .int t_nodes, .int t_numbered, .int t_size, .long t_present])), (q_t_order, .inl (cI, 30, .inl (upd t_order v2.toNatClampNeg p1))), (q_t_weight, .inl (cI, 30, .inl t_weight))] H := hP
  have hD : va_D A [(q_t, .inr (2, [.ref q_t_from, .ref q_t_to, .ref q_t_weight, .ref q_t_order, .int t_nodes, .int t_numbered, .int t_size, .long t_present])), (q_t_order, .inl (cI, 30, .inl (upd t_order v2.toNatClampNeg p1))), (q_t_weight, .inl (cI, 30, .inl t_weight))] := hD
  refine lv_aload_n hx hb d_Graph_putInOrder_52 rfl (lv_at hl 0 rfl) ?_
  refine lv_dup hx hb d_Graph_putInOrder_53 rfl ?_
  refine va_get (D := D) (ci := 2) (v := .int t_size) (C := R_Graph) (T := F_Graph) (N := 8) hx hb hts i_Graph hown hK hP 0 rfl rfl 6 (by decide) (hts _ m_1_60) (fun _ h9 => h9) rfl d_Graph_putInOrder_54 ?_
  refine lv_iconst (v := 1) hx hb d_Graph_putInOrder_57 (by decide) ?_
  refine lv_iadd hx hb d_Graph_putInOrder_58 ?_
  refine lv_topi (fun x1 ex1 => ?_)
  have hf := bn_e ex1 hf
  refine va_put (D := D) (ci := 2) (v := .int x1) (ty := .int) (C := R_Graph) (T := F_Graph) (N := 8) hx hb hts i_Graph t_Graph to_Graph n_Graph hown hK hP hD hS 0 rfl rfl 6 (by decide) (hts _ m_1_60) (fun _ h9 => h9) rfl (by decide +kernel) rfl rfl (Nat.le_of_ble_eq_true rfl) d_Graph_putInOrder_59 (fun H locs hP hD hS => ?_)
  have hP : va_P D CL [(q_t, .inr (2, [.ref q_t_from, .ref q_t_to, .ref q_t_weight, .ref q_t_order, .int t_nodes, .int t_numbered, .int x1, .long t_present])), (q_t_order, .inl (cI, 30, .inl (upd t_order v2.toNatClampNeg p1))), (q_t_weight, .inl (cI, 30, .inl t_weight))] H := hP
  have hD : va_D A [(q_t, .inr (2, [.ref q_t_from, .ref q_t_to, .ref q_t_weight, .ref q_t_order, .int t_nodes, .int t_numbered, .int x1, .long t_present])), (q_t_order, .inl (cI, 30, .inl (upd t_order v2.toNatClampNeg p1))), (q_t_weight, .inl (cI, 30, .inl t_weight))] := hD
  exact hret 62 _ _ _ (upd t_order v2.toNatClampNeg p1) x1 d_Graph_putInOrder_62 hP hD hS hf
set_option maxRecDepth 100000 in
set_option maxHeartbeats 4000000 in
theorem w_Graph_putInOrder_5 {p : Program} {l : Launch} {e : Env} {R : Room} {s : State} {m : MethodId} {args : Array Value} {below : List Frame} {meth : Method} {c : Code} {D : va_G} {cI cJ cG cZ : ClassId} {A : Nat → Prop} {Q : State → Prop} {q_t q_t_from q_t_to q_t_weight q_t_order : Nat} {t_nodes : Int32} {t_numbered : Int32} {t_present : Int64} {t_weight : Nat → Int32} {p1 : Int32} {RR : (Nat → Int32) × Int32} (C0 : CX p R s m args meth c b_Graph_putInOrder 3 R_Graph lw_g D CL (TYs cI cJ cG cZ) A 1 22) (hret : ∀ (pc : Nat) (ls : Array Slot) (H : Heap) (locs : List Loc) (t_order : Nat → Int32) (t_size : Int32), decode b_Graph_putInOrder pc = .ok (.return_, 1) → va_P D CL [(q_t, .inr (2, [.ref q_t_from, .ref q_t_to, .ref q_t_weight, .ref q_t_order, .int t_nodes, .int t_numbered, .int t_size, .long t_present])), (q_t_order, .inl (cI, 30, .inl t_order)), (q_t_weight, .inl (cI, 30, .inl t_weight))] H → va_D A [(q_t, .inr (2, [.ref q_t_from, .ref q_t_to, .ref q_t_weight, .ref q_t_order, .int t_nodes, .int t_numbered, .int t_size, .long t_present])), (q_t_order, .inl (cI, 30, .inl t_order)), (q_t_weight, .inl (cI, 30, .inl t_weight))] → va_S A s.heap H locs → some (t_order, t_size) = some RR → W p l e R s m args below meth c H locs 0 0 Q (F0 m pc ls [])) (k5 : Int32 → (Nat → Int32) → Int32 → Option ((Nat → Int32) × Int32)) (hk5 : ∀ (v2 : Int32) (t_order : Nat → Int32) (t_size : Int32) (H : Heap) (locs : List Loc) (ls : Array Slot), va_P D CL [(q_t, .inr (2, [.ref q_t_from, .ref q_t_to, .ref q_t_weight, .ref q_t_order, .int t_nodes, .int t_numbered, .int t_size, .long t_present])), (q_t_order, .inl (cI, 30, .inl t_order)), (q_t_weight, .inl (cI, 30, .inl t_weight))] H → va_D A [(q_t, .inr (2, [.ref q_t_from, .ref q_t_to, .ref q_t_weight, .ref q_t_order, .int t_nodes, .int t_numbered, .int t_size, .long t_present])), (q_t_order, .inl (cI, 30, .inl t_order)), (q_t_weight, .inl (cI, 30, .inl t_weight))] → va_S A s.heap H locs → lv_has ls 3 [(0, .ref q_t), (1, .int p1), (2, .int v2)] → k5 v2 t_order t_size = some RR → W p l e R s m args below meth c H locs 0 0 Q (F0 m 5 ls [])) : ∀ (v2 : Int32) (t_order : Nat → Int32) (t_size : Int32) (H : Heap) (locs : List Loc) (ls : Array Slot), va_P D CL [(q_t, .inr (2, [.ref q_t_from, .ref q_t_to, .ref q_t_weight, .ref q_t_order, .int t_nodes, .int t_numbered, .int t_size, .long t_present])), (q_t_order, .inl (cI, 30, .inl t_order)), (q_t_weight, .inl (cI, 30, .inl t_weight))] H → va_D A [(q_t, .inr (2, [.ref q_t_from, .ref q_t_to, .ref q_t_weight, .ref q_t_order, .int t_nodes, .int t_numbered, .int t_size, .long t_present])), (q_t_order, .inl (cI, 30, .inl t_order)), (q_t_weight, .inl (cI, 30, .inl t_weight))] → va_S A s.heap H locs → lv_has ls 3 [(0, .ref q_t), (1, .int p1), (2, .int v2)] → g_Graph_putInOrder_5 p1 t_weight k5 v2 t_order t_size = some RR → W p l e R s m args below meth c H locs 0 0 Q (F0 m 5 ls []) := by
  intro v2 t_order t_size H locs ls hP hD hS hl hf
  obtain ⟨hx, hb, hml, hown, hts, hK, hA, hfr, hlo, hlk⟩ := id C0
  unfold g_Graph_putInOrder_5 at hf
  refine lv_iload_n hx hb d_Graph_putInOrder_5 rfl (lv_at hl 2 rfl) ?_
  refine lv_if_le (tgt := 45) hx hb d_Graph_putInOrder_6 (by decide) (fun hc1 => ?_) (fun hc1 => ?_)
  · have hf := if_t hc1 hf
    exact w_Graph_putInOrder_45 C0 hret  v2 t_order t_size _ _ _ hP hD hS (lv_sub hl [0, 1, 2] rfl) hf
  · have hf := if_f hc1 hf
    refine lv_aload_n hx hb d_Graph_putInOrder_9 rfl (lv_at hl 0 rfl) ?_
    refine lv_iload_n hx hb d_Graph_putInOrder_10 rfl (lv_at hl 1 rfl) ?_
    refine lv_aload_n hx hb d_Graph_putInOrder_11 rfl (lv_at hl 0 rfl) ?_
    refine va_get (D := D) (ci := 2) (v := .ref q_t_order) (C := R_Graph) (T := F_Graph) (N := 8) hx hb hts i_Graph hown hK hP 0 rfl rfl 3 (by decide) (hts _ m_1_44) (fun _ h9 => h9) rfl d_Graph_putInOrder_12 ?_
    refine lv_iload_n hx hb d_Graph_putInOrder_15 rfl (lv_at hl 2 rfl) ?_
    refine lv_iconst (v := 1) hx hb d_Graph_putInOrder_16 (by decide) ?_
    refine lv_isub hx hb d_Graph_putInOrder_17 ?_
    obtain ⟨hg1, hf⟩ := gd_e hf
    refine va_iald hx hb hK hP 1 0 rfl rfl (inb_e hg1) d_Graph_putInOrder_18 ?_
    obtain ⟨r1, hq1, hf⟩ := bk1_e hf
    refine cl_go (wr := [(q_t_order, .inl (cI, 30, .inl t_order))]) (W1 := [(q_t, .inr (2, [.ref q_t_from, .ref q_t_to, .ref q_t_weight, .ref q_t_order, .int t_nodes, .int t_numbered, .int t_size, .long t_present])), (q_t_order, .inl (cI, 30, .inl t_order)), (q_t_weight, .inl (cI, 30, .inl t_weight))]) (va_runV (As := [.int p1, .int (t_order (v2 - (1 : Int32)).toNatClampNeg)]) (rest := []) ⟨hx, hb, hml, hown, hts⟩ (c_Graph_isAhead l D cI cJ cG cZ q_t q_t_from q_t_to q_t_weight q_t_order t_nodes t_numbered t_size t_present t_weight p1 (t_order (v2 - (1 : Int32)).toNatClampNeg) hq1 H.size) (cwV 2 hts (gi_V m_2_36 m_2_38 m_0_1 m_1_2 wi_Graph_isAhead) rfl rfl rfl hd_Graph_isAhead ⟨Nat.le_trans (Nat.le_of_ble_eq_true rfl) hfr, Nat.le_trans (Nat.le_of_ble_eq_true rfl) hlo⟩) ⟨pw_blind, va_recv hK hP (ci := 2) (q0 := 0) rfl rfl, fun U hU hW => ⟨rfl, pw_in hU (hP.sub [0, 2] rfl) (va_K.moved hW.alike hK) ((hD.sub [0, 2] rfl rfl).weaken (fun _ _ _ _ => trivial))⟩⟩ rfl rfl hl.1 rfl (lv_room (Nat.le_of_ble_eq_true rfl)) d_Graph_putInOrder_19 ⟨Nat.zero_le _, Nat.zero_le _⟩) hP hD hS hA [0, 2] [1] rfl rfl rfl rfl [1, 0, 2] rfl rfl (fun H locs hP hD hS => ?_)
    have hP : va_P D CL [(q_t, .inr (2, [.ref q_t_from, .ref q_t_to, .ref q_t_weight, .ref q_t_order, .int t_nodes, .int t_numbered, .int t_size, .long t_present])), (q_t_order, .inl (cI, 30, .inl t_order)), (q_t_weight, .inl (cI, 30, .inl t_weight))] H := hP
    have hD : va_D A [(q_t, .inr (2, [.ref q_t_from, .ref q_t_to, .ref q_t_weight, .ref q_t_order, .int t_nodes, .int t_numbered, .int t_size, .long t_present])), (q_t_order, .inl (cI, 30, .inl t_order)), (q_t_weight, .inl (cI, 30, .inl t_weight))] := hD
    refine lv_if_eq (tgt := 45) hx hb d_Graph_putInOrder_22 (by decide) (fun hc2 => ?_) (fun hc2 => ?_)
    · have hf := if_t hc2 hf
      exact w_Graph_putInOrder_45 C0 hret  v2 t_order t_size _ _ _ hP hD hS (lv_sub hl [0, 1, 2] rfl) hf
    · have hf := if_f hc2 hf
      refine lv_aload_n hx hb d_Graph_putInOrder_25 rfl (lv_at hl 0 rfl) ?_
      refine va_get (D := D) (ci := 2) (v := .ref q_t_order) (C := R_Graph) (T := F_Graph) (N := 8) hx hb hts i_Graph hown hK hP 0 rfl rfl 3 (by decide) (hts _ m_1_44) (fun _ h9 => h9) rfl d_Graph_putInOrder_26 ?_
      refine lv_iload_n hx hb d_Graph_putInOrder_29 rfl (lv_at hl 2 rfl) ?_
      refine lv_aload_n hx hb d_Graph_putInOrder_30 rfl (lv_at hl 0 rfl) ?_
      refine va_get (D := D) (ci := 2) (v := .ref q_t_order) (C := R_Graph) (T := F_Graph) (N := 8) hx hb hts i_Graph hown hK hP 0 rfl rfl 3 (by decide) (hts _ m_1_44) (fun _ h9 => h9) rfl d_Graph_putInOrder_31 ?_
      refine lv_iload_n hx hb d_Graph_putInOrder_34 rfl (lv_at hl 2 rfl) ?_
      refine lv_iconst (v := 1) hx hb d_Graph_putInOrder_35 (by decide) ?_
      refine lv_isub hx hb d_Graph_putInOrder_36 ?_
      obtain ⟨hg2, hf⟩ := gd_e hf
      refine va_iald hx hb hK hP 1 0 rfl rfl (inb_e hg2) d_Graph_putInOrder_37 ?_
      obtain ⟨hg3, hf⟩ := gd_e hf
      refine va_iast hx hb hK hP hD hS 1 0 rfl rfl (inb_e hg3) d_Graph_putInOrder_38 (fun H locs hP hD hS => ?_)
      have hP : va_P D CL [(q_t, .inr (2, [.ref q_t_from, .ref q_t_to, .ref q_t_weight, .ref q_t_order, .int t_nodes, .int t_numbered, .int t_size, .long t_present])), (q_t_order, .inl (cI, 30, .inl (upd t_order v2.toNatClampNeg (t_order (v2 - (1 : Int32)).toNatClampNeg)))), (q_t_weight, .inl (cI, 30, .inl t_weight))] H := hP
      have hD : va_D A [(q_t, .inr (2, [.ref q_t_from, .ref q_t_to, .ref q_t_weight, .ref q_t_order, .int t_nodes, .int t_numbered, .int t_size, .long t_present])), (q_t_order, .inl (cI, 30, .inl (upd t_order v2.toNatClampNeg (t_order (v2 - (1 : Int32)).toNatClampNeg)))), (q_t_weight, .inl (cI, 30, .inl t_weight))] := hD
      obtain ⟨x2, ex2⟩ : ∃ y : Int32, y = v2 + (-1 : Int32) := ⟨_, rfl⟩
      have hf := bn_e ex2 hf
      refine lv_iinc (v := x2) (lv' := [(2, .int x2), (0, .ref q_t), (1, .int p1)]) hx hb d_Graph_putInOrder_39 hl (k := 2) rfl (by rw [ex2]; rfl) (by decide) rfl (fun ls hl => ?_)
      refine lv_goto (tgt := 5) hx hb d_Graph_putInOrder_42 (by decide) ?_
      exact hk5 x2 (upd t_order v2.toNatClampNeg (t_order (v2 - (1 : Int32)).toNatClampNeg)) t_size _ _ _ hP hD hS (lv_sub hl [1, 2, 0] rfl) hf
set_option maxRecDepth 100000 in
set_option maxHeartbeats 4000000 in
theorem w_Graph_putInOrder_5_l {p : Program} {l : Launch} {e : Env} {R : Room} {s : State} {m : MethodId} {args : Array Value} {below : List Frame} {meth : Method} {c : Code} {D : va_G} {cI cJ cG cZ : ClassId} {A : Nat → Prop} {Q : State → Prop} {q_t q_t_from q_t_to q_t_weight q_t_order : Nat} {t_nodes : Int32} {t_numbered : Int32} {t_present : Int64} {t_weight : Nat → Int32} {p1 : Int32} {RR : (Nat → Int32) × Int32} (C0 : CX p R s m args meth c b_Graph_putInOrder 3 R_Graph lw_g D CL (TYs cI cJ cG cZ) A 1 22) (hret : ∀ (pc : Nat) (ls : Array Slot) (H : Heap) (locs : List Loc) (t_order : Nat → Int32) (t_size : Int32), decode b_Graph_putInOrder pc = .ok (.return_, 1) → va_P D CL [(q_t, .inr (2, [.ref q_t_from, .ref q_t_to, .ref q_t_weight, .ref q_t_order, .int t_nodes, .int t_numbered, .int t_size, .long t_present])), (q_t_order, .inl (cI, 30, .inl t_order)), (q_t_weight, .inl (cI, 30, .inl t_weight))] H → va_D A [(q_t, .inr (2, [.ref q_t_from, .ref q_t_to, .ref q_t_weight, .ref q_t_order, .int t_nodes, .int t_numbered, .int t_size, .long t_present])), (q_t_order, .inl (cI, 30, .inl t_order)), (q_t_weight, .inl (cI, 30, .inl t_weight))] → va_S A s.heap H locs → some (t_order, t_size) = some RR → W p l e R s m args below meth c H locs 0 0 Q (F0 m pc ls []))  : ∀ (n : Nat) (v2 : Int32) (t_order : Nat → Int32) (t_size : Int32) (H : Heap) (locs : List Loc) (ls : Array Slot), va_P D CL [(q_t, .inr (2, [.ref q_t_from, .ref q_t_to, .ref q_t_weight, .ref q_t_order, .int t_nodes, .int t_numbered, .int t_size, .long t_present])), (q_t_order, .inl (cI, 30, .inl t_order)), (q_t_weight, .inl (cI, 30, .inl t_weight))] H → va_D A [(q_t, .inr (2, [.ref q_t_from, .ref q_t_to, .ref q_t_weight, .ref q_t_order, .int t_nodes, .int t_numbered, .int t_size, .long t_present])), (q_t_order, .inl (cI, 30, .inl t_order)), (q_t_weight, .inl (cI, 30, .inl t_weight))] → va_S A s.heap H locs → lv_has ls 3 [(0, .ref q_t), (1, .int p1), (2, .int v2)] → lo3 (g_Graph_putInOrder_5 p1 t_weight) n v2 t_order t_size = some RR → W p l e R s m args below meth c H locs 0 0 Q (F0 m 5 ls []) := by
  intro n
  induction n with
  | zero =>
    intro v2 t_order t_size H locs ls hP hD hS hl hf
    exact absurd hf (by simp [lo3])
  | succ n ih =>
    intro v2 t_order t_size H locs ls hP hD hS hl hf
    exact w_Graph_putInOrder_5 C0 hret  (lo3 (g_Graph_putInOrder_5 p1 t_weight) n) ih v2 t_order t_size H locs ls hP hD hS hl hf
set_option maxRecDepth 100000 in
set_option maxHeartbeats 4000000 in
theorem w_Graph_putInOrder_e {p : Program} {l : Launch} {e : Env} {R : Room} {s : State} {m : MethodId} {args : Array Value} {below : List Frame} {meth : Method} {c : Code} {D : va_G} {cI cJ cG cZ : ClassId} {A : Nat → Prop} {Q : State → Prop} {q_t q_t_from q_t_to q_t_weight q_t_order : Nat} {t_nodes : Int32} {t_numbered : Int32} {t_size0 : Int32} {t_present : Int64} {t_order0 : Nat → Int32} {t_weight : Nat → Int32} {p1 : Int32} {N : Nat} {RR : (Nat → Int32) × Int32} (C0 : CX p R s m args meth c b_Graph_putInOrder 3 R_Graph lw_g D CL (TYs cI cJ cG cZ) A 1 22) (hret : ∀ (pc : Nat) (ls : Array Slot) (H : Heap) (locs : List Loc) (t_order : Nat → Int32) (t_size : Int32), decode b_Graph_putInOrder pc = .ok (.return_, 1) → va_P D CL [(q_t, .inr (2, [.ref q_t_from, .ref q_t_to, .ref q_t_weight, .ref q_t_order, .int t_nodes, .int t_numbered, .int t_size, .long t_present])), (q_t_order, .inl (cI, 30, .inl t_order)), (q_t_weight, .inl (cI, 30, .inl t_weight))] H → va_D A [(q_t, .inr (2, [.ref q_t_from, .ref q_t_to, .ref q_t_weight, .ref q_t_order, .int t_nodes, .int t_numbered, .int t_size, .long t_present])), (q_t_order, .inl (cI, 30, .inl t_order)), (q_t_weight, .inl (cI, 30, .inl t_weight))] → va_S A s.heap H locs → some (t_order, t_size) = some RR → W p l e R s m args below meth c H locs 0 0 Q (F0 m pc ls [])) : ∀ (H : Heap) (locs : List Loc) (ls : Array Slot), va_P D CL [(q_t, .inr (2, [.ref q_t_from, .ref q_t_to, .ref q_t_weight, .ref q_t_order, .int t_nodes, .int t_numbered, .int t_size0, .long t_present])), (q_t_order, .inl (cI, 30, .inl t_order0)), (q_t_weight, .inl (cI, 30, .inl t_weight))] H → va_D A [(q_t, .inr (2, [.ref q_t_from, .ref q_t_to, .ref q_t_weight, .ref q_t_order, .int t_nodes, .int t_numbered, .int t_size0, .long t_present])), (q_t_order, .inl (cI, 30, .inl t_order0)), (q_t_weight, .inl (cI, 30, .inl t_weight))] → va_S A s.heap H locs → lv_has ls 3 [(0, .ref q_t), (1, .int p1)] → f_Graph_putInOrder N p1 t_size0 t_order0 t_weight = some RR → W p l e R s m args below meth c H locs 0 0 Q (F0 m 0 ls []) := by
  intro H locs ls hP hD hS hl hf
  obtain ⟨hx, hb, hml, hown, hts, hK, hA, hfr, hlo, hlk⟩ := id C0
  unfold f_Graph_putInOrder at hf
  refine lv_aload_n hx hb d_Graph_putInOrder_0 rfl (lv_at hl 0 rfl) ?_
  refine va_get (D := D) (ci := 2) (v := .int t_size0) (C := R_Graph) (T := F_Graph) (N := 8) hx hb hts i_Graph hown hK hP 0 rfl rfl 6 (by decide) (hts _ m_1_60) (fun _ h9 => h9) rfl d_Graph_putInOrder_1 ?_
  refine lv_istore_n (lv' := [(2, .int t_size0), (0, .ref q_t), (1, .int p1)]) hx hb d_Graph_putInOrder_4 rfl hl (by decide) rfl (fun ls hl => ?_)
  exact w_Graph_putInOrder_5_l C0 hret N t_size0 t_order0 t_size0 _ _ _ hP hD hS (lv_sub hl [1, 2, 0] rfl) hf
set_option maxRecDepth 100000 in
set_option maxHeartbeats 4000000 in
theorem c_Graph_putInOrder (l : Launch) (D : va_G) (cI cJ cG cZ : ClassId) (q_t q_t_from q_t_to q_t_weight q_t_order : Nat) (t_nodes : Int32) (t_numbered : Int32) (t_size0 : Int32) (t_present : Int64) (t_order0 : Nat → Int32) (t_weight : Nat → Int32) (p1 : Int32) {N : Nat} {t_order' : Nat → Int32} {t_size' : Int32} (hf : f_Graph_putInOrder N p1 t_size0 t_order0 t_weight = some (t_order', t_size')) : MeG l D CL (TYs cI cJ cG cZ) y_Graph_putInOrder ws_Graph_putInOrder (rm_Graph_putInOrder) [.ref q_t, .int p1] [(q_t, .inr (2, [.ref q_t_from, .ref q_t_to, .ref q_t_weight, .ref q_t_order, .int t_nodes, .int t_numbered, .int t_size0, .long t_present])), (q_t_order, .inl (cI, 30, .inl t_order0)), (q_t_weight, .inl (cI, 30, .inl t_weight))] none [(q_t, .inr (2, [.ref q_t_from, .ref q_t_to, .ref q_t_weight, .ref q_t_order, .int t_nodes, .int t_numbered, .int t_size', .long t_present])), (q_t_order, .inl (cI, 30, .inl t_order')), (q_t_weight, .inl (cI, 30, .inl t_weight))] := by
  intro sz
  refine Met.ofW (cc := b_Graph_putInOrder) (maxL := 3) (ret := none) (by decide) rfl ?_
  intro p e s m args below meth c s₁ B hml hv
  obtain ⟨rfl, hsz, hP, hK, hD0⟩ := hv
  subst hsz
  have hD := hD0.self (sz := s.heap.size)
  generalize hAe : va_A [(q_t, .inr (2, [.ref q_t_from, .ref q_t_to, .ref q_t_weight, .ref q_t_order, .int t_nodes, .int t_numbered, .int t_size0, .long t_present])), (q_t_order, .inl (cI, 30, .inl t_order0)), (q_t_weight, .inl (cI, 30, .inl t_weight))] s.heap.size = A at hD ⊢
  have C0 : CX p (headSpec ws_Graph_putInOrder (rm_Graph_putInOrder)).room s m _ meth c b_Graph_putInOrder 3 R_Graph lw_g D CL (TYs cI cJ cG cZ) A 1 22 := ⟨B.exec, B.bytes, hml, findClass_of_methodNamed B.named, fun w h => atoms_spec (ws := ws_Graph_putInOrder) B.pre w (List.mem_cons_of_mem _ h), hK, fun q h => by rw [← hAe]; exact Or.inr h, Nat.le_of_ble_eq_true rfl, Nat.le_of_ble_eq_true rfl, B.notSynchronized⟩
  have hl := lv_entry ([.ref q_t, .int p1]) (n := 3) (Nat.le_of_ble_eq_true rfl)
  rw [lg_entry_eq]
  generalize (lg_sl ([.ref q_t, .int p1]) ++ List.replicate (3 - (lg_sl ([.ref q_t, .int p1])).length) Slot.unset).toArray = ls at hl ⊢
  have hl : lv_has ls 3 [(0, .ref q_t), (1, .int p1)] := hl
  exact w_Graph_putInOrder_e C0 (fun pc ls H locs t_order t_size hdg hP hD hS e => by cases e; exact W.vret B.exec B.bytes B.returns (fun t ht hW => ⟨⟨rfl, by rw [ht]; exact hP, va_K.moved hW.alike hK, hD⟩, hS.F ht⟩) hS.2.2 hdg) _ _ _ hP hD va_S.rf (lv_sub hl [0, 1] rfl) hf
