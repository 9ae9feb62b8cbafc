abbrev b_Graph_addNode : ByteArray := prog_5_method_2_code
def y_Graph_addNode : MethodName := ⟨R_Graph, "addNode", "()I"⟩
def ws_Graph_addNode : List Cond := .code y_Graph_addNode b_Graph_addNode 1 (some .int) :: lw_g
theorem wi_Graph_addNode : ∀ w ∈ ws_Graph_addNode, w ∈ lw_g := wi_of m_2_16
abbrev rm_Graph_addNode : Room := { frames := 0, cells := 0, slots := 0, locals := 0 }
theorem hd_Graph_addNode : y_Graph_addNode.cls = R_Graph ∧ y_Graph_addNode.cls ≠ "java/lang/invoke/MethodHandle" ∧ y_Graph_addNode.cls ≠ "java/lang/invoke/VarHandle" ∧ (parseMethodDescriptor y_Graph_addNode.desc).map (fun d => d.parameters.length) = some 0 := by decide +kernel
theorem d_Graph_addNode_0 : decode b_Graph_addNode 0 = .ok (.aload_n 0, 1) := by decide +kernel
theorem d_Graph_addNode_1 : decode b_Graph_addNode 1 = .ok (.dup, 1) := by decide +kernel
theorem d_Graph_addNode_2 : decode b_Graph_addNode 2 = .ok (.getfield 24, 3) := by decide +kernel
theorem d_Graph_addNode_5 : decode b_Graph_addNode 5 = .ok (.iconst 1, 1) := by decide +kernel
theorem d_Graph_addNode_6 : decode b_Graph_addNode 6 = .ok (.iadd, 1) := by decide +kernel
theorem d_Graph_addNode_7 : decode b_Graph_addNode 7 = .ok (.putfield 24, 3) := by decide +kernel
theorem d_Graph_addNode_10 : decode b_Graph_addNode 10 = .ok (.aload_n 0, 1) := by decide +kernel
theorem d_Graph_addNode_11 : decode b_Graph_addNode 11 = .ok (.getfield 24, 3) := by decide +kernel
theorem d_Graph_addNode_14 : decode b_Graph_addNode 14 = .ok (.iconst 1, 1) := by decide +kernel
theorem d_Graph_addNode_15 : decode b_Graph_addNode 15 = .ok (.isub, 1) := by decide +kernel
theorem d_Graph_addNode_16 : decode b_Graph_addNode 16 = .ok (.ireturn, 1) := by decide +kernel
def f_Graph_addNode (t_nodes0 : Int32) : Option (Int32 × Int32) :=
  bn (t_nodes0 + (1 : Int32)) fun x1 =>
  some (x1 - (1 : Int32), x1)
set_option maxRecDepth 100000 in
set_option maxHeartbeats 4000000 in
theorem w_Graph_addNode_e {p : Program} {l : Launch} {e : Env} {R : Room} {s : State} {m : MethodId} {args : Array Value} {below : List Frame} {meth : Method} {c : Code} {D : va_G} {cI cJ cG cZ : ClassId} {A : Nat → Prop} {Q : State → Prop} {q_t q_t_from q_t_to q_t_weight q_t_order : Nat} {t_nodes0 : Int32} {t_numbered : Int32} {t_size : Int32} {t_present : Int64} {RR : Int32 × Int32} (C0 : CX p R s m args meth c b_Graph_addNode 1 R_Graph lw_g D CL (TYs cI cJ cG cZ) A 0 0) (hret : ∀ (pc : Nat) (ls : Array Slot) (H : Heap) (locs : List Loc) (v : Int32) (t_nodes : Int32), decode b_Graph_addNode pc = .ok (.ireturn, 1) → va_P D CL [(q_t, .inr (2, [.ref q_t_from, .ref q_t_to, .ref q_t_weight, .ref q_t_order, .int t_nodes, .int t_numbered, .int t_size, .long t_present]))] H → va_D A [(q_t, .inr (2, [.ref q_t_from, .ref q_t_to, .ref q_t_weight, .ref q_t_order, .int t_nodes, .int t_numbered, .int t_size, .long t_present]))] → va_S A s.heap H locs → some (v, t_nodes) = some RR → W p l e R s m args below meth c H locs 0 0 Q (F0 m pc ls [.int v])) : ∀ (H : Heap) (locs : List Loc) (ls : Array Slot), va_P D CL [(q_t, .inr (2, [.ref q_t_from, .ref q_t_to, .ref q_t_weight, .ref q_t_order, .int t_nodes0, .int t_numbered, .int t_size, .long t_present]))] H → va_D A [(q_t, .inr (2, [.ref q_t_from, .ref q_t_to, .ref q_t_weight, .ref q_t_order, .int t_nodes0, .int t_numbered, .int t_size, .long t_present]))] → va_S A s.heap H locs → lv_has ls 1 [(0, .ref q_t)] → f_Graph_addNode t_nodes0 = some RR → W p l e R s m args below meth c H locs 0 0 Q (F0 m 0 ls []) := by
  intro H locs ls hP hD hS hl hf
  obtain ⟨hx, hb, hml, hown, hts, hK, hA, hfr, hlo, hlk⟩ := id C0
  unfold f_Graph_addNode at hf
  refine lv_aload_n hx hb d_Graph_addNode_0 rfl (lv_at hl 0 rfl) ?_
  refine lv_dup hx hb d_Graph_addNode_1 rfl ?_
  refine va_get (D := D) (ci := 2) (v := .int t_nodes0) (C := R_Graph) (T := F_Graph) (N := 8) hx hb hts i_Graph hown hK hP 0 rfl rfl 4 (by decide) (hts _ m_1_49) (fun _ h9 => h9) rfl d_Graph_addNode_2 ?_
  refine lv_iconst (v := 1) hx hb d_Graph_addNode_5 (by decide) ?_
  refine lv_iadd hx hb d_Graph_addNode_6 ?_
  refine lv_topi (fun x1 ex1 => ?_)
  have hf := bn_e ex1 hf
  refine va_put (D := D) (ci := 2) (v := .int x1) (ty := .int) (C := R_Graph) (T := F_Graph) (N := 8) hx hb hts i_Graph t_Graph to_Graph n_Graph hown hK hP hD hS 0 rfl rfl 4 (by decide) (hts _ m_1_49) (fun _ h9 => h9) rfl (by decide +kernel) rfl rfl (Nat.le_of_ble_eq_true rfl) d_Graph_addNode_7 (fun H locs hP hD hS => ?_)
  have hP : va_P D CL [(q_t, .inr (2, [.ref q_t_from, .ref q_t_to, .ref q_t_weight, .ref q_t_order, .int x1, .int t_numbered, .int t_size, .long t_present]))] H := hP
  have hD : va_D A [(q_t, .inr (2, [.ref q_t_from, .ref q_t_to, .ref q_t_weight, .ref q_t_order, .int x1, .int t_numbered, .int t_size, .long t_present]))] := hD
  refine lv_aload_n hx hb d_Graph_addNode_10 rfl (lv_at hl 0 rfl) ?_
  refine va_get (D := D) (ci := 2) (v := .int x1) (C := R_Graph) (T := F_Graph) (N := 8) hx hb hts i_Graph hown hK hP 0 rfl rfl 4 (by decide) (hts _ m_1_49) (fun _ h9 => h9) rfl d_Graph_addNode_11 ?_
  refine lv_iconst (v := 1) hx hb d_Graph_addNode_14 (by decide) ?_
  refine lv_isub hx hb d_Graph_addNode_15 ?_
  exact hret 16 _ _ _ (x1 - (1 : Int32)) x1 d_Graph_addNode_16 hP hD hS hf
set_option maxRecDepth 100000 in
set_option maxHeartbeats 4000000 in
theorem c_Graph_addNode (l : Launch) (D : va_G) (cI cJ cG cZ : ClassId) (q_t q_t_from q_t_to q_t_weight q_t_order : Nat) (t_nodes0 : Int32) (t_numbered : Int32) (t_size : Int32) (t_present : Int64) {r : Int32} {t_nodes' : Int32} (hf : f_Graph_addNode t_nodes0 = some (r, t_nodes')) : MeG l D CL (TYs cI cJ cG cZ) y_Graph_addNode ws_Graph_addNode (rm_Graph_addNode) [.ref q_t] [(q_t, .inr (2, [.ref q_t_from, .ref q_t_to, .ref q_t_weight, .ref q_t_order, .int t_nodes0, .int t_numbered, .int t_size, .long t_present]))] (some (.int r)) [(q_t, .inr (2, [.ref q_t_from, .ref q_t_to, .ref q_t_weight, .ref q_t_order, .int t_nodes', .int t_numbered, .int t_size, .long t_present]))] := by
  intro sz
  refine Met.ofW (cc := b_Graph_addNode) (maxL := 1) (ret := (some .int)) (by decide) rfl ?_
  intro p e s m args below meth c s₁ B hml hv
  obtain ⟨rfl, hsz, hP, hK, hD0⟩ := hv
  subst hsz
  have hD := hD0.self (sz := s.heap.size)
  generalize hAe : va_A [(q_t, .inr (2, [.ref q_t_from, .ref q_t_to, .ref q_t_weight, .ref q_t_order, .int t_nodes0, .int t_numbered, .int t_size, .long t_present]))] s.heap.size = A at hD ⊢
  have C0 : CX p (headSpec ws_Graph_addNode (rm_Graph_addNode)).room s m _ meth c b_Graph_addNode 1 R_Graph lw_g D CL (TYs cI cJ cG cZ) A 0 0 := ⟨B.exec, B.bytes, hml, findClass_of_methodNamed B.named, fun w h => atoms_spec (ws := ws_Graph_addNode) B.pre w (List.mem_cons_of_mem _ h), hK, fun q h => by rw [← hAe]; exact Or.inr h, Nat.le_of_ble_eq_true rfl, Nat.le_of_ble_eq_true rfl, B.notSynchronized⟩
  have hl := lv_entry ([.ref q_t]) (n := 1) (Nat.le_of_ble_eq_true rfl)
  rw [lg_entry_eq]
  generalize (lg_sl ([.ref q_t]) ++ List.replicate (1 - (lg_sl ([.ref q_t])).length) Slot.unset).toArray = ls at hl ⊢
  have hl : lv_has ls 1 [(0, .ref q_t)] := hl
  exact w_Graph_addNode_e C0 (fun pc ls H locs v t_nodes hdg hP hD hS e => by cases e; exact W.iret B.exec B.bytes B.returns (fun t ht hW => ⟨⟨rfl, by rw [ht]; exact hP, va_K.moved hW.alike hK, hD⟩, hS.F ht⟩) hS.2.2 hdg) _ _ _ hP hD va_S.rf (lv_sub hl [0] rfl) hf
abbrev b_Graph_isAhead : ByteArray := prog_5_method_12_code
def y_Graph_isAhead : MethodName := ⟨R_Graph, "isAhead", "(II)Z"⟩
def ws_Graph_isAhead : List Cond := .code y_Graph_isAhead b_Graph_isAhead 3 (some .boolean) :: lw_g
theorem wi_Graph_isAhead : ∀ w ∈ ws_Graph_isAhead, w ∈ lw_g := wi_of m_2_39
abbrev rm_Graph_isAhead : Room := { frames := 0, cells := 0, slots := 0, locals := 0 }
theorem hd_Graph_isAhead : y_Graph_isAhead.cls = R_Graph ∧ y_Graph_isAhead.cls ≠ "java/lang/invoke/MethodHandle" ∧ y_Graph_isAhead.cls ≠ "java/lang/invoke/VarHandle" ∧ (parseMethodDescriptor y_Graph_isAhead.desc).map (fun d => d.parameters.length) = some 2 := by decide +kernel
theorem d_Graph_isAhead_0 : decode b_Graph_isAhead 0 = .ok (.aload_n 0, 1) := by decide +kernel
theorem d_Graph_isAhead_1 : decode b_Graph_isAhead 1 = .ok (.getfield 18, 3) := by decide +kernel
theorem d_Graph_isAhead_4 : decode b_Graph_isAhead 4 = .ok (.iload_n 1, 1) := by decide +kernel
theorem d_Graph_isAhead_5 : decode b_Graph_isAhead 5 = .ok (.iaload, 1) := by decide +kernel
theorem d_Graph_isAhead_6 : decode b_Graph_isAhead 6 = .ok (.aload_n 0, 1) := by decide +kernel
theorem d_Graph_isAhead_7 : decode b_Graph_isAhead 7 = .ok (.getfield 18, 3) := by decide +kernel
theorem d_Graph_isAhead_10 : decode b_Graph_isAhead 10 = .ok (.iload_n 2, 1) := by decide +kernel
theorem d_Graph_isAhead_11 : decode b_Graph_isAhead 11 = .ok (.iaload, 1) := by decide +kernel
theorem d_Graph_isAhead_12 : decode b_Graph_isAhead 12 = .ok (.if_icmp .lt 23, 3) := by decide +kernel
theorem d_Graph_isAhead_15 : decode b_Graph_isAhead 15 = .ok (.aload_n 0, 1) := by decide +kernel
theorem d_Graph_isAhead_16 : decode b_Graph_isAhead 16 = .ok (.getfield 18, 3) := by decide +kernel
theorem d_Graph_isAhead_19 : decode b_Graph_isAhead 19 = .ok (.iload_n 1, 1) := by decide +kernel
theorem d_Graph_isAhead_20 : decode b_Graph_isAhead 20 = .ok (.iaload, 1) := by decide +kernel
theorem d_Graph_isAhead_21 : decode b_Graph_isAhead 21 = .ok (.aload_n 0, 1) := by decide +kernel
theorem d_Graph_isAhead_22 : decode b_Graph_isAhead 22 = .ok (.getfield 18, 3) := by decide +kernel
theorem d_Graph_isAhead_25 : decode b_Graph_isAhead 25 = .ok (.iload_n 2, 1) := by decide +kernel
theorem d_Graph_isAhead_26 : decode b_Graph_isAhead 26 = .ok (.iaload, 1) := by decide +kernel
theorem d_Graph_isAhead_27 : decode b_Graph_isAhead 27 = .ok (.if_icmp .ne 12, 3) := by decide +kernel
theorem d_Graph_isAhead_30 : decode b_Graph_isAhead 30 = .ok (.iload_n 1, 1) := by decide +kernel
theorem d_Graph_isAhead_31 : decode b_Graph_isAhead 31 = .ok (.iload_n 2, 1) := by decide +kernel
theorem d_Graph_isAhead_32 : decode b_Graph_isAhead 32 = .ok (.if_icmp .ge 7, 3) := by decide +kernel
theorem d_Graph_isAhead_35 : decode b_Graph_isAhead 35 = .ok (.iconst 1, 1) := by decide +kernel
theorem d_Graph_isAhead_36 : decode b_Graph_isAhead 36 = .ok (.goto 4, 3) := by decide +kernel
theorem d_Graph_isAhead_39 : decode b_Graph_isAhead 39 = .ok (.iconst 0, 1) := by decide +kernel
theorem d_Graph_isAhead_40 : decode b_Graph_isAhead 40 = .ok (.ireturn, 1) := by decide +kernel
def f_Graph_isAhead (p1 : Int32) (p2 : Int32) (t_weight : Nat → Int32) : Option (Int32) :=
  gd (inb p1 30) <|
  gd (inb p2 30) <|
  if (t_weight p1.toNatClampNeg) < (t_weight p2.toNatClampNeg) then
    some ((1 : Int32))
  else
    gd (inb p1 30) <|
    gd (inb p2 30) <|
    if (t_weight p1.toNatClampNeg) = (t_weight p2.toNatClampNeg) then
      if p2 ≤ p1 then
        some ((0 : Int32))
      else
        some ((1 : Int32))
    else
      some ((0 : Int32))
set_option maxRecDepth 100000 in
set_option maxHeartbeats 4000000 in
theorem w_Graph_isAhead_e {p : Program} {l : Launch} {e : Env} {R : Room} {s : State} {m : MethodId} {args : Array Value} {below : List Frame} {meth : Method} {c : Code} {D : va_G} {cI cJ cG cZ : ClassId} {A : Nat → Prop} {Q : State → Prop} {q_t q_t_from q_t_to q_t_weight q_t_order : Nat} {t_nodes : Int32} {t_numbered : Int32} {t_size : Int32} {t_present : Int64} {t_weight : Nat → Int32} {p1 : Int32} {p2 : Int32} {RR : Int32} (C0 : CX p R s m args meth c b_Graph_isAhead 3 R_Graph lw_g D CL (TYs cI cJ cG cZ) A 0 0) (hret : ∀ (pc : Nat) (ls : Array Slot) (H : Heap) (locs : List Loc) (v : Int32) , decode b_Graph_isAhead pc = .ok (.ireturn, 1) → narrow .boolean (.int v) = .int v → va_P D CL [(q_t, .inr (2, [.ref q_t_from, .ref q_t_to, .ref q_t_weight, .ref q_t_order, .int t_nodes, .int t_numbered, .int t_size, .long t_present])), (q_t_weight, .inl (cI, 30, .inl t_weight))] H → va_D A [(q_t, .inr (2, [.ref q_t_from, .ref q_t_to, .ref q_t_weight, .ref q_t_order, .int t_nodes, .int t_numbered, .int t_size, .long t_present])), (q_t_weight, .inl (cI, 30, .inl t_weight))] → va_S A s.heap H locs → some (v) = some RR → W p l e R s m args below meth c H locs 0 0 Q (F0 m pc ls [.int v])) : ∀ (H : Heap) (locs : List Loc) (ls : Array Slot), va_P D CL [(q_t, .inr (2, [.ref q_t_from, .ref q_t_to, .ref q_t_weight, .ref q_t_order, .int t_nodes, .int t_numbered, .int t_size, .long t_present])), (q_t_weight, .inl (cI, 30, .inl t_weight))] H → va_D A [(q_t, .inr (2, [.ref q_t_from, .ref q_t_to, .ref q_t_weight, .ref q_t_order, .int t_nodes, .int t_numbered, .int t_size, .long t_present])), (q_t_weight, .inl (cI, 30, .inl t_weight))] → va_S A s.heap H locs → lv_has ls 3 [(0, .ref q_t), (1, .int p1), (2, .int p2)] → f_Graph_isAhead p1 p2 t_weight = some RR → W p l e R s m args below meth c H locs 0 0 Q (F0 m 0 ls []) := by
  intro H locs ls hP hD hS hl hf
  obtain ⟨hx, hb, hml, hown, hts, hK, hA, hfr, hlo, hlk⟩ := id C0
  unfold f_Graph_isAhead at hf
  refine lv_aload_n hx hb d_Graph_isAhead_0 rfl (lv_at hl 0 rfl) ?_
  refine va_get (D := D) (ci := 2) (v := .ref q_t_weight) (C := R_Graph) (T := F_Graph) (N := 8) hx hb hts i_Graph hown hK hP 0 rfl rfl 2 (by decide) (hts _ m_1_39) (fun _ h9 => h9) rfl d_Graph_isAhead_1 ?_
  refine lv_iload_n hx hb d_Graph_isAhead_4 rfl (lv_at hl 1 rfl) ?_
  obtain ⟨hg1, hf⟩ := gd_e hf
  refine va_iald hx hb hK hP 1 0 rfl rfl (inb_e hg1) d_Graph_isAhead_5 ?_
  refine lv_aload_n hx hb d_Graph_isAhead_6 rfl (lv_at hl 0 rfl) ?_
  refine va_get (D := D) (ci := 2) (v := .ref q_t_weight) (C := R_Graph) (T := F_Graph) (N := 8) hx hb hts i_Graph hown hK hP 0 rfl rfl 2 (by decide) (hts _ m_1_39) (fun _ h9 => h9) rfl d_Graph_isAhead_7 ?_
  refine lv_iload_n hx hb d_Graph_isAhead_10 rfl (lv_at hl 2 rfl) ?_
  obtain ⟨hg2, hf⟩ := gd_e hf
  refine va_iald hx hb hK hP 1 0 rfl rfl (inb_e hg2) d_Graph_isAhead_11 ?_
  refine lv_icmp_lt (tgt := 35) hx hb d_Graph_isAhead_12 (by decide) (fun c1 => ?_) (fun c1 => ?_)
  · have hf := if_t c1 hf
    refine lv_iconst (v := 1) hx hb d_Graph_isAhead_35 (by decide) ?_
    refine lv_goto (tgt := 40) hx hb d_Graph_isAhead_36 (by decide) ?_
    exact hret 40 _ _ _ (1 : Int32) d_Graph_isAhead_40 rfl hP hD hS hf
  · have hf := if_f c1 hf
    refine lv_aload_n hx hb d_Graph_isAhead_15 rfl (lv_at hl 0 rfl) ?_
    refine va_get (D := D) (ci := 2) (v := .ref q_t_weight) (C := R_Graph) (T := F_Graph) (N := 8) hx hb hts i_Graph hown hK hP 0 rfl rfl 2 (by decide) (hts _ m_1_39) (fun _ h9 => h9) rfl d_Graph_isAhead_16 ?_
    refine lv_iload_n hx hb d_Graph_isAhead_19 rfl (lv_at hl 1 rfl) ?_
    obtain ⟨hg3, hf⟩ := gd_e hf
    refine va_iald hx hb hK hP 1 0 rfl rfl (inb_e hg3) d_Graph_isAhead_20 ?_
    refine lv_aload_n hx hb d_Graph_isAhead_21 rfl (lv_at hl 0 rfl) ?_
    refine va_get (D := D) (ci := 2) (v := .ref q_t_weight) (C := R_Graph) (T := F_Graph) (N := 8) hx hb hts i_Graph hown hK hP 0 rfl rfl 2 (by decide) (hts _ m_1_39) (fun _ h9 => h9) rfl d_Graph_isAhead_22 ?_
    refine lv_iload_n hx hb d_Graph_isAhead_25 rfl (lv_at hl 2 rfl) ?_
    obtain ⟨hg4, hf⟩ := gd_e hf
    refine va_iald hx hb hK hP 1 0 rfl rfl (inb_e hg4) d_Graph_isAhead_26 ?_
    refine lv_icmp_ne (tgt := 39) hx hb d_Graph_isAhead_27 (by decide) (fun c2 => ?_) (fun c2 => ?_)
    · have hf := if_f c2 hf
      refine lv_iconst (v := 0) hx hb d_Graph_isAhead_39 (by decide) ?_
      exact hret 40 _ _ _ (0 : Int32) d_Graph_isAhead_40 rfl hP hD hS hf
    · have hf := if_t c2 hf
      refine lv_iload_n hx hb d_Graph_isAhead_30 rfl (lv_at hl 1 rfl) ?_
      refine lv_iload_n hx hb d_Graph_isAhead_31 rfl (lv_at hl 2 rfl) ?_
      refine lv_icmp_ge (tgt := 39) hx hb d_Graph_isAhead_32 (by decide) (fun c3 => ?_) (fun c3 => ?_)
      · have hf := if_t c3 hf
        refine lv_iconst (v := 0) hx hb d_Graph_isAhead_39 (by decide) ?_
        exact hret 40 _ _ _ (0 : Int32) d_Graph_isAhead_40 rfl hP hD hS hf
      · have hf := if_f c3 hf
        refine lv_iconst (v := 1) hx hb d_Graph_isAhead_35 (by decide) ?_
        refine lv_goto (tgt := 40) hx hb d_Graph_isAhead_36 (by decide) ?_
        exact hret 40 _ _ _ (1 : Int32) d_Graph_isAhead_40 rfl hP hD hS hf
set_option maxRecDepth 100000 in
set_option maxHeartbeats 4000000 in
theorem c_Graph_isAhead (l : Launch) (D : va_G) (cI cJ cG cZ : ClassId) (q_t q_t_from q_t_to q_t_weight q_t_order : Nat) (t_nodes : Int32) (t_numbered : Int32) (t_size : Int32) (t_present : Int64) (t_weight : Nat → Int32) (p1 : Int32) (p2 : Int32) {r : Int32} (hf : f_Graph_isAhead p1 p2 t_weight = some (r)) : MeG l D CL (TYs cI cJ cG cZ) y_Graph_isAhead ws_Graph_isAhead (rm_Graph_isAhead) [.ref q_t, .int p1, .int p2] [(q_t, .inr (2, [.ref q_t_from, .ref q_t_to, .ref q_t_weight, .ref q_t_order, .int t_nodes, .int t_numbered, .int t_size, .long t_present])), (q_t_weight, .inl (cI, 30, .inl t_weight))] (some (.int r)) [(q_t, .inr (2, [.ref q_t_from, .ref q_t_to, .ref q_t_weight, .ref q_t_order, .int t_nodes, .int t_numbered, .int t_size, .long t_present])), (q_t_weight, .inl (cI, 30, .inl t_weight))] := by
  intro sz
  refine Met.ofW (cc := b_Graph_isAhead) (maxL := 3) (ret := (some .boolean)) (by decide) rfl ?_
  intro p e s m args below meth c s₁ B hml hv
  obtain ⟨rfl, hsz, hP, hK, hD0⟩ := hv
  subst hsz
  have hD := hD0.self (sz := s.heap.size)
  generalize hAe : va_A [(q_t, .inr (2, [.ref q_t_from, .ref q_t_to, .ref q_t_weight, .ref q_t_order, .int t_nodes, .int t_numbered, .int t_size, .long t_present])), (q_t_weight, .inl (cI, 30, .inl t_weight))] s.heap.size = A at hD ⊢
  have C0 : CX p (headSpec ws_Graph_isAhead (rm_Graph_isAhead)).room s m _ meth c b_Graph_isAhead 3 R_Graph lw_g D CL (TYs cI cJ cG cZ) A 0 0 := ⟨B.exec, B.bytes, hml, findClass_of_methodNamed B.named, fun w h => atoms_spec (ws := ws_Graph_isAhead) B.pre w (List.mem_cons_of_mem _ h), hK, fun q h => by rw [← hAe]; exact Or.inr h, Nat.le_of_ble_eq_true rfl, Nat.le_of_ble_eq_true rfl, B.notSynchronized⟩
  have hl := lv_entry ([.ref q_t, .int p1, .int p2]) (n := 3) (Nat.le_of_ble_eq_true rfl)
  rw [lg_entry_eq]
  generalize (lg_sl ([.ref q_t, .int p1, .int p2]) ++ List.replicate (3 - (lg_sl ([.ref q_t, .int p1, .int p2])).length) Slot.unset).toArray = ls at hl ⊢
  have hl : lv_has ls 3 [(0, .ref q_t), (1, .int p1), (2, .int p2)] := hl
  exact w_Graph_isAhead_e C0 (fun pc ls H locs v hdg hz hP hD hS e => by cases e; exact W.zret B.exec B.bytes B.returns hz (fun t ht hW => ⟨⟨rfl, by rw [ht]; exact hP, va_K.moved hW.alike hK, hD⟩, hS.F ht⟩) hS.2.2 hdg) _ _ _ hP hD va_S.rf (lv_sub hl [0, 1, 2] rfl) hf
