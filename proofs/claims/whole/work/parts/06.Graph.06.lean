abbrev b_Graph_empty : ByteArray := prog_5_method_6_code
def y_Graph_empty : MethodName := ⟨R_Graph, "empty", "()V"⟩
def ws_Graph_empty : List Cond := .code y_Graph_empty b_Graph_empty 1 none :: lw_g
theorem wi_Graph_empty : ∀ w ∈ ws_Graph_empty, w ∈ lw_g := wi_of m_2_75
abbrev rm_Graph_empty : Room := { frames := 0, cells := 0, slots := 0, locals := 0 }
theorem hd_Graph_empty : y_Graph_empty.cls = R_Graph ∧ y_Graph_empty.cls ≠ "java/lang/invoke/MethodHandle" ∧ y_Graph_empty.cls ≠ "java/lang/invoke/VarHandle" ∧ (parseMethodDescriptor y_Graph_empty.desc).map (fun d => d.parameters.length) = some 0 := by decide +kernel
theorem d_Graph_empty_0 : decode b_Graph_empty 0 = .ok (.aload_n 0, 1) := by decide +kernel
theorem d_Graph_empty_1 : decode b_Graph_empty 1 = .ok (.iconst 0, 1) := by decide +kernel
theorem d_Graph_empty_2 : decode b_Graph_empty 2 = .ok (.putfield 24, 3) := by decide +kernel
theorem d_Graph_empty_5 : decode b_Graph_empty 5 = .ok (.aload_n 0, 1) := by decide +kernel
theorem d_Graph_empty_6 : decode b_Graph_empty 6 = .ok (.iconst 0, 1) := by decide +kernel
theorem d_Graph_empty_7 : decode b_Graph_empty 7 = .ok (.putfield 28, 3) := by decide +kernel
theorem d_Graph_empty_10 : decode b_Graph_empty 10 = .ok (.aload_n 0, 1) := by decide +kernel
theorem d_Graph_empty_11 : decode b_Graph_empty 11 = .ok (.iconst 0, 1) := by decide +kernel
theorem d_Graph_empty_12 : decode b_Graph_empty 12 = .ok (.putfield 44, 3) := by decide +kernel
theorem d_Graph_empty_15 : decode b_Graph_empty 15 = .ok (.aload_n 0, 1) := by decide +kernel
theorem d_Graph_empty_16 : decode b_Graph_empty 16 = .ok (.lconst 0, 1) := by decide +kernel
theorem d_Graph_empty_17 : decode b_Graph_empty 17 = .ok (.putfield 31, 3) := by decide +kernel
theorem d_Graph_empty_20 : decode b_Graph_empty 20 = .ok (.return_, 1) := by decide +kernel
def f_Graph_empty  : Option (Int32 × Int32 × Int32 × Int64) :=
  some ((0 : Int32), (0 : Int32), (0 : Int32), (0 : Int64))
set_option maxRecDepth 100000 in
set_option maxHeartbeats 4000000 in
theorem w_Graph_empty_e {p : Program} {l : Launch} {e : Env} {R : Room} {s : State} {m : MethodId} {args : Array Value} {below : List Frame} {meth : Method} {c : Code} {D : va_G} {cI cJ cG cZ : ClassId} {A : Nat → Prop} {Q : State → Prop} {q_t q_t_from q_t_to q_t_weight q_t_order : Nat} {t_nodes0 : Int32} {t_numbered0 : Int32} {t_size0 : Int32} {t_present0 : Int64} {RR : Int32 × Int32 × Int32 × Int64} (C0 : CX p R s m args meth c b_Graph_empty 1 R_Graph lw_g D CL (TYs cI cJ cG cZ) A 0 0) (hret : ∀ (pc : Nat) (ls : Array Slot) (H : Heap) (locs : List Loc) (t_nodes : Int32) (t_numbered : Int32) (t_size : Int32) (t_present : Int64), decode b_Graph_empty pc = .ok (.return_, 1) → va_P D CL [(q_t, .inr (2, [.ref q_t_from, .ref q_t_to, .ref q_t_weight, .ref q_t_order, .int t_nodes, .int t_numbered, .int t_size, .long t_present]))] H → va_D A [(q_t, .inr (2, [.ref q_t_from, .ref q_t_to, .ref q_t_weight, .ref q_t_order, .int t_nodes, .int t_numbered, .int t_size, .long t_present]))] → va_S A s.heap H locs → some (t_nodes, t_numbered, t_size, t_present) = some RR → W p l e R s m args below meth c H locs 0 0 Q (F0 m pc ls [])) : ∀ (H : Heap) (locs : List Loc) (ls : Array Slot), va_P D CL [(q_t, .inr (2, [.ref q_t_from, .ref q_t_to, .ref q_t_weight, .ref q_t_order, .int t_nodes0, .int t_numbered0, .int t_size0, .long t_present0]))] H → va_D A [(q_t, .inr (2, [.ref q_t_from, .ref q_t_to, .ref q_t_weight, .ref q_t_order, .int t_nodes0, .int t_numbered0, .int t_size0, .long t_present0]))] → va_S A s.heap H locs → lv_has ls 1 [(0, .ref q_t)] → f_Graph_empty = some RR → W p l e R s m args below meth c H locs 0 0 Q (F0 m 0 ls []) := by
  intro H locs ls hP hD hS hl hf
  obtain ⟨hx, hb, hml, hown, hts, hK, hA, hfr, hlo, hlk⟩ := id C0
  unfold f_Graph_empty at hf
  refine lv_aload_n hx hb d_Graph_empty_0 rfl (lv_at hl 0 rfl) ?_
  refine lv_iconst (v := 0) hx hb d_Graph_empty_1 (by decide) ?_
  refine va_put (D := D) (ci := 2) (v := .int (0 : Int32)) (ty := .int) (C := R_Graph) (T := F_Graph) (N := 8) hx hb hts i_Graph t_Graph to_Graph n_Graph hown hK hP hD hS 0 rfl rfl 4 (by decide) (hts _ m_1_49) (fun _ h9 => h9) rfl (by decide +kernel) rfl rfl (Nat.le_of_ble_eq_true rfl) d_Graph_empty_2 (fun H locs hP hD hS => ?_)
  have hP : va_P D CL [(q_t, .inr (2, [.ref q_t_from, .ref q_t_to, .ref q_t_weight, .ref q_t_order, .int (0 : Int32), .int t_numbered0, .int t_size0, .long t_present0]))] H := hP
  have hD : va_D A [(q_t, .inr (2, [.ref q_t_from, .ref q_t_to, .ref q_t_weight, .ref q_t_order, .int (0 : Int32), .int t_numbered0, .int t_size0, .long t_present0]))] := hD
  refine lv_aload_n hx hb d_Graph_empty_5 rfl (lv_at hl 0 rfl) ?_
  refine lv_iconst (v := 0) hx hb d_Graph_empty_6 (by decide) ?_
  refine va_put (D := D) (ci := 2) (v := .int (0 : Int32)) (ty := .int) (C := R_Graph) (T := F_Graph) (N := 8) hx hb hts i_Graph t_Graph to_Graph n_Graph hown hK hP hD hS 0 rfl rfl 5 (by decide) (hts _ m_1_55) (fun _ h9 => h9) rfl (by decide +kernel) rfl rfl (Nat.le_of_ble_eq_true rfl) d_Graph_empty_7 (fun H locs hP hD hS => ?_)
  have hP : va_P D CL [(q_t, .inr (2, [.ref q_t_from, .ref q_t_to, .ref q_t_weight, .ref q_t_order, .int (0 : Int32), .int (0 : Int32), .int t_size0, .long t_present0]))] H := hP
  have hD : va_D A [(q_t, .inr (2, [.ref q_t_from, .ref q_t_to, .ref q_t_weight, .ref q_t_order, .int (0 : Int32), .int (0 : Int32), .int t_size0, .long t_present0]))] := hD
  refine lv_aload_n hx hb d_Graph_empty_10 rfl (lv_at hl 0 rfl) ?_
  refine lv_iconst (v := 0) hx hb d_Graph_empty_11 (by decide) ?_
  refine va_put (D := D) (ci := 2) (v := .int (0 : Int32)) (ty := .int) (C := R_Graph) (T := F_Graph) (N := 8) hx hb hts i_Graph t_Graph to_Graph n_Graph hown hK hP hD hS 0 rfl rfl 6 (by decide) (hts _ m_1_60) (fun _ h9 => h9) rfl (by decide +kernel) rfl rfl (Nat.le_of_ble_eq_true rfl) d_Graph_empty_12 (fun H locs hP hD hS => ?_)
  have hP : va_P D CL [(q_t, .inr (2, [.ref q_t_from, .ref q_t_to, .ref q_t_weight, .ref q_t_order, .int (0 : Int32), .int (0 : Int32), .int (0 : Int32), .long t_present0]))] H := hP
  have hD : va_D A [(q_t, .inr (2, [.ref q_t_from, .ref q_t_to, .ref q_t_weight, .ref q_t_order, .int (0 : Int32), .int (0 : Int32), .int (0 : Int32), .long t_present0]))] := hD
  refine lv_aload_n hx hb d_Graph_empty_15 rfl (lv_at hl 0 rfl) ?_
  refine lv_lconst (v := 0) hx hb d_Graph_empty_16 (by decide) ?_
  refine va_put (D := D) (ci := 2) (v := .long (0 : Int64)) (ty := .long) (C := R_Graph) (T := F_Graph) (N := 8) hx hb hts i_Graph t_Graph to_Graph n_Graph hown hK hP hD hS 0 rfl rfl 7 (by decide) (hts _ m_1_63) (fun _ h9 => h9) rfl (by decide +kernel) rfl rfl (Nat.le_of_ble_eq_true rfl) d_Graph_empty_17 (fun H locs hP hD hS => ?_)
  have hP : va_P D CL [(q_t, .inr (2, [.ref q_t_from, .ref q_t_to, .ref q_t_weight, .ref q_t_order, .int (0 : Int32), .int (0 : Int32), .int (0 : Int32), .long (0 : Int64)]))] H := hP
  have hD : va_D A [(q_t, .inr (2, [.ref q_t_from, .ref q_t_to, .ref q_t_weight, .ref q_t_order, .int (0 : Int32), .int (0 : Int32), .int (0 : Int32), .long (0 : Int64)]))] := hD
  exact hret 20 _ _ _ (0 : Int32) (0 : Int32) (0 : Int32) (0 : Int64) d_Graph_empty_20 hP hD hS hf
set_option maxRecDepth 100000 in
set_option maxHeartbeats 4000000 in
theorem c_Graph_empty (l : Launch) (D : va_G) (cI cJ cG cZ : ClassId) (q_t q_t_from q_t_to q_t_weight q_t_order : Nat) (t_nodes0 : Int32) (t_numbered0 : Int32) (t_size0 : Int32) (t_present0 : Int64) {t_nodes' : Int32} {t_numbered' : Int32} {t_size' : Int32} {t_present' : Int64} (hf : f_Graph_empty = some (t_nodes', t_numbered', t_size', t_present')) : MeG l D CL (TYs cI cJ cG cZ) y_Graph_empty ws_Graph_empty (rm_Graph_empty) [.ref q_t] [(q_t, .inr (2, [.ref q_t_from, .ref q_t_to, .ref q_t_weight, .ref q_t_order, .int t_nodes0, .int t_numbered0, .int t_size0, .long t_present0]))] none [(q_t, .inr (2, [.ref q_t_from, .ref q_t_to, .ref q_t_weight, .ref q_t_order, .int t_nodes', .int t_numbered', .int t_size', .long t_present']))] := by
  intro sz
  refine Met.ofW (cc := b_Graph_empty) (maxL := 1) (ret := none) (by decide) rfl ?_
  intro p e s m args below meth c s₁ B hml hv
  obtain ⟨rfl, hsz, hP, hK, hD0⟩ := hv
  subst hsz
  have hD := hD0.self (sz := s.heap.size)
  generalize hAe : va_A [(q_t, .inr (2, [.ref q_t_from, .ref q_t_to, .ref q_t_weight, .ref q_t_order, .int t_nodes0, .int t_numbered0, .int t_size0, .long t_present0]))] s.heap.size = A at hD ⊢
  have C0 : CX p (headSpec ws_Graph_empty (rm_Graph_empty)).room s m _ meth c b_Graph_empty 1 R_Graph lw_g D CL (TYs cI cJ cG cZ) A 0 0 := ⟨B.exec, B.bytes, hml, findClass_of_methodNamed B.named, fun w h => atoms_spec (ws := ws_Graph_empty) B.pre w (List.mem_cons_of_mem _ h), hK, fun q h => by rw [← hAe]; exact Or.inr h, Nat.le_of_ble_eq_true rfl, Nat.le_of_ble_eq_true rfl, B.notSynchronized⟩
  have hl := lv_entry ([.ref q_t]) (n := 1) (Nat.le_of_ble_eq_true rfl)
  rw [lg_entry_eq]
  generalize (lg_sl ([.ref q_t]) ++ List.replicate (1 - (lg_sl ([.ref q_t])).length) Slot.unset).toArray = ls at hl ⊢
  have hl : lv_has ls 1 [(0, .ref q_t)] := hl
  exact w_Graph_empty_e C0 (fun pc ls H locs t_nodes t_numbered t_size t_present hdg hP hD hS e => by cases e; exact W.vret B.exec B.bytes B.returns (fun t ht hW => ⟨⟨rfl, by rw [ht]; exact hP, va_K.moved hW.alike hK, hD⟩, hS.F ht⟩) hS.2.2 hdg) _ _ _ hP hD va_S.rf (lv_sub hl [0] rfl) hf
abbrev b_Graph_hasNode : ByteArray := prog_5_method_7_code
def y_Graph_hasNode : MethodName := ⟨R_Graph, "hasNode", "(I)Z"⟩
def ws_Graph_hasNode : List Cond := .code y_Graph_hasNode b_Graph_hasNode 2 (some .boolean) :: lw_g
theorem wi_Graph_hasNode : ∀ w ∈ ws_Graph_hasNode, w ∈ lw_g := wi_of m_2_24
abbrev rm_Graph_hasNode : Room := { frames := 0, cells := 0, slots := 0, locals := 0 }
theorem hd_Graph_hasNode : y_Graph_hasNode.cls = R_Graph ∧ y_Graph_hasNode.cls ≠ "java/lang/invoke/MethodHandle" ∧ y_Graph_hasNode.cls ≠ "java/lang/invoke/VarHandle" ∧ (parseMethodDescriptor y_Graph_hasNode.desc).map (fun d => d.parameters.length) = some 1 := by decide +kernel
theorem d_Graph_hasNode_0 : decode b_Graph_hasNode 0 = .ok (.iload_n 1, 1) := by decide +kernel
theorem d_Graph_hasNode_1 : decode b_Graph_hasNode 1 = .ok (.ifCond .lt 15, 3) := by decide +kernel
theorem d_Graph_hasNode_4 : decode b_Graph_hasNode 4 = .ok (.iload_n 1, 1) := by decide +kernel
theorem d_Graph_hasNode_5 : decode b_Graph_hasNode 5 = .ok (.aload_n 0, 1) := by decide +kernel
theorem d_Graph_hasNode_6 : decode b_Graph_hasNode 6 = .ok (.getfield 24, 3) := by decide +kernel
theorem d_Graph_hasNode_9 : decode b_Graph_hasNode 9 = .ok (.if_icmp .ge 7, 3) := by decide +kernel
theorem d_Graph_hasNode_12 : decode b_Graph_hasNode 12 = .ok (.iconst 1, 1) := by decide +kernel
theorem d_Graph_hasNode_13 : decode b_Graph_hasNode 13 = .ok (.goto 4, 3) := by decide +kernel
theorem d_Graph_hasNode_16 : decode b_Graph_hasNode 16 = .ok (.iconst 0, 1) := by decide +kernel
theorem d_Graph_hasNode_17 : decode b_Graph_hasNode 17 = .ok (.ireturn, 1) := by decide +kernel
def f_Graph_hasNode (p1 : Int32) (t_nodes : Int32) : Option (Int32) :=
  if p1 < 0 then
    some ((0 : Int32))
  else
    if t_nodes ≤ p1 then
      some ((0 : Int32))
    else
      some ((1 : Int32))
set_option maxRecDepth 100000 in
set_option maxHeartbeats 4000000 in
theorem w_Graph_hasNode_e {p : Program} {l : Launch} {e : Env} {R : Room} {s : State} {m : MethodId} {args : Array Value} {below : List Frame} {meth : Method} {c : Code} {D : va_G} {cI cJ cG cZ : ClassId} {A : Nat → Prop} {Q : State → Prop} {q_t q_t_from q_t_to q_t_weight q_t_order : Nat} {t_nodes : Int32} {t_numbered : Int32} {t_size : Int32} {t_present : Int64} {p1 : Int32} {RR : Int32} (C0 : CX p R s m args meth c b_Graph_hasNode 2 R_Graph lw_g D CL (TYs cI cJ cG cZ) A 0 0) (hret : ∀ (pc : Nat) (ls : Array Slot) (H : Heap) (locs : List Loc) (v : Int32) , decode b_Graph_hasNode pc = .ok (.ireturn, 1) → narrow .boolean (.int v) = .int v → va_P D CL [(q_t, .inr (2, [.ref q_t_from, .ref q_t_to, .ref q_t_weight, .ref q_t_order, .int t_nodes, .int t_numbered, .int t_size, .long t_present]))] H → va_D A [(q_t, .inr (2, [.ref q_t_from, .ref q_t_to, .ref q_t_weight, .ref q_t_order, .int t_nodes, .int t_numbered, .int t_size, .long t_present]))] → va_S A s.heap H locs → some (v) = some RR → W p l e R s m args below meth c H locs 0 0 Q (F0 m pc ls [.int v])) : ∀ (H : Heap) (locs : List Loc) (ls : Array Slot), va_P D CL [(q_t, .inr (2, [.ref q_t_from, .ref q_t_to, .ref q_t_weight, .ref q_t_order, .int t_nodes, .int t_numbered, .int t_size, .long t_present]))] H → va_D A [(q_t, .inr (2, [.ref q_t_from, .ref q_t_to, .ref q_t_weight, .ref q_t_order, .int t_nodes, .int t_numbered, .int t_size, .long t_present]))] → va_S A s.heap H locs → lv_has ls 2 [(0, .ref q_t), (1, .int p1)] → f_Graph_hasNode p1 t_nodes = some RR → W p l e R s m args below meth c H locs 0 0 Q (F0 m 0 ls []) := by
  intro H locs ls hP hD hS hl hf
  obtain ⟨hx, hb, hml, hown, hts, hK, hA, hfr, hlo, hlk⟩ := id C0
  unfold f_Graph_hasNode at hf
  refine lv_iload_n hx hb d_Graph_hasNode_0 rfl (lv_at hl 1 rfl) ?_
  refine lv_if_lt (tgt := 16) hx hb d_Graph_hasNode_1 (by decide) (fun c1 => ?_) (fun c1 => ?_)
  · have hf := if_t c1 hf
    refine lv_iconst (v := 0) hx hb d_Graph_hasNode_16 (by decide) ?_
    exact hret 17 _ _ _ (0 : Int32) d_Graph_hasNode_17 rfl hP hD hS hf
  · have hf := if_f c1 hf
    refine lv_iload_n hx hb d_Graph_hasNode_4 rfl (lv_at hl 1 rfl) ?_
    refine lv_aload_n hx hb d_Graph_hasNode_5 rfl (lv_at hl 0 rfl) ?_
    refine va_get (D := D) (ci := 2) (v := .int t_nodes) (C := R_Graph) (T := F_Graph) (N := 8) hx hb hts i_Graph hown hK hP 0 rfl rfl 4 (by decide) (hts _ m_1_49) (fun _ h9 => h9) rfl d_Graph_hasNode_6 ?_
    refine lv_icmp_ge (tgt := 16) hx hb d_Graph_hasNode_9 (by decide) (fun c2 => ?_) (fun c2 => ?_)
    · have hf := if_t c2 hf
      refine lv_iconst (v := 0) hx hb d_Graph_hasNode_16 (by decide) ?_
      exact hret 17 _ _ _ (0 : Int32) d_Graph_hasNode_17 rfl hP hD hS hf
    · have hf := if_f c2 hf
      refine lv_iconst (v := 1) hx hb d_Graph_hasNode_12 (by decide) ?_
      refine lv_goto (tgt := 17) hx hb d_Graph_hasNode_13 (by decide) ?_
      exact hret 17 _ _ _ (1 : Int32) d_Graph_hasNode_17 rfl hP hD hS hf
set_option maxRecDepth 100000 in
set_option maxHeartbeats 4000000 in
theorem c_Graph_hasNode (l : Launch) (D : va_G) (cI cJ cG cZ : ClassId) (q_t q_t_from q_t_to q_t_weight q_t_order : Nat) (t_nodes : Int32) (t_numbered : Int32) (t_size : Int32) (t_present : Int64) (p1 : Int32) {r : Int32} (hf : f_Graph_hasNode p1 t_nodes = some (r)) : MeG l D CL (TYs cI cJ cG cZ) y_Graph_hasNode ws_Graph_hasNode (rm_Graph_hasNode) [.ref q_t, .int p1] [(q_t, .inr (2, [.ref q_t_from, .ref q_t_to, .ref q_t_weight, .ref q_t_order, .int t_nodes, .int t_numbered, .int t_size, .long t_present]))] (some (.int r)) [(q_t, .inr (2, [.ref q_t_from, .ref q_t_to, .ref q_t_weight, .ref q_t_order, .int t_nodes, .int t_numbered, .int t_size, .long t_present]))] := by
  intro sz
  refine Met.ofW (cc := b_Graph_hasNode) (maxL := 2) (ret := (some .boolean)) (by decide) rfl ?_
  intro p e s m args below meth c s₁ B hml hv
  obtain ⟨rfl, hsz, hP, hK, hD0⟩ := hv
  subst hsz
  have hD := hD0.self (sz := s.heap.size)
  generalize hAe : va_A [(q_t, .inr (2, [.ref q_t_from, .ref q_t_to, .ref q_t_weight, .ref q_t_order, .int t_nodes, .int t_numbered, .int t_size, .long t_present]))] s.heap.size = A at hD ⊢
  have C0 : CX p (headSpec ws_Graph_hasNode (rm_Graph_hasNode)).room s m _ meth c b_Graph_hasNode 2 R_Graph lw_g D CL (TYs cI cJ cG cZ) A 0 0 := ⟨B.exec, B.bytes, hml, findClass_of_methodNamed B.named, fun w h => atoms_spec (ws := ws_Graph_hasNode) B.pre w (List.mem_cons_of_mem _ h), hK, fun q h => by rw [← hAe]; exact Or.inr h, Nat.le_of_ble_eq_true rfl, Nat.le_of_ble_eq_true rfl, B.notSynchronized⟩
  have hl := lv_entry ([.ref q_t, .int p1]) (n := 2) (Nat.le_of_ble_eq_true rfl)
  rw [lg_entry_eq]
  generalize (lg_sl ([.ref q_t, .int p1]) ++ List.replicate (2 - (lg_sl ([.ref q_t, .int p1])).length) Slot.unset).toArray = ls at hl ⊢
  have hl : lv_has ls 2 [(0, .ref q_t), (1, .int p1)] := hl
  exact w_Graph_hasNode_e C0 (fun pc ls H locs v hdg hz hP hD hS e => by cases e; exact W.zret B.exec B.bytes B.returns hz (fun t ht hW => ⟨⟨rfl, by rw [ht]; exact hP, va_K.moved hW.alike hK, hD⟩, hS.F ht⟩) hS.2.2 hdg) _ _ _ hP hD va_S.rf (lv_sub hl [0, 1] rfl) hf
