abbrev b_Forests_weightAt : ByteArray := prog_4_method_5_code
def y_Forests_weightAt : MethodName := ⟨R_Forests, "weightAt", "(I)I"⟩
def ws_Forests_weightAt : List Cond := .code y_Forests_weightAt b_Forests_weightAt 2 (some .int) :: lw_g
theorem wi_Forests_weightAt : ∀ w ∈ ws_Forests_weightAt, w ∈ lw_g := wi_of m_2_126
abbrev rm_Forests_weightAt : Room := { frames := 0, cells := 0, slots := 0, locals := 0 }
theorem hd_Forests_weightAt : y_Forests_weightAt.cls = R_Forests ∧ y_Forests_weightAt.cls ≠ "java/lang/invoke/MethodHandle" ∧ y_Forests_weightAt.cls ≠ "java/lang/invoke/VarHandle" ∧ (parseMethodDescriptor y_Forests_weightAt.desc).map (fun d => d.parameters.length) = some 1 := by decide +kernel
theorem d_Forests_weightAt_0 : decode b_Forests_weightAt 0 = .ok (.aload_n 0, 1) := by decide +kernel
theorem d_Forests_weightAt_1 : decode b_Forests_weightAt 1 = .ok (.getfield 9, 3) := by decide +kernel
theorem d_Forests_weightAt_4 : decode b_Forests_weightAt 4 = .ok (.getfield 74, 3) := by decide +kernel
theorem d_Forests_weightAt_7 : decode b_Forests_weightAt 7 = .ok (.aload_n 0, 1) := by decide +kernel
theorem d_Forests_weightAt_8 : decode b_Forests_weightAt 8 = .ok (.getfield 9, 3) := by decide +kernel
theorem d_Forests_weightAt_11 : decode b_Forests_weightAt 11 = .ok (.getfield 53, 3) := by decide +kernel
theorem d_Forests_weightAt_14 : decode b_Forests_weightAt 14 = .ok (.iload_n 1, 1) := by decide +kernel
theorem d_Forests_weightAt_15 : decode b_Forests_weightAt 15 = .ok (.iaload, 1) := by decide +kernel
theorem d_Forests_weightAt_16 : decode b_Forests_weightAt 16 = .ok (.iaload, 1) := by decide +kernel
theorem d_Forests_weightAt_17 : decode b_Forests_weightAt 17 = .ok (.ireturn, 1) := by decide +kernel
def f_Forests_weightAt (p1 : Int32) (t_graph_order : Nat → Int32) (t_graph_weight : Nat → Int32) : Option (Int32) :=
  gd (inb p1 30) <|
  gd (inb (t_graph_order p1.toNatClampNeg) 30) <|
  some (t_graph_weight (t_graph_order p1.toNatClampNeg).toNatClampNeg)
set_option maxRecDepth 100000 in
set_option maxHeartbeats 4000000 in
theorem w_Forests_weightAt_e {p : Program} {l : Launch} {e : Env} {R : Room} {s : State} {m : MethodId} {args : Array Value} {below : List Frame} {meth : Method} {c : Code} {D : va_G} {cI cJ cG cZ : ClassId} {A : Nat → Prop} {Q : State → Prop} {q_t q_t_graph q_t_labels q_t_treeCount q_t_heaviest q_t_graph_from q_t_graph_to q_t_graph_weight q_t_graph_order : Nat} {t_nextWeight : Int32} {t_nextIn : Int32} {t_nextOut : Int32} {t_graph_nodes : Int32} {t_graph_numbered : Int32} {t_graph_size : Int32} {t_graph_present : Int64} {t_graph_order : Nat → Int32} {t_graph_weight : Nat → Int32} {p1 : Int32} {RR : Int32} (C0 : CX p R s m args meth c b_Forests_weightAt 2 R_Forests lw_g D CL (TYs cI cJ cG cZ) A 0 0) (hret : ∀ (pc : Nat) (ls : Array Slot) (H : Heap) (locs : List Loc) (v : Int32) , decode b_Forests_weightAt pc = .ok (.ireturn, 1) → va_P D CL [(q_t, .inr (1, [.ref q_t_graph, .ref q_t_labels, .ref q_t_treeCount, .ref q_t_heaviest, .int t_nextWeight, .int t_nextIn, .int t_nextOut])), (q_t_graph, .inr (2, [.ref q_t_graph_from, .ref q_t_graph_to, .ref q_t_graph_weight, .ref q_t_graph_order, .int t_graph_nodes, .int t_graph_numbered, .int t_graph_size, .long t_graph_present])), (q_t_graph_order, .inl (cI, 30, .inl t_graph_order)), (q_t_graph_weight, .inl (cI, 30, .inl t_graph_weight))] H → va_D A [(q_t, .inr (1, [.ref q_t_graph, .ref q_t_labels, .ref q_t_treeCount, .ref q_t_heaviest, .int t_nextWeight, .int t_nextIn, .int t_nextOut])), (q_t_graph, .inr (2, [.ref q_t_graph_from, .ref q_t_graph_to, .ref q_t_graph_weight, .ref q_t_graph_order, .int t_graph_nodes, .int t_graph_numbered, .int t_graph_size, .long t_graph_present])), (q_t_graph_order, .inl (cI, 30, .inl t_graph_order)), (q_t_graph_weight, .inl (cI, 30, .inl t_graph_weight))] → va_S A s.heap H locs → some (v) = some RR → W p l e R s m args below meth c H locs 0 0 Q (F0 m pc ls [.int v])) : ∀ (H : Heap) (locs : List Loc) (ls : Array Slot), va_P D CL [(q_t, .inr (1, [.ref q_t_graph, .ref q_t_labels, .ref q_t_treeCount, .ref q_t_heaviest, .int t_nextWeight, .int t_nextIn, .int t_nextOut])), (q_t_graph, .inr (2, [.ref q_t_graph_from, .ref q_t_graph_to, .ref q_t_graph_weight, .ref q_t_graph_order, .int t_graph_nodes, .int t_graph_numbered, .int t_graph_size, .long t_graph_present])), (q_t_graph_order, .inl (cI, 30, .inl t_graph_order)), (q_t_graph_weight, .inl (cI, 30, .inl t_graph_weight))] H → va_D A [(q_t, .inr (1, [.ref q_t_graph, .ref q_t_labels, .ref q_t_treeCount, .ref q_t_heaviest, .int t_nextWeight, .int t_nextIn, .int t_nextOut])), (q_t_graph, .inr (2, [.ref q_t_graph_from, .ref q_t_graph_to, .ref q_t_graph_weight, .ref q_t_graph_order, .int t_graph_nodes, .int t_graph_numbered, .int t_graph_size, .long t_graph_present])), (q_t_graph_order, .inl (cI, 30, .inl t_graph_order)), (q_t_graph_weight, .inl (cI, 30, .inl t_graph_weight))] → va_S A s.heap H locs → lv_has ls 2 [(0, .ref q_t), (1, .int p1)] → f_Forests_weightAt p1 t_graph_order t_graph_weight = some RR → W p l e R s m args below meth c H locs 0 0 Q (F0 m 0 ls []) := by
  intro H locs ls hP hD hS hl hf
  obtain ⟨hx, hb, hml, hown, hts, hK, hA, hfr, hlo, hlk⟩ := id C0
  unfold f_Forests_weightAt at hf
  refine lv_aload_n hx hb d_Forests_weightAt_0 rfl (lv_at hl 0 rfl) ?_
  refine va_get (D := D) (ci := 1) (v := .ref q_t_graph) (C := R_Forests) (T := F_Forests) (N := 7) hx hb hts i_Forests hown hK hP 0 rfl rfl 0 (by decide) (hts _ m_1_130) (fun _ h9 => h9) rfl d_Forests_weightAt_1 ?_
  refine va_get (D := D) (ci := 2) (v := .ref q_t_graph_weight) (C := R_Graph) (T := F_Graph) (N := 8) hx hb hts i_Graph hown hK hP 1 rfl rfl 2 (by decide) (hts _ m_1_41) (fun _ h9 => h9) rfl d_Forests_weightAt_4 ?_
  refine lv_aload_n hx hb d_Forests_weightAt_7 rfl (lv_at hl 0 rfl) ?_
  refine va_get (D := D) (ci := 1) (v := .ref q_t_graph) (C := R_Forests) (T := F_Forests) (N := 7) hx hb hts i_Forests hown hK hP 0 rfl rfl 0 (by decide) (hts _ m_1_130) (fun _ h9 => h9) rfl d_Forests_weightAt_8 ?_
  refine va_get (D := D) (ci := 2) (v := .ref q_t_graph_order) (C := R_Graph) (T := F_Graph) (N := 8) hx hb hts i_Graph hown hK hP 1 rfl rfl 3 (by decide) (hts _ m_1_45) (fun _ h9 => h9) rfl d_Forests_weightAt_11 ?_
  refine lv_iload_n hx hb d_Forests_weightAt_14 rfl (lv_at hl 1 rfl) ?_
  obtain ⟨hg1, hf⟩ := gd_e hf
  refine va_iald hx hb hK hP 2 0 rfl rfl (inb_e hg1) d_Forests_weightAt_15 ?_
  obtain ⟨hg2, hf⟩ := gd_e hf
  refine va_iald hx hb hK hP 3 0 rfl rfl (inb_e hg2) d_Forests_weightAt_16 ?_
  exact hret 17 _ _ _ (t_graph_weight (t_graph_order p1.toNatClampNeg).toNatClampNeg) d_Forests_weightAt_17 hP hD hS hf
set_option maxRecDepth 100000 in
set_option maxHeartbeats 4000000 in
theorem c_Forests_weightAt (l : Launch) (D : va_G) (cI cJ cG cZ : ClassId) (q_t q_t_graph q_t_labels q_t_treeCount q_t_heaviest q_t_graph_from q_t_graph_to q_t_graph_weight q_t_graph_order : Nat) (t_nextWeight : Int32) (t_nextIn : Int32) (t_nextOut : Int32) (t_graph_nodes : Int32) (t_graph_numbered : Int32) (t_graph_size : Int32) (t_graph_present : Int64) (t_graph_order : Nat → Int32) (t_graph_weight : Nat → Int32) (p1 : Int32) {r : Int32} (hf : f_Forests_weightAt p1 t_graph_order t_graph_weight = some (r)) : MeG l D CL (TYs cI cJ cG cZ) y_Forests_weightAt ws_Forests_weightAt (rm_Forests_weightAt) [.ref q_t, .int p1] [(q_t, .inr (1, [.ref q_t_graph, .ref q_t_labels, .ref q_t_treeCount, .ref q_t_heaviest, .int t_nextWeight, .int t_nextIn, .int t_nextOut])), (q_t_graph, .inr (2, [.ref q_t_graph_from, .ref q_t_graph_to, .ref q_t_graph_weight, .ref q_t_graph_order, .int t_graph_nodes, .int t_graph_numbered, .int t_graph_size, .long t_graph_present])), (q_t_graph_order, .inl (cI, 30, .inl t_graph_order)), (q_t_graph_weight, .inl (cI, 30, .inl t_graph_weight))] (some (.int r)) [(q_t, .inr (1, [.ref q_t_graph, .ref q_t_labels, .ref q_t_treeCount, .ref q_t_heaviest, .int t_nextWeight, .int t_nextIn, .int t_nextOut])), (q_t_graph, .inr (2, [.ref q_t_graph_from, .ref q_t_graph_to, .ref q_t_graph_weight, .ref q_t_graph_order, .int t_graph_nodes, .int t_graph_numbered, .int t_graph_size, .long t_graph_present])), (q_t_graph_order, .inl (cI, 30, .inl t_graph_order)), (q_t_graph_weight, .inl (cI, 30, .inl t_graph_weight))] := by
  intro sz
  refine Met.ofW (cc := b_Forests_weightAt) (maxL := 2) (ret := (some .int)) (by decide) rfl ?_
  intro p e s m args below meth c s₁ B hml hv
  obtain ⟨rfl, hsz, hP, hK, hD0⟩ := hv
  subst hsz
  have hD := hD0.self (sz := s.heap.size)
  generalize hAe : va_A [(q_t, .inr (1, [.ref q_t_graph, .ref q_t_labels, .ref q_t_treeCount, .ref q_t_heaviest, .int t_nextWeight, .int t_nextIn, .int t_nextOut])), (q_t_graph, .inr (2, [.ref q_t_graph_from, .ref q_t_graph_to, .ref q_t_graph_weight, .ref q_t_graph_order, .int t_graph_nodes, .int t_graph_numbered, .int t_graph_size, .long t_graph_present])), (q_t_graph_order, .inl (cI, 30, .inl t_graph_order)), (q_t_graph_weight, .inl (cI, 30, .inl t_graph_weight))] s.heap.size = A at hD ⊢
  have C0 : CX p (headSpec ws_Forests_weightAt (rm_Forests_weightAt)).room s m _ meth c b_Forests_weightAt 2 R_Forests lw_g D CL (TYs cI cJ cG cZ) A 0 0 := ⟨B.exec, B.bytes, hml, findClass_of_methodNamed B.named, fun w h => atoms_spec (ws := ws_Forests_weightAt) B.pre w (List.mem_cons_of_mem _ h), hK, fun q h => by rw [← hAe]; exact Or.inr h, Nat.le_of_ble_eq_true rfl, Nat.le_of_ble_eq_true rfl, B.notSynchronized⟩
  have hl := lv_entry ([.ref q_t, .int p1]) (n := 2) (Nat.le_of_ble_eq_true rfl)
  rw [lg_entry_eq]
  generalize (lg_sl ([.ref q_t, .int p1]) ++ List.replicate (2 - (lg_sl ([.ref q_t, .int p1])).length) Slot.unset).toArray = ls at hl ⊢
  have hl : lv_has ls 2 [(0, .ref q_t), (1, .int p1)] := hl
  exact w_Forests_weightAt_e C0 (fun pc ls H locs v hdg hP hD hS e => by cases e; exact W.iret B.exec B.bytes B.returns (fun t ht hW => ⟨⟨rfl, by rw [ht]; exact hP, va_K.moved hW.alike hK, hD⟩, hS.F ht⟩) hS.2.2 hdg) _ _ _ hP hD va_S.rf (lv_sub hl [0, 1] rfl) hf
