abbrev b_Graph_allNodes : ByteArray := prog_5_method_9_code
def y_Graph_allNodes : MethodName := ⟨R_Graph, "allNodes", "()I"⟩
def ws_Graph_allNodes : List Cond := .code y_Graph_allNodes b_Graph_allNodes 1 (some .int) :: lw_g
theorem wi_Graph_allNodes : ∀ w ∈ ws_Graph_allNodes, w ∈ lw_g := wi_of m_3_88
abbrev rm_Graph_allNodes : Room := { frames := 0, cells := 0, slots := 0, locals := 0 }
theorem hd_Graph_allNodes : y_Graph_allNodes.cls = R_Graph ∧ y_Graph_allNodes.cls ≠ "java/lang/invoke/MethodHandle" ∧ y_Graph_allNodes.cls ≠ "java/lang/invoke/VarHandle" ∧ (parseMethodDescriptor y_Graph_allNodes.desc).map (fun d => d.parameters.length) = some 0 := by decide +kernel
theorem d_Graph_allNodes_0 : decode b_Graph_allNodes 0 = .ok (.iconst 1, 1) := by decide +kernel
theorem d_Graph_allNodes_1 : decode b_Graph_allNodes 1 = .ok (.aload_n 0, 1) := by decide +kernel
theorem d_Graph_allNodes_2 : decode b_Graph_allNodes 2 = .ok (.getfield 24, 3) := by decide +kernel
theorem d_Graph_allNodes_5 : decode b_Graph_allNodes 5 = .ok (.ishl, 1) := by decide +kernel
theorem d_Graph_allNodes_6 : decode b_Graph_allNodes 6 = .ok (.iconst 1, 1) := by decide +kernel
theorem d_Graph_allNodes_7 : decode b_Graph_allNodes 7 = .ok (.isub, 1) := by decide +kernel
theorem d_Graph_allNodes_8 : decode b_Graph_allNodes 8 = .ok (.ireturn, 1) := by decide +kernel
def f_Graph_allNodes (t_nodes : Int32) : Option (Int32) :=
  some (((1 : Int32) <<< (t_nodes &&& 31)) - (1 : Int32))
set_option maxRecDepth 100000 in
set_option maxHeartbeats 4000000 in
theorem w_Graph_allNodes_e {p : Program} {l : Launch} {e : Env} {R : Room} {s : State} {m : MethodId} {args : Array Value} {below : List Frame} {meth : Method} {c : Code} {D : va_G} {cI cJ cG cZ : ClassId} {A : Nat → Prop} {Q : State → Prop} {q_t q_t_from q_t_to q_t_weight q_t_order : Nat} {t_nodes : Int32} {t_numbered : Int32} {t_size : Int32} {t_present : Int64} {RR : Int32} (C0 : CX p R s m args meth c b_Graph_allNodes 1 R_Graph lw_g D CL (TYs cI cJ cG cZ) A 0 0) (hret : ∀ (pc : Nat) (ls : Array Slot) (H : Heap) (locs : List Loc) (v : Int32) , decode b_Graph_allNodes pc = .ok (.ireturn, 1) → va_P D CL [(q_t, .inr (2, [.ref q_t_from, .ref q_t_to, .ref q_t_weight, .ref q_t_order, .int t_nodes, .int t_numbered, .int t_size, .long t_present]))] H → va_D A [(q_t, .inr (2, [.ref q_t_from, .ref q_t_to, .ref q_t_weight, .ref q_t_order, .int t_nodes, .int t_numbered, .int t_size, .long t_present]))] → va_S A s.heap H locs → some (v) = some RR → W p l e R s m args below meth c H locs 0 0 Q (F0 m pc ls [.int v])) : ∀ (H : Heap) (locs : List Loc) (ls : Array Slot), va_P D CL [(q_t, .inr (2, [.ref q_t_from, .ref q_t_to, .ref q_t_weight, .ref q_t_order, .int t_nodes, .int t_numbered, .int t_size, .long t_present]))] H → va_D A [(q_t, .inr (2, [.ref q_t_from, .ref q_t_to, .ref q_t_weight, .ref q_t_order, .int t_nodes, .int t_numbered, .int t_size, .long t_present]))] → va_S A s.heap H locs → lv_has ls 1 [(0, .ref q_t)] → f_Graph_allNodes t_nodes = some RR → W p l e R s m args below meth c H locs 0 0 Q (F0 m 0 ls []) := by
  intro H locs ls hP hD hS hl hf
  obtain ⟨hx, hb, hml, hown, hts, hK, hA, hfr, hlo, hlk⟩ := id C0
  unfold f_Graph_allNodes at hf
  refine lv_iconst (v := 1) hx hb d_Graph_allNodes_0 (by decide) ?_
  refine lv_aload_n hx hb d_Graph_allNodes_1 rfl (lv_at hl 0 rfl) ?_
  refine va_get (D := D) (ci := 2) (v := .int t_nodes) (C := R_Graph) (T := F_Graph) (N := 8) hx hb hts i_Graph hown hK hP 0 rfl rfl 4 (by decide) (hts _ m_1_49) (fun _ h9 => h9) rfl d_Graph_allNodes_2 ?_
  refine lv_ishl hx hb d_Graph_allNodes_5 ?_
  refine lv_iconst (v := 1) hx hb d_Graph_allNodes_6 (by decide) ?_
  refine lv_isub hx hb d_Graph_allNodes_7 ?_
  exact hret 8 _ _ _ (((1 : Int32) <<< (t_nodes &&& 31)) - (1 : Int32)) d_Graph_allNodes_8 hP hD hS hf
set_option maxRecDepth 100000 in
set_option maxHeartbeats 4000000 in
theorem c_Graph_allNodes (l : Launch) (D : va_G) (cI cJ cG cZ : ClassId) (q_t q_t_from q_t_to q_t_weight q_t_order : Nat) (t_nodes : Int32) (t_numbered : Int32) (t_size : Int32) (t_present : Int64) {r : Int32} (hf : f_Graph_allNodes t_nodes = some (r)) : MeG l D CL (TYs cI cJ cG cZ) y_Graph_allNodes ws_Graph_allNodes (rm_Graph_allNodes) [.ref q_t] [(q_t, .inr (2, [.ref q_t_from, .ref q_t_to, .ref q_t_weight, .ref q_t_order, .int t_nodes, .int t_numbered, .int t_size, .long t_present]))] (some (.int r)) [(q_t, .inr (2, [.ref q_t_from, .ref q_t_to, .ref q_t_weight, .ref q_t_order, .int t_nodes, .int t_numbered, .int t_size, .long t_present]))] := by
  intro sz
  refine Met.ofW (cc := b_Graph_allNodes) (maxL := 1) (ret := (some .int)) (by decide) rfl ?_
  intro p e s m args below meth c s₁ B hml hv
  obtain ⟨rfl, hsz, hP, hK, hD0⟩ := hv
  subst hsz
  have hD := hD0.self (sz := s.heap.size)
  generalize hAe : va_A [(q_t, .inr (2, [.ref q_t_from, .ref q_t_to, .ref q_t_weight, .ref q_t_order, .int t_nodes, .int t_numbered, .int t_size, .long t_present]))] s.heap.size = A at hD ⊢
  have C0 : CX p (headSpec ws_Graph_allNodes (rm_Graph_allNodes)).room s m _ meth c b_Graph_allNodes 1 R_Graph lw_g D CL (TYs cI cJ cG cZ) A 0 0 := ⟨B.exec, B.bytes, hml, findClass_of_methodNamed B.named, fun w h => atoms_spec (ws := ws_Graph_allNodes) B.pre w (List.mem_cons_of_mem _ h), hK, fun q h => by rw [← hAe]; exact Or.inr h, Nat.le_of_ble_eq_true rfl, Nat.le_of_ble_eq_true rfl, B.notSynchronized⟩
  have hl := lv_entry ([.ref q_t]) (n := 1) (Nat.le_of_ble_eq_true rfl)
  rw [lg_entry_eq]
  generalize (lg_sl ([.ref q_t]) ++ List.replicate (1 - (lg_sl ([.ref q_t])).length) Slot.unset).toArray = ls at hl ⊢
  have hl : lv_has ls 1 [(0, .ref q_t)] := hl
  exact w_Graph_allNodes_e C0 (fun pc ls H locs v hdg hP hD hS e => by cases e; exact W.iret B.exec B.bytes B.returns (fun t ht hW => ⟨⟨rfl, by rw [ht]; exact hP, va_K.moved hW.alike hK, hD⟩, hS.F ht⟩) hS.2.2 hdg) _ _ _ hP hD va_S.rf (lv_sub hl [0] rfl) hf
