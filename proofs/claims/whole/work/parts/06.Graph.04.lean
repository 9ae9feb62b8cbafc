abbrev b_Graph_reweigh : ByteArray := prog_5_method_4_code
def y_Graph_reweigh : MethodName := ⟨R_Graph, "reweigh", "(II)I"⟩
def ws_Graph_reweigh : List Cond := .code y_Graph_reweigh b_Graph_reweigh 4 (some .int) :: lw_g
theorem wi_Graph_reweigh : ∀ w ∈ ws_Graph_reweigh, w ∈ lw_g := wi_of m_2_54
abbrev rm_Graph_reweigh : Room := { frames := 2, cells := 0, slots := 0, locals := 44 }
theorem hd_Graph_reweigh : y_Graph_reweigh.cls = R_Graph ∧ y_Graph_reweigh.cls ≠ "java/lang/invoke/MethodHandle" ∧ y_Graph_reweigh.cls ≠ "java/lang/invoke/VarHandle" ∧ (parseMethodDescriptor y_Graph_reweigh.desc).map (fun d => d.parameters.length) = some 2 := by decide +kernel
theorem d_Graph_reweigh_0 : decode b_Graph_reweigh 0 = .ok (.aload_n 0, 1) := by decide +kernel
theorem d_Graph_reweigh_1 : decode b_Graph_reweigh 1 = .ok (.getfield 18, 3) := by decide +kernel
theorem d_Graph_reweigh_4 : decode b_Graph_reweigh 4 = .ok (.iload_n 1, 1) := by decide +kernel
theorem d_Graph_reweigh_5 : decode b_Graph_reweigh 5 = .ok (.iaload, 1) := by decide +kernel
theorem d_Graph_reweigh_6 : decode b_Graph_reweigh 6 = .ok (.istore_n 3, 1) := by decide +kernel
theorem d_Graph_reweigh_7 : decode b_Graph_reweigh 7 = .ok (.aload_n 0, 1) := by decide +kernel
theorem d_Graph_reweigh_8 : decode b_Graph_reweigh 8 = .ok (.iload_n 1, 1) := by decide +kernel
theorem d_Graph_reweigh_9 : decode b_Graph_reweigh 9 = .ok (.invokevirtual 39, 3) := by decide +kernel
theorem d_Graph_reweigh_12 : decode b_Graph_reweigh 12 = .ok (.aload_n 0, 1) := by decide +kernel
theorem d_Graph_reweigh_13 : decode b_Graph_reweigh 13 = .ok (.getfield 18, 3) := by decide +kernel
theorem d_Graph_reweigh_16 : decode b_Graph_reweigh 16 = .ok (.iload_n 1, 1) := by decide +kernel
theorem d_Graph_reweigh_17 : decode b_Graph_reweigh 17 = .ok (.iload_n 2, 1) := by decide +kernel
theorem d_Graph_reweigh_18 : decode b_Graph_reweigh 18 = .ok (.iastore, 1) := by decide +kernel
theorem d_Graph_reweigh_19 : decode b_Graph_reweigh 19 = .ok (.aload_n 0, 1) := by decide +kernel
theorem d_Graph_reweigh_20 : decode b_Graph_reweigh 20 = .ok (.iload_n 1, 1) := by decide +kernel
theorem d_Graph_reweigh_21 : decode b_Graph_reweigh 21 = .ok (.invokevirtual 35, 3) := by decide +kernel
theorem d_Graph_reweigh_24 : decode b_Graph_reweigh 24 = .ok (.iload_n 3, 1) := by decide +kernel
theorem d_Graph_reweigh_25 : decode b_Graph_reweigh 25 = .ok (.ireturn, 1) := by decide +kernel
def f_Graph_reweigh (N : Nat) (p1 : Int32) (p2 : Int32) (t_size0 : Int32) (t_weight0 : Nat → Int32) (t_order0 : Nat → Int32) : Option (Int32 × (Nat → Int32) × Int32 × (Nat → Int32)) :=
  gd (inb p1 30) <|
  bn (t_weight0 p1.toNatClampNeg) fun x1 =>
  bk2 (f_Graph_takeOutOfOrder N p1 t_size0 t_order0) fun c2 c3 =>
  gd (inb p1 30) <|
  bk2 (f_Graph_putInOrder N p1 c3 c2 (upd t_weight0 p1.toNatClampNeg p2)) fun c4 c5 =>
  some (x1, c4, c5, upd t_weight0 p1.toNatClampNeg p2)
set_option maxRecDepth 100000 in
set_option maxHeartbeats 4000000 in
theorem w_Graph_reweigh_e {p : Program} {l : Launch} {e : Env} {R : Room} {s : State} {m : MethodId} {args : Array Value} {below : List Frame} {meth : Method} {c : Code} {D : va_G} {cI cJ cG cZ : ClassId} {A : Nat → Prop} {Q : State → Prop} {q_t q_t_from q_t_to q_t_weight q_t_order : Nat} {t_nodes : Int32} {t_numbered : Int32} {t_size0 : Int32} {t_present : Int64} {t_weight0 : Nat → Int32} {t_order0 : Nat → Int32} {p1 : Int32} {p2 : Int32} {N : Nat} {RR : Int32 × (Nat → Int32) × Int32 × (Nat → Int32)} (C0 : CX p R s m args meth c b_Graph_reweigh 4 R_Graph lw_g D CL (TYs cI cJ cG cZ) A 2 44) (hret : ∀ (pc : Nat) (ls : Array Slot) (H : Heap) (locs : List Loc) (v : Int32) (t_order : Nat → Int32) (t_size : Int32) (t_weight : Nat → Int32), decode b_Graph_reweigh pc = .ok (.ireturn, 1) → va_P D CL [(q_t, .inr (2, [.ref q_t_from, .ref q_t_to, .ref q_t_weight, .ref q_t_order, .int t_nodes, .int t_numbered, .int t_size, .long t_present])), (q_t_weight, .inl (cI, 30, .inl t_weight)), (q_t_order, .inl (cI, 30, .inl t_order))] H → va_D A [(q_t, .inr (2, [.ref q_t_from, .ref q_t_to, .ref q_t_weight, .ref q_t_order, .int t_nodes, .int t_numbered, .int t_size, .long t_present])), (q_t_weight, .inl (cI, 30, .inl t_weight)), (q_t_order, .inl (cI, 30, .inl t_order))] → va_S A s.heap H locs → some (v, t_order, t_size, t_weight) = some RR → W p l e R s m args below meth c H locs 0 0 Q (F0 m pc ls [.int v])) : ∀ (H : Heap) (locs : List Loc) (ls : Array Slot), va_P D CL [(q_t, .inr (2, [.ref q_t_from, .ref q_t_to, .ref q_t_weight, .ref q_t_order, .int t_nodes, .int t_numbered, .int t_size0, .long t_present])), (q_t_weight, .inl (cI, 30, .inl t_weight0)), (q_t_order, .inl (cI, 30, .inl t_order0))] H → va_D A [(q_t, .inr (2, [.ref q_t_from, .ref q_t_to, .ref q_t_weight, .ref q_t_order, .int t_nodes, .int t_numbered, .int t_size0, .long t_present])), (q_t_weight, .inl (cI, 30, .inl t_weight0)), (q_t_order, .inl (cI, 30, .inl t_order0))] → va_S A s.heap H locs → lv_has ls 4 [(0, .ref q_t), (1, .int p1), (2, .int p2)] → f_Graph_reweigh N p1 p2 t_size0 t_weight0 t_order0 = some RR → W p l e R s m args below meth c H locs 0 0 Q (F0 m 0 ls []) := by
  intro H locs ls hP hD hS hl hf
  obtain ⟨hx, hb, hml, hown, hts, hK, hA, hfr, hlo, hlk⟩ := id C0
  unfold f_Graph_reweigh at hf
  refine lv_aload_n hx hb d_Graph_reweigh_0 rfl (lv_at hl 0 rfl) ?_
  refine va_get (D := D) (ci := 2) (v := .ref q_t_weight) (C := R_Graph) (T := F_Graph) (N := 8) hx hb hts i_Graph hown hK hP 0 rfl rfl 2 (by decide) (hts _ m_1_39) (fun _ h9 => h9) rfl d_Graph_reweigh_1 ?_
  refine lv_iload_n hx hb d_Graph_reweigh_4 rfl (lv_at hl 1 rfl) ?_
  obtain ⟨hg1, hf⟩ := gd_e hf
  refine va_iald hx hb hK hP 1 0 rfl rfl (inb_e hg1) d_Graph_reweigh_5 ?_
  refine lv_topi (fun x1 ex1 => ?_)
  have hf := bn_e ex1 hf
  refine lv_istore_n (lv' := [(3, .int x1), (0, .ref q_t), (1, .int p1), (2, .int p2)]) hx hb d_Graph_reweigh_6 rfl hl (by decide) rfl (fun ls hl => ?_)
  refine lv_aload_n hx hb d_Graph_reweigh_7 rfl (lv_at hl 1 rfl) ?_
  refine lv_iload_n hx hb d_Graph_reweigh_8 rfl (lv_at hl 2 rfl) ?_
  obtain ⟨c2, c3, hq1, hf⟩ := bk2_e hf
  refine cl_go (wr := [(q_t_weight, .inl (cI, 30, .inl t_weight0))]) (W1 := [(q_t, .inr (2, [.ref q_t_from, .ref q_t_to, .ref q_t_weight, .ref q_t_order, .int t_nodes, .int t_numbered, .int c3, .long t_present])), (q_t_weight, .inl (cI, 30, .inl t_weight0)), (q_t_order, .inl (cI, 30, .inl c2))]) (va_runV (As := [.int p1]) (rest := []) ⟨hx, hb, hml, hown, hts⟩ (c_Graph_takeOutOfOrder l D cI cJ cG cZ q_t q_t_from q_t_to q_t_weight q_t_order t_nodes t_numbered t_size0 t_present t_order0 p1 hq1 H.size) (cwV 1 hts (gi_V m_2_55 m_2_57 m_0_2 m_1_2 wi_Graph_takeOutOfOrder) rfl rfl rfl hd_Graph_takeOutOfOrder ⟨Nat.le_trans (Nat.le_of_ble_eq_true rfl) hfr, Nat.le_trans (Nat.le_of_ble_eq_true rfl) hlo⟩) ⟨pw_blind, va_recv hK hP (ci := 2) (q0 := 0) rfl rfl, fun U hU hW => ⟨rfl, pw_in hU (hP.sub [0, 2] rfl) (va_K.moved hW.alike hK) ((hD.sub [0, 2] rfl rfl).weaken (fun _ _ _ _ => trivial))⟩⟩ rfl rfl hl.1 rfl (lv_room (Nat.le_of_ble_eq_true rfl)) d_Graph_reweigh_9 ⟨Nat.zero_le _, Nat.zero_le _⟩) hP hD hS hA [0, 2] [1] rfl rfl rfl rfl [1, 0, 2] rfl rfl (fun H locs hP hD hS => ?_)
  have hP : va_P D CL [(q_t, .inr (2, [.ref q_t_from, .ref q_t_to, .ref q_t_weight, .ref q_t_order, .int t_nodes, .int t_numbered, .int c3, .long t_present])), (q_t_weight, .inl (cI, 30, .inl t_weight0)), (q_t_order, .inl (cI, 30, .inl c2))] H := hP
  have hD : va_D A [(q_t, .inr (2, [.ref q_t_from, .ref q_t_to, .ref q_t_weight, .ref q_t_order, .int t_nodes, .int t_numbered, .int c3, .long t_present])), (q_t_weight, .inl (cI, 30, .inl t_weight0)), (q_t_order, .inl (cI, 30, .inl c2))] := hD
  refine lv_aload_n hx hb d_Graph_reweigh_12 rfl (lv_at hl 1 rfl) ?_
  refine va_get (D := D) (ci := 2) (v := .ref q_t_weight) (C := R_Graph) (T := F_Graph) (N := 8) hx hb hts i_Graph hown hK hP 0 rfl rfl 2 (by decide) (hts _ m_1_39) (fun _ h9 => h9) rfl d_Graph_reweigh_13 ?_
  refine lv_iload_n hx hb d_Graph_reweigh_16 rfl (lv_at hl 2 rfl) ?_
  refine lv_iload_n hx hb d_Graph_reweigh_17 rfl (lv_at hl 3 rfl) ?_
  obtain ⟨hg2, hf⟩ := gd_e hf
  refine va_iast hx hb hK hP hD hS 1 0 rfl rfl (inb_e hg2) d_Graph_reweigh_18 (fun H locs hP hD hS => ?_)
  have hP : va_P D CL [(q_t, .inr (2, [.ref q_t_from, .ref q_t_to, .ref q_t_weight, .ref q_t_order, .int t_nodes, .int t_numbered, .int c3, .long t_present])), (q_t_weight, .inl (cI, 30, .inl (upd t_weight0 p1.toNatClampNeg p2))), (q_t_order, .inl (cI, 30, .inl c2))] H := hP
  have hD : va_D A [(q_t, .inr (2, [.ref q_t_from, .ref q_t_to, .ref q_t_weight, .ref q_t_order, .int t_nodes, .int t_numbered, .int c3, .long t_present])), (q_t_weight, .inl (cI, 30, .inl (upd t_weight0 p1.toNatClampNeg p2))), (q_t_order, .inl (cI, 30, .inl c2))] := hD
  refine lv_aload_n hx hb d_Graph_reweigh_19 rfl (lv_at hl 1 rfl) ?_
  refine lv_iload_n hx hb d_Graph_reweigh_20 rfl (lv_at hl 2 rfl) ?_
  obtain ⟨c4, c5, hq2, hf⟩ := bk2_e hf
  refine cl_go (wr := []) (W1 := [(q_t, .inr (2, [.ref q_t_from, .ref q_t_to, .ref q_t_weight, .ref q_t_order, .int t_nodes, .int t_numbered, .int c5, .long t_present])), (q_t_weight, .inl (cI, 30, .inl (upd t_weight0 p1.toNatClampNeg p2))), (q_t_order, .inl (cI, 30, .inl c4))]) (va_runV (As := [.int p1]) (rest := []) ⟨hx, hb, hml, hown, hts⟩ (c_Graph_putInOrder l D cI cJ cG cZ q_t q_t_from q_t_to q_t_weight q_t_order t_nodes t_numbered c3 t_present c2 (upd t_weight0 p1.toNatClampNeg p2) p1 hq2 H.size) (cwV 1 hts (gi_V m_2_32 m_2_34 m_0_0 m_1_2 wi_Graph_putInOrder) rfl rfl rfl hd_Graph_putInOrder ⟨Nat.le_trans (Nat.le_of_ble_eq_true rfl) hfr, Nat.le_trans (Nat.le_of_ble_eq_true rfl) hlo⟩) ⟨pw_blind, va_recv hK hP (ci := 2) (q0 := 0) rfl rfl, fun U hU hW => ⟨rfl, pw_in hU (hP.sub [0, 2, 1] rfl) (va_K.moved hW.alike hK) ((hD.sub [0, 2, 1] rfl rfl).weaken (fun _ _ _ _ => trivial))⟩⟩ rfl rfl hl.1 rfl (lv_room (Nat.le_of_ble_eq_true rfl)) d_Graph_reweigh_21 ⟨Nat.zero_le _, Nat.zero_le _⟩) hP hD hS hA [0, 2, 1] [] rfl rfl rfl rfl [0, 2, 1] rfl rfl (fun H locs hP hD hS => ?_)
  have hP : va_P D CL [(q_t, .inr (2, [.ref q_t_from, .ref q_t_to, .ref q_t_weight, .ref q_t_order, .int t_nodes, .int t_numbered, .int c5, .long t_present])), (q_t_weight, .inl (cI, 30, .inl (upd t_weight0 p1.toNatClampNeg p2))), (q_t_order, .inl (cI, 30, .inl c4))] H := hP
  have hD : va_D A [(q_t, .inr (2, [.ref q_t_from, .ref q_t_to, .ref q_t_weight, .ref q_t_order, .int t_nodes, .int t_numbered, .int c5, .long t_present])), (q_t_weight, .inl (cI, 30, .inl (upd t_weight0 p1.toNatClampNeg p2))), (q_t_order, .inl (cI, 30, .inl c4))] := hD
  refine lv_iload_n hx hb d_Graph_reweigh_24 rfl (lv_at hl 0 rfl) ?_
  exact hret 25 _ _ _ x1 c4 c5 (upd t_weight0 p1.toNatClampNeg p2) d_Graph_reweigh_25 hP hD hS hf
set_option maxRecDepth 100000 in
set_option maxHeartbeats 4000000 in
theorem c_Graph_reweigh (l : Launch) (D : va_G) (cI cJ cG cZ : ClassId) (q_t q_t_from q_t_to q_t_weight q_t_order : Nat) (t_nodes : Int32) (t_numbered : Int32) (t_size0 : Int32) (t_present : Int64) (t_weight0 : Nat → Int32) (t_order0 : Nat → Int32) (p1 : Int32) (p2 : Int32) {N : Nat} {r : Int32} {t_order' : Nat → Int32} {t_size' : Int32} {t_weight' : Nat → Int32} (hf : f_Graph_reweigh N p1 p2 t_size0 t_weight0 t_order0 = some (r, t_order', t_size', t_weight')) : MeG l D CL (TYs cI cJ cG cZ) y_Graph_reweigh ws_Graph_reweigh (rm_Graph_reweigh) [.ref q_t, .int p1, .int p2] [(q_t, .inr (2, [.ref q_t_from, .ref q_t_to, .ref q_t_weight, .ref q_t_order, .int t_nodes, .int t_numbered, .int t_size0, .long t_present])), (q_t_weight, .inl (cI, 30, .inl t_weight0)), (q_t_order, .inl (cI, 30, .inl t_order0))] (some (.int r)) [(q_t, .inr (2, [.ref q_t_from, .ref q_t_to, .ref q_t_weight, .ref q_t_order, .int t_nodes, .int t_numbered, .int t_size', .long t_present])), (q_t_weight, .inl (cI, 30, .inl t_weight')), (q_t_order, .inl (cI, 30, .inl t_order'))] := by
  intro sz
  refine Met.ofW (cc := b_Graph_reweigh) (maxL := 4) (ret := (some .int)) (by decide) rfl ?_
  intro p e s m args below meth c s₁ B hml hv
  obtain ⟨rfl, hsz, hP, hK, hD0⟩ := hv
  subst hsz
  have hD := hD0.self (sz := s.heap.size)
  generalize hAe : va_A [(q_t, .inr (2, [.ref q_t_from, .ref q_t_to, .ref q_t_weight, .ref q_t_order, .int t_nodes, .int t_numbered, .int t_size0, .long t_present])), (q_t_weight, .inl (cI, 30, .inl t_weight0)), (q_t_order, .inl (cI, 30, .inl t_order0))] s.heap.size = A at hD ⊢
  have C0 : CX p (headSpec ws_Graph_reweigh (rm_Graph_reweigh)).room s m _ meth c b_Graph_reweigh 4 R_Graph lw_g D CL (TYs cI cJ cG cZ) A 2 44 := ⟨B.exec, B.bytes, hml, findClass_of_methodNamed B.named, fun w h => atoms_spec (ws := ws_Graph_reweigh) B.pre w (List.mem_cons_of_mem _ h), hK, fun q h => by rw [← hAe]; exact Or.inr h, Nat.le_of_ble_eq_true rfl, Nat.le_of_ble_eq_true rfl, B.notSynchronized⟩
  have hl := lv_entry ([.ref q_t, .int p1, .int p2]) (n := 4) (Nat.le_of_ble_eq_true rfl)
  rw [lg_entry_eq]
  generalize (lg_sl ([.ref q_t, .int p1, .int p2]) ++ List.replicate (4 - (lg_sl ([.ref q_t, .int p1, .int p2])).length) Slot.unset).toArray = ls at hl ⊢
  have hl : lv_has ls 4 [(0, .ref q_t), (1, .int p1), (2, .int p2)] := hl
  exact w_Graph_reweigh_e C0 (fun pc ls H locs v t_order t_size t_weight hdg hP hD hS e => by cases e; exact W.iret B.exec B.bytes B.returns (fun t ht hW => ⟨⟨rfl, by rw [ht]; exact hP, va_K.moved hW.alike hK, hD⟩, hS.F ht⟩) hS.2.2 hdg) _ _ _ hP hD va_S.rf (lv_sub hl [0, 1, 2] rfl) hf
