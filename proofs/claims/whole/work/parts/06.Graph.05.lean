abbrev b_Graph_removeArc : ByteArray := prog_5_method_5_code
def y_Graph_removeArc : MethodName := ⟨R_Graph, "removeArc", "(I)I"⟩
def ws_Graph_removeArc : List Cond := .code y_Graph_removeArc b_Graph_removeArc 2 (some .int) :: lw_g
theorem wi_Graph_removeArc : ∀ w ∈ ws_Graph_removeArc, w ∈ lw_g := wi_of m_2_66
abbrev rm_Graph_removeArc : Room := { frames := 1, cells := 0, slots := 0, locals := 23 }
theorem hd_Graph_removeArc : y_Graph_removeArc.cls = R_Graph ∧ y_Graph_removeArc.cls ≠ "java/lang/invoke/MethodHandle" ∧ y_Graph_removeArc.cls ≠ "java/lang/invoke/VarHandle" ∧ (parseMethodDescriptor y_Graph_removeArc.desc).map (fun d => d.parameters.length) = some 1 := by decide +kernel
theorem d_Graph_removeArc_0 : decode b_Graph_removeArc 0 = .ok (.aload_n 0, 1) := by decide +kernel
theorem d_Graph_removeArc_1 : decode b_Graph_removeArc 1 = .ok (.iload_n 1, 1) := by decide +kernel
theorem d_Graph_removeArc_2 : decode b_Graph_removeArc 2 = .ok (.invokevirtual 39, 3) := by decide +kernel
theorem d_Graph_removeArc_5 : decode b_Graph_removeArc 5 = .ok (.aload_n 0, 1) := by decide +kernel
theorem d_Graph_removeArc_6 : decode b_Graph_removeArc 6 = .ok (.dup, 1) := by decide +kernel
theorem d_Graph_removeArc_7 : decode b_Graph_removeArc 7 = .ok (.getfield 31, 3) := by decide +kernel
theorem d_Graph_removeArc_10 : decode b_Graph_removeArc 10 = .ok (.lconst 1, 1) := by decide +kernel
theorem d_Graph_removeArc_11 : decode b_Graph_removeArc 11 = .ok (.iload_n 1, 1) := by decide +kernel
theorem d_Graph_removeArc_12 : decode b_Graph_removeArc 12 = .ok (.lshl, 1) := by decide +kernel
theorem d_Graph_removeArc_13 : decode b_Graph_removeArc 13 = .ok (.ldc2_w 42, 3) := by decide +kernel
theorem d_Graph_removeArc_16 : decode b_Graph_removeArc 16 = .ok (.lxor, 1) := by decide +kernel
theorem d_Graph_removeArc_17 : decode b_Graph_removeArc 17 = .ok (.land, 1) := by decide +kernel
theorem d_Graph_removeArc_18 : decode b_Graph_removeArc 18 = .ok (.putfield 31, 3) := by decide +kernel
theorem d_Graph_removeArc_21 : decode b_Graph_removeArc 21 = .ok (.aload_n 0, 1) := by decide +kernel
theorem d_Graph_removeArc_22 : decode b_Graph_removeArc 22 = .ok (.getfield 44, 3) := by decide +kernel
theorem d_Graph_removeArc_25 : decode b_Graph_removeArc 25 = .ok (.ireturn, 1) := by decide +kernel
def f_Graph_removeArc (N : Nat) (p1 : Int32) (t_size0 : Int32) (t_present0 : Int64) (t_order0 : Nat → Int32) : Option (Int32 × (Nat → Int32) × Int32 × Int64) :=
  bk2 (f_Graph_takeOutOfOrder N p1 t_size0 t_order0) fun c1 c2 =>
  bn (t_present0 &&& (((1 : Int64) <<< (p1.toInt64 &&& 63)) ^^^ (-1 : Int64))) fun x3 =>
  some (c2, c1, c2, x3)
set_option maxRecDepth 100000 in
set_option maxHeartbeats 4000000 in
theorem w_Graph_removeArc_e {p : Program} {l : Launch} {e : Env} {R : Room} {s : State} {m : MethodId} {args : Array Value} {below : List Frame} {meth : Method} {c : Code} {D : va_G} {cI cJ cG cZ : ClassId} {A : Nat → Prop} {Q : State → Prop} {q_t q_t_from q_t_to q_t_weight q_t_order : Nat} {t_nodes : Int32} {t_numbered : Int32} {t_size0 : Int32} {t_present0 : Int64} {t_order0 : Nat → Int32} {p1 : Int32} {N : Nat} {RR : Int32 × (Nat → Int32) × Int32 × Int64} (C0 : CX p R s m args meth c b_Graph_removeArc 2 R_Graph lw_g D CL (TYs cI cJ cG cZ) A 1 23) (hret : ∀ (pc : Nat) (ls : Array Slot) (H : Heap) (locs : List Loc) (v : Int32) (t_order : Nat → Int32) (t_size : Int32) (t_present : Int64), decode b_Graph_removeArc pc = .ok (.ireturn, 1) → va_P D CL [(q_t, .inr (2, [.ref q_t_from, .ref q_t_to, .ref q_t_weight, .ref q_t_order, .int t_nodes, .int t_numbered, .int t_size, .long t_present])), (q_t_order, .inl (cI, 30, .inl t_order))] H → va_D A [(q_t, .inr (2, [.ref q_t_from, .ref q_t_to, .ref q_t_weight, .ref q_t_order, .int t_nodes, .int t_numbered, .int t_size, .long t_present])), (q_t_order, .inl (cI, 30, .inl t_order))] → va_S A s.heap H locs → some (v, t_order, t_size, t_present) = some RR → W p l e R s m args below meth c H locs 0 0 Q (F0 m pc ls [.int v])) : ∀ (H : Heap) (locs : List Loc) (ls : Array Slot), va_P D CL [(q_t, .inr (2, [.ref q_t_from, .ref q_t_to, .ref q_t_weight, .ref q_t_order, .int t_nodes, .int t_numbered, .int t_size0, .long t_present0])), (q_t_order, .inl (cI, 30, .inl t_order0))] H → va_D A [(q_t, .inr (2, [.ref q_t_from, .ref q_t_to, .ref q_t_weight, .ref q_t_order, .int t_nodes, .int t_numbered, .int t_size0, .long t_present0])), (q_t_order, .inl (cI, 30, .inl t_order0))] → va_S A s.heap H locs → lv_has ls 2 [(0, .ref q_t), (1, .int p1)] → f_Graph_removeArc N p1 t_size0 t_present0 t_order0 = some RR → W p l e R s m args below meth c H locs 0 0 Q (F0 m 0 ls []) := by
  intro H locs ls hP hD hS hl hf
  obtain ⟨hx, hb, hml, hown, hts, hK, hA, hfr, hlo, hlk⟩ := id C0
  unfold f_Graph_removeArc at hf
  refine lv_aload_n hx hb d_Graph_removeArc_0 rfl (lv_at hl 0 rfl) ?_
  refine lv_iload_n hx hb d_Graph_removeArc_1 rfl (lv_at hl 1 rfl) ?_
  obtain ⟨c1, c2, hq1, hf⟩ := bk2_e hf
  refine cl_go (wr := []) (W1 := [(q_t, .inr (2, [.ref q_t_from, .ref q_t_to, .ref q_t_weight, .ref q_t_order, .int t_nodes, .int t_numbered, .int c2, .long t_present0])), (q_t_order, .inl (cI, 30, .inl c1))]) (va_runV (As := [.int p1]) (rest := []) ⟨hx, hb, hml, hown, hts⟩ (c_Graph_takeOutOfOrder l D cI cJ cG cZ q_t q_t_from q_t_to q_t_weight q_t_order t_nodes t_numbered t_size0 t_present0 t_order0 p1 hq1 H.size) (cwV 1 hts (gi_V m_2_55 m_2_57 m_0_2 m_1_2 wi_Graph_takeOutOfOrder) rfl rfl rfl hd_Graph_takeOutOfOrder ⟨Nat.le_trans (Nat.le_of_ble_eq_true rfl) hfr, Nat.le_trans (Nat.le_of_ble_eq_true rfl) hlo⟩) ⟨pw_blind, va_recv hK hP (ci := 2) (q0 := 0) rfl rfl, fun U hU hW => ⟨rfl, pw_in hU (hP.sub [0, 1] rfl) (va_K.moved hW.alike hK) ((hD.sub [0, 1] rfl rfl).weaken (fun _ _ _ _ => trivial))⟩⟩ rfl rfl hl.1 rfl (lv_room (Nat.le_of_ble_eq_true rfl)) d_Graph_removeArc_2 ⟨Nat.zero_le _, Nat.zero_le _⟩) hP hD hS hA [0, 1] [] rfl rfl rfl rfl [0, 1] rfl rfl (fun H locs hP hD hS => ?_)
  have hP : va_P D CL [(q_t, .inr (2, [.ref q_t_from, .ref q_t_to, .ref q_t_weight, .ref q_t_order, .int t_nodes, .int t_numbered, .int c2, .long t_present0])), (q_t_order, .inl (cI, 30, .inl c1))] H := hP
  have hD : va_D A [(q_t, .inr (2, [.ref q_t_from, .ref q_t_to, .ref q_t_weight, .ref q_t_order, .int t_nodes, .int t_numbered, .int c2, .long t_present0])), (q_t_order, .inl (cI, 30, .inl c1))] := hD
  refine lv_aload_n hx hb d_Graph_removeArc_5 rfl (lv_at hl 0 rfl) ?_
  refine lv_dup hx hb d_Graph_removeArc_6 rfl ?_
  refine va_get (D := D) (ci := 2) (v := .long t_present0) (C := R_Graph) (T := F_Graph) (N := 8) hx hb hts i_Graph hown hK hP 0 rfl rfl 7 (by decide) (hts _ m_1_63) (fun _ h9 => h9) rfl d_Graph_removeArc_7 ?_
  refine lv_lconst (v := 1) hx hb d_Graph_removeArc_10 (by decide) ?_
  refine lv_iload_n hx hb d_Graph_removeArc_11 rfl (lv_at hl 1 rfl) ?_
  refine lv_lshl (v := (1 : Int64) <<< (p1.toInt64 &&& 63)) hx hb d_Graph_removeArc_12 rfl ?_
  refine lv_ldc2 (v := -1) hx hb hown (hts _ m_2_67) d_Graph_removeArc_13 ?_
  refine lv_lxor hx hb d_Graph_removeArc_16 ?_
  refine lv_land hx hb d_Graph_removeArc_17 ?_
  refine lv_topl (fun x3 ex3 => ?_)
  have hf := bn_e ex3 hf
  refine va_put (D := D) (ci := 2) (v := .long x3) (ty := .long) (C := R_Graph) (T := F_Graph) (N := 8) hx hb hts i_Graph t_Graph to_Graph n_Graph hown hK hP hD hS 0 rfl rfl 7 (by decide) (hts _ m_1_63) (fun _ h9 => h9) rfl (by decide +kernel) rfl rfl (Nat.le_of_ble_eq_true rfl) d_Graph_removeArc_18 (fun H locs hP hD hS => ?_)
  have hP : va_P D CL [(q_t, .inr (2, [.ref q_t_from, .ref q_t_to, .ref q_t_weight, .ref q_t_order, .int t_nodes, .int t_numbered, .int c2, .long x3])), (q_t_order, .inl (cI, 30, .inl c1))] H := hP
  have hD : va_D A [(q_t, .inr (2, [.ref q_t_from, .ref q_t_to, .ref q_t_weight, .ref q_t_order, .int t_nodes, .int t_numbered, .int c2, .long x3])), (q_t_order, .inl (cI, 30, .inl c1))] := hD
  refine lv_aload_n hx hb d_Graph_removeArc_21 rfl (lv_at hl 0 rfl) ?_
  refine va_get (D := D) (ci := 2) (v := .int c2) (C := R_Graph) (T := F_Graph) (N := 8) hx hb hts i_Graph hown hK hP 0 rfl rfl 6 (by decide) (hts _ m_1_60) (fun _ h9 => h9) rfl d_Graph_removeArc_22 ?_
  exact hret 25 _ _ _ c2 c1 c2 x3 d_Graph_removeArc_25 hP hD hS hf
set_option maxRecDepth 100000 in
set_option maxHeartbeats 4000000 in
theorem c_Graph_removeArc (l : Launch) (D : va_G) (cI cJ cG cZ : ClassId) (q_t q_t_from q_t_to q_t_weight q_t_order : Nat) (t_nodes : Int32) (t_numbered : Int32) (t_size0 : Int32) (t_present0 : Int64) (t_order0 : Nat → Int32) (p1 : Int32) {N : Nat} {r : Int32} {t_order' : Nat → Int32} {t_size' : Int32} {t_present' : Int64} (hf : f_Graph_removeArc N p1 t_size0 t_present0 t_order0 = some (r, t_order', t_size', t_present')) : MeG l D CL (TYs cI cJ cG cZ) y_Graph_removeArc ws_Graph_removeArc (rm_Graph_removeArc) [.ref q_t, .int p1] [(q_t, .inr (2, [.ref q_t_from, .ref q_t_to, .ref q_t_weight, .ref q_t_order, .int t_nodes, .int t_numbered, .int t_size0, .long t_present0])), (q_t_order, .inl (cI, 30, .inl t_order0))] (some (.int r)) [(q_t, .inr (2, [.ref q_t_from, .ref q_t_to, .ref q_t_weight, .ref q_t_order, .int t_nodes, .int t_numbered, .int t_size', .long t_present'])), (q_t_order, .inl (cI, 30, .inl t_order'))] := by
  intro sz
  refine Met.ofW (cc := b_Graph_removeArc) (maxL := 2) (ret := (some .int)) (by decide) rfl ?_
  intro p e s m args below meth c s₁ B hml hv
  obtain ⟨rfl, hsz, hP, hK, hD0⟩ := hv
  subst hsz
  have hD := hD0.self (sz := s.heap.size)
  generalize hAe : va_A [(q_t, .inr (2, [.ref q_t_from, .ref q_t_to, .ref q_t_weight, .ref q_t_order, .int t_nodes, .int t_numbered, .int t_size0, .long t_present0])), (q_t_order, .inl (cI, 30, .inl t_order0))] s.heap.size = A at hD ⊢
  have C0 : CX p (headSpec ws_Graph_removeArc (rm_Graph_removeArc)).room s m _ meth c b_Graph_removeArc 2 R_Graph lw_g D CL (TYs cI cJ cG cZ) A 1 23 := ⟨B.exec, B.bytes, hml, findClass_of_methodNamed B.named, fun w h => atoms_spec (ws := ws_Graph_removeArc) B.pre w (List.mem_cons_of_mem _ h), hK, fun q h => by rw [← hAe]; exact Or.inr h, Nat.le_of_ble_eq_true rfl, Nat.le_of_ble_eq_true rfl, B.notSynchronized⟩
  have hl := lv_entry ([.ref q_t, .int p1]) (n := 2) (Nat.le_of_ble_eq_true rfl)
  rw [lg_entry_eq]
  generalize (lg_sl ([.ref q_t, .int p1]) ++ List.replicate (2 - (lg_sl ([.ref q_t, .int p1])).length) Slot.unset).toArray = ls at hl ⊢
  have hl : lv_has ls 2 [(0, .ref q_t), (1, .int p1)] := hl
  exact w_Graph_removeArc_e C0 (fun pc ls H locs v t_order t_size t_present hdg hP hD hS e => by cases e; exact W.iret B.exec B.bytes B.returns (fun t ht hW => ⟨⟨rfl, by rw [ht]; exact hP, va_K.moved hW.alike hK, hD⟩, hS.F ht⟩) hS.2.2 hdg) _ _ _ hP hD va_S.rf (lv_sub hl [0, 1] rfl) hf
