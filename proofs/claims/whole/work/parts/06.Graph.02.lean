abbrev b_Graph_removeArc : ByteArray := prog_5_method_5_code
def y_Graph_removeArc : MethodName := ⟨R_Graph, "removeArc", "(I)I"⟩
def ws_Graph_removeArc : List Cond := .code y_Graph_removeArc b_Graph_removeArc 2 (some .int) :: lw_g
theorem wi_Graph_removeArc : ∀ w ∈ ws_Graph_removeArc, w ∈ lw_g := wi_of m_2_66
abbrev rm_Graph_removeArc : Room := { frames := 1, cells := 0, slots := 0, locals := 23 }
theorem hd_Graph_removeArc : y_Graph_removeArc.cls = R_Graph ∧ y_Graph_removeArc.cls ≠ "java/lang/invoke/MethodHandle" ∧ y_Graph_removeArc.cls ≠ "java/lang/invoke/VarHandle" ∧ (parseMethodDescriptor y_Graph_removeArc.desc).map (fun d => d.parameters.length) = some 1 := by decide +kernel
theorem d_Graph_removeArc_0 : decode b_Graph_removeArc 0 = .ok (.aload_n 0, 1) := by decide +kernel
theorem d_Graph_removeArc_1 : decode b_Graph_removeArc 1 = .ok (.iload_n 1, 1) := by decide +kernel
theorem d_Graph_removeArc_2 : decode b_Graph_removeArc 2 = .ok (.invokevirtual 39, 3) := by decide +kernel
theorem d_Graph_removeArc_5 : decode b_Graph_removeArc 5 = .ok (.aload_n 0, 1) := by decide +kernel
theorem d_Graph_removeArc_6 : decode b_Graph_removeArc 6 = .ok (.dup, 1) := by decide +kernel
theorem d_Graph_removeArc_7 : decode b_Graph_removeArc 7 = .ok (.getfield 31, 3) := by decide +kernel
theorem d_Graph_removeArc_10 : decode b_Graph_removeArc 10 = .ok (.lconst 1, 1) := by decide +kernel
theorem d_Graph_removeArc_11 : decode b_Graph_removeArc 11 = .ok (.iload_n 1, 1) := by decide +kernel
theorem d_Graph_removeArc_12 : decode b_Graph_removeArc 12 = .ok (.lshl, 1) := by decide +kernel
theorem d_Graph_removeArc_13 : decode b_Graph_removeArc 13 = .ok (.ldc2_w 42, 3) := by decide +kernel
theorem d_Graph_removeArc_16 : decode b_Graph_removeArc 16 = .ok (.lxor, 1) := by decide +kernel
theorem d_Graph_removeArc_17 : decode b_Graph_removeArc 17 = .ok (.land, 1) := by decide +kernel
theorem d_Graph_removeArc_18 : decode b_Graph_removeArc 18 = .ok (.putfield 31, 3) := by decide +kernel
theorem d_Graph_removeArc_21 : decode b_Graph_removeArc 21 = .ok (.aload_n 0, 1) := by decide +kernel
theorem d_Graph_removeArc_22 : decode b_Graph_removeArc 22 = .ok (.getfield 44, 3) := by decide +kernel
theorem d_Graph_removeArc_25 : decode b_Graph_removeArc 25 = .ok (.ireturn, 1) := by decide +kernel
def f_Graph_removeArc (N : Nat) (p1 : Int32) (t_size0 : Int32) (t_present0 : Int64) (t_order0 : Nat → Int32) : Option (Int32 × (Nat → Int32) × Int32 × Int64) :=
  bk2 (f_Graph_takeOutOfOrder N p1 t_size0 t_order0) fun c1 c2 =>
  bn (t_present0 &&& (((1 : Int64) <<< (p1.toInt64 &&& 63)) ^^^ (-1 : Int64))) fun x3 =>
  some (c2, c1, c2, x3)
set_option maxRecDepth 100000 in
set_option maxHeartbeats 4000000 in
theorem w_Graph_removeArc_e {p : Program} {l : Launch} {e : Env} {R : Room} {s : State} {m : MethodId} {args : Array Value} {below : List Frame} {meth : Method} {c : Code} {D : va_G} {cI cJ cG cZ : ClassId} {A : Nat → Prop} {Q : State → Prop} {q_t q_t_from q_t_to q_t_weight q_t_order : Nat} {t_nodes : Int32} {t_numbered : Int32} {t_size0 : Int32} {t_present0 : Int64} {t_order0 : Nat → Int32} {p1 : Int32} {N : Nat} {RR : Int32 × (Nat → Int32) × Int32 × Int64} (C0 : CX p R s m args meth c b_Graph_removeArc 2 R_Graph lw_g D CL (TYs cI cJ cG cZ) A 1 23) (hret : ∀ (pc : Nat) (ls : Array Slot) (H : Heap) (locs : List Loc) (v : Int32) (t_order : Nat → Int32) (t_size : Int32) (t_present : Int64), decode b_Graph_removeArc pc = .ok (.ireturn, 1) → va_P D CL [(q_t, .inr (2, [.ref q_t_from, .ref q_t_to, .ref q_t_weight, .ref q_t_order, .int t_nodes, .int t_numbered, .int t_size, .long t_present])), (q_t_order, .inl (cI, 30, .inl t_order))] H → va_D A [(q_t, .inr (2, [.ref q_t_from, .ref q_t_to, .ref q_t_weight, .ref q_t_order, .int t_nodes, .int t_numbered, .int t_size, .long t_present])), (q_t_order, .inl (cI, 30, .inl t_order))] → va_S A s.heap H locs → some (v, t_order, t_size, t_present) = some RR → W p l e R s m args below meth c H locs 0 0 Q (F0 m pc ls [.int v])) : ∀ (H : Heap) (locs : List Loc) (ls : Array Slot), va_P D CL [(q_t, .inr (2, [.ref q_t_from, .ref q_t_to, .ref q_t_weight, .ref q_t_order, .int t_nodes, .int t_numbered, .int t_size0, .long t_present0])), (q_t_order, .inl (cI, 30, .inl t_order0))] H → va_D A [(q_t, .inr (2, [.ref q_t_from, .ref q_t_to, .ref q_t_weight, .ref q_t_order, .int t_nodes, .int t_numbered, .int t_size0, .long t_present0])), (q_t_order, .inl (cI, 30, .inl t_order0))] → va_S A s.heap H locs → lv_has ls 2 [(0, .ref q_t), (1, .int p1)] → f_Graph_removeArc N p1 t_size0 t_present0 t_order0 = some RR → W p l e R s m args below meth c H locs 0 0 Q (F0 m 0 ls []) := by
  intro H locs ls hP hD hS hl hf
  obtain ⟨hx, hb, hml, hown, hts, hK, hA, hfr, hlo, hlk⟩ := id C0
  unfold f_Graph_removeArc at hf
  refine lv_aload_n hx hb d_Graph_removeArc_0 rfl (lv_at hl 0 rfl) ?_
  refine lv_iload_n hx hb d_Graph_removeArc_1 rfl (lv_at hl 1 rfl) ?_
  obtain ⟨c1, c2, hq1, hf⟩ := bk2_e hf
  refine cl_go (wr := []) (W1 := [(q_t, .inr (2, [.ref q_t_from, .ref q_t_to, .ref q_t_weight, .ref q_t_order, .int t_nodes, .int t_numbered, .int c2, .long t_present0])), (q_t_order, .inl (cI, 30, .inl c1))]) (va_runV (As := [.int p1]) (rest := []) ⟨hx, hb, hml, hown, hts⟩ (c_Graph_takeOutOfOrder l D cI cJ cG cZ q_t q_t_from q_t_to q_t_weight q_t_order t_nodes t_numbered t_size0 t_present0 t_order0 p1 hq1 H.size) (cwV 1 hts (gi_V m_2_55 m_2_57 m_0_2 m_1_2 wi_Graph_takeOutOfOrder) rfl rfl rfl hd_Graph_takeOutOfOrder ⟨Nat.le_trans (Nat.le_of_ble_eq_true rfl) hfr, Nat.le_trans (Nat.le_of_ble_eq_true rfl) hlo⟩) ⟨pw_blind, va_recv hK hP (ci := 2) (q0 := 0) rfl rfl, fun U hU hW => ⟨rfl, pw_in hU (hP.sub [0, 1] rfl) (va_K.moved hW.alike hK) ((hD.sub [0, 1] rfl rfl).weaken (fun _ _ _ _ => trivial))⟩⟩ rfl rfl hl.1 rfl (lv_room (Nat.le_of_ble_eq_true rfl)) d_Graph_removeArc_2 ⟨Nat.zero_le _, Nat.zero_le _⟩) hP hD hS hA [0, 1] [] rfl rfl rfl rfl [0, 1] rfl rfl (fun H locs hP hD hS => ?_)
  have hP : va_P D CL [(q_t, .inr (2, [.ref q_t_from, .ref q_t_to, .ref q_t_weight, .ref q_t_order, .int t_nodes, .int t_numbered, .int c2, .long t_present0])), (q_t_order, .inl (cI, 30, .inl c1))] H := hP
  have hD : va_D A [(q_t, .inr (2, [.ref q_t_from, .ref q_t_to, .ref q_t_weight, .ref q_t_order, .int t_nodes, .int t_numbered, .int c2, .long t_present0])), (q_t_order, .inl (cI, 30, .inl c1))] := hD
  refine lv_aload_n hx hb d_Graph_removeArc_5 rfl (lv_at hl 0 rfl) ?_
  refine lv_dup hx hb d_Graph_removeArc_6 rfl ?_
  refine va_get (D := D) (ci := 2) (v := .long t_present0) (C := R_Graph) (T := F_Graph) (N := 8) hx hb hts i_Graph hown hK hP 0 rfl rfl 7 (by decide) (hts _ m_1_63) (fun _ h9 => h9) rfl d_Graph_removeArc_7 ?_
  refine lv_lconst (v := 1) hx hb d_Graph_removeArc_10 (by decide) ?_
  refine lv_iload_n hx hb d_Graph_removeArc_11 rfl (lv_at hl 1 rfl) ?_
  refine lv_lshl (v := (1 : Int64) <<< (p1.toInt64 &&& 63)) hx hb d_Graph_removeArc_12 rfl ?_
  refine lv_ldc2 (v := -1) hx hb hown (hts _ m_2_67) d_Graph_removeArc_13 ?_
  refine lv_lxor hx hb d_Graph_removeArc_16 ?_
  refine lv_land hx hb d_Graph_removeArc_17 ?_
  refine lv_topl (fun x3 ex3 => ?_)
  have hf := bn_e ex3 hf
  refine va_put (D := D) (ci := 2) (v := .long x3) (ty := .long) (C := R_Graph) (T := F_Graph) (N := 8) hx hb hts i_Graph t_Graph to_Graph n_Graph hown hK hP hD hS 0 rfl rfl 7 (by decide) (hts _ m_1_63) (fun _ h9 => h9) rfl (by decide +kernel) rfl rfl (Nat.le_of_ble_eq_true rfl) d_Graph_removeArc_18 (fun H locs hP hD hS => ?_)
  have hP : va_P D CL [(q_t, .inr (2, [.ref q_t_from, .ref q_t_to, .ref q_t_weight, .ref q_t_order, .int t_nodes, .int t_numbered, .int c2, .long x3])), (q_t_order, .inl (cI, 30, .inl c1))] H := hP
  have hD : va_D A [(q_t, .inr (2, [.ref q_t_from, .ref q_t_to, .ref q_t_weight, .ref q_t_order, .int t_nodes, .int t_numbered, .int c2, .long x3])), (q_t_order, .inl (cI, 30, .inl c1))] := hD
  refine lv_aload_n hx hb d_Graph_removeArc_21 rfl (lv_at hl 0 rfl) ?_
  refine va_get (D := D) (ci := 2) (v := .int c2) (C := R_Graph) (T := F_Graph) (N := 8) hx hb hts i_Graph hown hK hP 0 rfl rfl 6 (by decide) (hts _ m_1_60) (fun _ h9 => h9) rfl d_Graph_removeArc_22 ?_
  exact hret 25 _ _ _ c2 c1 c2 x3 d_Graph_removeArc_25 hP hD hS hf
set_option maxRecDepth 100000 in
set_option maxHeartbeats 4000000 in
theorem c_Graph_removeArc (l : Launch) (D : va_G) (cI cJ cG cZ : ClassId) (q_t q_t_from q_t_to q_t_weight q_t_order : Nat) (t_nodes : Int32) (t_numbered : Int32) (t_size0 : Int32) (t_present0 : Int64) (t_order0 : Nat → Int32) (p1 : Int32) {N : Nat} {r : Int32} {t_order' : Nat → Int32} {t_size' : Int32} {t_present' : Int64} (hf : f_Graph_removeArc N p1 t_size0 t_present0 t_order0 = some (r, t_order', t_size', t_present')) : MeG l D CL (TYs cI cJ cG cZ) y_Graph_removeArc ws_Graph_removeArc (rm_Graph_removeArc) [.ref q_t, .int p1] [(q_t, .inr (2, [.ref q_t_from, .ref q_t_to, .ref q_t_weight, .ref q_t_order, .int t_nodes, .int t_numbered, .int t_size0, .long t_present0])), (q_t_order, .inl (cI, 30, .inl t_order0))] (some (.int r)) [(q_t, .inr (2, [.ref q_t_from, .ref q_t_to, .ref q_t_weight, .ref q_t_order, .int t_nodes, .int t_numbered, .int t_size', .long t_present'])), (q_t_order, .inl (cI, 30, .inl t_order'))] := by
  intro sz
  refine Met.ofW (cc := b_Graph_removeArc) (maxL := 2) (ret := (some .int)) (by decide) rfl ?_
  intro p e s m args below meth c s₁ B hml hv
  obtain ⟨rfl, hsz, hP, hK, hD0⟩ := hv
  subst hsz
  have hD := hD0.self (sz := s.heap.size)
  generalize hAe : va_A [(q_t, .inr (2, [.ref q_t_from, .ref q_t_to, .ref q_t_weight, .ref q_t_order, .int t_nodes, .int t_numbered, .int t_size0, .long t_present0])), (q_t_order, .inl (cI, 30, .inl t_order0))] s.heap.size = A at hD ⊢
  have C0 : CX p (headSpec ws_Graph_removeArc (rm_Graph_removeArc)).room s m _ meth c b_Graph_removeArc 2 R_Graph lw_g D CL (TYs cI cJ cG cZ) A 1 23 := ⟨B.exec, B.bytes, hml, findClass_of_methodNamed B.named, fun w h => atoms_spec (ws := ws_Graph_removeArc) B.pre w (List.mem_cons_of_mem _ h), hK, fun q h => by rw [← hAe]; exact Or.inr h, Nat.le_of_ble_eq_true rfl, Nat.le_of_ble_eq_true rfl, B.notSynchronized⟩
  have hl := lv_entry ([.ref q_t, .int p1]) (n := 2) (Nat.le_of_ble_eq_true rfl)
  rw [lg_entry_eq]
  generalize (lg_sl ([.ref q_t, .int p1]) ++ List.replicate (2 - (lg_sl ([.ref q_t, .int p1])).length) Slot.unset).toArray = ls at hl ⊢
  have hl : lv_has ls 2 [(0, .ref q_t), (1, .int p1)] := hl
  exact w_Graph_removeArc_e C0 (fun pc ls H locs v t_order t_size t_present hdg hP hD hS e => by cases e; exact W.iret B.exec B.bytes B.returns (fun t ht hW => ⟨⟨rfl, by rw [ht]; exact hP, va_K.moved hW.alike hK, hD⟩, hS.F ht⟩) hS.2.2 hdg) _ _ _ hP hD va_S.rf (lv_sub hl [0, 1] rfl) hf
abbrev b_Graph_empty : ByteArray := prog_5_method_6_code
def y_Graph_empty : MethodName := ⟨R_Graph, "empty", "()V"⟩
def ws_Graph_empty : List Cond := .code y_Graph_empty b_Graph_empty 1 none :: lw_g
theorem wi_Graph_empty : ∀ w ∈ ws_Graph_empty, w ∈ lw_g := wi_of m_2_75
abbrev rm_Graph_empty : Room := { frames := 0, cells := 0, slots := 0, locals := 0 }
theorem hd_Graph_empty : y_Graph_empty.cls = R_Graph ∧ y_Graph_empty.cls ≠ "java/lang/invoke/MethodHandle" ∧ y_Graph_empty.cls ≠ "java/lang/invoke/VarHandle" ∧ (parseMethodDescriptor y_Graph_empty.desc).map (fun d => d.parameters.length) = some 0 := by decide +kernel
theorem d_Graph_empty_0 : decode b_Graph_empty 0 = .ok (.aload_n 0, 1) := by decide +kernel
theorem d_Graph_empty_1 : decode b_Graph_empty 1 = .ok (.iconst 0, 1) := by decide +kernel
theorem d_Graph_empty_2 : decode b_Graph_empty 2 = .ok (.putfield 24, 3) := by decide +kernel
theorem d_Graph_empty_5 : decode b_Graph_empty 5 = .ok (.aload_n 0, 1) := by decide +kernel
theorem d_Graph_empty_6 : decode b_Graph_empty 6 = .ok (.iconst 0, 1) := by decide +kernel
theorem d_Graph_empty_7 : decode b_Graph_empty 7 = .ok (.putfield 28, 3) := by decide +kernel
theorem d_Graph_empty_10 : decode b_Graph_empty 10 = .ok (.aload_n 0, 1) := by decide +kernel
theorem d_Graph_empty_11 : decode b_Graph_empty 11 = .ok (.iconst 0, 1) := by decide +kernel
theorem d_Graph_empty_12 : decode b_Graph_empty 12 = .ok (.putfield 44, 3) := by decide +kernel
theorem d_Graph_empty_15 : decode b_Graph_empty 15 = .ok (.aload_n 0, 1) := by decide +kernel
theorem d_Graph_empty_16 : decode b_Graph_empty 16 = .ok (.lconst 0, 1) := by decide +kernel
theorem d_Graph_empty_17 : decode b_Graph_empty 17 = .ok (.putfield 31, 3) := by decide +kernel
theorem d_Graph_empty_20 : decode b_Graph_empty 20 = .ok (.return_, 1) := by decide +kernel
def f_Graph_empty  : Option (Int32 × Int32 × Int32 × Int64) :=
  some ((0 : Int32), (0 : Int32), (0 : Int32), (0 : Int64))
set_option maxRecDepth 100000 in
set_option maxHeartbeats 4000000 in
theorem w_Graph_empty_e {p : Program} {l : Launch} {e : Env} {R : Room} {s : State} {m : MethodId} {args : Array Value} {below : List Frame} {meth : Method} {c : Code} {D : va_G} {cI cJ cG cZ : ClassId} {A : Nat → Prop} {Q : State → Prop} {q_t q_t_from q_t_to q_t_weight q_t_order : Nat} {t_nodes0 : Int32} {t_numbered0 : Int32} {t_size0 : Int32} {t_present0 : Int64} {RR : Int32 × Int32 × Int32 × Int64} (C0 : CX p R s m args meth c b_Graph_empty 1 R_Graph lw_g D CL (TYs cI cJ cG cZ) A 0 0) (hret : ∀ (pc : Nat) (ls : Array Slot) (H : Heap) (locs : List Loc) (t_nodes : Int32) (t_numbered : Int32) (t_size : Int32) (t_present : Int64), decode b_Graph_empty pc = .ok (.return_, 1) → va_P D CL [(q_t, .inr (2, [.ref q_t_from, .ref q_t_to, .ref q_t_weight, .ref q_t_order, .int t_nodes, .int t_numbered, .int t_size, .long t_present]))] H → va_D A [(q_t, .inr (2, [.ref q_t_from, .ref q_t_to, .ref q_t_weight, .ref q_t_order, .int t_nodes, .int t_numbered, .int t_size, .long t_present]))] → va_S A s.heap H locs → some (t_nodes, t_numbered, t_size, t_present) = some RR → W p l e R s m args below meth c H locs 0 0 Q (F0 m pc ls [])) : ∀ (H : Heap) (locs : List Loc) (ls : Array Slot), va_P D CL [(q_t, .inr (2, [.ref q_t_from, .ref q_t_to, .ref q_t_weight, .ref q_t_order, .int t_nodes0, .int t_numbered0, .int t_size0, .long t_present0]))] H → va_D A [(q_t, .inr (2, [.ref q_t_from, .ref q_t_to, .ref q_t_weight, .ref q_t_order, .int t_nodes0, .int t_numbered0, .int t_size0, .long t_present0]))] → va_S A s.heap H locs → lv_has ls 1 [(0, .ref q_t)] → f_Graph_empty = some RR → W p l e R s m args below meth c H locs 0 0 Q (F0 m 0 ls []) := by
  intro H locs ls hP hD hS hl hf
  obtain ⟨hx, hb, hml, hown, hts, hK, hA, hfr, hlo, hlk⟩ := id C0
  unfold f_Graph_empty at hf
  refine lv_aload_n hx hb d_Graph_empty_0 rfl (lv_at hl 0 rfl) ?_
  refine lv_iconst (v := 0) hx hb d_Graph_empty_1 (by decide) ?_
  refine va_put (D := D) (ci := 2) (v := .int (0 : Int32)) (ty := .int) (C := R_Graph) (T := F_Graph) (N := 8) hx hb hts i_Graph t_Graph to_Graph n_Graph hown hK hP hD hS 0 rfl rfl 4 (by decide) (hts _ m_1_49) (fun _ h9 => h9) rfl (by decide +kernel) rfl rfl (Nat.le_of_ble_eq_true rfl) d_Graph_empty_2 (fun H locs hP hD hS => ?_)
  have hP : va_P D CL [(q_t, .inr (2, [.ref q_t_from, .ref q_t_to, .ref q_t_weight, .ref q_t_order, .int (0 : Int32), .int t_numbered0, .int t_size0, .long t_present0]))] H := hP
  have hD : va_D A [(q_t, .inr (2, [.ref q_t_from, .ref q_t_to, .ref q_t_weight, .ref q_t_order, .int (0 : Int32), .int t_numbered0, .int t_size0, .long t_present0]))] := hD
  refine lv_aload_n hx hb d_Graph_empty_5 rfl (lv_at hl 0 rfl) ?_
  refine lv_iconst (v := 0) hx hb d_Graph_empty_6 (by decide) ?_
  refine va_put (D := D) (ci := 2) (v := .int (0 : Int32)) (ty := .int) (C := R_Graph) (T := F_Graph) (N := 8) hx hb hts i_Graph t_Graph to_Graph n_Graph hown hK hP hD hS 0 rfl rfl 5 (by decide) (hts _ m_1_55) (fun _ h9 => h9) rfl (by decide +kernel) rfl rfl (Nat.le_of_ble_eq_true rfl) d_Graph_empty_7 (fun H locs hP hD hS => ?_)
  have hP : va_P D CL [(q_t, .inr (2, [.ref q_t_from, .ref q_t_to, .ref q_t_weight, .ref q_t_order, .int (0 : Int32), .int (0 : Int32), .int t_size0, .long t_present0]))] H := hP
  have hD : va_D A [(q_t, .inr (2, [.ref q_t_from, .ref q_t_to, .ref q_t_weight, .ref q_t_order, .int (0 : Int32), .int (0 : Int32), .int t_size0, .long t_present0]))] := hD
  refine lv_aload_n hx hb d_Graph_empty_10 rfl (lv_at hl 0 rfl) ?_
  refine lv_iconst (v := 0) hx hb d_Graph_empty_11 (by decide) ?_
  refine va_put (D := D) (ci := 2) (v := .int (0 : Int32)) (ty := .int) (C := R_Graph) (T := F_Graph) (N := 8) hx hb hts i_Graph t_Graph to_Graph n_Graph hown hK hP hD hS 0 rfl rfl 6 (by decide) (hts _ m_1_60) (fun _ h9 => h9) rfl (by decide +kernel) rfl rfl (Nat.le_of_ble_eq_true rfl) d_Graph_empty_12 (fun H locs hP hD hS => ?_)
  have hP : va_P D CL [(q_t, .inr (2, [.ref q_t_from, .ref q_t_to, .ref q_t_weight, .ref q_t_order, .int (0 : Int32), .int (0 : Int32), .int (0 : Int32), .long t_present0]))] H := hP
  have hD : va_D A [(q_t, .inr (2, [.ref q_t_from, .ref q_t_to, .ref q_t_weight, .ref q_t_order, .int (0 : Int32), .int (0 : Int32), .int (0 : Int32), .long t_present0]))] := hD
  refine lv_aload_n hx hb d_Graph_empty_15 rfl (lv_at hl 0 rfl) ?_
  refine lv_lconst (v := 0) hx hb d_Graph_empty_16 (by decide) ?_
  refine va_put (D := D) (ci := 2) (v := .long (0 : Int64)) (ty := .long) (C := R_Graph) (T := F_Graph) (N := 8) hx hb hts i_Graph t_Graph to_Graph n_Graph hown hK hP hD hS 0 rfl rfl 7 (by decide) (hts _ m_1_63) (fun _ h9 => h9) rfl (by decide +kernel) rfl rfl (Nat.le_of_ble_eq_true rfl) d_Graph_empty_17 (fun H locs hP hD hS => ?_)
  have hP : va_P D CL [(q_t, .inr (2, [.ref q_t_from, .ref q_t_to, .ref q_t_weight, .ref q_t_order, .int (0 : Int32), .int (0 : Int32), .int (0 : Int32), .long (0 : Int64)]))] H := hP
  have hD : va_D A [(q_t, .inr (2, [.ref q_t_from, .ref q_t_to, .ref q_t_weight, .ref q_t_order, .int (0 : Int32), .int (0 : Int32), .int (0 : Int32), .long (0 : Int64)]))] := hD
  exact hret 20 _ _ _ (0 : Int32) (0 : Int32) (0 : Int32) (0 : Int64) d_Graph_empty_20 hP hD hS hf
set_option maxRecDepth 100000 in
set_option maxHeartbeats 4000000 in
theorem c_Graph_empty (l : Launch) (D : va_G) (cI cJ cG cZ : ClassId) (q_t q_t_from q_t_to q_t_weight q_t_order : Nat) (t_nodes0 : Int32) (t_numbered0 : Int32) (t_size0 : Int32) (t_present0 : Int64) {t_nodes' : Int32} {t_numbered' : Int32} {t_size' : Int32} {t_present' : Int64} (hf : f_Graph_empty = some (t_nodes', t_numbered', t_size', t_present')) : MeG l D CL (TYs cI cJ cG cZ) y_Graph_empty ws_Graph_empty (rm_Graph_empty) [.ref q_t] [(q_t, .inr (2, [.ref q_t_from, .ref q_t_to, .ref q_t_weight, .ref q_t_order, .int t_nodes0, .int t_numbered0, .int t_size0, .long t_present0]))] none [(q_t, .inr (2, [.ref q_t_from, .ref q_t_to, .ref q_t_weight, .ref q_t_order, .int t_nodes', .int t_numbered', .int t_size', .long t_present']))] := by
  intro sz
  refine Met.ofW (cc := b_Graph_empty) (maxL := 1) (ret := none) (by decide) rfl ?_
  intro p e s m args below meth c s₁ B hml hv
  obtain ⟨rfl, hsz, hP, hK, hD0⟩ := hv
  subst hsz
  have hD := hD0.self (sz := s.heap.size)
  generalize hAe : va_A [(q_t, .inr (2, [.ref q_t_from, .ref q_t_to, .ref q_t_weight, .ref q_t_order, .int t_nodes0, .int t_numbered0, .int t_size0, .long t_present0]))] s.heap.size = A at hD ⊢
  have C0 : CX p (headSpec ws_Graph_empty (rm_Graph_empty)).room s m _ meth c b_Graph_empty 1 R_Graph lw_g D CL (TYs cI cJ cG cZ) A 0 0 := ⟨B.exec, B.bytes, hml, findClass_of_methodNamed B.named, fun w h => atoms_spec (ws := ws_Graph_empty) B.pre w (List.mem_cons_of_mem _ h), hK, fun q h => by rw [← hAe]; exact Or.inr h, Nat.le_of_ble_eq_true rfl, Nat.le_of_ble_eq_true rfl, B.notSynchronized⟩
  have hl := lv_entry ([.ref q_t]) (n := 1) (Nat.le_of_ble_eq_true rfl)
  rw [lg_entry_eq]
  generalize (lg_sl ([.ref q_t]) ++ List.replicate (1 - (lg_sl ([.ref q_t])).length) Slot.unset).toArray = ls at hl ⊢
  have hl : lv_has ls 1 [(0, .ref q_t)] := hl
  exact w_Graph_empty_e C0 (fun pc ls H locs t_nodes t_numbered t_size t_present hdg hP hD hS e => by cases e; exact W.vret B.exec B.bytes B.returns (fun t ht hW => ⟨⟨rfl, by rw [ht]; exact hP, va_K.moved hW.alike hK, hD⟩, hS.F ht⟩) hS.2.2 hdg) _ _ _ hP hD va_S.rf (lv_sub hl [0] rfl) hf
abbrev b_Graph_hasNode : ByteArray := prog_5_method_7_code
def y_Graph_hasNode : MethodName := ⟨R_Graph, "hasNode", "(I)Z"⟩
def ws_Graph_hasNode : List Cond := .code y_Graph_hasNode b_Graph_hasNode 2 (some .boolean) :: lw_g
theorem wi_Graph_hasNode : ∀ w ∈ ws_Graph_hasNode, w ∈ lw_g := wi_of m_2_24
abbrev rm_Graph_hasNode : Room := { frames := 0, cells := 0, slots := 0, locals := 0 }
theorem hd_Graph_hasNode : y_Graph_hasNode.cls = R_Graph ∧ y_Graph_hasNode.cls ≠ "java/lang/invoke/MethodHandle" ∧ y_Graph_hasNode.cls ≠ "java/lang/invoke/VarHandle" ∧ (parseMethodDescriptor y_Graph_hasNode.desc).map (fun d => d.parameters.length) = some 1 := by decide +kernel
theorem d_Graph_hasNode_0 : decode b_Graph_hasNode 0 = .ok (.iload_n 1, 1) := by decide +kernel
theorem d_Graph_hasNode_1 : decode b_Graph_hasNode 1 = .ok (.ifCond .lt 15, 3) := by decide +kernel
theorem d_Graph_hasNode_4 : decode b_Graph_hasNode 4 = .ok (.iload_n 1, 1) := by decide +kernel
theorem d_Graph_hasNode_5 : decode b_Graph_hasNode 5 = .ok (.aload_n 0, 1) := by decide +kernel
theorem d_Graph_hasNode_6 : decode b_Graph_hasNode 6 = .ok (.getfield 24, 3) := by decide +kernel
theorem d_Graph_hasNode_9 : decode b_Graph_hasNode 9 = .ok (.if_icmp .ge 7, 3) := by decide +kernel
theorem d_Graph_hasNode_12 : decode b_Graph_hasNode 12 = .ok (.iconst 1, 1) := by decide +kernel
theorem d_Graph_hasNode_13 : decode b_Graph_hasNode 13 = .ok (.goto 4, 3) := by decide +kernel
theorem d_Graph_hasNode_16 : decode b_Graph_hasNode 16 = .ok (.iconst 0, 1) := by decide +kernel
theorem d_Graph_hasNode_17 : decode b_Graph_hasNode 17 = .ok (.ireturn, 1) := by decide +kernel
def f_Graph_hasNode (p1 : Int32) (t_nodes : Int32) : Option (Int32) :=
  if p1 < 0 then
    some ((0 : Int32))
  else
    if t_nodes ≤ p1 then
      some ((0 : Int32))
    else
      some ((1 : Int32))
set_option maxRecDepth 100000 in
set_option maxHeartbeats 4000000 in
theorem w_Graph_hasNode_e {p : Program} {l : Launch} {e : Env} {R : Room} {s : State} {m : MethodId} {args : Array Value} {below : List Frame} {meth : Method} {c : Code} {D : va_G} {cI cJ cG cZ : ClassId} {A : Nat → Prop} {Q : State → Prop} {q_t q_t_from q_t_to q_t_weight q_t_order : Nat} {t_nodes : Int32} {t_numbered : Int32} {t_size : Int32} {t_present : Int64} {p1 : Int32} {RR : Int32} (C0 : CX p R s m args meth c b_Graph_hasNode 2 R_Graph lw_g D CL (TYs cI cJ cG cZ) A 0 0) (hret : ∀ (pc : Nat) (ls : Array Slot) (H : Heap) (locs : List Loc) (v : Int32) , decode b_Graph_hasNode pc = .ok (.ireturn, 1) → narrow .boolean (.int v) = .int v → va_P D CL [(q_t, .inr (2, [.ref q_t_from, .ref q_t_to, .ref q_t_weight, .ref q_t_order, .int t_nodes, .int t_numbered, .int t_size, .long t_present]))] H → va_D A [(q_t, .inr (2, [.ref q_t_from, .ref q_t_to, .ref q_t_weight, .ref q_t_order, .int t_nodes, .int t_numbered, .int t_size, .long t_present]))] → va_S A s.heap H locs → some (v) = some RR → W p l e R s m args below meth c H locs 0 0 Q (F0 m pc ls [.int v])) : ∀ (H : Heap) (locs : List Loc) (ls : Array Slot), va_P D CL [(q_t, .inr (2, [.ref q_t_from, .ref q_t_to, .ref q_t_weight, .ref q_t_order, .int t_nodes, .int t_numbered, .int t_size, .long t_present]))] H → va_D A [(q_t, .inr (2, [.ref q_t_from, .ref q_t_to, .ref q_t_weight, .ref q_t_order, .int t_nodes, .int t_numbered, .int t_size, .long t_present]))] → va_S A s.heap H locs → lv_has ls 2 [(0, .ref q_t), (1, .int p1)] → f_Graph_hasNode p1 t_nodes = some RR → W p l e R s m args below meth c H locs 0 0 Q (F0 m 0 ls []) := by
  intro H locs ls hP hD hS hl hf
  obtain ⟨hx, hb, hml, hown, hts, hK, hA, hfr, hlo, hlk⟩ := id C0
  unfold f_Graph_hasNode at hf
  refine lv_iload_n hx hb d_Graph_hasNode_0 rfl (lv_at hl 1 rfl) ?_
  refine lv_if_lt (tgt := 16) hx hb d_Graph_hasNode_1 (by decide) (fun hc1 => ?_) (fun hc1 => ?_)
  · have hf := if_t hc1 hf
    refine lv_iconst (v := 0) hx hb d_Graph_hasNode_16 (by decide) ?_
    exact hret 17 _ _ _ (0 : Int32) d_Graph_hasNode_17 rfl hP hD hS hf
  · have hf := if_f hc1 hf
    refine lv_iload_n hx hb d_Graph_hasNode_4 rfl (lv_at hl 1 rfl) ?_
    refine lv_aload_n hx hb d_Graph_hasNode_5 rfl (lv_at hl 0 rfl) ?_
    refine va_get (D := D) (ci := 2) (v := .int t_nodes) (C := R_Graph) (T := F_Graph) (N := 8) hx hb hts i_Graph hown hK hP 0 rfl rfl 4 (by decide) (hts _ m_1_49) (fun _ h9 => h9) rfl d_Graph_hasNode_6 ?_
    refine lv_icmp_ge (tgt := 16) hx hb d_Graph_hasNode_9 (by decide) (fun hc2 => ?_) (fun hc2 => ?_)
    · have hf := if_t hc2 hf
      refine lv_iconst (v := 0) hx hb d_Graph_hasNode_16 (by decide) ?_
      exact hret 17 _ _ _ (0 : Int32) d_Graph_hasNode_17 rfl hP hD hS hf
    · have hf := if_f hc2 hf
      refine lv_iconst (v := 1) hx hb d_Graph_hasNode_12 (by decide) ?_
      refine lv_goto (tgt := 17) hx hb d_Graph_hasNode_13 (by decide) ?_
      exact hret 17 _ _ _ (1 : Int32) d_Graph_hasNode_17 rfl hP hD hS hf
set_option maxRecDepth 100000 in
set_option maxHeartbeats 4000000 in
theorem c_Graph_hasNode (l : Launch) (D : va_G) (cI cJ cG cZ : ClassId) (q_t q_t_from q_t_to q_t_weight q_t_order : Nat) (t_nodes : Int32) (t_numbered : Int32) (t_size : Int32) (t_present : Int64) (p1 : Int32) {r : Int32} (hf : f_Graph_hasNode p1 t_nodes = some (r)) : MeG l D CL (TYs cI cJ cG cZ) y_Graph_hasNode ws_Graph_hasNode (rm_Graph_hasNode) [.ref q_t, .int p1] [(q_t, .inr (2, [.ref q_t_from, .ref q_t_to, .ref q_t_weight, .ref q_t_order, .int t_nodes, .int t_numbered, .int t_size, .long t_present]))] (some (.int r)) [(q_t, .inr (2, [.ref q_t_from, .ref q_t_to, .ref q_t_weight, .ref q_t_order, .int t_nodes, .int t_numbered, .int t_size, .long t_present]))] := by
  intro sz
  refine Met.ofW (cc := b_Graph_hasNode) (maxL := 2) (ret := (some .boolean)) (by decide) rfl ?_
  intro p e s m args below meth c s₁ B hml hv
  obtain ⟨rfl, hsz, hP, hK, hD0⟩ := hv
  subst hsz
  have hD := hD0.self (sz := s.heap.size)
  generalize hAe : va_A [(q_t, .inr (2, [.ref q_t_from, .ref q_t_to, .ref q_t_weight, .ref q_t_order, .int t_nodes, .int t_numbered, .int t_size, .long t_present]))] s.heap.size = A at hD ⊢
  have C0 : CX p (headSpec ws_Graph_hasNode (rm_Graph_hasNode)).room s m _ meth c b_Graph_hasNode 2 R_Graph lw_g D CL (TYs cI cJ cG cZ) A 0 0 := ⟨B.exec, B.bytes, hml, findClass_of_methodNamed B.named, fun w h => atoms_spec (ws := ws_Graph_hasNode) B.pre w (List.mem_cons_of_mem _ h), hK, fun q h => by rw [← hAe]; exact Or.inr h, Nat.le_of_ble_eq_true rfl, Nat.le_of_ble_eq_true rfl, B.notSynchronized⟩
  have hl := lv_entry ([.ref q_t, .int p1]) (n := 2) (Nat.le_of_ble_eq_true rfl)
  rw [lg_entry_eq]
  generalize (lg_sl ([.ref q_t, .int p1]) ++ List.replicate (2 - (lg_sl ([.ref q_t, .int p1])).length) Slot.unset).toArray = ls at hl ⊢
  have hl : lv_has ls 2 [(0, .ref q_t), (1, .int p1)] := hl
  exact w_Graph_hasNode_e C0 (fun pc ls H locs v hdg hz hP hD hS e => by cases e; exact W.zret B.exec B.bytes B.returns hz (fun t ht hW => ⟨⟨rfl, by rw [ht]; exact hP, va_K.moved hW.alike hK, hD⟩, hS.F ht⟩) hS.2.2 hdg) _ _ _ hP hD va_S.rf (lv_sub hl [0, 1] rfl) hf
abbrev b_Graph_isIn : ByteArray := prog_5_method_11_code
def y_Graph_isIn : MethodName := ⟨R_Graph, "isIn", "(JI)Z"⟩
def ws_Graph_isIn : List Cond := .code y_Graph_isIn b_Graph_isIn 3 (some .boolean) :: lw_g
theorem wi_Graph_isIn : ∀ w ∈ ws_Graph_isIn, w ∈ lw_g := wi_of m_2_50
abbrev rm_Graph_isIn : Room := { frames := 0, cells := 0, slots := 0, locals := 0 }
theorem hd_Graph_isIn : y_Graph_isIn.cls ≠ "java/lang/invoke/MethodHandle" ∧ y_Graph_isIn.cls ≠ "java/lang/invoke/VarHandle" ∧ (parseMethodDescriptor y_Graph_isIn.desc).map (fun d => d.parameters.length) = some 2 := by decide +kernel
theorem d_Graph_isIn_0 : decode b_Graph_isIn 0 = .ok (.lload_n 0, 1) := by decide +kernel
theorem d_Graph_isIn_1 : decode b_Graph_isIn 1 = .ok (.iload_n 2, 1) := by decide +kernel
theorem d_Graph_isIn_2 : decode b_Graph_isIn 2 = .ok (.lshr, 1) := by decide +kernel
theorem d_Graph_isIn_3 : decode b_Graph_isIn 3 = .ok (.lconst 1, 1) := by decide +kernel
theorem d_Graph_isIn_4 : decode b_Graph_isIn 4 = .ok (.land, 1) := by decide +kernel
theorem d_Graph_isIn_5 : decode b_Graph_isIn 5 = .ok (.lconst 0, 1) := by decide +kernel
theorem d_Graph_isIn_6 : decode b_Graph_isIn 6 = .ok (.lcmp, 1) := by decide +kernel
theorem d_Graph_isIn_7 : decode b_Graph_isIn 7 = .ok (.ifCond .eq 7, 3) := by decide +kernel
theorem d_Graph_isIn_10 : decode b_Graph_isIn 10 = .ok (.iconst 1, 1) := by decide +kernel
theorem d_Graph_isIn_11 : decode b_Graph_isIn 11 = .ok (.goto 4, 3) := by decide +kernel
theorem d_Graph_isIn_14 : decode b_Graph_isIn 14 = .ok (.iconst 0, 1) := by decide +kernel
theorem d_Graph_isIn_15 : decode b_Graph_isIn 15 = .ok (.ireturn, 1) := by decide +kernel
def f_Graph_isIn (p0 : Int64) (p2 : Int32) : Option (Int32) :=
  if (lg_cmp ((p0 >>> (p2.toInt64 &&& 63)) &&& (1 : Int64)) (0 : Int64)) = 0 then
    some ((0 : Int32))
  else
    some ((1 : Int32))
set_option maxRecDepth 100000 in
set_option maxHeartbeats 4000000 in
theorem w_Graph_isIn_e {p : Program} {l : Launch} {e : Env} {R : Room} {s : State} {m : MethodId} {args : Array Value} {below : List Frame} {meth : Method} {c : Code} {D : va_G} {cI cJ cG cZ : ClassId} {A : Nat → Prop} {Q : State → Prop} {p0 : Int64} {p2 : Int32} {RR : Int32} (C0 : CX p R s m args meth c b_Graph_isIn 3 R_Graph lw_g D CL (TYs cI cJ cG cZ) A 0 0) (hret : ∀ (pc : Nat) (ls : Array Slot) (H : Heap) (locs : List Loc) (v : Int32) , decode b_Graph_isIn pc = .ok (.ireturn, 1) → narrow .boolean (.int v) = .int v → va_P D CL [] H → va_D A [] → va_S A s.heap H locs → some (v) = some RR → W p l e R s m args below meth c H locs 0 0 Q (F0 m pc ls [.int v])) : ∀ (H : Heap) (locs : List Loc) (ls : Array Slot), va_P D CL [] H → va_D A [] → va_S A s.heap H locs → lv_has ls 3 [(0, .long p0), (2, .int p2)] → f_Graph_isIn p0 p2 = some RR → W p l e R s m args below meth c H locs 0 0 Q (F0 m 0 ls []) := by
  intro H locs ls hP hD hS hl hf
  obtain ⟨hx, hb, hml, hown, hts, hK, hA, hfr, hlo, hlk⟩ := id C0
  unfold f_Graph_isIn at hf
  refine lv_lload_n hx hb d_Graph_isIn_0 rfl (lv_at hl 0 rfl) ?_
  refine lv_iload_n hx hb d_Graph_isIn_1 rfl (lv_at hl 1 rfl) ?_
  refine lv_lshr (v := p0 >>> (p2.toInt64 &&& 63)) hx hb d_Graph_isIn_2 rfl ?_
  refine lv_lconst (v := 1) hx hb d_Graph_isIn_3 (by decide) ?_
  refine lv_land hx hb d_Graph_isIn_4 ?_
  refine lv_lconst (v := 0) hx hb d_Graph_isIn_5 (by decide) ?_
  refine W.lcmp hx hb d_Graph_isIn_6 ?_
  refine lv_if_eq (tgt := 14) hx hb d_Graph_isIn_7 (by decide) (fun hc1 => ?_) (fun hc1 => ?_)
  · have hf := if_t hc1 hf
    refine lv_iconst (v := 0) hx hb d_Graph_isIn_14 (by decide) ?_
    exact hret 15 _ _ _ (0 : Int32) d_Graph_isIn_15 rfl hP hD hS hf
  · have hf := if_f hc1 hf
    refine lv_iconst (v := 1) hx hb d_Graph_isIn_10 (by decide) ?_
    refine lv_goto (tgt := 15) hx hb d_Graph_isIn_11 (by decide) ?_
    exact hret 15 _ _ _ (1 : Int32) d_Graph_isIn_15 rfl hP hD hS hf
set_option maxRecDepth 100000 in
set_option maxHeartbeats 4000000 in
theorem c_Graph_isIn (l : Launch) (D : va_G) (cI cJ cG cZ : ClassId) (p0 : Int64) (p2 : Int32) {r : Int32} (hf : f_Graph_isIn p0 p2 = some (r)) : MeG l D CL (TYs cI cJ cG cZ) y_Graph_isIn ws_Graph_isIn (rm_Graph_isIn) [.long p0, .int p2] [] (some (.int r)) [] := by
  intro sz
  refine Met.ofW (cc := b_Graph_isIn) (maxL := 3) (ret := (some .boolean)) (by decide) rfl ?_
  intro p e s m args below meth c s₁ B hml hv
  obtain ⟨rfl, hsz, hP, hK, hD0⟩ := hv
  subst hsz
  have hD := hD0.self (sz := s.heap.size)
  generalize hAe : va_A [] s.heap.size = A at hD ⊢
  have C0 : CX p (headSpec ws_Graph_isIn (rm_Graph_isIn)).room s m _ meth c b_Graph_isIn 3 R_Graph lw_g D CL (TYs cI cJ cG cZ) A 0 0 := ⟨B.exec, B.bytes, hml, findClass_of_methodNamed B.named, fun w h => atoms_spec (ws := ws_Graph_isIn) B.pre w (List.mem_cons_of_mem _ h), hK, fun q h => by rw [← hAe]; exact Or.inr h, Nat.le_of_ble_eq_true rfl, Nat.le_of_ble_eq_true rfl, B.notSynchronized⟩
  have hl := lv_entry ([.long p0, .int p2]) (n := 3) (Nat.le_of_ble_eq_true rfl)
  rw [lg_entry_eq]
  generalize (lg_sl ([.long p0, .int p2]) ++ List.replicate (3 - (lg_sl ([.long p0, .int p2])).length) Slot.unset).toArray = ls at hl ⊢
  have hl : lv_has ls 3 [(0, .long p0), (2, .int p2)] := hl
  exact w_Graph_isIn_e C0 (fun pc ls H locs v hdg hz hP hD hS e => by cases e; exact W.zret B.exec B.bytes B.returns hz (fun t ht hW => ⟨⟨rfl, by rw [ht]; exact hP, va_K.moved hW.alike hK, hD⟩, hS.F ht⟩) hS.2.2 hdg) _ _ _ hP hD va_S.rf (lv_sub hl [0, 1] rfl) hf
abbrev b_Graph_hasArc : ByteArray := prog_5_method_8_code
def y_Graph_hasArc : MethodName := ⟨R_Graph, "hasArc", "(I)Z"⟩
def ws_Graph_hasArc : List Cond := .code y_Graph_hasArc b_Graph_hasArc 2 (some .boolean) :: lw_g
theorem wi_Graph_hasArc : ∀ w ∈ ws_Graph_hasArc, w ∈ lw_g := wi_of m_2_47
abbrev rm_Graph_hasArc : Room := { frames := 1, cells := 0, slots := 0, locals := 22 }
theorem hd_Graph_hasArc : y_Graph_hasArc.cls = R_Graph ∧ y_Graph_hasArc.cls ≠ "java/lang/invoke/MethodHandle" ∧ y_Graph_hasArc.cls ≠ "java/lang/invoke/VarHandle" ∧ (parseMethodDescriptor y_Graph_hasArc.desc).map (fun d => d.parameters.length) = some 1 := by decide +kernel
theorem d_Graph_hasArc_0 : decode b_Graph_hasArc 0 = .ok (.iload_n 1, 1) := by decide +kernel
theorem d_Graph_hasArc_1 : decode b_Graph_hasArc 1 = .ok (.ifCond .lt 26, 3) := by decide +kernel
theorem d_Graph_hasArc_4 : decode b_Graph_hasArc 4 = .ok (.iload_n 1, 1) := by decide +kernel
theorem d_Graph_hasArc_5 : decode b_Graph_hasArc 5 = .ok (.aload_n 0, 1) := by decide +kernel
theorem d_Graph_hasArc_6 : decode b_Graph_hasArc 6 = .ok (.getfield 28, 3) := by decide +kernel
theorem d_Graph_hasArc_9 : decode b_Graph_hasArc 9 = .ok (.if_icmp .ge 18, 3) := by decide +kernel
theorem d_Graph_hasArc_12 : decode b_Graph_hasArc 12 = .ok (.aload_n 0, 1) := by decide +kernel
theorem d_Graph_hasArc_13 : decode b_Graph_hasArc 13 = .ok (.getfield 31, 3) := by decide +kernel
theorem d_Graph_hasArc_16 : decode b_Graph_hasArc 16 = .ok (.iload_n 1, 1) := by decide +kernel
theorem d_Graph_hasArc_17 : decode b_Graph_hasArc 17 = .ok (.invokestatic 47, 3) := by decide +kernel
theorem d_Graph_hasArc_20 : decode b_Graph_hasArc 20 = .ok (.ifCond .eq 7, 3) := by decide +kernel
theorem d_Graph_hasArc_23 : decode b_Graph_hasArc 23 = .ok (.iconst 1, 1) := by decide +kernel
theorem d_Graph_hasArc_24 : decode b_Graph_hasArc 24 = .ok (.goto 4, 3) := by decide +kernel
theorem d_Graph_hasArc_27 : decode b_Graph_hasArc 27 = .ok (.iconst 0, 1) := by decide +kernel
theorem d_Graph_hasArc_28 : decode b_Graph_hasArc 28 = .ok (.ireturn, 1) := by decide +kernel
def f_Graph_hasArc (p1 : Int32) (t_numbered : Int32) (t_present : Int64) : Option (Int32) :=
  if p1 < 0 then
    some ((0 : Int32))
  else
    if t_numbered ≤ p1 then
      some ((0 : Int32))
    else
      bk1 (f_Graph_isIn t_present p1) fun r1 =>
      if r1 = 0 then
        some ((0 : Int32))
      else
        some ((1 : Int32))
set_option maxRecDepth 100000 in
set_option maxHeartbeats 4000000 in
theorem w_Graph_hasArc_e {p : Program} {l : Launch} {e : Env} {R : Room} {s : State} {m : MethodId} {args : Array Value} {below : List Frame} {meth : Method} {c : Code} {D : va_G} {cI cJ cG cZ : ClassId} {A : Nat → Prop} {Q : State → Prop} {q_t q_t_from q_t_to q_t_weight q_t_order : Nat} {t_nodes : Int32} {t_numbered : Int32} {t_size : Int32} {t_present : Int64} {p1 : Int32} {RR : Int32} (C0 : CX p R s m args meth c b_Graph_hasArc 2 R_Graph lw_g D CL (TYs cI cJ cG cZ) A 1 22) (hret : ∀ (pc : Nat) (ls : Array Slot) (H : Heap) (locs : List Loc) (v : Int32) , decode b_Graph_hasArc pc = .ok (.ireturn, 1) → narrow .boolean (.int v) = .int v → va_P D CL [(q_t, .inr (2, [.ref q_t_from, .ref q_t_to, .ref q_t_weight, .ref q_t_order, .int t_nodes, .int t_numbered, .int t_size, .long t_present]))] H → va_D A [(q_t, .inr (2, [.ref q_t_from, .ref q_t_to, .ref q_t_weight, .ref q_t_order, .int t_nodes, .int t_numbered, .int t_size, .long t_present]))] → va_S A s.heap H locs → some (v) = some RR → W p l e R s m args below meth c H locs 0 0 Q (F0 m pc ls [.int v])) : ∀ (H : Heap) (locs : List Loc) (ls : Array Slot), va_P D CL [(q_t, .inr (2, [.ref q_t_from, .ref q_t_to, .ref q_t_weight, .ref q_t_order, .int t_nodes, .int t_numbered, .int t_size, .long t_present]))] H → va_D A [(q_t, .inr (2, [.ref q_t_from, .ref q_t_to, .ref q_t_weight, .ref q_t_order, .int t_nodes, .int t_numbered, .int t_size, .long t_present]))] → va_S A s.heap H locs → lv_has ls 2 [(0, .ref q_t), (1, .int p1)] → f_Graph_hasArc p1 t_numbered t_present = some RR → W p l e R s m args below meth c H locs 0 0 Q (F0 m 0 ls []) := by
  intro H locs ls hP hD hS hl hf
  obtain ⟨hx, hb, hml, hown, hts, hK, hA, hfr, hlo, hlk⟩ := id C0
  unfold f_Graph_hasArc at hf
  refine lv_iload_n hx hb d_Graph_hasArc_0 rfl (lv_at hl 1 rfl) ?_
  refine lv_if_lt (tgt := 27) hx hb d_Graph_hasArc_1 (by decide) (fun hc1 => ?_) (fun hc1 => ?_)
  · have hf := if_t hc1 hf
    refine lv_iconst (v := 0) hx hb d_Graph_hasArc_27 (by decide) ?_
    exact hret 28 _ _ _ (0 : Int32) d_Graph_hasArc_28 rfl hP hD hS hf
  · have hf := if_f hc1 hf
    refine lv_iload_n hx hb d_Graph_hasArc_4 rfl (lv_at hl 1 rfl) ?_
    refine lv_aload_n hx hb d_Graph_hasArc_5 rfl (lv_at hl 0 rfl) ?_
    refine va_get (D := D) (ci := 2) (v := .int t_numbered) (C := R_Graph) (T := F_Graph) (N := 8) hx hb hts i_Graph hown hK hP 0 rfl rfl 5 (by decide) (hts _ m_1_55) (fun _ h9 => h9) rfl d_Graph_hasArc_6 ?_
    refine lv_icmp_ge (tgt := 27) hx hb d_Graph_hasArc_9 (by decide) (fun hc2 => ?_) (fun hc2 => ?_)
    · have hf := if_t hc2 hf
      refine lv_iconst (v := 0) hx hb d_Graph_hasArc_27 (by decide) ?_
      exact hret 28 _ _ _ (0 : Int32) d_Graph_hasArc_28 rfl hP hD hS hf
    · have hf := if_f hc2 hf
      refine lv_aload_n hx hb d_Graph_hasArc_12 rfl (lv_at hl 0 rfl) ?_
      refine va_get (D := D) (ci := 2) (v := .long t_present) (C := R_Graph) (T := F_Graph) (N := 8) hx hb hts i_Graph hown hK hP 0 rfl rfl 7 (by decide) (hts _ m_1_63) (fun _ h9 => h9) rfl d_Graph_hasArc_13 ?_
      refine lv_iload_n hx hb d_Graph_hasArc_16 rfl (lv_at hl 1 rfl) ?_
      obtain ⟨r1, hq1, hf⟩ := bk1_e hf
      refine cl_nil (va_runS (As := [.long t_present, .int p1]) (rest := []) ⟨hx, hb, hml, hown, hts⟩ (c_Graph_isIn l D cI cJ cG cZ t_present p1 hq1 H.size) (va_cwS 2 hts (gi_S m_2_48 m_2_49 m_1_2 wi_Graph_isIn) rfl rfl rfl hd_Graph_isIn ⟨Nat.le_trans (Nat.le_of_ble_eq_true rfl) hfr, Nat.le_trans (Nat.le_of_ble_eq_true rfl) hlo⟩) ⟨pw_blind, fun U hU hW => ⟨rfl, pw_in hU pn_P (va_K.moved hW.alike hK) pn_D⟩⟩ rfl rfl hl.1 rfl (lv_room (Nat.le_of_ble_eq_true rfl)) d_Graph_hasArc_17 ⟨Nat.zero_le _, Nat.zero_le _⟩) hP hD hS hA (fun H locs hP hD hS => ?_)
      have hP : va_P D CL [(q_t, .inr (2, [.ref q_t_from, .ref q_t_to, .ref q_t_weight, .ref q_t_order, .int t_nodes, .int t_numbered, .int t_size, .long t_present]))] H := hP
      have hD : va_D A [(q_t, .inr (2, [.ref q_t_from, .ref q_t_to, .ref q_t_weight, .ref q_t_order, .int t_nodes, .int t_numbered, .int t_size, .long t_present]))] := hD
      refine lv_if_eq (tgt := 27) hx hb d_Graph_hasArc_20 (by decide) (fun hc3 => ?_) (fun hc3 => ?_)
      · have hf := if_t hc3 hf
        refine lv_iconst (v := 0) hx hb d_Graph_hasArc_27 (by decide) ?_
        exact hret 28 _ _ _ (0 : Int32) d_Graph_hasArc_28 rfl hP hD hS hf
      · have hf := if_f hc3 hf
        refine lv_iconst (v := 1) hx hb d_Graph_hasArc_23 (by decide) ?_
        refine lv_goto (tgt := 28) hx hb d_Graph_hasArc_24 (by decide) ?_
        exact hret 28 _ _ _ (1 : Int32) d_Graph_hasArc_28 rfl hP hD hS hf
set_option maxRecDepth 100000 in
set_option maxHeartbeats 4000000 in
theorem c_Graph_hasArc (l : Launch) (D : va_G) (cI cJ cG cZ : ClassId) (q_t q_t_from q_t_to q_t_weight q_t_order : Nat) (t_nodes : Int32) (t_numbered : Int32) (t_size : Int32) (t_present : Int64) (p1 : Int32) {r : Int32} (hf : f_Graph_hasArc p1 t_numbered t_present = some (r)) : MeG l D CL (TYs cI cJ cG cZ) y_Graph_hasArc ws_Graph_hasArc (rm_Graph_hasArc) [.ref q_t, .int p1] [(q_t, .inr (2, [.ref q_t_from, .ref q_t_to, .ref q_t_weight, .ref q_t_order, .int t_nodes, .int t_numbered, .int t_size, .long t_present]))] (some (.int r)) [(q_t, .inr (2, [.ref q_t_from, .ref q_t_to, .ref q_t_weight, .ref q_t_order, .int t_nodes, .int t_numbered, .int t_size, .long t_present]))] := by
  intro sz
  refine Met.ofW (cc := b_Graph_hasArc) (maxL := 2) (ret := (some .boolean)) (by decide) rfl ?_
  intro p e s m args below meth c s₁ B hml hv
  obtain ⟨rfl, hsz, hP, hK, hD0⟩ := hv
  subst hsz
  have hD := hD0.self (sz := s.heap.size)
  generalize hAe : va_A [(q_t, .inr (2, [.ref q_t_from, .ref q_t_to, .ref q_t_weight, .ref q_t_order, .int t_nodes, .int t_numbered, .int t_size, .long t_present]))] s.heap.size = A at hD ⊢
  have C0 : CX p (headSpec ws_Graph_hasArc (rm_Graph_hasArc)).room s m _ meth c b_Graph_hasArc 2 R_Graph lw_g D CL (TYs cI cJ cG cZ) A 1 22 := ⟨B.exec, B.bytes, hml, findClass_of_methodNamed B.named, fun w h => atoms_spec (ws := ws_Graph_hasArc) B.pre w (List.mem_cons_of_mem _ h), hK, fun q h => by rw [← hAe]; exact Or.inr h, Nat.le_of_ble_eq_true rfl, Nat.le_of_ble_eq_true rfl, B.notSynchronized⟩
  have hl := lv_entry ([.ref q_t, .int p1]) (n := 2) (Nat.le_of_ble_eq_true rfl)
  rw [lg_entry_eq]
  generalize (lg_sl ([.ref q_t, .int p1]) ++ List.replicate (2 - (lg_sl ([.ref q_t, .int p1])).length) Slot.unset).toArray = ls at hl ⊢
  have hl : lv_has ls 2 [(0, .ref q_t), (1, .int p1)] := hl
  exact w_Graph_hasArc_e C0 (fun pc ls H locs v hdg hz hP hD hS e => by cases e; exact W.zret B.exec B.bytes B.returns hz (fun t ht hW => ⟨⟨rfl, by rw [ht]; exact hP, va_K.moved hW.alike hK, hD⟩, hS.F ht⟩) hS.2.2 hdg) _ _ _ hP hD va_S.rf (lv_sub hl [0, 1] rfl) hf
abbrev b_Graph_allNodes : ByteArray := prog_5_method_9_code
def y_Graph_allNodes : MethodName := ⟨R_Graph, "allNodes", "()I"⟩
def ws_Graph_allNodes : List Cond := .code y_Graph_allNodes b_Graph_allNodes 1 (some .int) :: lw_g
theorem wi_Graph_allNodes : ∀ w ∈ ws_Graph_allNodes, w ∈ lw_g := wi_of m_3_88
abbrev rm_Graph_allNodes : Room := { frames := 0, cells := 0, slots := 0, locals := 0 }
theorem hd_Graph_allNodes : y_Graph_allNodes.cls = R_Graph ∧ y_Graph_allNodes.cls ≠ "java/lang/invoke/MethodHandle" ∧ y_Graph_allNodes.cls ≠ "java/lang/invoke/VarHandle" ∧ (parseMethodDescriptor y_Graph_allNodes.desc).map (fun d => d.parameters.length) = some 0 := by decide +kernel
theorem d_Graph_allNodes_0 : decode b_Graph_allNodes 0 = .ok (.iconst 1, 1) := by decide +kernel
theorem d_Graph_allNodes_1 : decode b_Graph_allNodes 1 = .ok (.aload_n 0, 1) := by decide +kernel
theorem d_Graph_allNodes_2 : decode b_Graph_allNodes 2 = .ok (.getfield 24, 3) := by decide +kernel
theorem d_Graph_allNodes_5 : decode b_Graph_allNodes 5 = .ok (.ishl, 1) := by decide +kernel
theorem d_Graph_allNodes_6 : decode b_Graph_allNodes 6 = .ok (.iconst 1, 1) := by decide +kernel
theorem d_Graph_allNodes_7 : decode b_Graph_allNodes 7 = .ok (.isub, 1) := by decide +kernel
theorem d_Graph_allNodes_8 : decode b_Graph_allNodes 8 = .ok (.ireturn, 1) := by decide +kernel
def f_Graph_allNodes (t_nodes : Int32) : Option (Int32) :=
  some (((1 : Int32) <<< (t_nodes &&& 31)) - (1 : Int32))
set_option maxRecDepth 100000 in
set_option maxHeartbeats 4000000 in
theorem w_Graph_allNodes_e {p : Program} {l : Launch} {e : Env} {R : Room} {s : State} {m : MethodId} {args : Array Value} {below : List Frame} {meth : Method} {c : Code} {D : va_G} {cI cJ cG cZ : ClassId} {A : Nat → Prop} {Q : State → Prop} {q_t q_t_from q_t_to q_t_weight q_t_order : Nat} {t_nodes : Int32} {t_numbered : Int32} {t_size : Int32} {t_present : Int64} {RR : Int32} (C0 : CX p R s m args meth c b_Graph_allNodes 1 R_Graph lw_g D CL (TYs cI cJ cG cZ) A 0 0) (hret : ∀ (pc : Nat) (ls : Array Slot) (H : Heap) (locs : List Loc) (v : Int32) , decode b_Graph_allNodes pc = .ok (.ireturn, 1) → va_P D CL [(q_t, .inr (2, [.ref q_t_from, .ref q_t_to, .ref q_t_weight, .ref q_t_order, .int t_nodes, .int t_numbered, .int t_size, .long t_present]))] H → va_D A [(q_t, .inr (2, [.ref q_t_from, .ref q_t_to, .ref q_t_weight, .ref q_t_order, .int t_nodes, .int t_numbered, .int t_size, .long t_present]))] → va_S A s.heap H locs → some (v) = some RR → W p l e R s m args below meth c H locs 0 0 Q (F0 m pc ls [.int v])) : ∀ (H : Heap) (locs : List Loc) (ls : Array Slot), va_P D CL [(q_t, .inr (2, [.ref q_t_from, .ref q_t_to, .ref q_t_weight, .ref q_t_order, .int t_nodes, .int t_numbered, .int t_size, .long t_present]))] H → va_D A [(q_t, .inr (2, [.ref q_t_from, .ref q_t_to, .ref q_t_weight, .ref q_t_order, .int t_nodes, .int t_numbered, .int t_size, .long t_present]))] → va_S A s.heap H locs → lv_has ls 1 [(0, .ref q_t)] → f_Graph_allNodes t_nodes = some RR → W p l e R s m args below meth c H locs 0 0 Q (F0 m 0 ls []) := by
  intro H locs ls hP hD hS hl hf
  obtain ⟨hx, hb, hml, hown, hts, hK, hA, hfr, hlo, hlk⟩ := id C0
  unfold f_Graph_allNodes at hf
  refine lv_iconst (v := 1) hx hb d_Graph_allNodes_0 (by decide) ?_
  refine lv_aload_n hx hb d_Graph_allNodes_1 rfl (lv_at hl 0 rfl) ?_
  refine va_get (D := D) (ci := 2) (v := .int t_nodes) (C := R_Graph) (T := F_Graph) (N := 8) hx hb hts i_Graph hown hK hP 0 rfl rfl 4 (by decide) (hts _ m_1_49) (fun _ h9 => h9) rfl d_Graph_allNodes_2 ?_
  refine lv_ishl hx hb d_Graph_allNodes_5 ?_
  refine lv_iconst (v := 1) hx hb d_Graph_allNodes_6 (by decide) ?_
  refine lv_isub hx hb d_Graph_allNodes_7 ?_
  exact hret 8 _ _ _ (((1 : Int32) <<< (t_nodes &&& 31)) - (1 : Int32)) d_Graph_allNodes_8 hP hD hS hf
set_option maxRecDepth 100000 in
set_option maxHeartbeats 4000000 in
theorem c_Graph_allNodes (l : Launch) (D : va_G) (cI cJ cG cZ : ClassId) (q_t q_t_from q_t_to q_t_weight q_t_order : Nat) (t_nodes : Int32) (t_numbered : Int32) (t_size : Int32) (t_present : Int64) {r : Int32} (hf : f_Graph_allNodes t_nodes = some (r)) : MeG l D CL (TYs cI cJ cG cZ) y_Graph_allNodes ws_Graph_allNodes (rm_Graph_allNodes) [.ref q_t] [(q_t, .inr (2, [.ref q_t_from, .ref q_t_to, .ref q_t_weight, .ref q_t_order, .int t_nodes, .int t_numbered, .int t_size, .long t_present]))] (some (.int r)) [(q_t, .inr (2, [.ref q_t_from, .ref q_t_to, .ref q_t_weight, .ref q_t_order, .int t_nodes, .int t_numbered, .int t_size, .long t_present]))] := by
  intro sz
  refine Met.ofW (cc := b_Graph_allNodes) (maxL := 1) (ret := (some .int)) (by decide) rfl ?_
  intro p e s m args below meth c s₁ B hml hv
  obtain ⟨rfl, hsz, hP, hK, hD0⟩ := hv
  subst hsz
  have hD := hD0.self (sz := s.heap.size)
  generalize hAe : va_A [(q_t, .inr (2, [.ref q_t_from, .ref q_t_to, .ref q_t_weight, .ref q_t_order, .int t_nodes, .int t_numbered, .int t_size, .long t_present]))] s.heap.size = A at hD ⊢
  have C0 : CX p (headSpec ws_Graph_allNodes (rm_Graph_allNodes)).room s m _ meth c b_Graph_allNodes 1 R_Graph lw_g D CL (TYs cI cJ cG cZ) A 0 0 := ⟨B.exec, B.bytes, hml, findClass_of_methodNamed B.named, fun w h => atoms_spec (ws := ws_Graph_allNodes) B.pre w (List.mem_cons_of_mem _ h), hK, fun q h => by rw [← hAe]; exact Or.inr h, Nat.le_of_ble_eq_true rfl, Nat.le_of_ble_eq_true rfl, B.notSynchronized⟩
  have hl := lv_entry ([.ref q_t]) (n := 1) (Nat.le_of_ble_eq_true rfl)
  rw [lg_entry_eq]
  generalize (lg_sl ([.ref q_t]) ++ List.replicate (1 - (lg_sl ([.ref q_t])).length) Slot.unset).toArray = ls at hl ⊢
  have hl : lv_has ls 1 [(0, .ref q_t)] := hl
  exact w_Graph_allNodes_e C0 (fun pc ls H locs v hdg hP hD hS e => by cases e; exact W.iret B.exec B.bytes B.returns (fun t ht hW => ⟨⟨rfl, by rw [ht]; exact hP, va_K.moved hW.alike hK, hD⟩, hS.F ht⟩) hS.2.2 hdg) _ _ _ hP hD va_S.rf (lv_sub hl [0] rfl) hf
