abbrev b_Mo_drop : ByteArray := prog_11_method_7_code
def y_Mo_drop : MethodName := ⟨R_Mo, "drop", "(I)I"⟩
def ws_Mo_drop : List Cond := .code y_Mo_drop b_Mo_drop 2 (some .int) :: lw_g
theorem wi_Mo_drop : ∀ w ∈ ws_Mo_drop, w ∈ lw_g := wi_of m_3_219
abbrev rm_Mo_drop : Room := { frames := 1, cells := 0, slots := 0, locals := 21 }
theorem hd_Mo_drop : y_Mo_drop.cls = R_Mo ∧ y_Mo_drop.cls ≠ "java/lang/invoke/MethodHandle" ∧ y_Mo_drop.cls ≠ "java/lang/invoke/VarHandle" ∧ (parseMethodDescriptor y_Mo_drop.desc).map (fun d => d.parameters.length) = some 1 := by decide +kernel
theorem d_Mo_drop_0 : decode b_Mo_drop 0 = .ok (.aload_n 0, 1) := by decide +kernel
theorem d_Mo_drop_1 : decode b_Mo_drop 1 = .ok (.iload_n 1, 1) := by decide +kernel
theorem d_Mo_drop_2 : decode b_Mo_drop 2 = .ok (.invokevirtual 71, 3) := by decide +kernel
theorem d_Mo_drop_5 : decode b_Mo_drop 5 = .ok (.ifCond .ne 5, 3) := by decide +kernel
theorem d_Mo_drop_8 : decode b_Mo_drop 8 = .ok (.iconst (-1), 1) := by decide +kernel
theorem d_Mo_drop_9 : decode b_Mo_drop 9 = .ok (.ireturn, 1) := by decide +kernel
theorem d_Mo_drop_10 : decode b_Mo_drop 10 = .ok (.aload_n 0, 1) := by decide +kernel
theorem d_Mo_drop_11 : decode b_Mo_drop 11 = .ok (.getfield 19, 3) := by decide +kernel
theorem d_Mo_drop_14 : decode b_Mo_drop 14 = .ok (.iload_n 1, 1) := by decide +kernel
theorem d_Mo_drop_15 : decode b_Mo_drop 15 = .ok (.iconst 0, 1) := by decide +kernel
theorem d_Mo_drop_16 : decode b_Mo_drop 16 = .ok (.bastore, 1) := by decide +kernel
theorem d_Mo_drop_17 : decode b_Mo_drop 17 = .ok (.aload_n 0, 1) := by decide +kernel
theorem d_Mo_drop_18 : decode b_Mo_drop 18 = .ok (.dup, 1) := by decide +kernel
theorem d_Mo_drop_19 : decode b_Mo_drop 19 = .ok (.getfield 68, 3) := by decide +kernel
theorem d_Mo_drop_22 : decode b_Mo_drop 22 = .ok (.iconst 1, 1) := by decide +kernel
theorem d_Mo_drop_23 : decode b_Mo_drop 23 = .ok (.isub, 1) := by decide +kernel
theorem d_Mo_drop_24 : decode b_Mo_drop 24 = .ok (.putfield 68, 3) := by decide +kernel
theorem d_Mo_drop_27 : decode b_Mo_drop 27 = .ok (.aload_n 0, 1) := by decide +kernel
theorem d_Mo_drop_28 : decode b_Mo_drop 28 = .ok (.getfield 68, 3) := by decide +kernel
theorem d_Mo_drop_31 : decode b_Mo_drop 31 = .ok (.ireturn, 1) := by decide +kernel
def f_Mo_drop (p1 : Int32) (t_arcs : Int32) (t_left0 : Int32) (t_there0 : Nat → Int32) : Option (Int32 × (Nat → Int32) × Int32) :=
  bk1 (f_Mo_isArc p1 t_arcs t_there0) fun r1 =>
  if r1 = 0 then
    some ((-1 : Int32), t_there0, t_left0)
  else
    gd (inb p1 30) <|
    bn (t_left0 - (1 : Int32)) fun x2 =>
    some (x2, upd t_there0 p1.toNatClampNeg (vp_nar .boolean (0 : Int32)), x2)
set_option maxRecDepth 100000 in
set_option maxHeartbeats 4000000 in
theorem w_Mo_drop_e {p : Program} {l : Launch} {e : Env} {R : Room} {s : State} {m : MethodId} {args : Array Value} {below : List Frame} {meth : Method} {c : Code} {D : va_G} {cI cJ cG cZ : ClassId} {A : Nat → Prop} {Q : State → Prop} {q_t q_t_froms q_t_tos q_t_weights q_t_there q_t_part q_t_matrix q_t_row q_t_low q_t_own q_t_chosen q_t_degrees q_t_fixed q_t_grown q_t_costs q_t_order : Nat} {t_nodes : Int32} {t_arcs : Int32} {t_left0 : Int32} {t_swapIn : Int32} {t_swapOut : Int32} {t_boundedSet : Int64} {t_joinedSet : Int64} {t_there0 : Nat → Int32} {p1 : Int32} {RR : Int32 × (Nat → Int32) × Int32} (C0 : CX p R s m args meth c b_Mo_drop 2 R_Mo lw_g D CL (TYs cI cJ cG cZ) A 1 21) (hret : ∀ (pc : Nat) (ls : Array Slot) (H : Heap) (locs : List Loc) (v : Int32) (t_there : Nat → Int32) (t_left : Int32), decode b_Mo_drop pc = .ok (.ireturn, 1) → va_P D CL [(q_t, .inr (8, [.int t_nodes, .int t_arcs, .int t_left, .ref q_t_froms, .ref q_t_tos, .ref q_t_weights, .ref q_t_there, .ref q_t_part, .ref q_t_matrix, .ref q_t_row, .ref q_t_low, .int t_swapIn, .int t_swapOut, .ref q_t_own, .ref q_t_chosen, .ref q_t_degrees, .long t_boundedSet, .ref q_t_fixed, .ref q_t_grown, .ref q_t_costs, .ref q_t_order, .long t_joinedSet])), (q_t_there, .inl (cZ, 30, .inl t_there))] H → va_D A [(q_t, .inr (8, [.int t_nodes, .int t_arcs, .int t_left, .ref q_t_froms, .ref q_t_tos, .ref q_t_weights, .ref q_t_there, .ref q_t_part, .ref q_t_matrix, .ref q_t_row, .ref q_t_low, .int t_swapIn, .int t_swapOut, .ref q_t_own, .ref q_t_chosen, .ref q_t_degrees, .long t_boundedSet, .ref q_t_fixed, .ref q_t_grown, .ref q_t_costs, .ref q_t_order, .long t_joinedSet])), (q_t_there, .inl (cZ, 30, .inl t_there))] → va_S A s.heap H locs → some (v, t_there, t_left) = some RR → W p l e R s m args below meth c H locs 0 0 Q (F0 m pc ls [.int v])) : ∀ (H : Heap) (locs : List Loc) (ls : Array Slot), va_P D CL [(q_t, .inr (8, [.int t_nodes, .int t_arcs, .int t_left0, .ref q_t_froms, .ref q_t_tos, .ref q_t_weights, .ref q_t_there, .ref q_t_part, .ref q_t_matrix, .ref q_t_row, .ref q_t_low, .int t_swapIn, .int t_swapOut, .ref q_t_own, .ref q_t_chosen, .ref q_t_degrees, .long t_boundedSet, .ref q_t_fixed, .ref q_t_grown, .ref q_t_costs, .ref q_t_order, .long t_joinedSet])), (q_t_there, .inl (cZ, 30, .inl t_there0))] H → va_D A [(q_t, .inr (8, [.int t_nodes, .int t_arcs, .int t_left0, .ref q_t_froms, .ref q_t_tos, .ref q_t_weights, .ref q_t_there, .ref q_t_part, .ref q_t_matrix, .ref q_t_row, .ref q_t_low, .int t_swapIn, .int t_swapOut, .ref q_t_own, .ref q_t_chosen, .ref q_t_degrees, .long t_boundedSet, .ref q_t_fixed, .ref q_t_grown, .ref q_t_costs, .ref q_t_order, .long t_joinedSet])), (q_t_there, .inl (cZ, 30, .inl t_there0))] → va_S A s.heap H locs → lv_has ls 2 [(0, .ref q_t), (1, .int p1)] → f_Mo_drop p1 t_arcs t_left0 t_there0 = some RR → W p l e R s m args below meth c H locs 0 0 Q (F0 m 0 ls []) := by
  intro H locs ls hP hD hS hl hf
  obtain ⟨hx, hb, hml, hown, hts, hK, hA, hfr, hlo, hlk⟩ := id C0
  unfold f_Mo_drop at hf
  refine lv_aload_n hx hb d_Mo_drop_0 rfl (lv_at hl 0 rfl) ?_
  refine lv_iload_n hx hb d_Mo_drop_1 rfl (lv_at hl 1 rfl) ?_
  obtain ⟨r1, hq1, hf⟩ := bk1_e hf
  refine cl_go (wr := []) (W1 := [(q_t, .inr (8, [.int t_nodes, .int t_arcs, .int t_left0, .ref q_t_froms, .ref q_t_tos, .ref q_t_weights, .ref q_t_there, .ref q_t_part, .ref q_t_matrix, .ref q_t_row, .ref q_t_low, .int t_swapIn, .int t_swapOut, .ref q_t_own, .ref q_t_chosen, .ref q_t_degrees, .long t_boundedSet, .ref q_t_fixed, .ref q_t_grown, .ref q_t_costs, .ref q_t_order, .long t_joinedSet])), (q_t_there, .inl (cZ, 30, .inl t_there0))]) (va_runV (As := [.int p1]) (rest := []) ⟨hx, hb, hml, hown, hts⟩ (c_Mo_isArc l D cI cJ cG cZ q_t q_t_froms q_t_tos q_t_weights q_t_there q_t_part q_t_matrix q_t_row q_t_low q_t_own q_t_chosen q_t_degrees q_t_fixed q_t_grown q_t_costs q_t_order t_nodes t_arcs t_left0 t_swapIn t_swapOut t_boundedSet t_joinedSet t_there0 p1 hq1 H.size) (cwV 1 hts (gi_V m_3_212 m_3_214 m_0_24 m_1_9 wi_Mo_isArc) rfl rfl rfl hd_Mo_isArc ⟨Nat.le_trans (Nat.le_of_ble_eq_true rfl) hfr, Nat.le_trans (Nat.le_of_ble_eq_true rfl) hlo⟩) ⟨pw_blind, va_recv hK hP (ci := 8) (q0 := 0) rfl rfl, fun U hU hW => ⟨rfl, pw_in hU (hP.sub [0, 1] rfl) (va_K.moved hW.alike hK) ((hD.sub [0, 1] rfl rfl).weaken (fun _ _ _ _ => trivial))⟩⟩ rfl rfl hl.1 rfl (lv_room (Nat.le_of_ble_eq_true rfl)) d_Mo_drop_2 ⟨Nat.zero_le _, Nat.zero_le _⟩) hP hD hS hA [0, 1] [] rfl rfl rfl rfl [0, 1] rfl rfl (fun H locs hP hD hS => ?_)
  have hP : va_P D CL [(q_t, .inr (8, [.int t_nodes, .int t_arcs, .int t_left0, .ref q_t_froms, .ref q_t_tos, .ref q_t_weights, .ref q_t_there, .ref q_t_part, .ref q_t_matrix, .ref q_t_row, .ref q_t_low, .int t_swapIn, .int t_swapOut, .ref q_t_own, .ref q_t_chosen, .ref q_t_degrees, .long t_boundedSet, .ref q_t_fixed, .ref q_t_grown, .ref q_t_costs, .ref q_t_order, .long t_joinedSet])), (q_t_there, .inl (cZ, 30, .inl t_there0))] H := hP
  have hD : va_D A [(q_t, .inr (8, [.int t_nodes, .int t_arcs, .int t_left0, .ref q_t_froms, .ref q_t_tos, .ref q_t_weights, .ref q_t_there, .ref q_t_part, .ref q_t_matrix, .ref q_t_row, .ref q_t_low, .int t_swapIn, .int t_swapOut, .ref q_t_own, .ref q_t_chosen, .ref q_t_degrees, .long t_boundedSet, .ref q_t_fixed, .ref q_t_grown, .ref q_t_costs, .ref q_t_order, .long t_joinedSet])), (q_t_there, .inl (cZ, 30, .inl t_there0))] := hD
  refine lv_if_ne (tgt := 10) hx hb d_Mo_drop_5 (by decide) (fun hc1 => ?_) (fun hc1 => ?_)
  · have hf := if_f hc1 hf
    refine lv_aload_n hx hb d_Mo_drop_10 rfl (lv_at hl 0 rfl) ?_
    refine va_get (D := D) (ci := 8) (v := .ref q_t_there) (C := R_Mo) (T := F_Mo) (N := 22) hx hb hts i_Mo hown hK hP 0 rfl rfl 6 (by decide) (hts _ m_3_134) (fun _ h9 => h9) rfl d_Mo_drop_11 ?_
    refine lv_iload_n hx hb d_Mo_drop_14 rfl (lv_at hl 1 rfl) ?_
    refine lv_iconst (v := 0) hx hb d_Mo_drop_15 (by decide) ?_
    obtain ⟨hg1, hf⟩ := gd_e hf
    refine va_zast hx hb hK hP hD hS 1 3 rfl rfl (inb_e hg1) d_Mo_drop_16 (fun H locs hP hD hS => ?_)
    have hP : va_P D CL [(q_t, .inr (8, [.int t_nodes, .int t_arcs, .int t_left0, .ref q_t_froms, .ref q_t_tos, .ref q_t_weights, .ref q_t_there, .ref q_t_part, .ref q_t_matrix, .ref q_t_row, .ref q_t_low, .int t_swapIn, .int t_swapOut, .ref q_t_own, .ref q_t_chosen, .ref q_t_degrees, .long t_boundedSet, .ref q_t_fixed, .ref q_t_grown, .ref q_t_costs, .ref q_t_order, .long t_joinedSet])), (q_t_there, .inl (cZ, 30, .inl (upd t_there0 p1.toNatClampNeg (vp_nar .boolean (0 : Int32)))))] H := hP
    have hD : va_D A [(q_t, .inr (8, [.int t_nodes, .int t_arcs, .int t_left0, .ref q_t_froms, .ref q_t_tos, .ref q_t_weights, .ref q_t_there, .ref q_t_part, .ref q_t_matrix, .ref q_t_row, .ref q_t_low, .int t_swapIn, .int t_swapOut, .ref q_t_own, .ref q_t_chosen, .ref q_t_degrees, .long t_boundedSet, .ref q_t_fixed, .ref q_t_grown, .ref q_t_costs, .ref q_t_order, .long t_joinedSet])), (q_t_there, .inl (cZ, 30, .inl (upd t_there0 p1.toNatClampNeg (vp_nar .boolean (0 : Int32)))))] := hD
    refine lv_aload_n hx hb d_Mo_drop_17 rfl (lv_at hl 0 rfl) ?_
    refine lv_dup hx hb d_Mo_drop_18 rfl ?_
    refine va_get (D := D) (ci := 8) (v := .int t_left0) (C := R_Mo) (T := F_Mo) (N := 22) hx hb hts i_Mo hown hK hP 0 rfl rfl 2 (by decide) (hts _ m_3_130) (fun _ h9 => h9) rfl d_Mo_drop_19 ?_
    refine lv_iconst (v := 1) hx hb d_Mo_drop_22 (by decide) ?_
    refine lv_isub hx hb d_Mo_drop_23 ?_
    refine lv_topi (fun x2 ex2 => ?_)
    have hf := bn_e ex2 hf
    refine va_put (D := D) (ci := 8) (v := .int x2) (ty := .int) (C := R_Mo) (T := F_Mo) (N := 22) hx hb hts i_Mo t_Mo to_Mo n_Mo hown hK hP hD hS 0 rfl rfl 2 (by decide) (hts _ m_3_130) (fun _ h9 => h9) rfl (by decide +kernel) rfl rfl (Nat.le_of_ble_eq_true rfl) d_Mo_drop_24 (fun H locs hP hD hS => ?_)
    have hP : va_P D CL [(q_t, .inr (8, [.int t_nodes, .int t_arcs, .int x2, .ref q_t_froms, .ref q_t_tos, .ref q_t_weights, .ref q_t_there, .ref q_t_part, .ref q_t_matrix, .ref q_t_row, .ref q_t_low, .int t_swapIn, .int t_swapOut, .ref q_t_own, .ref q_t_chosen, .ref q_t_degrees, .long t_boundedSet, .ref q_t_fixed, .ref q_t_grown, .ref q_t_costs, .ref q_t_order, .long t_joinedSet])), (q_t_there, .inl (cZ, 30, .inl (upd t_there0 p1.toNatClampNeg (vp_nar .boolean (0 : Int32)))))] H := hP
    have hD : va_D A [(q_t, .inr (8, [.int t_nodes, .int t_arcs, .int x2, .ref q_t_froms, .ref q_t_tos, .ref q_t_weights, .ref q_t_there, .ref q_t_part, .ref q_t_matrix, .ref q_t_row, .ref q_t_low, .int t_swapIn, .int t_swapOut, .ref q_t_own, .ref q_t_chosen, .ref q_t_degrees, .long t_boundedSet, .ref q_t_fixed, .ref q_t_grown, .ref q_t_costs, .ref q_t_order, .long t_joinedSet])), (q_t_there, .inl (cZ, 30, .inl (upd t_there0 p1.toNatClampNeg (vp_nar .boolean (0 : Int32)))))] := hD
    refine lv_aload_n hx hb d_Mo_drop_27 rfl (lv_at hl 0 rfl) ?_
    refine va_get (D := D) (ci := 8) (v := .int x2) (C := R_Mo) (T := F_Mo) (N := 22) hx hb hts i_Mo hown hK hP 0 rfl rfl 2 (by decide) (hts _ m_3_130) (fun _ h9 => h9) rfl d_Mo_drop_28 ?_
    exact hret 31 _ _ _ x2 (upd t_there0 p1.toNatClampNeg (vp_nar .boolean (0 : Int32))) x2 d_Mo_drop_31 hP hD hS hf
  · have hf := if_t hc1 hf
    refine lv_iconst (v := -1) hx hb d_Mo_drop_8 (by decide) ?_
    exact hret 9 _ _ _ (-1 : Int32) t_there0 t_left0 d_Mo_drop_9 hP hD hS hf
set_option maxRecDepth 100000 in
set_option maxHeartbeats 4000000 in
theorem c_Mo_drop (l : Launch) (D : va_G) (cI cJ cG cZ : ClassId) (q_t q_t_froms q_t_tos q_t_weights q_t_there q_t_part q_t_matrix q_t_row q_t_low q_t_own q_t_chosen q_t_degrees q_t_fixed q_t_grown q_t_costs q_t_order : Nat) (t_nodes : Int32) (t_arcs : Int32) (t_left0 : Int32) (t_swapIn : Int32) (t_swapOut : Int32) (t_boundedSet : Int64) (t_joinedSet : Int64) (t_there0 : Nat → Int32) (p1 : Int32) {r : Int32} {t_there' : Nat → Int32} {t_left' : Int32} (hf : f_Mo_drop p1 t_arcs t_left0 t_there0 = some (r, t_there', t_left')) : MeG l D CL (TYs cI cJ cG cZ) y_Mo_drop ws_Mo_drop (rm_Mo_drop) [.ref q_t, .int p1] [(q_t, .inr (8, [.int t_nodes, .int t_arcs, .int t_left0, .ref q_t_froms, .ref q_t_tos, .ref q_t_weights, .ref q_t_there, .ref q_t_part, .ref q_t_matrix, .ref q_t_row, .ref q_t_low, .int t_swapIn, .int t_swapOut, .ref q_t_own, .ref q_t_chosen, .ref q_t_degrees, .long t_boundedSet, .ref q_t_fixed, .ref q_t_grown, .ref q_t_costs, .ref q_t_order, .long t_joinedSet])), (q_t_there, .inl (cZ, 30, .inl t_there0))] (some (.int r)) [(q_t, .inr (8, [.int t_nodes, .int t_arcs, .int t_left', .ref q_t_froms, .ref q_t_tos, .ref q_t_weights, .ref q_t_there, .ref q_t_part, .ref q_t_matrix, .ref q_t_row, .ref q_t_low, .int t_swapIn, .int t_swapOut, .ref q_t_own, .ref q_t_chosen, .ref q_t_degrees, .long t_boundedSet, .ref q_t_fixed, .ref q_t_grown, .ref q_t_costs, .ref q_t_order, .long t_joinedSet])), (q_t_there, .inl (cZ, 30, .inl t_there'))] := by
  intro sz
  refine Met.ofW (cc := b_Mo_drop) (maxL := 2) (ret := (some .int)) (by decide) rfl ?_
  intro p e s m args below meth c s₁ B hml hv
  obtain ⟨rfl, hsz, hP, hK, hD0⟩ := hv
  subst hsz
  have hD := hD0.self (sz := s.heap.size)
  generalize hAe : va_A [(q_t, .inr (8, [.int t_nodes, .int t_arcs, .int t_left0, .ref q_t_froms, .ref q_t_tos, .ref q_t_weights, .ref q_t_there, .ref q_t_part, .ref q_t_matrix, .ref q_t_row, .ref q_t_low, .int t_swapIn, .int t_swapOut, .ref q_t_own, .ref q_t_chosen, .ref q_t_degrees, .long t_boundedSet, .ref q_t_fixed, .ref q_t_grown, .ref q_t_costs, .ref q_t_order, .long t_joinedSet])), (q_t_there, .inl (cZ, 30, .inl t_there0))] s.heap.size = A at hD ⊢
  have C0 : CX p (headSpec ws_Mo_drop (rm_Mo_drop)).room s m _ meth c b_Mo_drop 2 R_Mo lw_g D CL (TYs cI cJ cG cZ) A 1 21 := ⟨B.exec, B.bytes, hml, findClass_of_methodNamed B.named, fun w h => atoms_spec (ws := ws_Mo_drop) B.pre w (List.mem_cons_of_mem _ h), hK, fun q h => by rw [← hAe]; exact Or.inr h, Nat.le_of_ble_eq_true rfl, Nat.le_of_ble_eq_true rfl, B.notSynchronized⟩
  have hl := lv_entry ([.ref q_t, .int p1]) (n := 2) (Nat.le_of_ble_eq_true rfl)
  rw [lg_entry_eq]
  generalize (lg_sl ([.ref q_t, .int p1]) ++ List.replicate (2 - (lg_sl ([.ref q_t, .int p1])).length) Slot.unset).toArray = ls at hl ⊢
  have hl : lv_has ls 2 [(0, .ref q_t), (1, .int p1)] := hl
  exact w_Mo_drop_e C0 (fun pc ls H locs v t_there t_left hdg hP hD hS e => by cases e; exact W.iret B.exec B.bytes B.returns (fun t ht hW => ⟨⟨rfl, by rw [ht]; exact hP, va_K.moved hW.alike hK, hD⟩, hS.F ht⟩) hS.2.2 hdg) _ _ _ hP hD va_S.rf (lv_sub hl [0, 1] rfl) hf
abbrev b_Mo_clear : ByteArray := prog_11_method_8_code
def y_Mo_clear : MethodName := ⟨R_Mo, "clear", "()I"⟩
def ws_Mo_clear : List Cond := .code y_Mo_clear b_Mo_clear 2 (some .int) :: lw_g
theorem wi_Mo_clear : ∀ w ∈ ws_Mo_clear, w ∈ lw_g := wi_of m_3_223
abbrev rm_Mo_clear : Room := { frames := 0, cells := 0, slots := 0, locals := 0 }
theorem hd_Mo_clear : y_Mo_clear.cls = R_Mo ∧ y_Mo_clear.cls ≠ "java/lang/invoke/MethodHandle" ∧ y_Mo_clear.cls ≠ "java/lang/invoke/VarHandle" ∧ (parseMethodDescriptor y_Mo_clear.desc).map (fun d => d.parameters.length) = some 0 := by decide +kernel
theorem d_Mo_clear_0 : decode b_Mo_clear 0 = .ok (.aload_n 0, 1) := by decide +kernel
theorem d_Mo_clear_1 : decode b_Mo_clear 1 = .ok (.getfield 57, 3) := by decide +kernel
theorem d_Mo_clear_4 : decode b_Mo_clear 4 = .ok (.istore_n 1, 1) := by decide +kernel
theorem d_Mo_clear_5 : decode b_Mo_clear 5 = .ok (.aload_n 0, 1) := by decide +kernel
theorem d_Mo_clear_6 : decode b_Mo_clear 6 = .ok (.iconst 0, 1) := by decide +kernel
theorem d_Mo_clear_7 : decode b_Mo_clear 7 = .ok (.putfield 57, 3) := by decide +kernel
theorem d_Mo_clear_10 : decode b_Mo_clear 10 = .ok (.aload_n 0, 1) := by decide +kernel
theorem d_Mo_clear_11 : decode b_Mo_clear 11 = .ok (.iconst 0, 1) := by decide +kernel
theorem d_Mo_clear_12 : decode b_Mo_clear 12 = .ok (.putfield 61, 3) := by decide +kernel
theorem d_Mo_clear_15 : decode b_Mo_clear 15 = .ok (.aload_n 0, 1) := by decide +kernel
theorem d_Mo_clear_16 : decode b_Mo_clear 16 = .ok (.iconst 0, 1) := by decide +kernel
theorem d_Mo_clear_17 : decode b_Mo_clear 17 = .ok (.putfield 68, 3) := by decide +kernel
theorem d_Mo_clear_20 : decode b_Mo_clear 20 = .ok (.iload_n 1, 1) := by decide +kernel
theorem d_Mo_clear_21 : decode b_Mo_clear 21 = .ok (.ireturn, 1) := by decide +kernel
def f_Mo_clear (t_nodes0 : Int32) : Option (Int32 × Int32 × Int32 × Int32) :=
  some (t_nodes0, (0 : Int32), (0 : Int32), (0 : Int32))
set_option maxRecDepth 100000 in
set_option maxHeartbeats 4000000 in
theorem w_Mo_clear_e {p : Program} {l : Launch} {e : Env} {R : Room} {s : State} {m : MethodId} {args : Array Value} {below : List Frame} {meth : Method} {c : Code} {D : va_G} {cI cJ cG cZ : ClassId} {A : Nat → Prop} {Q : State → Prop} {q_t q_t_froms q_t_tos q_t_weights q_t_there q_t_part q_t_matrix q_t_row q_t_low q_t_own q_t_chosen q_t_degrees q_t_fixed q_t_grown q_t_costs q_t_order : Nat} {t_nodes0 : Int32} {t_arcs0 : Int32} {t_left0 : Int32} {t_swapIn : Int32} {t_swapOut : Int32} {t_boundedSet : Int64} {t_joinedSet : Int64} {RR : Int32 × Int32 × Int32 × Int32} (C0 : CX p R s m args meth c b_Mo_clear 2 R_Mo lw_g D CL (TYs cI cJ cG cZ) A 0 0) (hret : ∀ (pc : Nat) (ls : Array Slot) (H : Heap) (locs : List Loc) (v : Int32) (t_nodes : Int32) (t_arcs : Int32) (t_left : Int32), decode b_Mo_clear pc = .ok (.ireturn, 1) → va_P D CL [(q_t, .inr (8, [.int t_nodes, .int t_arcs, .int t_left, .ref q_t_froms, .ref q_t_tos, .ref q_t_weights, .ref q_t_there, .ref q_t_part, .ref q_t_matrix, .ref q_t_row, .ref q_t_low, .int t_swapIn, .int t_swapOut, .ref q_t_own, .ref q_t_chosen, .ref q_t_degrees, .long t_boundedSet, .ref q_t_fixed, .ref q_t_grown, .ref q_t_costs, .ref q_t_order, .long t_joinedSet]))] H → va_D A [(q_t, .inr (8, [.int t_nodes, .int t_arcs, .int t_left, .ref q_t_froms, .ref q_t_tos, .ref q_t_weights, .ref q_t_there, .ref q_t_part, .ref q_t_matrix, .ref q_t_row, .ref q_t_low, .int t_swapIn, .int t_swapOut, .ref q_t_own, .ref q_t_chosen, .ref q_t_degrees, .long t_boundedSet, .ref q_t_fixed, .ref q_t_grown, .ref q_t_costs, .ref q_t_order, .long t_joinedSet]))] → va_S A s.heap H locs → some (v, t_nodes, t_arcs, t_left) = some RR → W p l e R s m args below meth c H locs 0 0 Q (F0 m pc ls [.int v])) : ∀ (H : Heap) (locs : List Loc) (ls : Array Slot), va_P D CL [(q_t, .inr (8, [.int t_nodes0, .int t_arcs0, .int t_left0, .ref q_t_froms, .ref q_t_tos, .ref q_t_weights, .ref q_t_there, .ref q_t_part, .ref q_t_matrix, .ref q_t_row, .ref q_t_low, .int t_swapIn, .int t_swapOut, .ref q_t_own, .ref q_t_chosen, .ref q_t_degrees, .long t_boundedSet, .ref q_t_fixed, .ref q_t_grown, .ref q_t_costs, .ref q_t_order, .long t_joinedSet]))] H → va_D A [(q_t, .inr (8, [.int t_nodes0, .int t_arcs0, .int t_left0, .ref q_t_froms, .ref q_t_tos, .ref q_t_weights, .ref q_t_there, .ref q_t_part, .ref q_t_matrix, .ref q_t_row, .ref q_t_low, .int t_swapIn, .int t_swapOut, .ref q_t_own, .ref q_t_chosen, .ref q_t_degrees, .long t_boundedSet, .ref q_t_fixed, .ref q_t_grown, .ref q_t_costs, .ref q_t_order, .long t_joinedSet]))] → va_S A s.heap H locs → lv_has ls 2 [(0, .ref q_t)] → f_Mo_clear t_nodes0 = some RR → W p l e R s m args below meth c H locs 0 0 Q (F0 m 0 ls []) := by
  intro H locs ls hP hD hS hl hf
  obtain ⟨hx, hb, hml, hown, hts, hK, hA, hfr, hlo, hlk⟩ := id C0
  unfold f_Mo_clear at hf
  refine lv_aload_n hx hb d_Mo_clear_0 rfl (lv_at hl 0 rfl) ?_
  refine va_get (D := D) (ci := 8) (v := .int t_nodes0) (C := R_Mo) (T := F_Mo) (N := 22) hx hb hts i_Mo hown hK hP 0 rfl rfl 0 (by decide) (hts _ m_3_128) (fun _ h9 => h9) rfl d_Mo_clear_1 ?_
  refine lv_istore_n (lv' := [(1, .int t_nodes0), (0, .ref q_t)]) hx hb d_Mo_clear_4 rfl hl (by decide) rfl (fun ls hl => ?_)
  refine lv_aload_n hx hb d_Mo_clear_5 rfl (lv_at hl 1 rfl) ?_
  refine lv_iconst (v := 0) hx hb d_Mo_clear_6 (by decide) ?_
  refine va_put (D := D) (ci := 8) (v := .int (0 : Int32)) (ty := .int) (C := R_Mo) (T := F_Mo) (N := 22) hx hb hts i_Mo t_Mo to_Mo n_Mo hown hK hP hD hS 0 rfl rfl 0 (by decide) (hts _ m_3_128) (fun _ h9 => h9) rfl (by decide +kernel) rfl rfl (Nat.le_of_ble_eq_true rfl) d_Mo_clear_7 (fun H locs hP hD hS => ?_)
  have hP : va_P D CL [(q_t, .inr (8, [.int (0 : Int32), .int t_arcs0, .int t_left0, .ref q_t_froms, .ref q_t_tos, .ref q_t_weights, .ref q_t_there, .ref q_t_part, .ref q_t_matrix, .ref q_t_row, .ref q_t_low, .int t_swapIn, .int t_swapOut, .ref q_t_own, .ref q_t_chosen, .ref q_t_degrees, .long t_boundedSet, .ref q_t_fixed, .ref q_t_grown, .ref q_t_costs, .ref q_t_order, .long t_joinedSet]))] H := hP
  have hD : va_D A [(q_t, .inr (8, [.int (0 : Int32), .int t_arcs0, .int t_left0, .ref q_t_froms, .ref q_t_tos, .ref q_t_weights, .ref q_t_there, .ref q_t_part, .ref q_t_matrix, .ref q_t_row, .ref q_t_low, .int t_swapIn, .int t_swapOut, .ref q_t_own, .ref q_t_chosen, .ref q_t_degrees, .long t_boundedSet, .ref q_t_fixed, .ref q_t_grown, .ref q_t_costs, .ref q_t_order, .long t_joinedSet]))] := hD
  refine lv_aload_n hx hb d_Mo_clear_10 rfl (lv_at hl 1 rfl) ?_
  refine lv_iconst (v := 0) hx hb d_Mo_clear_11 (by decide) ?_
  refine va_put (D := D) (ci := 8) (v := .int (0 : Int32)) (ty := .int) (C := R_Mo) (T := F_Mo) (N := 22) hx hb hts i_Mo t_Mo to_Mo n_Mo hown hK hP hD hS 0 rfl rfl 1 (by decide) (hts _ m_3_129) (fun _ h9 => h9) rfl (by decide +kernel) rfl rfl (Nat.le_of_ble_eq_true rfl) d_Mo_clear_12 (fun H locs hP hD hS => ?_)
  have hP : va_P D CL [(q_t, .inr (8, [.int (0 : Int32), .int (0 : Int32), .int t_left0, .ref q_t_froms, .ref q_t_tos, .ref q_t_weights, .ref q_t_there, .ref q_t_part, .ref q_t_matrix, .ref q_t_row, .ref q_t_low, .int t_swapIn, .int t_swapOut, .ref q_t_own, .ref q_t_chosen, .ref q_t_degrees, .long t_boundedSet, .ref q_t_fixed, .ref q_t_grown, .ref q_t_costs, .ref q_t_order, .long t_joinedSet]))] H := hP
  have hD : va_D A [(q_t, .inr (8, [.int (0 : Int32), .int (0 : Int32), .int t_left0, .ref q_t_froms, .ref q_t_tos, .ref q_t_weights, .ref q_t_there, .ref q_t_part, .ref q_t_matrix, .ref q_t_row, .ref q_t_low, .int t_swapIn, .int t_swapOut, .ref q_t_own, .ref q_t_chosen, .ref q_t_degrees, .long t_boundedSet, .ref q_t_fixed, .ref q_t_grown, .ref q_t_costs, .ref q_t_order, .long t_joinedSet]))] := hD
  refine lv_aload_n hx hb d_Mo_clear_15 rfl (lv_at hl 1 rfl) ?_
  refine lv_iconst (v := 0) hx hb d_Mo_clear_16 (by decide) ?_
  refine va_put (D := D) (ci := 8) (v := .int (0 : Int32)) (ty := .int) (C := R_Mo) (T := F_Mo) (N := 22) hx hb hts i_Mo t_Mo to_Mo n_Mo hown hK hP hD hS 0 rfl rfl 2 (by decide) (hts _ m_3_130) (fun _ h9 => h9) rfl (by decide +kernel) rfl rfl (Nat.le_of_ble_eq_true rfl) d_Mo_clear_17 (fun H locs hP hD hS => ?_)
  have hP : va_P D CL [(q_t, .inr (8, [.int (0 : Int32), .int (0 : Int32), .int (0 : Int32), .ref q_t_froms, .ref q_t_tos, .ref q_t_weights, .ref q_t_there, .ref q_t_part, .ref q_t_matrix, .ref q_t_row, .ref q_t_low, .int t_swapIn, .int t_swapOut, .ref q_t_own, .ref q_t_chosen, .ref q_t_degrees, .long t_boundedSet, .ref q_t_fixed, .ref q_t_grown, .ref q_t_costs, .ref q_t_order, .long t_joinedSet]))] H := hP
  have hD : va_D A [(q_t, .inr (8, [.int (0 : Int32), .int (0 : Int32), .int (0 : Int32), .ref q_t_froms, .ref q_t_tos, .ref q_t_weights, .ref q_t_there, .ref q_t_part, .ref q_t_matrix, .ref q_t_row, .ref q_t_low, .int t_swapIn, .int t_swapOut, .ref q_t_own, .ref q_t_chosen, .ref q_t_degrees, .long t_boundedSet, .ref q_t_fixed, .ref q_t_grown, .ref q_t_costs, .ref q_t_order, .long t_joinedSet]))] := hD
  refine lv_iload_n hx hb d_Mo_clear_20 rfl (lv_at hl 0 rfl) ?_
  exact hret 21 _ _ _ t_nodes0 (0 : Int32) (0 : Int32) (0 : Int32) d_Mo_clear_21 hP hD hS hf
set_option maxRecDepth 100000 in
set_option maxHeartbeats 4000000 in
theorem c_Mo_clear (l : Launch) (D : va_G) (cI cJ cG cZ : ClassId) (q_t q_t_froms q_t_tos q_t_weights q_t_there q_t_part q_t_matrix q_t_row q_t_low q_t_own q_t_chosen q_t_degrees q_t_fixed q_t_grown q_t_costs q_t_order : Nat) (t_nodes0 : Int32) (t_arcs0 : Int32) (t_left0 : Int32) (t_swapIn : Int32) (t_swapOut : Int32) (t_boundedSet : Int64) (t_joinedSet : Int64) {r : Int32} {t_nodes' : Int32} {t_arcs' : Int32} {t_left' : Int32} (hf : f_Mo_clear t_nodes0 = some (r, t_nodes', t_arcs', t_left')) : MeG l D CL (TYs cI cJ cG cZ) y_Mo_clear ws_Mo_clear (rm_Mo_clear) [.ref q_t] [(q_t, .inr (8, [.int t_nodes0, .int t_arcs0, .int t_left0, .ref q_t_froms, .ref q_t_tos, .ref q_t_weights, .ref q_t_there, .ref q_t_part, .ref q_t_matrix, .ref q_t_row, .ref q_t_low, .int t_swapIn, .int t_swapOut, .ref q_t_own, .ref q_t_chosen, .ref q_t_degrees, .long t_boundedSet, .ref q_t_fixed, .ref q_t_grown, .ref q_t_costs, .ref q_t_order, .long t_joinedSet]))] (some (.int r)) [(q_t, .inr (8, [.int t_nodes', .int t_arcs', .int t_left', .ref q_t_froms, .ref q_t_tos, .ref q_t_weights, .ref q_t_there, .ref q_t_part, .ref q_t_matrix, .ref q_t_row, .ref q_t_low, .int t_swapIn, .int t_swapOut, .ref q_t_own, .ref q_t_chosen, .ref q_t_degrees, .long t_boundedSet, .ref q_t_fixed, .ref q_t_grown, .ref q_t_costs, .ref q_t_order, .long t_joinedSet]))] := by
  intro sz
  refine Met.ofW (cc := b_Mo_clear) (maxL := 2) (ret := (some .int)) (by decide) rfl ?_
  intro p e s m args below meth c s₁ B hml hv
  obtain ⟨rfl, hsz, hP, hK, hD0⟩ := hv
  subst hsz
  have hD := hD0.self (sz := s.heap.size)
  generalize hAe : va_A [(q_t, .inr (8, [.int t_nodes0, .int t_arcs0, .int t_left0, .ref q_t_froms, .ref q_t_tos, .ref q_t_weights, .ref q_t_there, .ref q_t_part, .ref q_t_matrix, .ref q_t_row, .ref q_t_low, .int t_swapIn, .int t_swapOut, .ref q_t_own, .ref q_t_chosen, .ref q_t_degrees, .long t_boundedSet, .ref q_t_fixed, .ref q_t_grown, .ref q_t_costs, .ref q_t_order, .long t_joinedSet]))] s.heap.size = A at hD ⊢
  have C0 : CX p (headSpec ws_Mo_clear (rm_Mo_clear)).room s m _ meth c b_Mo_clear 2 R_Mo lw_g D CL (TYs cI cJ cG cZ) A 0 0 := ⟨B.exec, B.bytes, hml, findClass_of_methodNamed B.named, fun w h => atoms_spec (ws := ws_Mo_clear) B.pre w (List.mem_cons_of_mem _ h), hK, fun q h => by rw [← hAe]; exact Or.inr h, Nat.le_of_ble_eq_true rfl, Nat.le_of_ble_eq_true rfl, B.notSynchronized⟩
  have hl := lv_entry ([.ref q_t]) (n := 2) (Nat.le_of_ble_eq_true rfl)
  rw [lg_entry_eq]
  generalize (lg_sl ([.ref q_t]) ++ List.replicate (2 - (lg_sl ([.ref q_t])).length) Slot.unset).toArray = ls at hl ⊢
  have hl : lv_has ls 2 [(0, .ref q_t)] := hl
  exact w_Mo_clear_e C0 (fun pc ls H locs v t_nodes t_arcs t_left hdg hP hD hS e => by cases e; exact W.iret B.exec B.bytes B.returns (fun t ht hW => ⟨⟨rfl, by rw [ht]; exact hP, va_K.moved hW.alike hK, hD⟩, hS.F ht⟩) hS.2.2 hdg) _ _ _ hP hD va_S.rf (lv_sub hl [0] rfl) hf
abbrev b_Mo_alone : ByteArray := prog_11_method_9_code
def y_Mo_alone : MethodName := ⟨R_Mo, "alone", "()V"⟩
def ws_Mo_alone : List Cond := .code y_Mo_alone b_Mo_alone 2 none :: lw_g
theorem wi_Mo_alone : ∀ w ∈ ws_Mo_alone, w ∈ lw_g := wi_of m_3_235
abbrev rm_Mo_alone : Room := { frames := 0, cells := 0, slots := 0, locals := 0 }
theorem hd_Mo_alone : y_Mo_alone.cls = R_Mo ∧ y_Mo_alone.cls ≠ "java/lang/invoke/MethodHandle" ∧ y_Mo_alone.cls ≠ "java/lang/invoke/VarHandle" ∧ (parseMethodDescriptor y_Mo_alone.desc).map (fun d => d.parameters.length) = some 0 := by decide +kernel
theorem d_Mo_alone_0 : decode b_Mo_alone 0 = .ok (.iconst 0, 1) := by decide +kernel
theorem d_Mo_alone_1 : decode b_Mo_alone 1 = .ok (.istore_n 1, 1) := by decide +kernel
theorem d_Mo_alone_2 : decode b_Mo_alone 2 = .ok (.iload_n 1, 1) := by decide +kernel
theorem d_Mo_alone_3 : decode b_Mo_alone 3 = .ok (.bipush 10, 2) := by decide +kernel
theorem d_Mo_alone_5 : decode b_Mo_alone 5 = .ok (.if_icmp .ge 16, 3) := by decide +kernel
theorem d_Mo_alone_8 : decode b_Mo_alone 8 = .ok (.aload_n 0, 1) := by decide +kernel
theorem d_Mo_alone_9 : decode b_Mo_alone 9 = .ok (.getfield 23, 3) := by decide +kernel
theorem d_Mo_alone_12 : decode b_Mo_alone 12 = .ok (.iload_n 1, 1) := by decide +kernel
theorem d_Mo_alone_13 : decode b_Mo_alone 13 = .ok (.iload_n 1, 1) := by decide +kernel
theorem d_Mo_alone_14 : decode b_Mo_alone 14 = .ok (.iastore, 1) := by decide +kernel
theorem d_Mo_alone_15 : decode b_Mo_alone 15 = .ok (.iinc 1 1, 3) := by decide +kernel
theorem d_Mo_alone_18 : decode b_Mo_alone 18 = .ok (.goto (-16), 3) := by decide +kernel
theorem d_Mo_alone_21 : decode b_Mo_alone 21 = .ok (.return_, 1) := by decide +kernel
def g_Mo_alone_2 (k2 : Int32 → (Nat → Int32) → Option ((Nat → Int32))) (v1 : Int32) (t_part : Nat → Int32) : Option ((Nat → Int32)) :=
  if (10 : Int32) ≤ v1 then
    some (t_part)
  else
    gd (inb v1 10) <|
    bn (v1 + (1 : Int32)) fun x1 =>
    k2 x1 (upd t_part v1.toNatClampNeg v1)
def f_Mo_alone (N : Nat) (t_part0 : Nat → Int32) : Option ((Nat → Int32)) :=
  lo2 (g_Mo_alone_2) N (0 : Int32) t_part0
set_option maxRecDepth 100000 in
set_option maxHeartbeats 4000000 in
theorem w_Mo_alone_2 {p : Program} {l : Launch} {e : Env} {R : Room} {s : State} {m : MethodId} {args : Array Value} {below : List Frame} {meth : Method} {c : Code} {D : va_G} {cI cJ cG cZ : ClassId} {A : Nat → Prop} {Q : State → Prop} {q_t q_t_froms q_t_tos q_t_weights q_t_there q_t_part q_t_matrix q_t_row q_t_low q_t_own q_t_chosen q_t_degrees q_t_fixed q_t_grown q_t_costs q_t_order : Nat} {t_nodes : Int32} {t_arcs : Int32} {t_left : Int32} {t_swapIn : Int32} {t_swapOut : Int32} {t_boundedSet : Int64} {t_joinedSet : Int64} {RR : (Nat → Int32)} (C0 : CX p R s m args meth c b_Mo_alone 2 R_Mo lw_g D CL (TYs cI cJ cG cZ) A 0 0) (hret : ∀ (pc : Nat) (ls : Array Slot) (H : Heap) (locs : List Loc) (t_part : Nat → Int32), decode b_Mo_alone pc = .ok (.return_, 1) → va_P D CL [(q_t, .inr (8, [.int t_nodes, .int t_arcs, .int t_left, .ref q_t_froms, .ref q_t_tos, .ref q_t_weights, .ref q_t_there, .ref q_t_part, .ref q_t_matrix, .ref q_t_row, .ref q_t_low, .int t_swapIn, .int t_swapOut, .ref q_t_own, .ref q_t_chosen, .ref q_t_degrees, .long t_boundedSet, .ref q_t_fixed, .ref q_t_grown, .ref q_t_costs, .ref q_t_order, .long t_joinedSet])), (q_t_part, .inl (cI, 10, .inl t_part))] H → va_D A [(q_t, .inr (8, [.int t_nodes, .int t_arcs, .int t_left, .ref q_t_froms, .ref q_t_tos, .ref q_t_weights, .ref q_t_there, .ref q_t_part, .ref q_t_matrix, .ref q_t_row, .ref q_t_low, .int t_swapIn, .int t_swapOut, .ref q_t_own, .ref q_t_chosen, .ref q_t_degrees, .long t_boundedSet, .ref q_t_fixed, .ref q_t_grown, .ref q_t_costs, .ref q_t_order, .long t_joinedSet])), (q_t_part, .inl (cI, 10, .inl t_part))] → va_S A s.heap H locs → some (t_part) = some RR → W p l e R s m args below meth c H locs 0 0 Q (F0 m pc ls [])) (k2 : Int32 → (Nat → Int32) → Option ((Nat → Int32))) (hk2 : ∀ (v1 : Int32) (t_part : Nat → Int32) (H : Heap) (locs : List Loc) (ls : Array Slot), va_P D CL [(q_t, .inr (8, [.int t_nodes, .int t_arcs, .int t_left, .ref q_t_froms, .ref q_t_tos, .ref q_t_weights, .ref q_t_there, .ref q_t_part, .ref q_t_matrix, .ref q_t_row, .ref q_t_low, .int t_swapIn, .int t_swapOut, .ref q_t_own, .ref q_t_chosen, .ref q_t_degrees, .long t_boundedSet, .ref q_t_fixed, .ref q_t_grown, .ref q_t_costs, .ref q_t_order, .long t_joinedSet])), (q_t_part, .inl (cI, 10, .inl t_part))] H → va_D A [(q_t, .inr (8, [.int t_nodes, .int t_arcs, .int t_left, .ref q_t_froms, .ref q_t_tos, .ref q_t_weights, .ref q_t_there, .ref q_t_part, .ref q_t_matrix, .ref q_t_row, .ref q_t_low, .int t_swapIn, .int t_swapOut, .ref q_t_own, .ref q_t_chosen, .ref q_t_degrees, .long t_boundedSet, .ref q_t_fixed, .ref q_t_grown, .ref q_t_costs, .ref q_t_order, .long t_joinedSet])), (q_t_part, .inl (cI, 10, .inl t_part))] → va_S A s.heap H locs → lv_has ls 2 [(0, .ref q_t), (1, .int v1)] → k2 v1 t_part = some RR → W p l e R s m args below meth c H locs 0 0 Q (F0 m 2 ls [])) : ∀ (v1 : Int32) (t_part : Nat → Int32) (H : Heap) (locs : List Loc) (ls : Array Slot), va_P D CL [(q_t, .inr (8, [.int t_nodes, .int t_arcs, .int t_left, .ref q_t_froms, .ref q_t_tos, .ref q_t_weights, .ref q_t_there, .ref q_t_part, .ref q_t_matrix, .ref q_t_row, .ref q_t_low, .int t_swapIn, .int t_swapOut, .ref q_t_own, .ref q_t_chosen, .ref q_t_degrees, .long t_boundedSet, .ref q_t_fixed, .ref q_t_grown, .ref q_t_costs, .ref q_t_order, .long t_joinedSet])), (q_t_part, .inl (cI, 10, .inl t_part))] H → va_D A [(q_t, .inr (8, [.int t_nodes, .int t_arcs, .int t_left, .ref q_t_froms, .ref q_t_tos, .ref q_t_weights, .ref q_t_there, .ref q_t_part, .ref q_t_matrix, .ref q_t_row, .ref q_t_low, .int t_swapIn, .int t_swapOut, .ref q_t_own, .ref q_t_chosen, .ref q_t_degrees, .long t_boundedSet, .ref q_t_fixed, .ref q_t_grown, .ref q_t_costs, .ref q_t_order, .long t_joinedSet])), (q_t_part, .inl (cI, 10, .inl t_part))] → va_S A s.heap H locs → lv_has ls 2 [(0, .ref q_t), (1, .int v1)] → g_Mo_alone_2 k2 v1 t_part = some RR → W p l e R s m args below meth c H locs 0 0 Q (F0 m 2 ls []) := by
  intro v1 t_part H locs ls hP hD hS hl hf
  obtain ⟨hx, hb, hml, hown, hts, hK, hA, hfr, hlo, hlk⟩ := id C0
  unfold g_Mo_alone_2 at hf
  refine lv_iload_n hx hb d_Mo_alone_2 rfl (lv_at hl 1 rfl) ?_
  refine lv_bipush (v := 10) hx hb d_Mo_alone_3 (by decide) ?_
  refine lv_icmp_ge (tgt := 21) hx hb d_Mo_alone_5 (by decide) (fun hc1 => ?_) (fun hc1 => ?_)
  · have hf := if_t hc1 hf
    exact hret 21 _ _ _ t_part d_Mo_alone_21 hP hD hS hf
  · have hf := if_f hc1 hf
    refine lv_aload_n hx hb d_Mo_alone_8 rfl (lv_at hl 0 rfl) ?_
    refine va_get (D := D) (ci := 8) (v := .ref q_t_part) (C := R_Mo) (T := F_Mo) (N := 22) hx hb hts i_Mo hown hK hP 0 rfl rfl 7 (by decide) (hts _ m_3_135) (fun _ h9 => h9) rfl d_Mo_alone_9 ?_
    refine lv_iload_n hx hb d_Mo_alone_12 rfl (lv_at hl 1 rfl) ?_
    refine lv_iload_n hx hb d_Mo_alone_13 rfl (lv_at hl 1 rfl) ?_
    obtain ⟨hg1, hf⟩ := gd_e hf
    refine va_iast hx hb hK hP hD hS 1 0 rfl rfl (inb_e hg1) d_Mo_alone_14 (fun H locs hP hD hS => ?_)
    have hP : va_P D CL [(q_t, .inr (8, [.int t_nodes, .int t_arcs, .int t_left, .ref q_t_froms, .ref q_t_tos, .ref q_t_weights, .ref q_t_there, .ref q_t_part, .ref q_t_matrix, .ref q_t_row, .ref q_t_low, .int t_swapIn, .int t_swapOut, .ref q_t_own, .ref q_t_chosen, .ref q_t_degrees, .long t_boundedSet, .ref q_t_fixed, .ref q_t_grown, .ref q_t_costs, .ref q_t_order, .long t_joinedSet])), (q_t_part, .inl (cI, 10, .inl (upd t_part v1.toNatClampNeg v1)))] H := hP
    have hD : va_D A [(q_t, .inr (8, [.int t_nodes, .int t_arcs, .int t_left, .ref q_t_froms, .ref q_t_tos, .ref q_t_weights, .ref q_t_there, .ref q_t_part, .ref q_t_matrix, .ref q_t_row, .ref q_t_low, .int t_swapIn, .int t_swapOut, .ref q_t_own, .ref q_t_chosen, .ref q_t_degrees, .long t_boundedSet, .ref q_t_fixed, .ref q_t_grown, .ref q_t_costs, .ref q_t_order, .long t_joinedSet])), (q_t_part, .inl (cI, 10, .inl (upd t_part v1.toNatClampNeg v1)))] := hD
    obtain ⟨x1, ex1⟩ : ∃ y : Int32, y = v1 + (1 : Int32) := ⟨_, rfl⟩
    have hf := bn_e ex1 hf
    refine lv_iinc (v := x1) (lv' := [(1, .int x1), (0, .ref q_t)]) hx hb d_Mo_alone_15 hl (k := 1) rfl (by rw [ex1]; rfl) (by decide) rfl (fun ls hl => ?_)
    refine lv_goto (tgt := 2) hx hb d_Mo_alone_18 (by decide) ?_
    exact hk2 x1 (upd t_part v1.toNatClampNeg v1) _ _ _ hP hD hS (lv_sub hl [1, 0] rfl) hf
set_option maxRecDepth 100000 in
set_option maxHeartbeats 4000000 in
theorem w_Mo_alone_2_l {p : Program} {l : Launch} {e : Env} {R : Room} {s : State} {m : MethodId} {args : Array Value} {below : List Frame} {meth : Method} {c : Code} {D : va_G} {cI cJ cG cZ : ClassId} {A : Nat → Prop} {Q : State → Prop} {q_t q_t_froms q_t_tos q_t_weights q_t_there q_t_part q_t_matrix q_t_row q_t_low q_t_own q_t_chosen q_t_degrees q_t_fixed q_t_grown q_t_costs q_t_order : Nat} {t_nodes : Int32} {t_arcs : Int32} {t_left : Int32} {t_swapIn : Int32} {t_swapOut : Int32} {t_boundedSet : Int64} {t_joinedSet : Int64} {RR : (Nat → Int32)} (C0 : CX p R s m args meth c b_Mo_alone 2 R_Mo lw_g D CL (TYs cI cJ cG cZ) A 0 0) (hret : ∀ (pc : Nat) (ls : Array Slot) (H : Heap) (locs : List Loc) (t_part : Nat → Int32), decode b_Mo_alone pc = .ok (.return_, 1) → va_P D CL [(q_t, .inr (8, [.int t_nodes, .int t_arcs, .int t_left, .ref q_t_froms, .ref q_t_tos, .ref q_t_weights, .ref q_t_there, .ref q_t_part, .ref q_t_matrix, .ref q_t_row, .ref q_t_low, .int t_swapIn, .int t_swapOut, .ref q_t_own, .ref q_t_chosen, .ref q_t_degrees, .long t_boundedSet, .ref q_t_fixed, .ref q_t_grown, .ref q_t_costs, .ref q_t_order, .long t_joinedSet])), (q_t_part, .inl (cI, 10, .inl t_part))] H → va_D A [(q_t, .inr (8, [.int t_nodes, .int t_arcs, .int t_left, .ref q_t_froms, .ref q_t_tos, .ref q_t_weights, .ref q_t_there, .ref q_t_part, .ref q_t_matrix, .ref q_t_row, .ref q_t_low, .int t_swapIn, .int t_swapOut, .ref q_t_own, .ref q_t_chosen, .ref q_t_degrees, .long t_boundedSet, .ref q_t_fixed, .ref q_t_grown, .ref q_t_costs, .ref q_t_order, .long t_joinedSet])), (q_t_part, .inl (cI, 10, .inl t_part))] → va_S A s.heap H locs → some (t_part) = some RR → W p l e R s m args below meth c H locs 0 0 Q (F0 m pc ls []))  : ∀ (n : Nat) (v1 : Int32) (t_part : Nat → Int32) (H : Heap) (locs : List Loc) (ls : Array Slot), va_P D CL [(q_t, .inr (8, [.int t_nodes, .int t_arcs, .int t_left, .ref q_t_froms, .ref q_t_tos, .ref q_t_weights, .ref q_t_there, .ref q_t_part, .ref q_t_matrix, .ref q_t_row, .ref q_t_low, .int t_swapIn, .int t_swapOut, .ref q_t_own, .ref q_t_chosen, .ref q_t_degrees, .long t_boundedSet, .ref q_t_fixed, .ref q_t_grown, .ref q_t_costs, .ref q_t_order, .long t_joinedSet])), (q_t_part, .inl (cI, 10, .inl t_part))] H → va_D A [(q_t, .inr (8, [.int t_nodes, .int t_arcs, .int t_left, .ref q_t_froms, .ref q_t_tos, .ref q_t_weights, .ref q_t_there, .ref q_t_part, .ref q_t_matrix, .ref q_t_row, .ref q_t_low, .int t_swapIn, .int t_swapOut, .ref q_t_own, .ref q_t_chosen, .ref q_t_degrees, .long t_boundedSet, .ref q_t_fixed, .ref q_t_grown, .ref q_t_costs, .ref q_t_order, .long t_joinedSet])), (q_t_part, .inl (cI, 10, .inl t_part))] → va_S A s.heap H locs → lv_has ls 2 [(0, .ref q_t), (1, .int v1)] → lo2 (g_Mo_alone_2) n v1 t_part = some RR → W p l e R s m args below meth c H locs 0 0 Q (F0 m 2 ls []) := by
  intro n
  induction n with
  | zero =>
    intro v1 t_part H locs ls hP hD hS hl hf
    exact absurd hf (by simp [lo2])
  | succ n ih =>
    intro v1 t_part H locs ls hP hD hS hl hf
    exact w_Mo_alone_2 C0 hret  (lo2 (g_Mo_alone_2) n) ih v1 t_part H locs ls hP hD hS hl hf
set_option maxRecDepth 100000 in
set_option maxHeartbeats 4000000 in
theorem w_Mo_alone_e {p : Program} {l : Launch} {e : Env} {R : Room} {s : State} {m : MethodId} {args : Array Value} {below : List Frame} {meth : Method} {c : Code} {D : va_G} {cI cJ cG cZ : ClassId} {A : Nat → Prop} {Q : State → Prop} {q_t q_t_froms q_t_tos q_t_weights q_t_there q_t_part q_t_matrix q_t_row q_t_low q_t_own q_t_chosen q_t_degrees q_t_fixed q_t_grown q_t_costs q_t_order : Nat} {t_nodes : Int32} {t_arcs : Int32} {t_left : Int32} {t_swapIn : Int32} {t_swapOut : Int32} {t_boundedSet : Int64} {t_joinedSet : Int64} {t_part0 : Nat → Int32} {N : Nat} {RR : (Nat → Int32)} (C0 : CX p R s m args meth c b_Mo_alone 2 R_Mo lw_g D CL (TYs cI cJ cG cZ) A 0 0) (hret : ∀ (pc : Nat) (ls : Array Slot) (H : Heap) (locs : List Loc) (t_part : Nat → Int32), decode b_Mo_alone pc = .ok (.return_, 1) → va_P D CL [(q_t, .inr (8, [.int t_nodes, .int t_arcs, .int t_left, .ref q_t_froms, .ref q_t_tos, .ref q_t_weights, .ref q_t_there, .ref q_t_part, .ref q_t_matrix, .ref q_t_row, .ref q_t_low, .int t_swapIn, .int t_swapOut, .ref q_t_own, .ref q_t_chosen, .ref q_t_degrees, .long t_boundedSet, .ref q_t_fixed, .ref q_t_grown, .ref q_t_costs, .ref q_t_order, .long t_joinedSet])), (q_t_part, .inl (cI, 10, .inl t_part))] H → va_D A [(q_t, .inr (8, [.int t_nodes, .int t_arcs, .int t_left, .ref q_t_froms, .ref q_t_tos, .ref q_t_weights, .ref q_t_there, .ref q_t_part, .ref q_t_matrix, .ref q_t_row, .ref q_t_low, .int t_swapIn, .int t_swapOut, .ref q_t_own, .ref q_t_chosen, .ref q_t_degrees, .long t_boundedSet, .ref q_t_fixed, .ref q_t_grown, .ref q_t_costs, .ref q_t_order, .long t_joinedSet])), (q_t_part, .inl (cI, 10, .inl t_part))] → va_S A s.heap H locs → some (t_part) = some RR → W p l e R s m args below meth c H locs 0 0 Q (F0 m pc ls [])) : ∀ (H : Heap) (locs : List Loc) (ls : Array Slot), va_P D CL [(q_t, .inr (8, [.int t_nodes, .int t_arcs, .int t_left, .ref q_t_froms, .ref q_t_tos, .ref q_t_weights, .ref q_t_there, .ref q_t_part, .ref q_t_matrix, .ref q_t_row, .ref q_t_low, .int t_swapIn, .int t_swapOut, .ref q_t_own, .ref q_t_chosen, .ref q_t_degrees, .long t_boundedSet, .ref q_t_fixed, .ref q_t_grown, .ref q_t_costs, .ref q_t_order, .long t_joinedSet])), (q_t_part, .inl (cI, 10, .inl t_part0))] H → va_D A [(q_t, .inr (8, [.int t_nodes, .int t_arcs, .int t_left, .ref q_t_froms, .ref q_t_tos, .ref q_t_weights, .ref q_t_there, .ref q_t_part, .ref q_t_matrix, .ref q_t_row, .ref q_t_low, .int t_swapIn, .int t_swapOut, .ref q_t_own, .ref q_t_chosen, .ref q_t_degrees, .long t_boundedSet, .ref q_t_fixed, .ref q_t_grown, .ref q_t_costs, .ref q_t_order, .long t_joinedSet])), (q_t_part, .inl (cI, 10, .inl t_part0))] → va_S A s.heap H locs → lv_has ls 2 [(0, .ref q_t)] → f_Mo_alone N t_part0 = some RR → W p l e R s m args below meth c H locs 0 0 Q (F0 m 0 ls []) := by
  intro H locs ls hP hD hS hl hf
  obtain ⟨hx, hb, hml, hown, hts, hK, hA, hfr, hlo, hlk⟩ := id C0
  unfold f_Mo_alone at hf
  refine lv_iconst (v := 0) hx hb d_Mo_alone_0 (by decide) ?_
  refine lv_istore_n (lv' := [(1, .int (0 : Int32)), (0, .ref q_t)]) hx hb d_Mo_alone_1 rfl hl (by decide) rfl (fun ls hl => ?_)
  exact w_Mo_alone_2_l C0 hret N (0 : Int32) t_part0 _ _ _ hP hD hS (lv_sub hl [1, 0] rfl) hf
set_option maxRecDepth 100000 in
set_option maxHeartbeats 4000000 in
theorem c_Mo_alone (l : Launch) (D : va_G) (cI cJ cG cZ : ClassId) (q_t q_t_froms q_t_tos q_t_weights q_t_there q_t_part q_t_matrix q_t_row q_t_low q_t_own q_t_chosen q_t_degrees q_t_fixed q_t_grown q_t_costs q_t_order : Nat) (t_nodes : Int32) (t_arcs : Int32) (t_left : Int32) (t_swapIn : Int32) (t_swapOut : Int32) (t_boundedSet : Int64) (t_joinedSet : Int64) (t_part0 : Nat → Int32) {N : Nat} {t_part' : Nat → Int32} (hf : f_Mo_alone N t_part0 = some (t_part')) : MeG l D CL (TYs cI cJ cG cZ) y_Mo_alone ws_Mo_alone (rm_Mo_alone) [.ref q_t] [(q_t, .inr (8, [.int t_nodes, .int t_arcs, .int t_left, .ref q_t_froms, .ref q_t_tos, .ref q_t_weights, .ref q_t_there, .ref q_t_part, .ref q_t_matrix, .ref q_t_row, .ref q_t_low, .int t_swapIn, .int t_swapOut, .ref q_t_own, .ref q_t_chosen, .ref q_t_degrees, .long t_boundedSet, .ref q_t_fixed, .ref q_t_grown, .ref q_t_costs, .ref q_t_order, .long t_joinedSet])), (q_t_part, .inl (cI, 10, .inl t_part0))] none [(q_t, .inr (8, [.int t_nodes, .int t_arcs, .int t_left, .ref q_t_froms, .ref q_t_tos, .ref q_t_weights, .ref q_t_there, .ref q_t_part, .ref q_t_matrix, .ref q_t_row, .ref q_t_low, .int t_swapIn, .int t_swapOut, .ref q_t_own, .ref q_t_chosen, .ref q_t_degrees, .long t_boundedSet, .ref q_t_fixed, .ref q_t_grown, .ref q_t_costs, .ref q_t_order, .long t_joinedSet])), (q_t_part, .inl (cI, 10, .inl t_part'))] := by
  intro sz
  refine Met.ofW (cc := b_Mo_alone) (maxL := 2) (ret := none) (by decide) rfl ?_
  intro p e s m args below meth c s₁ B hml hv
  obtain ⟨rfl, hsz, hP, hK, hD0⟩ := hv
  subst hsz
  have hD := hD0.self (sz := s.heap.size)
  generalize hAe : va_A [(q_t, .inr (8, [.int t_nodes, .int t_arcs, .int t_left, .ref q_t_froms, .ref q_t_tos, .ref q_t_weights, .ref q_t_there, .ref q_t_part, .ref q_t_matrix, .ref q_t_row, .ref q_t_low, .int t_swapIn, .int t_swapOut, .ref q_t_own, .ref q_t_chosen, .ref q_t_degrees, .long t_boundedSet, .ref q_t_fixed, .ref q_t_grown, .ref q_t_costs, .ref q_t_order, .long t_joinedSet])), (q_t_part, .inl (cI, 10, .inl t_part0))] s.heap.size = A at hD ⊢
  have C0 : CX p (headSpec ws_Mo_alone (rm_Mo_alone)).room s m _ meth c b_Mo_alone 2 R_Mo lw_g D CL (TYs cI cJ cG cZ) A 0 0 := ⟨B.exec, B.bytes, hml, findClass_of_methodNamed B.named, fun w h => atoms_spec (ws := ws_Mo_alone) B.pre w (List.mem_cons_of_mem _ h), hK, fun q h => by rw [← hAe]; exact Or.inr h, Nat.le_of_ble_eq_true rfl, Nat.le_of_ble_eq_true rfl, B.notSynchronized⟩
  have hl := lv_entry ([.ref q_t]) (n := 2) (Nat.le_of_ble_eq_true rfl)
  rw [lg_entry_eq]
  generalize (lg_sl ([.ref q_t]) ++ List.replicate (2 - (lg_sl ([.ref q_t])).length) Slot.unset).toArray = ls at hl ⊢
  have hl : lv_has ls 2 [(0, .ref q_t)] := hl
  exact w_Mo_alone_e C0 (fun pc ls H locs t_part hdg hP hD hS e => by cases e; exact W.vret B.exec B.bytes B.returns (fun t ht hW => ⟨⟨rfl, by rw [ht]; exact hP, va_K.moved hW.alike hK, hD⟩, hS.F ht⟩) hS.2.2 hdg) _ _ _ hP hD va_S.rf (lv_sub hl [0] rfl) hf
