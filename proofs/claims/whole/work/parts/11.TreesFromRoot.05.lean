abbrev b_TreesFromRoot_findRings : ByteArray := prog_9_method_9_code
def y_TreesFromRoot_findRings : MethodName := ⟨R_TreesFromRoot, "findRings", "()I"⟩
def ws_TreesFromRoot_findRings : List Cond := .code y_TreesFromRoot_findRings b_TreesFromRoot_findRings 5 (some .int) :: lw_g
theorem wi_TreesFromRoot_findRings : ∀ w ∈ ws_TreesFromRoot_findRings, w ∈ lw_g := wi_of m_3_53
abbrev rm_TreesFromRoot_findRings : Room := { frames := 2, cells := 0, slots := 0, locals := 45 }
theorem hd_TreesFromRoot_findRings : y_TreesFromRoot_findRings.cls = R_TreesFromRoot ∧ y_TreesFromRoot_findRings.cls ≠ "java/lang/invoke/MethodHandle" ∧ y_TreesFromRoot_findRings.cls ≠ "java/lang/invoke/VarHandle" ∧ (parseMethodDescriptor y_TreesFromRoot_findRings.desc).map (fun d => d.parameters.length) = some 0 := by decide +kernel
theorem d_TreesFromRoot_findRings_0 : decode b_TreesFromRoot_findRings 0 = .ok (.aload_n 0, 1) := by decide +kernel
theorem d_TreesFromRoot_findRings_1 : decode b_TreesFromRoot_findRings 1 = .ok (.getfield 32, 3) := by decide +kernel
theorem d_TreesFromRoot_findRings_4 : decode b_TreesFromRoot_findRings 4 = .ok (.iconst (-1), 1) := by decide +kernel
theorem d_TreesFromRoot_findRings_5 : decode b_TreesFromRoot_findRings 5 = .ok (.invokestatic 93, 3) := by decide +kernel
theorem d_TreesFromRoot_findRings_8 : decode b_TreesFromRoot_findRings 8 = .ok (.iconst 0, 1) := by decide +kernel
theorem d_TreesFromRoot_findRings_9 : decode b_TreesFromRoot_findRings 9 = .ok (.istore_n 1, 1) := by decide +kernel
theorem d_TreesFromRoot_findRings_10 : decode b_TreesFromRoot_findRings 10 = .ok (.iconst 0, 1) := by decide +kernel
theorem d_TreesFromRoot_findRings_11 : decode b_TreesFromRoot_findRings 11 = .ok (.istore_n 2, 1) := by decide +kernel
theorem d_TreesFromRoot_findRings_12 : decode b_TreesFromRoot_findRings 12 = .ok (.iload_n 2, 1) := by decide +kernel
theorem d_TreesFromRoot_findRings_13 : decode b_TreesFromRoot_findRings 13 = .ok (.aload_n 0, 1) := by decide +kernel
theorem d_TreesFromRoot_findRings_14 : decode b_TreesFromRoot_findRings 14 = .ok (.getfield 71, 3) := by decide +kernel
theorem d_TreesFromRoot_findRings_17 : decode b_TreesFromRoot_findRings 17 = .ok (.if_icmp .ge 61, 3) := by decide +kernel
theorem d_TreesFromRoot_findRings_20 : decode b_TreesFromRoot_findRings 20 = .ok (.iload_n 2, 1) := by decide +kernel
theorem d_TreesFromRoot_findRings_21 : decode b_TreesFromRoot_findRings 21 = .ok (.istore_n 3, 1) := by decide +kernel
theorem d_TreesFromRoot_findRings_22 : decode b_TreesFromRoot_findRings 22 = .ok (.iconst 0, 1) := by decide +kernel
theorem d_TreesFromRoot_findRings_23 : decode b_TreesFromRoot_findRings 23 = .ok (.istore 4, 2) := by decide +kernel
theorem d_TreesFromRoot_findRings_25 : decode b_TreesFromRoot_findRings 25 = .ok (.iload 4, 2) := by decide +kernel
theorem d_TreesFromRoot_findRings_27 : decode b_TreesFromRoot_findRings 27 = .ok (.aload_n 0, 1) := by decide +kernel
theorem d_TreesFromRoot_findRings_28 : decode b_TreesFromRoot_findRings 28 = .ok (.getfield 71, 3) := by decide +kernel
theorem d_TreesFromRoot_findRings_31 : decode b_TreesFromRoot_findRings 31 = .ok (.if_icmp .ge 24, 3) := by decide +kernel
theorem d_TreesFromRoot_findRings_34 : decode b_TreesFromRoot_findRings 34 = .ok (.aload_n 0, 1) := by decide +kernel
theorem d_TreesFromRoot_findRings_35 : decode b_TreesFromRoot_findRings 35 = .ok (.iload_n 3, 1) := by decide +kernel
theorem d_TreesFromRoot_findRings_36 : decode b_TreesFromRoot_findRings 36 = .ok (.invokevirtual 96, 3) := by decide +kernel
theorem d_TreesFromRoot_findRings_39 : decode b_TreesFromRoot_findRings 39 = .ok (.ifCond .eq 16, 3) := by decide +kernel
theorem d_TreesFromRoot_findRings_42 : decode b_TreesFromRoot_findRings 42 = .ok (.aload_n 0, 1) := by decide +kernel
theorem d_TreesFromRoot_findRings_43 : decode b_TreesFromRoot_findRings 43 = .ok (.getfield 29, 3) := by decide +kernel
theorem d_TreesFromRoot_findRings_46 : decode b_TreesFromRoot_findRings 46 = .ok (.iload_n 3, 1) := by decide +kernel
theorem d_TreesFromRoot_findRings_47 : decode b_TreesFromRoot_findRings 47 = .ok (.iaload, 1) := by decide +kernel
theorem d_TreesFromRoot_findRings_48 : decode b_TreesFromRoot_findRings 48 = .ok (.istore_n 3, 1) := by decide +kernel
theorem d_TreesFromRoot_findRings_49 : decode b_TreesFromRoot_findRings 49 = .ok (.iinc 4 1, 3) := by decide +kernel
theorem d_TreesFromRoot_findRings_52 : decode b_TreesFromRoot_findRings 52 = .ok (.goto (-27), 3) := by decide +kernel
theorem d_TreesFromRoot_findRings_55 : decode b_TreesFromRoot_findRings 55 = .ok (.aload_n 0, 1) := by decide +kernel
theorem d_TreesFromRoot_findRings_56 : decode b_TreesFromRoot_findRings 56 = .ok (.iload_n 3, 1) := by decide +kernel
theorem d_TreesFromRoot_findRings_57 : decode b_TreesFromRoot_findRings 57 = .ok (.invokevirtual 96, 3) := by decide +kernel
theorem d_TreesFromRoot_findRings_60 : decode b_TreesFromRoot_findRings 60 = .ok (.ifCond .eq 12, 3) := by decide +kernel
theorem d_TreesFromRoot_findRings_63 : decode b_TreesFromRoot_findRings 63 = .ok (.aload_n 0, 1) := by decide +kernel
theorem d_TreesFromRoot_findRings_64 : decode b_TreesFromRoot_findRings 64 = .ok (.iload_n 3, 1) := by decide +kernel
theorem d_TreesFromRoot_findRings_65 : decode b_TreesFromRoot_findRings 65 = .ok (.iload_n 1, 1) := by decide +kernel
theorem d_TreesFromRoot_findRings_66 : decode b_TreesFromRoot_findRings 66 = .ok (.invokevirtual 100, 3) := by decide +kernel
theorem d_TreesFromRoot_findRings_69 : decode b_TreesFromRoot_findRings 69 = .ok (.iinc 1 1, 3) := by decide +kernel
theorem d_TreesFromRoot_findRings_72 : decode b_TreesFromRoot_findRings 72 = .ok (.iinc 2 1, 3) := by decide +kernel
theorem d_TreesFromRoot_findRings_75 : decode b_TreesFromRoot_findRings 75 = .ok (.goto (-63), 3) := by decide +kernel
theorem d_TreesFromRoot_findRings_78 : decode b_TreesFromRoot_findRings 78 = .ok (.iload_n 1, 1) := by decide +kernel
theorem d_TreesFromRoot_findRings_79 : decode b_TreesFromRoot_findRings 79 = .ok (.ireturn, 1) := by decide +kernel
def g_TreesFromRoot_findRings_55 (N : Nat) (t_nodes : Int32) (t_root : Int32) (t_before : Nat → Int32) (k12 : Int32 → Int32 → (Nat → Int32) → Option (Int32 × (Nat → Int32))) (v1 : Int32) (v2 : Int32) (v3 : Int32) (t_group : Nat → Int32) : Option (Int32 × (Nat → Int32)) :=
  bk1 (f_TreesFromRoot_isLoose v3 t_root t_group) fun r1 =>
  if r1 = 0 then
    bn (v2 + (1 : Int32)) fun x2 =>
    k12 v1 x2 t_group
  else
    bk1 (f_TreesFromRoot_markRing N v3 v1 t_nodes t_root t_group t_before) fun c3 =>
    bn (v1 + (1 : Int32)) fun x4 =>
    bn (v2 + (1 : Int32)) fun x5 =>
    k12 x4 x5 c3
def g_TreesFromRoot_findRings_25 (N : Nat) (t_nodes : Int32) (t_root : Int32) (t_before : Nat → Int32) (k12 : Int32 → Int32 → (Nat → Int32) → Option (Int32 × (Nat → Int32))) (k25 : Int32 → Int32 → Int32 → Int32 → (Nat → Int32) → Option (Int32 × (Nat → Int32))) (v1 : Int32) (v2 : Int32) (v3 : Int32) (v4 : Int32) (t_group : Nat → Int32) : Option (Int32 × (Nat → Int32)) :=
  if t_nodes ≤ v4 then
    g_TreesFromRoot_findRings_55 N t_nodes t_root t_before k12 v1 v2 v3 t_group
  else
    bk1 (f_TreesFromRoot_isLoose v3 t_root t_group) fun r1 =>
    if r1 = 0 then
      g_TreesFromRoot_findRings_55 N t_nodes t_root t_before k12 v1 v2 v3 t_group
    else
      gd (inb v3 10) <|
      bn (t_before v3.toNatClampNeg) fun x2 =>
      bn (v4 + (1 : Int32)) fun x3 =>
      k25 v1 v2 x2 x3 t_group
def g_TreesFromRoot_findRings_12 (N : Nat) (t_nodes : Int32) (t_root : Int32) (t_before : Nat → Int32) (k12 : Int32 → Int32 → (Nat → Int32) → Option (Int32 × (Nat → Int32))) (v1 : Int32) (v2 : Int32) (t_group : Nat → Int32) : Option (Int32 × (Nat → Int32)) :=
  if t_nodes ≤ v2 then
    some (v1, t_group)
  else
    lo5 (g_TreesFromRoot_findRings_25 N t_nodes t_root t_before k12) N v1 v2 v2 (0 : Int32) t_group
def f_TreesFromRoot_findRings (N : Nat) (t_nodes : Int32) (t_root : Int32) (t_group0 : Nat → Int32) (t_before : Nat → Int32) : Option (Int32 × (Nat → Int32)) :=
  bk1 (f_Arr_fill0 N (-1 : Int32) t_group0 10) fun c1 =>
  lo3 (g_TreesFromRoot_findRings_12 N t_nodes t_root t_before) N (0 : Int32) (0 : Int32) c1
set_option maxRecDepth 100000 in
set_option maxHeartbeats 4000000 in
theorem w_TreesFromRoot_findRings_55 {p : Program} {l : Launch} {e : Env} {R : Room} {s : State} {m : MethodId} {args : Array Value} {below : List Frame} {meth : Method} {c : Code} {D : va_G} {cI cJ cG cZ : ClassId} {A : Nat → Prop} {Q : State → Prop} {q_t q_t_graph q_t_tail q_t_head q_t_cost q_t_leastInto q_t_before q_t_group : Nat} {t_nodes : Int32} {t_arcs : Int32} {t_root : Int32} {t_before : Nat → Int32} {N : Nat} {RR : Int32 × (Nat → Int32)} (C0 : CX p R s m args meth c b_TreesFromRoot_findRings 5 R_TreesFromRoot lw_g D CL (TYs cI cJ cG cZ) A 2 45) (hret : ∀ (pc : Nat) (ls : Array Slot) (H : Heap) (locs : List Loc) (v : Int32) (t_group : Nat → Int32), decode b_TreesFromRoot_findRings pc = .ok (.ireturn, 1) → va_P D CL [(q_t, .inr (6, [.ref q_t_graph, .ref q_t_tail, .ref q_t_head, .ref q_t_cost, .ref q_t_leastInto, .ref q_t_before, .ref q_t_group, .int t_nodes, .int t_arcs, .int t_root])), (q_t_group, .inl (cI, 10, .inl t_group)), (q_t_before, .inl (cI, 10, .inl t_before))] H → va_D A [(q_t, .inr (6, [.ref q_t_graph, .ref q_t_tail, .ref q_t_head, .ref q_t_cost, .ref q_t_leastInto, .ref q_t_before, .ref q_t_group, .int t_nodes, .int t_arcs, .int t_root])), (q_t_group, .inl (cI, 10, .inl t_group)), (q_t_before, .inl (cI, 10, .inl t_before))] → va_S A s.heap H locs → some (v, t_group) = some RR → W p l e R s m args below meth c H locs 0 0 Q (F0 m pc ls [.int v])) (k12 : Int32 → Int32 → (Nat → Int32) → Option (Int32 × (Nat → Int32))) (hk12 : ∀ (v1 : Int32) (v2 : Int32) (t_group : Nat → Int32) (H : Heap) (locs : List Loc) (ls : Array Slot), va_P D CL [(q_t, .inr (6, [.ref q_t_graph, .ref q_t_tail, .ref q_t_head, .ref q_t_cost, .ref q_t_leastInto, .ref q_t_before, .ref q_t_group, .int t_nodes, .int t_arcs, .int t_root])), (q_t_group, .inl (cI, 10, .inl t_group)), (q_t_before, .inl (cI, 10, .inl t_before))] H → va_D A [(q_t, .inr (6, [.ref q_t_graph, .ref q_t_tail, .ref q_t_head, .ref q_t_cost, .ref q_t_leastInto, .ref q_t_before, .ref q_t_group, .int t_nodes, .int t_arcs, .int t_root])), (q_t_group, .inl (cI, 10, .inl t_group)), (q_t_before, .inl (cI, 10, .inl t_before))] → va_S A s.heap H locs → lv_has ls 5 [(0, .ref q_t), (1, .int v1), (2, .int v2)] → k12 v1 v2 t_group = some RR → W p l e R s m args below meth c H locs 0 0 Q (F0 m 12 ls [])) : ∀ (v1 : Int32) (v2 : Int32) (v3 : Int32) (t_group : Nat → Int32) (H : Heap) (locs : List Loc) (ls : Array Slot), va_P D CL [(q_t, .inr (6, [.ref q_t_graph, .ref q_t_tail, .ref q_t_head, .ref q_t_cost, .ref q_t_leastInto, .ref q_t_before, .ref q_t_group, .int t_nodes, .int t_arcs, .int t_root])), (q_t_group, .inl (cI, 10, .inl t_group)), (q_t_before, .inl (cI, 10, .inl t_before))] H → va_D A [(q_t, .inr (6, [.ref q_t_graph, .ref q_t_tail, .ref q_t_head, .ref q_t_cost, .ref q_t_leastInto, .ref q_t_before, .ref q_t_group, .int t_nodes, .int t_arcs, .int t_root])), (q_t_group, .inl (cI, 10, .inl t_group)), (q_t_before, .inl (cI, 10, .inl t_before))] → va_S A s.heap H locs → lv_has ls 5 [(0, .ref q_t), (1, .int v1), (2, .int v2), (3, .int v3)] → g_TreesFromRoot_findRings_55 N t_nodes t_root t_before k12 v1 v2 v3 t_group = some RR → W p l e R s m args below meth c H locs 0 0 Q (F0 m 55 ls []) := by
  intro v1 v2 v3 t_group H locs ls hP hD hS hl hf
  obtain ⟨hx, hb, hml, hown, hts, hK, hA, hfr, hlo, hlk⟩ := id C0
  unfold g_TreesFromRoot_findRings_55 at hf
  refine lv_aload_n hx hb d_TreesFromRoot_findRings_55 rfl (lv_at hl 0 rfl) ?_
  refine lv_iload_n hx hb d_TreesFromRoot_findRings_56 rfl (lv_at hl 3 rfl) ?_
  obtain ⟨r1, hq1, hf⟩ := bk1_e hf
  refine cl_go (wr := [(q_t_before, .inl (cI, 10, .inl t_before))]) (W1 := [(q_t, .inr (6, [.ref q_t_graph, .ref q_t_tail, .ref q_t_head, .ref q_t_cost, .ref q_t_leastInto, .ref q_t_before, .ref q_t_group, .int t_nodes, .int t_arcs, .int t_root])), (q_t_group, .inl (cI, 10, .inl t_group)), (q_t_before, .inl (cI, 10, .inl t_before))]) (va_runV (As := [.int v3]) (rest := []) ⟨hx, hb, hml, hown, hts⟩ (c_TreesFromRoot_isLoose l D cI cJ cG cZ q_t q_t_graph q_t_tail q_t_head q_t_cost q_t_leastInto q_t_before q_t_group t_nodes t_arcs t_root t_group v3 hq1 H.size) (cwV 1 hts (gi_V m_3_55 m_3_57 m_0_18 m_1_7 wi_TreesFromRoot_isLoose) rfl rfl rfl hd_TreesFromRoot_isLoose ⟨Nat.le_trans (Nat.le_of_ble_eq_true rfl) hfr, Nat.le_trans (Nat.le_of_ble_eq_true rfl) hlo⟩) ⟨pw_blind, va_recv hK hP (ci := 6) (q0 := 0) rfl rfl, fun U hU hW => ⟨rfl, pw_in hU (hP.sub [0, 1] rfl) (va_K.moved hW.alike hK) ((hD.sub [0, 1] rfl rfl).weaken (fun _ _ _ _ => trivial))⟩⟩ rfl rfl hl.1 rfl (lv_room (Nat.le_of_ble_eq_true rfl)) d_TreesFromRoot_findRings_57 ⟨Nat.zero_le _, Nat.zero_le _⟩) hP hD hS hA [0, 1] [2] rfl rfl rfl rfl [1, 2, 0] rfl rfl (fun H locs hP hD hS => ?_)
  have hP : va_P D CL [(q_t, .inr (6, [.ref q_t_graph, .ref q_t_tail, .ref q_t_head, .ref q_t_cost, .ref q_t_leastInto, .ref q_t_before, .ref q_t_group, .int t_nodes, .int t_arcs, .int t_root])), (q_t_group, .inl (cI, 10, .inl t_group)), (q_t_before, .inl (cI, 10, .inl t_before))] H := hP
  have hD : va_D A [(q_t, .inr (6, [.ref q_t_graph, .ref q_t_tail, .ref q_t_head, .ref q_t_cost, .ref q_t_leastInto, .ref q_t_before, .ref q_t_group, .int t_nodes, .int t_arcs, .int t_root])), (q_t_group, .inl (cI, 10, .inl t_group)), (q_t_before, .inl (cI, 10, .inl t_before))] := hD
  refine lv_if_eq (tgt := 72) hx hb d_TreesFromRoot_findRings_60 (by decide) (fun hc1 => ?_) (fun hc1 => ?_)
  · have hf := if_t hc1 hf
    obtain ⟨x2, ex2⟩ : ∃ y : Int32, y = v2 + (1 : Int32) := ⟨_, rfl⟩
    have hf := bn_e ex2 hf
    refine lv_iinc (v := x2) (lv' := [(2, .int x2), (0, .ref q_t), (1, .int v1), (3, .int v3)]) hx hb d_TreesFromRoot_findRings_72 hl (k := 2) rfl (by rw [ex2]; rfl) (by decide) rfl (fun ls hl => ?_)
    refine lv_goto (tgt := 12) hx hb d_TreesFromRoot_findRings_75 (by decide) ?_
    exact hk12 v1 x2 t_group _ _ _ hP hD hS (lv_sub hl [1, 2, 0] rfl) hf
  · have hf := if_f hc1 hf
    refine lv_aload_n hx hb d_TreesFromRoot_findRings_63 rfl (lv_at hl 0 rfl) ?_
    refine lv_iload_n hx hb d_TreesFromRoot_findRings_64 rfl (lv_at hl 3 rfl) ?_
    refine lv_iload_n hx hb d_TreesFromRoot_findRings_65 rfl (lv_at hl 1 rfl) ?_
    obtain ⟨c3, hq2, hf⟩ := bk1_e hf
    refine cl_go (wr := []) (W1 := [(q_t, .inr (6, [.ref q_t_graph, .ref q_t_tail, .ref q_t_head, .ref q_t_cost, .ref q_t_leastInto, .ref q_t_before, .ref q_t_group, .int t_nodes, .int t_arcs, .int t_root])), (q_t_group, .inl (cI, 10, .inl c3)), (q_t_before, .inl (cI, 10, .inl t_before))]) (va_runV (As := [.int v3, .int v1]) (rest := []) ⟨hx, hb, hml, hown, hts⟩ (c_TreesFromRoot_markRing l D cI cJ cG cZ q_t q_t_graph q_t_tail q_t_head q_t_cost q_t_leastInto q_t_before q_t_group t_nodes t_arcs t_root t_group t_before v3 v1 hq2 H.size) (cwV 2 hts (gi_V m_3_59 m_3_61 m_0_19 m_1_7 wi_TreesFromRoot_markRing) rfl rfl rfl hd_TreesFromRoot_markRing ⟨Nat.le_trans (Nat.le_of_ble_eq_true rfl) hfr, Nat.le_trans (Nat.le_of_ble_eq_true rfl) hlo⟩) ⟨pw_blind, va_recv hK hP (ci := 6) (q0 := 0) rfl rfl, fun U hU hW => ⟨rfl, pw_in hU (hP.sub [0, 1, 2] rfl) (va_K.moved hW.alike hK) ((hD.sub [0, 1, 2] rfl rfl).weaken (fun _ _ _ _ => trivial))⟩⟩ rfl rfl hl.1 rfl (lv_room (Nat.le_of_ble_eq_true rfl)) d_TreesFromRoot_findRings_66 ⟨Nat.zero_le _, Nat.zero_le _⟩) hP hD hS hA [0, 1, 2] [] rfl rfl rfl rfl [0, 1, 2] rfl rfl (fun H locs hP hD hS => ?_)
    have hP : va_P D CL [(q_t, .inr (6, [.ref q_t_graph, .ref q_t_tail, .ref q_t_head, .ref q_t_cost, .ref q_t_leastInto, .ref q_t_before, .ref q_t_group, .int t_nodes, .int t_arcs, .int t_root])), (q_t_group, .inl (cI, 10, .inl c3)), (q_t_before, .inl (cI, 10, .inl t_before))] H := hP
    have hD : va_D A [(q_t, .inr (6, [.ref q_t_graph, .ref q_t_tail, .ref q_t_head, .ref q_t_cost, .ref q_t_leastInto, .ref q_t_before, .ref q_t_group, .int t_nodes, .int t_arcs, .int t_root])), (q_t_group, .inl (cI, 10, .inl c3)), (q_t_before, .inl (cI, 10, .inl t_before))] := hD
    obtain ⟨x4, ex4⟩ : ∃ y : Int32, y = v1 + (1 : Int32) := ⟨_, rfl⟩
    have hf := bn_e ex4 hf
    refine lv_iinc (v := x4) (lv' := [(1, .int x4), (0, .ref q_t), (2, .int v2), (3, .int v3)]) hx hb d_TreesFromRoot_findRings_69 hl (k := 1) rfl (by rw [ex4]; rfl) (by decide) rfl (fun ls hl => ?_)
    obtain ⟨x5, ex5⟩ : ∃ y : Int32, y = v2 + (1 : Int32) := ⟨_, rfl⟩
    have hf := bn_e ex5 hf
    refine lv_iinc (v := x5) (lv' := [(2, .int x5), (1, .int x4), (0, .ref q_t), (3, .int v3)]) hx hb d_TreesFromRoot_findRings_72 hl (k := 2) rfl (by rw [ex5]; rfl) (by decide) rfl (fun ls hl => ?_)
    refine lv_goto (tgt := 12) hx hb d_TreesFromRoot_findRings_75 (by decide) ?_
    exact hk12 x4 x5 c3 _ _ _ hP hD hS (lv_sub hl [2, 1, 0] rfl) hf
set_option maxRecDepth 100000 in
set_option maxHeartbeats 4000000 in
theorem w_TreesFromRoot_findRings_25 {p : Program} {l : Launch} {e : Env} {R : Room} {s : State} {m : MethodId} {args : Array Value} {below : List Frame} {meth : Method} {c : Code} {D : va_G} {cI cJ cG cZ : ClassId} {A : Nat → Prop} {Q : State → Prop} {q_t q_t_graph q_t_tail q_t_head q_t_cost q_t_leastInto q_t_before q_t_group : Nat} {t_nodes : Int32} {t_arcs : Int32} {t_root : Int32} {t_before : Nat → Int32} {N : Nat} {RR : Int32 × (Nat → Int32)} (C0 : CX p R s m args meth c b_TreesFromRoot_findRings 5 R_TreesFromRoot lw_g D CL (TYs cI cJ cG cZ) A 2 45) (hret : ∀ (pc : Nat) (ls : Array Slot) (H : Heap) (locs : List Loc) (v : Int32) (t_group : Nat → Int32), decode b_TreesFromRoot_findRings pc = .ok (.ireturn, 1) → va_P D CL [(q_t, .inr (6, [.ref q_t_graph, .ref q_t_tail, .ref q_t_head, .ref q_t_cost, .ref q_t_leastInto, .ref q_t_before, .ref q_t_group, .int t_nodes, .int t_arcs, .int t_root])), (q_t_group, .inl (cI, 10, .inl t_group)), (q_t_before, .inl (cI, 10, .inl t_before))] H → va_D A [(q_t, .inr (6, [.ref q_t_graph, .ref q_t_tail, .ref q_t_head, .ref q_t_cost, .ref q_t_leastInto, .ref q_t_before, .ref q_t_group, .int t_nodes, .int t_arcs, .int t_root])), (q_t_group, .inl (cI, 10, .inl t_group)), (q_t_before, .inl (cI, 10, .inl t_before))] → va_S A s.heap H locs → some (v, t_group) = some RR → W p l e R s m args below meth c H locs 0 0 Q (F0 m pc ls [.int v])) (k12 : Int32 → Int32 → (Nat → Int32) → Option (Int32 × (Nat → Int32))) (hk12 : ∀ (v1 : Int32) (v2 : Int32) (t_group : Nat → Int32) (H : Heap) (locs : List Loc) (ls : Array Slot), va_P D CL [(q_t, .inr (6, [.ref q_t_graph, .ref q_t_tail, .ref q_t_head, .ref q_t_cost, .ref q_t_leastInto, .ref q_t_before, .ref q_t_group, .int t_nodes, .int t_arcs, .int t_root])), (q_t_group, .inl (cI, 10, .inl t_group)), (q_t_before, .inl (cI, 10, .inl t_before))] H → va_D A [(q_t, .inr (6, [.ref q_t_graph, .ref q_t_tail, .ref q_t_head, .ref q_t_cost, .ref q_t_leastInto, .ref q_t_before, .ref q_t_group, .int t_nodes, .int t_arcs, .int t_root])), (q_t_group, .inl (cI, 10, .inl t_group)), (q_t_before, .inl (cI, 10, .inl t_before))] → va_S A s.heap H locs → lv_has ls 5 [(0, .ref q_t), (1, .int v1), (2, .int v2)] → k12 v1 v2 t_group = some RR → W p l e R s m args below meth c H locs 0 0 Q (F0 m 12 ls [])) (k25 : Int32 → Int32 → Int32 → Int32 → (Nat → Int32) → Option (Int32 × (Nat → Int32))) (hk25 : ∀ (v1 : Int32) (v2 : Int32) (v3 : Int32) (v4 : Int32) (t_group : Nat → Int32) (H : Heap) (locs : List Loc) (ls : Array Slot), va_P D CL [(q_t, .inr (6, [.ref q_t_graph, .ref q_t_tail, .ref q_t_head, .ref q_t_cost, .ref q_t_leastInto, .ref q_t_before, .ref q_t_group, .int t_nodes, .int t_arcs, .int t_root])), (q_t_group, .inl (cI, 10, .inl t_group)), (q_t_before, .inl (cI, 10, .inl t_before))] H → va_D A [(q_t, .inr (6, [.ref q_t_graph, .ref q_t_tail, .ref q_t_head, .ref q_t_cost, .ref q_t_leastInto, .ref q_t_before, .ref q_t_group, .int t_nodes, .int t_arcs, .int t_root])), (q_t_group, .inl (cI, 10, .inl t_group)), (q_t_before, .inl (cI, 10, .inl t_before))] → va_S A s.heap H locs → lv_has ls 5 [(0, .ref q_t), (1, .int v1), (2, .int v2), (3, .int v3), (4, .int v4)] → k25 v1 v2 v3 v4 t_group = some RR → W p l e R s m args below meth c H locs 0 0 Q (F0 m 25 ls [])) : ∀ (v1 : Int32) (v2 : Int32) (v3 : Int32) (v4 : Int32) (t_group : Nat → Int32) (H : Heap) (locs : List Loc) (ls : Array Slot), va_P D CL [(q_t, .inr (6, [.ref q_t_graph, .ref q_t_tail, .ref q_t_head, .ref q_t_cost, .ref q_t_leastInto, .ref q_t_before, .ref q_t_group, .int t_nodes, .int t_arcs, .int t_root])), (q_t_group, .inl (cI, 10, .inl t_group)), (q_t_before, .inl (cI, 10, .inl t_before))] H → va_D A [(q_t, .inr (6, [.ref q_t_graph, .ref q_t_tail, .ref q_t_head, .ref q_t_cost, .ref q_t_leastInto, .ref q_t_before, .ref q_t_group, .int t_nodes, .int t_arcs, .int t_root])), (q_t_group, .inl (cI, 10, .inl t_group)), (q_t_before, .inl (cI, 10, .inl t_before))] → va_S A s.heap H locs → lv_has ls 5 [(0, .ref q_t), (1, .int v1), (2, .int v2), (3, .int v3), (4, .int v4)] → g_TreesFromRoot_findRings_25 N t_nodes t_root t_before k12 k25 v1 v2 v3 v4 t_group = some RR → W p l e R s m args below meth c H locs 0 0 Q (F0 m 25 ls []) := by
  intro v1 v2 v3 v4 t_group H locs ls hP hD hS hl hf
  obtain ⟨hx, hb, hml, hown, hts, hK, hA, hfr, hlo, hlk⟩ := id C0
  unfold g_TreesFromRoot_findRings_25 at hf
  refine lv_iload hx hb d_TreesFromRoot_findRings_25 (lv_at hl 4 rfl) ?_
  refine lv_aload_n hx hb d_TreesFromRoot_findRings_27 rfl (lv_at hl 0 rfl) ?_
  refine va_get (D := D) (ci := 6) (v := .int t_nodes) (C := R_TreesFromRoot) (T := F_TreesFromRoot) (N := 10) hx hb hts i_TreesFromRoot hown hK hP 0 rfl rfl 7 (by decide) (hts _ m_1_194) (fun _ h9 => h9) rfl d_TreesFromRoot_findRings_28 ?_
  refine lv_icmp_ge (tgt := 55) hx hb d_TreesFromRoot_findRings_31 (by decide) (fun hc1 => ?_) (fun hc1 => ?_)
  · have hf := if_t hc1 hf
    exact w_TreesFromRoot_findRings_55 C0 hret k12 hk12  v1 v2 v3 t_group _ _ _ hP hD hS (lv_sub hl [0, 1, 2, 3] rfl) hf
  · have hf := if_f hc1 hf
    refine lv_aload_n hx hb d_TreesFromRoot_findRings_34 rfl (lv_at hl 0 rfl) ?_
    refine lv_iload_n hx hb d_TreesFromRoot_findRings_35 rfl (lv_at hl 3 rfl) ?_
    obtain ⟨r1, hq1, hf⟩ := bk1_e hf
    refine cl_go (wr := [(q_t_before, .inl (cI, 10, .inl t_before))]) (W1 := [(q_t, .inr (6, [.ref q_t_graph, .ref q_t_tail, .ref q_t_head, .ref q_t_cost, .ref q_t_leastInto, .ref q_t_before, .ref q_t_group, .int t_nodes, .int t_arcs, .int t_root])), (q_t_group, .inl (cI, 10, .inl t_group)), (q_t_before, .inl (cI, 10, .inl t_before))]) (va_runV (As := [.int v3]) (rest := []) ⟨hx, hb, hml, hown, hts⟩ (c_TreesFromRoot_isLoose l D cI cJ cG cZ q_t q_t_graph q_t_tail q_t_head q_t_cost q_t_leastInto q_t_before q_t_group t_nodes t_arcs t_root t_group v3 hq1 H.size) (cwV 1 hts (gi_V m_3_55 m_3_57 m_0_18 m_1_7 wi_TreesFromRoot_isLoose) rfl rfl rfl hd_TreesFromRoot_isLoose ⟨Nat.le_trans (Nat.le_of_ble_eq_true rfl) hfr, Nat.le_trans (Nat.le_of_ble_eq_true rfl) hlo⟩) ⟨pw_blind, va_recv hK hP (ci := 6) (q0 := 0) rfl rfl, fun U hU hW => ⟨rfl, pw_in hU (hP.sub [0, 1] rfl) (va_K.moved hW.alike hK) ((hD.sub [0, 1] rfl rfl).weaken (fun _ _ _ _ => trivial))⟩⟩ rfl rfl hl.1 rfl (lv_room (Nat.le_of_ble_eq_true rfl)) d_TreesFromRoot_findRings_36 ⟨Nat.zero_le _, Nat.zero_le _⟩) hP hD hS hA [0, 1] [2] rfl rfl rfl rfl [1, 2, 0] rfl rfl (fun H locs hP hD hS => ?_)
    have hP : va_P D CL [(q_t, .inr (6, [.ref q_t_graph, .ref q_t_tail, .ref q_t_head, .ref q_t_cost, .ref q_t_leastInto, .ref q_t_before, .ref q_t_group, .int t_nodes, .int t_arcs, .int t_root])), (q_t_group, .inl (cI, 10, .inl t_group)), (q_t_before, .inl (cI, 10, .inl t_before))] H := hP
    have hD : va_D A [(q_t, .inr (6, [.ref q_t_graph, .ref q_t_tail, .ref q_t_head, .ref q_t_cost, .ref q_t_leastInto, .ref q_t_before, .ref q_t_group, .int t_nodes, .int t_arcs, .int t_root])), (q_t_group, .inl (cI, 10, .inl t_group)), (q_t_before, .inl (cI, 10, .inl t_before))] := hD
    refine lv_if_eq (tgt := 55) hx hb d_TreesFromRoot_findRings_39 (by decide) (fun hc2 => ?_) (fun hc2 => ?_)
    · have hf := if_t hc2 hf
      exact w_TreesFromRoot_findRings_55 C0 hret k12 hk12  v1 v2 v3 t_group _ _ _ hP hD hS (lv_sub hl [0, 1, 2, 3] rfl) hf
    · have hf := if_f hc2 hf
      refine lv_aload_n hx hb d_TreesFromRoot_findRings_42 rfl (lv_at hl 0 rfl) ?_
      refine va_get (D := D) (ci := 6) (v := .ref q_t_before) (C := R_TreesFromRoot) (T := F_TreesFromRoot) (N := 10) hx hb hts i_TreesFromRoot hown hK hP 0 rfl rfl 5 (by decide) (hts _ m_1_192) (fun _ h9 => h9) rfl d_TreesFromRoot_findRings_43 ?_
      refine lv_iload_n hx hb d_TreesFromRoot_findRings_46 rfl (lv_at hl 3 rfl) ?_
      obtain ⟨hg1, hf⟩ := gd_e hf
      refine va_iald hx hb hK hP 2 0 rfl rfl (inb_e hg1) d_TreesFromRoot_findRings_47 ?_
      refine lv_topi (fun x2 ex2 => ?_)
      have hf := bn_e ex2 hf
      refine lv_istore_n (lv' := [(3, .int x2), (0, .ref q_t), (1, .int v1), (2, .int v2), (4, .int v4)]) hx hb d_TreesFromRoot_findRings_48 rfl hl (by decide) rfl (fun ls hl => ?_)
      obtain ⟨x3, ex3⟩ : ∃ y : Int32, y = v4 + (1 : Int32) := ⟨_, rfl⟩
      have hf := bn_e ex3 hf
      refine lv_iinc (v := x3) (lv' := [(4, .int x3), (3, .int x2), (0, .ref q_t), (1, .int v1), (2, .int v2)]) hx hb d_TreesFromRoot_findRings_49 hl (k := 4) rfl (by rw [ex3]; rfl) (by decide) rfl (fun ls hl => ?_)
      refine lv_goto (tgt := 25) hx hb d_TreesFromRoot_findRings_52 (by decide) ?_
      exact hk25 v1 v2 x2 x3 t_group _ _ _ hP hD hS (lv_sub hl [2, 3, 4, 1, 0] rfl) hf
set_option maxRecDepth 100000 in
set_option maxHeartbeats 4000000 in
theorem w_TreesFromRoot_findRings_25_l {p : Program} {l : Launch} {e : Env} {R : Room} {s : State} {m : MethodId} {args : Array Value} {below : List Frame} {meth : Method} {c : Code} {D : va_G} {cI cJ cG cZ : ClassId} {A : Nat → Prop} {Q : State → Prop} {q_t q_t_graph q_t_tail q_t_head q_t_cost q_t_leastInto q_t_before q_t_group : Nat} {t_nodes : Int32} {t_arcs : Int32} {t_root : Int32} {t_before : Nat → Int32} {N : Nat} {RR : Int32 × (Nat → Int32)} (C0 : CX p R s m args meth c b_TreesFromRoot_findRings 5 R_TreesFromRoot lw_g D CL (TYs cI cJ cG cZ) A 2 45) (hret : ∀ (pc : Nat) (ls : Array Slot) (H : Heap) (locs : List Loc) (v : Int32) (t_group : Nat → Int32), decode b_TreesFromRoot_findRings pc = .ok (.ireturn, 1) → va_P D CL [(q_t, .inr (6, [.ref q_t_graph, .ref q_t_tail, .ref q_t_head, .ref q_t_cost, .ref q_t_leastInto, .ref q_t_before, .ref q_t_group, .int t_nodes, .int t_arcs, .int t_root])), (q_t_group, .inl (cI, 10, .inl t_group)), (q_t_before, .inl (cI, 10, .inl t_before))] H → va_D A [(q_t, .inr (6, [.ref q_t_graph, .ref q_t_tail, .ref q_t_head, .ref q_t_cost, .ref q_t_leastInto, .ref q_t_before, .ref q_t_group, .int t_nodes, .int t_arcs, .int t_root])), (q_t_group, .inl (cI, 10, .inl t_group)), (q_t_before, .inl (cI, 10, .inl t_before))] → va_S A s.heap H locs → some (v, t_group) = some RR → W p l e R s m args below meth c H locs 0 0 Q (F0 m pc ls [.int v])) (k12 : Int32 → Int32 → (Nat → Int32) → Option (Int32 × (Nat → Int32))) (hk12 : ∀ (v1 : Int32) (v2 : Int32) (t_group : Nat → Int32) (H : Heap) (locs : List Loc) (ls : Array Slot), va_P D CL [(q_t, .inr (6, [.ref q_t_graph, .ref q_t_tail, .ref q_t_head, .ref q_t_cost, .ref q_t_leastInto, .ref q_t_before, .ref q_t_group, .int t_nodes, .int t_arcs, .int t_root])), (q_t_group, .inl (cI, 10, .inl t_group)), (q_t_before, .inl (cI, 10, .inl t_before))] H → va_D A [(q_t, .inr (6, [.ref q_t_graph, .ref q_t_tail, .ref q_t_head, .ref q_t_cost, .ref q_t_leastInto, .ref q_t_before, .ref q_t_group, .int t_nodes, .int t_arcs, .int t_root])), (q_t_group, .inl (cI, 10, .inl t_group)), (q_t_before, .inl (cI, 10, .inl t_before))] → va_S A s.heap H locs → lv_has ls 5 [(0, .ref q_t), (1, .int v1), (2, .int v2)] → k12 v1 v2 t_group = some RR → W p l e R s m args below meth c H locs 0 0 Q (F0 m 12 ls [])) : ∀ (n : Nat) (v1 : Int32) (v2 : Int32) (v3 : Int32) (v4 : Int32) (t_group : Nat → Int32) (H : Heap) (locs : List Loc) (ls : Array Slot), va_P D CL [(q_t, .inr (6, [.ref q_t_graph, .ref q_t_tail, .ref q_t_head, .ref q_t_cost, .ref q_t_leastInto, .ref q_t_before, .ref q_t_group, .int t_nodes, .int t_arcs, .int t_root])), (q_t_group, .inl (cI, 10, .inl t_group)), (q_t_before, .inl (cI, 10, .inl t_before))] H → va_D A [(q_t, .inr (6, [.ref q_t_graph, .ref q_t_tail, .ref q_t_head, .ref q_t_cost, .ref q_t_leastInto, .ref q_t_before, .ref q_t_group, .int t_nodes, .int t_arcs, .int t_root])), (q_t_group, .inl (cI, 10, .inl t_group)), (q_t_before, .inl (cI, 10, .inl t_before))] → va_S A s.heap H locs → lv_has ls 5 [(0, .ref q_t), (1, .int v1), (2, .int v2), (3, .int v3), (4, .int v4)] → lo5 (g_TreesFromRoot_findRings_25 N t_nodes t_root t_before k12) n v1 v2 v3 v4 t_group = some RR → W p l e R s m args below meth c H locs 0 0 Q (F0 m 25 ls []) := by
  intro n
  induction n with
  | zero =>
    intro v1 v2 v3 v4 t_group H locs ls hP hD hS hl hf
    exact absurd hf (by simp [lo5])
  | succ n ih =>
    intro v1 v2 v3 v4 t_group H locs ls hP hD hS hl hf
    exact w_TreesFromRoot_findRings_25 C0 hret k12 hk12 (lo5 (g_TreesFromRoot_findRings_25 N t_nodes t_root t_before k12) n) ih v1 v2 v3 v4 t_group H locs ls hP hD hS hl hf
set_option maxRecDepth 100000 in
set_option maxHeartbeats 4000000 in
theorem w_TreesFromRoot_findRings_12 {p : Program} {l : Launch} {e : Env} {R : Room} {s : State} {m : MethodId} {args : Array Value} {below : List Frame} {meth : Method} {c : Code} {D : va_G} {cI cJ cG cZ : ClassId} {A : Nat → Prop} {Q : State → Prop} {q_t q_t_graph q_t_tail q_t_head q_t_cost q_t_leastInto q_t_before q_t_group : Nat} {t_nodes : Int32} {t_arcs : Int32} {t_root : Int32} {t_before : Nat → Int32} {N : Nat} {RR : Int32 × (Nat → Int32)} (C0 : CX p R s m args meth c b_TreesFromRoot_findRings 5 R_TreesFromRoot lw_g D CL (TYs cI cJ cG cZ) A 2 45) (hret : ∀ (pc : Nat) (ls : Array Slot) (H : Heap) (locs : List Loc) (v : Int32) (t_group : Nat → Int32), decode b_TreesFromRoot_findRings pc = .ok (.ireturn, 1) → va_P D CL [(q_t, .inr (6, [.ref q_t_graph, .ref q_t_tail, .ref q_t_head, .ref q_t_cost, .ref q_t_leastInto, .ref q_t_before, .ref q_t_group, .int t_nodes, .int t_arcs, .int t_root])), (q_t_group, .inl (cI, 10, .inl t_group)), (q_t_before, .inl (cI, 10, .inl t_before))] H → va_D A [(q_t, .inr (6, [.ref q_t_graph, .ref q_t_tail, .ref q_t_head, .ref q_t_cost, .ref q_t_leastInto, .ref q_t_before, .ref q_t_group, .int t_nodes, .int t_arcs, .int t_root])), (q_t_group, .inl (cI, 10, .inl t_group)), (q_t_before, .inl (cI, 10, .inl t_before))] → va_S A s.heap H locs → some (v, t_group) = some RR → W p l e R s m args below meth c H locs 0 0 Q (F0 m pc ls [.int v])) (k12 : Int32 → Int32 → (Nat → Int32) → Option (Int32 × (Nat → Int32))) (hk12 : ∀ (v1 : Int32) (v2 : Int32) (t_group : Nat → Int32) (H : Heap) (locs : List Loc) (ls : Array Slot), va_P D CL [(q_t, .inr (6, [.ref q_t_graph, .ref q_t_tail, .ref q_t_head, .ref q_t_cost, .ref q_t_leastInto, .ref q_t_before, .ref q_t_group, .int t_nodes, .int t_arcs, .int t_root])), (q_t_group, .inl (cI, 10, .inl t_group)), (q_t_before, .inl (cI, 10, .inl t_before))] H → va_D A [(q_t, .inr (6, [.ref q_t_graph, .ref q_t_tail, .ref q_t_head, .ref q_t_cost, .ref q_t_leastInto, .ref q_t_before, .ref q_t_group, .int t_nodes, .int t_arcs, .int t_root])), (q_t_group, .inl (cI, 10, .inl t_group)), (q_t_before, .inl (cI, 10, .inl t_before))] → va_S A s.heap H locs → lv_has ls 5 [(0, .ref q_t), (1, .int v1), (2, .int v2)] → k12 v1 v2 t_group = some RR → W p l e R s m args below meth c H locs 0 0 Q (F0 m 12 ls [])) : ∀ (v1 : Int32) (v2 : Int32) (t_group : Nat → Int32) (H : Heap) (locs : List Loc) (ls : Array Slot), va_P D CL [(q_t, .inr (6, [.ref q_t_graph, .ref q_t_tail, .ref q_t_head, .ref q_t_cost, .ref q_t_leastInto, .ref q_t_before, .ref q_t_group, .int t_nodes, .int t_arcs, .int t_root])), (q_t_group, .inl (cI, 10, .inl t_group)), (q_t_before, .inl (cI, 10, .inl t_before))] H → va_D A [(q_t, .inr (6, [.ref q_t_graph, .ref q_t_tail, .ref q_t_head, .ref q_t_cost, .ref q_t_leastInto, .ref q_t_before, .ref q_t_group, .int t_nodes, .int t_arcs, .int t_root])), (q_t_group, .inl (cI, 10, .inl t_group)), (q_t_before, .inl (cI, 10, .inl t_before))] → va_S A s.heap H locs → lv_has ls 5 [(0, .ref q_t), (1, .int v1), (2, .int v2)] → g_TreesFromRoot_findRings_12 N t_nodes t_root t_before k12 v1 v2 t_group = some RR → W p l e R s m args below meth c H locs 0 0 Q (F0 m 12 ls []) := by
  intro v1 v2 t_group H locs ls hP hD hS hl hf
  obtain ⟨hx, hb, hml, hown, hts, hK, hA, hfr, hlo, hlk⟩ := id C0
  unfold g_TreesFromRoot_findRings_12 at hf
  refine lv_iload_n hx hb d_TreesFromRoot_findRings_12 rfl (lv_at hl 2 rfl) ?_
  refine lv_aload_n hx hb d_TreesFromRoot_findRings_13 rfl (lv_at hl 0 rfl) ?_
  refine va_get (D := D) (ci := 6) (v := .int t_nodes) (C := R_TreesFromRoot) (T := F_TreesFromRoot) (N := 10) hx hb hts i_TreesFromRoot hown hK hP 0 rfl rfl 7 (by decide) (hts _ m_1_194) (fun _ h9 => h9) rfl d_TreesFromRoot_findRings_14 ?_
  refine lv_icmp_ge (tgt := 78) hx hb d_TreesFromRoot_findRings_17 (by decide) (fun hc1 => ?_) (fun hc1 => ?_)
  · have hf := if_t hc1 hf
    refine lv_iload_n hx hb d_TreesFromRoot_findRings_78 rfl (lv_at hl 1 rfl) ?_
    exact hret 79 _ _ _ v1 t_group d_TreesFromRoot_findRings_79 hP hD hS hf
  · have hf := if_f hc1 hf
    refine lv_iload_n hx hb d_TreesFromRoot_findRings_20 rfl (lv_at hl 2 rfl) ?_
    refine lv_istore_n (lv' := [(3, .int v2), (0, .ref q_t), (1, .int v1), (2, .int v2)]) hx hb d_TreesFromRoot_findRings_21 rfl hl (by decide) rfl (fun ls hl => ?_)
    refine lv_iconst (v := 0) hx hb d_TreesFromRoot_findRings_22 (by decide) ?_
    refine lv_istore (lv' := [(4, .int (0 : Int32)), (3, .int v2), (0, .ref q_t), (1, .int v1), (2, .int v2)]) hx hb d_TreesFromRoot_findRings_23 hl (by decide) rfl (fun ls hl => ?_)
    exact w_TreesFromRoot_findRings_25_l C0 hret k12 hk12 N v1 v2 v2 (0 : Int32) t_group _ _ _ hP hD hS (lv_sub hl [2, 3, 4, 1, 0] rfl) hf
set_option maxRecDepth 100000 in
set_option maxHeartbeats 4000000 in
theorem w_TreesFromRoot_findRings_12_l {p : Program} {l : Launch} {e : Env} {R : Room} {s : State} {m : MethodId} {args : Array Value} {below : List Frame} {meth : Method} {c : Code} {D : va_G} {cI cJ cG cZ : ClassId} {A : Nat → Prop} {Q : State → Prop} {q_t q_t_graph q_t_tail q_t_head q_t_cost q_t_leastInto q_t_before q_t_group : Nat} {t_nodes : Int32} {t_arcs : Int32} {t_root : Int32} {t_before : Nat → Int32} {N : Nat} {RR : Int32 × (Nat → Int32)} (C0 : CX p R s m args meth c b_TreesFromRoot_findRings 5 R_TreesFromRoot lw_g D CL (TYs cI cJ cG cZ) A 2 45) (hret : ∀ (pc : Nat) (ls : Array Slot) (H : Heap) (locs : List Loc) (v : Int32) (t_group : Nat → Int32), decode b_TreesFromRoot_findRings pc = .ok (.ireturn, 1) → va_P D CL [(q_t, .inr (6, [.ref q_t_graph, .ref q_t_tail, .ref q_t_head, .ref q_t_cost, .ref q_t_leastInto, .ref q_t_before, .ref q_t_group, .int t_nodes, .int t_arcs, .int t_root])), (q_t_group, .inl (cI, 10, .inl t_group)), (q_t_before, .inl (cI, 10, .inl t_before))] H → va_D A [(q_t, .inr (6, [.ref q_t_graph, .ref q_t_tail, .ref q_t_head, .ref q_t_cost, .ref q_t_leastInto, .ref q_t_before, .ref q_t_group, .int t_nodes, .int t_arcs, .int t_root])), (q_t_group, .inl (cI, 10, .inl t_group)), (q_t_before, .inl (cI, 10, .inl t_before))] → va_S A s.heap H locs → some (v, t_group) = some RR → W p l e R s m args below meth c H locs 0 0 Q (F0 m pc ls [.int v]))  : ∀ (n : Nat) (v1 : Int32) (v2 : Int32) (t_group : Nat → Int32) (H : Heap) (locs : List Loc) (ls : Array Slot), va_P D CL [(q_t, .inr (6, [.ref q_t_graph, .ref q_t_tail, .ref q_t_head, .ref q_t_cost, .ref q_t_leastInto, .ref q_t_before, .ref q_t_group, .int t_nodes, .int t_arcs, .int t_root])), (q_t_group, .inl (cI, 10, .inl t_group)), (q_t_before, .inl (cI, 10, .inl t_before))] H → va_D A [(q_t, .inr (6, [.ref q_t_graph, .ref q_t_tail, .ref q_t_head, .ref q_t_cost, .ref q_t_leastInto, .ref q_t_before, .ref q_t_group, .int t_nodes, .int t_arcs, .int t_root])), (q_t_group, .inl (cI, 10, .inl t_group)), (q_t_before, .inl (cI, 10, .inl t_before))] → va_S A s.heap H locs → lv_has ls 5 [(0, .ref q_t), (1, .int v1), (2, .int v2)] → lo3 (g_TreesFromRoot_findRings_12 N t_nodes t_root t_before) n v1 v2 t_group = some RR → W p l e R s m args below meth c H locs 0 0 Q (F0 m 12 ls []) := by
  intro n
  induction n with
  | zero =>
    intro v1 v2 t_group H locs ls hP hD hS hl hf
    exact absurd hf (by simp [lo3])
  | succ n ih =>
    intro v1 v2 t_group H locs ls hP hD hS hl hf
    exact w_TreesFromRoot_findRings_12 C0 hret  (lo3 (g_TreesFromRoot_findRings_12 N t_nodes t_root t_before) n) ih v1 v2 t_group H locs ls hP hD hS hl hf
set_option maxRecDepth 100000 in
set_option maxHeartbeats 4000000 in
theorem w_TreesFromRoot_findRings_e {p : Program} {l : Launch} {e : Env} {R : Room} {s : State} {m : MethodId} {args : Array Value} {below : List Frame} {meth : Method} {c : Code} {D : va_G} {cI cJ cG cZ : ClassId} {A : Nat → Prop} {Q : State → Prop} {q_t q_t_graph q_t_tail q_t_head q_t_cost q_t_leastInto q_t_before q_t_group : Nat} {t_nodes : Int32} {t_arcs : Int32} {t_root : Int32} {t_group0 : Nat → Int32} {t_before : Nat → Int32} {N : Nat} {RR : Int32 × (Nat → Int32)} (C0 : CX p R s m args meth c b_TreesFromRoot_findRings 5 R_TreesFromRoot lw_g D CL (TYs cI cJ cG cZ) A 2 45) (hret : ∀ (pc : Nat) (ls : Array Slot) (H : Heap) (locs : List Loc) (v : Int32) (t_group : Nat → Int32), decode b_TreesFromRoot_findRings pc = .ok (.ireturn, 1) → va_P D CL [(q_t, .inr (6, [.ref q_t_graph, .ref q_t_tail, .ref q_t_head, .ref q_t_cost, .ref q_t_leastInto, .ref q_t_before, .ref q_t_group, .int t_nodes, .int t_arcs, .int t_root])), (q_t_group, .inl (cI, 10, .inl t_group)), (q_t_before, .inl (cI, 10, .inl t_before))] H → va_D A [(q_t, .inr (6, [.ref q_t_graph, .ref q_t_tail, .ref q_t_head, .ref q_t_cost, .ref q_t_leastInto, .ref q_t_before, .ref q_t_group, .int t_nodes, .int t_arcs, .int t_root])), (q_t_group, .inl (cI, 10, .inl t_group)), (q_t_before, .inl (cI, 10, .inl t_before))] → va_S A s.heap H locs → some (v, t_group) = some RR → W p l e R s m args below meth c H locs 0 0 Q (F0 m pc ls [.int v])) : ∀ (H : Heap) (locs : List Loc) (ls : Array Slot), va_P D CL [(q_t, .inr (6, [.ref q_t_graph, .ref q_t_tail, .ref q_t_head, .ref q_t_cost, .ref q_t_leastInto, .ref q_t_before, .ref q_t_group, .int t_nodes, .int t_arcs, .int t_root])), (q_t_group, .inl (cI, 10, .inl t_group0)), (q_t_before, .inl (cI, 10, .inl t_before))] H → va_D A [(q_t, .inr (6, [.ref q_t_graph, .ref q_t_tail, .ref q_t_head, .ref q_t_cost, .ref q_t_leastInto, .ref q_t_before, .ref q_t_group, .int t_nodes, .int t_arcs, .int t_root])), (q_t_group, .inl (cI, 10, .inl t_group0)), (q_t_before, .inl (cI, 10, .inl t_before))] → va_S A s.heap H locs → lv_has ls 5 [(0, .ref q_t)] → f_TreesFromRoot_findRings N t_nodes t_root t_group0 t_before = some RR → W p l e R s m args below meth c H locs 0 0 Q (F0 m 0 ls []) := by
  intro H locs ls hP hD hS hl hf
  obtain ⟨hx, hb, hml, hown, hts, hK, hA, hfr, hlo, hlk⟩ := id C0
  unfold f_TreesFromRoot_findRings at hf
  refine lv_aload_n hx hb d_TreesFromRoot_findRings_0 rfl (lv_at hl 0 rfl) ?_
  refine va_get (D := D) (ci := 6) (v := .ref q_t_group) (C := R_TreesFromRoot) (T := F_TreesFromRoot) (N := 10) hx hb hts i_TreesFromRoot hown hK hP 0 rfl rfl 6 (by decide) (hts _ m_1_193) (fun _ h9 => h9) rfl d_TreesFromRoot_findRings_1 ?_
  refine lv_iconst (v := -1) hx hb d_TreesFromRoot_findRings_4 (by decide) ?_
  obtain ⟨c1, hq1, hf⟩ := bk1_e hf
  refine cl_go (wr := [(q_t, .inr (6, [.ref q_t_graph, .ref q_t_tail, .ref q_t_head, .ref q_t_cost, .ref q_t_leastInto, .ref q_t_before, .ref q_t_group, .int t_nodes, .int t_arcs, .int t_root])), (q_t_before, .inl (cI, 10, .inl t_before))]) (W1 := [(q_t, .inr (6, [.ref q_t_graph, .ref q_t_tail, .ref q_t_head, .ref q_t_cost, .ref q_t_leastInto, .ref q_t_before, .ref q_t_group, .int t_nodes, .int t_arcs, .int t_root])), (q_t_group, .inl (cI, 10, .inl c1)), (q_t_before, .inl (cI, 10, .inl t_before))]) (va_runS (As := [.ref q_t_group, .int (-1 : Int32)]) (rest := []) ⟨hx, hb, hml, hown, hts⟩ (c_Arr_fill0 l D cI cJ cG cZ q_t_group t_group0 10 (-1 : Int32) hq1 H.size) (va_cwS 2 hts (gi_S m_3_54 m_2_166 m_1_12 wi_Arr_fill0) rfl rfl rfl hd_Arr_fill0 ⟨Nat.le_trans (Nat.le_of_ble_eq_true rfl) hfr, Nat.le_trans (Nat.le_of_ble_eq_true rfl) hlo⟩) ⟨pw_blind, fun U hU hW => ⟨rfl, pw_in hU (hP.sub [1] rfl) (va_K.moved hW.alike hK) ((hD.sub [1] rfl rfl).weaken (fun _ _ _ _ => trivial))⟩⟩ rfl rfl hl.1 rfl (lv_room (Nat.le_of_ble_eq_true rfl)) d_TreesFromRoot_findRings_5 ⟨Nat.zero_le _, Nat.zero_le _⟩) hP hD hS hA [1] [0, 2] rfl rfl rfl rfl [0, 2, 1] rfl rfl (fun H locs hP hD hS => ?_)
  have hP : va_P D CL [(q_t, .inr (6, [.ref q_t_graph, .ref q_t_tail, .ref q_t_head, .ref q_t_cost, .ref q_t_leastInto, .ref q_t_before, .ref q_t_group, .int t_nodes, .int t_arcs, .int t_root])), (q_t_group, .inl (cI, 10, .inl c1)), (q_t_before, .inl (cI, 10, .inl t_before))] H := hP
  have hD : va_D A [(q_t, .inr (6, [.ref q_t_graph, .ref q_t_tail, .ref q_t_head, .ref q_t_cost, .ref q_t_leastInto, .ref q_t_before, .ref q_t_group, .int t_nodes, .int t_arcs, .int t_root])), (q_t_group, .inl (cI, 10, .inl c1)), (q_t_before, .inl (cI, 10, .inl t_before))] := hD
  refine lv_iconst (v := 0) hx hb d_TreesFromRoot_findRings_8 (by decide) ?_
  refine lv_istore_n (lv' := [(1, .int (0 : Int32)), (0, .ref q_t)]) hx hb d_TreesFromRoot_findRings_9 rfl hl (by decide) rfl (fun ls hl => ?_)
  refine lv_iconst (v := 0) hx hb d_TreesFromRoot_findRings_10 (by decide) ?_
  refine lv_istore_n (lv' := [(2, .int (0 : Int32)), (1, .int (0 : Int32)), (0, .ref q_t)]) hx hb d_TreesFromRoot_findRings_11 rfl hl (by decide) rfl (fun ls hl => ?_)
  exact w_TreesFromRoot_findRings_12_l C0 hret N (0 : Int32) (0 : Int32) c1 _ _ _ hP hD hS (lv_sub hl [2, 1, 0] rfl) hf
set_option maxRecDepth 100000 in
set_option maxHeartbeats 4000000 in
theorem c_TreesFromRoot_findRings (l : Launch) (D : va_G) (cI cJ cG cZ : ClassId) (q_t q_t_graph q_t_tail q_t_head q_t_cost q_t_leastInto q_t_before q_t_group : Nat) (t_nodes : Int32) (t_arcs : Int32) (t_root : Int32) (t_group0 : Nat → Int32) (t_before : Nat → Int32) {N : Nat} {r : Int32} {t_group' : Nat → Int32} (hf : f_TreesFromRoot_findRings N t_nodes t_root t_group0 t_before = some (r, t_group')) : MeG l D CL (TYs cI cJ cG cZ) y_TreesFromRoot_findRings ws_TreesFromRoot_findRings (rm_TreesFromRoot_findRings) [.ref q_t] [(q_t, .inr (6, [.ref q_t_graph, .ref q_t_tail, .ref q_t_head, .ref q_t_cost, .ref q_t_leastInto, .ref q_t_before, .ref q_t_group, .int t_nodes, .int t_arcs, .int t_root])), (q_t_group, .inl (cI, 10, .inl t_group0)), (q_t_before, .inl (cI, 10, .inl t_before))] (some (.int r)) [(q_t, .inr (6, [.ref q_t_graph, .ref q_t_tail, .ref q_t_head, .ref q_t_cost, .ref q_t_leastInto, .ref q_t_before, .ref q_t_group, .int t_nodes, .int t_arcs, .int t_root])), (q_t_group, .inl (cI, 10, .inl t_group')), (q_t_before, .inl (cI, 10, .inl t_before))] := by
  intro sz
  refine Met.ofW (cc := b_TreesFromRoot_findRings) (maxL := 5) (ret := (some .int)) (by decide) rfl ?_
  intro p e s m args below meth c s₁ B hml hv
  obtain ⟨rfl, hsz, hP, hK, hD0⟩ := hv
  subst hsz
  have hD := hD0.self (sz := s.heap.size)
  generalize hAe : va_A [(q_t, .inr (6, [.ref q_t_graph, .ref q_t_tail, .ref q_t_head, .ref q_t_cost, .ref q_t_leastInto, .ref q_t_before, .ref q_t_group, .int t_nodes, .int t_arcs, .int t_root])), (q_t_group, .inl (cI, 10, .inl t_group0)), (q_t_before, .inl (cI, 10, .inl t_before))] s.heap.size = A at hD ⊢
  have C0 : CX p (headSpec ws_TreesFromRoot_findRings (rm_TreesFromRoot_findRings)).room s m _ meth c b_TreesFromRoot_findRings 5 R_TreesFromRoot lw_g D CL (TYs cI cJ cG cZ) A 2 45 := ⟨B.exec, B.bytes, hml, findClass_of_methodNamed B.named, fun w h => atoms_spec (ws := ws_TreesFromRoot_findRings) B.pre w (List.mem_cons_of_mem _ h), hK, fun q h => by rw [← hAe]; exact Or.inr h, Nat.le_of_ble_eq_true rfl, Nat.le_of_ble_eq_true rfl, B.notSynchronized⟩
  have hl := lv_entry ([.ref q_t]) (n := 5) (Nat.le_of_ble_eq_true rfl)
  rw [lg_entry_eq]
  generalize (lg_sl ([.ref q_t]) ++ List.replicate (5 - (lg_sl ([.ref q_t])).length) Slot.unset).toArray = ls at hl ⊢
  have hl : lv_has ls 5 [(0, .ref q_t)] := hl
  exact w_TreesFromRoot_findRings_e C0 (fun pc ls H locs v t_group hdg hP hD hS e => by cases e; exact W.iret B.exec B.bytes B.returns (fun t ht hW => ⟨⟨rfl, by rw [ht]; exact hP, va_K.moved hW.alike hK, hD⟩, hS.F ht⟩) hS.2.2 hdg) _ _ _ hP hD va_S.rf (lv_sub hl [0] rfl) hf
