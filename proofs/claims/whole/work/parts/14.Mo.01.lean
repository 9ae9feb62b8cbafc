abbrev b_Mo_arc : ByteArray := prog_11_method_5_code
def y_Mo_arc : MethodName := ⟨R_Mo, "arc", "(III)I"⟩
def ws_Mo_arc : List Cond := .code y_Mo_arc b_Mo_arc 4 (some .int) :: lw_g
theorem wi_Mo_arc : ∀ w ∈ ws_Mo_arc, w ∈ lw_g := wi_of m_3_203
abbrev rm_Mo_arc : Room := { frames := 1, cells := 0, slots := 0, locals := 21 }
theorem hd_Mo_arc : y_Mo_arc.cls = R_Mo ∧ y_Mo_arc.cls ≠ "java/lang/invoke/MethodHandle" ∧ y_Mo_arc.cls ≠ "java/lang/invoke/VarHandle" ∧ (parseMethodDescriptor y_Mo_arc.desc).map (fun d => d.parameters.length) = some 3 := by decide +kernel
theorem d_Mo_arc_0 : decode b_Mo_arc 0 = .ok (.aload_n 0, 1) := by decide +kernel
theorem d_Mo_arc_1 : decode b_Mo_arc 1 = .ok (.iload_n 1, 1) := by decide +kernel
theorem d_Mo_arc_2 : decode b_Mo_arc 2 = .ok (.invokevirtual 64, 3) := by decide +kernel
theorem d_Mo_arc_5 : decode b_Mo_arc 5 = .ok (.ifCond .eq 16, 3) := by decide +kernel
theorem d_Mo_arc_8 : decode b_Mo_arc 8 = .ok (.aload_n 0, 1) := by decide +kernel
theorem d_Mo_arc_9 : decode b_Mo_arc 9 = .ok (.iload_n 2, 1) := by decide +kernel
theorem d_Mo_arc_10 : decode b_Mo_arc 10 = .ok (.invokevirtual 64, 3) := by decide +kernel
theorem d_Mo_arc_13 : decode b_Mo_arc 13 = .ok (.ifCond .eq 8, 3) := by decide +kernel
theorem d_Mo_arc_16 : decode b_Mo_arc 16 = .ok (.iload_n 1, 1) := by decide +kernel
theorem d_Mo_arc_17 : decode b_Mo_arc 17 = .ok (.iload_n 2, 1) := by decide +kernel
theorem d_Mo_arc_18 : decode b_Mo_arc 18 = .ok (.if_icmp .ne 5, 3) := by decide +kernel
theorem d_Mo_arc_21 : decode b_Mo_arc 21 = .ok (.iconst (-1), 1) := by decide +kernel
theorem d_Mo_arc_22 : decode b_Mo_arc 22 = .ok (.ireturn, 1) := by decide +kernel
theorem d_Mo_arc_23 : decode b_Mo_arc 23 = .ok (.iload_n 3, 1) := by decide +kernel
theorem d_Mo_arc_24 : decode b_Mo_arc 24 = .ok (.ifCond .lt 10, 3) := by decide +kernel
theorem d_Mo_arc_27 : decode b_Mo_arc 27 = .ok (.iload_n 3, 1) := by decide +kernel
theorem d_Mo_arc_28 : decode b_Mo_arc 28 = .ok (.sipush 1000, 3) := by decide +kernel
theorem d_Mo_arc_31 : decode b_Mo_arc 31 = .ok (.if_icmp .le 6, 3) := by decide +kernel
theorem d_Mo_arc_34 : decode b_Mo_arc 34 = .ok (.bipush (-2), 2) := by decide +kernel
theorem d_Mo_arc_36 : decode b_Mo_arc 36 = .ok (.ireturn, 1) := by decide +kernel
theorem d_Mo_arc_37 : decode b_Mo_arc 37 = .ok (.aload_n 0, 1) := by decide +kernel
theorem d_Mo_arc_38 : decode b_Mo_arc 38 = .ok (.getfield 61, 3) := by decide +kernel
theorem d_Mo_arc_41 : decode b_Mo_arc 41 = .ok (.bipush 30, 2) := by decide +kernel
theorem d_Mo_arc_43 : decode b_Mo_arc 43 = .ok (.if_icmp .ne 6, 3) := by decide +kernel
theorem d_Mo_arc_46 : decode b_Mo_arc 46 = .ok (.bipush (-4), 2) := by decide +kernel
theorem d_Mo_arc_48 : decode b_Mo_arc 48 = .ok (.ireturn, 1) := by decide +kernel
theorem d_Mo_arc_49 : decode b_Mo_arc 49 = .ok (.aload_n 0, 1) := by decide +kernel
theorem d_Mo_arc_50 : decode b_Mo_arc 50 = .ok (.getfield 7, 3) := by decide +kernel
theorem d_Mo_arc_53 : decode b_Mo_arc 53 = .ok (.aload_n 0, 1) := by decide +kernel
theorem d_Mo_arc_54 : decode b_Mo_arc 54 = .ok (.getfield 61, 3) := by decide +kernel
theorem d_Mo_arc_57 : decode b_Mo_arc 57 = .ok (.iload_n 1, 1) := by decide +kernel
theorem d_Mo_arc_58 : decode b_Mo_arc 58 = .ok (.iastore, 1) := by decide +kernel
theorem d_Mo_arc_59 : decode b_Mo_arc 59 = .ok (.aload_n 0, 1) := by decide +kernel
theorem d_Mo_arc_60 : decode b_Mo_arc 60 = .ok (.getfield 13, 3) := by decide +kernel
theorem d_Mo_arc_63 : decode b_Mo_arc 63 = .ok (.aload_n 0, 1) := by decide +kernel
theorem d_Mo_arc_64 : decode b_Mo_arc 64 = .ok (.getfield 61, 3) := by decide +kernel
theorem d_Mo_arc_67 : decode b_Mo_arc 67 = .ok (.iload_n 2, 1) := by decide +kernel
theorem d_Mo_arc_68 : decode b_Mo_arc 68 = .ok (.iastore, 1) := by decide +kernel
theorem d_Mo_arc_69 : decode b_Mo_arc 69 = .ok (.aload_n 0, 1) := by decide +kernel
theorem d_Mo_arc_70 : decode b_Mo_arc 70 = .ok (.getfield 16, 3) := by decide +kernel
theorem d_Mo_arc_73 : decode b_Mo_arc 73 = .ok (.aload_n 0, 1) := by decide +kernel
theorem d_Mo_arc_74 : decode b_Mo_arc 74 = .ok (.getfield 61, 3) := by decide +kernel
theorem d_Mo_arc_77 : decode b_Mo_arc 77 = .ok (.iload_n 3, 1) := by decide +kernel
theorem d_Mo_arc_78 : decode b_Mo_arc 78 = .ok (.iastore, 1) := by decide +kernel
theorem d_Mo_arc_79 : decode b_Mo_arc 79 = .ok (.aload_n 0, 1) := by decide +kernel
theorem d_Mo_arc_80 : decode b_Mo_arc 80 = .ok (.getfield 19, 3) := by decide +kernel
theorem d_Mo_arc_83 : decode b_Mo_arc 83 = .ok (.aload_n 0, 1) := by decide +kernel
theorem d_Mo_arc_84 : decode b_Mo_arc 84 = .ok (.getfield 61, 3) := by decide +kernel
theorem d_Mo_arc_87 : decode b_Mo_arc 87 = .ok (.iconst 1, 1) := by decide +kernel
theorem d_Mo_arc_88 : decode b_Mo_arc 88 = .ok (.bastore, 1) := by decide +kernel
theorem d_Mo_arc_89 : decode b_Mo_arc 89 = .ok (.aload_n 0, 1) := by decide +kernel
theorem d_Mo_arc_90 : decode b_Mo_arc 90 = .ok (.dup, 1) := by decide +kernel
theorem d_Mo_arc_91 : decode b_Mo_arc 91 = .ok (.getfield 61, 3) := by decide +kernel
theorem d_Mo_arc_94 : decode b_Mo_arc 94 = .ok (.iconst 1, 1) := by decide +kernel
theorem d_Mo_arc_95 : decode b_Mo_arc 95 = .ok (.iadd, 1) := by decide +kernel
theorem d_Mo_arc_96 : decode b_Mo_arc 96 = .ok (.putfield 61, 3) := by decide +kernel
theorem d_Mo_arc_99 : decode b_Mo_arc 99 = .ok (.aload_n 0, 1) := by decide +kernel
theorem d_Mo_arc_100 : decode b_Mo_arc 100 = .ok (.dup, 1) := by decide +kernel
theorem d_Mo_arc_101 : decode b_Mo_arc 101 = .ok (.getfield 68, 3) := by decide +kernel
theorem d_Mo_arc_104 : decode b_Mo_arc 104 = .ok (.iconst 1, 1) := by decide +kernel
theorem d_Mo_arc_105 : decode b_Mo_arc 105 = .ok (.iadd, 1) := by decide +kernel
theorem d_Mo_arc_106 : decode b_Mo_arc 106 = .ok (.putfield 68, 3) := by decide +kernel
theorem d_Mo_arc_109 : decode b_Mo_arc 109 = .ok (.aload_n 0, 1) := by decide +kernel
theorem d_Mo_arc_110 : decode b_Mo_arc 110 = .ok (.getfield 61, 3) := by decide +kernel
theorem d_Mo_arc_113 : decode b_Mo_arc 113 = .ok (.iconst 1, 1) := by decide +kernel
theorem d_Mo_arc_114 : decode b_Mo_arc 114 = .ok (.isub, 1) := by decide +kernel
theorem d_Mo_arc_115 : decode b_Mo_arc 115 = .ok (.ireturn, 1) := by decide +kernel
def f_Mo_arc (p1 : Int32) (p2 : Int32) (p3 : Int32) (t_nodes : Int32) (t_arcs0 : Int32) (t_left0 : Int32) (t_froms0 : Nat → Int32) (t_tos0 : Nat → Int32) (t_weights0 : Nat → Int32) (t_there0 : Nat → Int32) : Option (Int32 × (Nat → Int32) × (Nat → Int32) × (Nat → Int32) × (Nat → Int32) × Int32 × Int32) :=
  bk1 (f_Mo_isNode p1 t_nodes) fun r1 =>
  if r1 = 0 then
    some ((-1 : Int32), t_froms0, t_tos0, t_weights0, t_there0, t_arcs0, t_left0)
  else
    bk1 (f_Mo_isNode p2 t_nodes) fun r2 =>
    if r2 = 0 then
      some ((-1 : Int32), t_froms0, t_tos0, t_weights0, t_there0, t_arcs0, t_left0)
    else
      if p1 = p2 then
        some ((-1 : Int32), t_froms0, t_tos0, t_weights0, t_there0, t_arcs0, t_left0)
      else
        if p3 < 0 then
          some ((-2 : Int32), t_froms0, t_tos0, t_weights0, t_there0, t_arcs0, t_left0)
        else
          if p3 ≤ (1000 : Int32) then
            if t_arcs0 = (30 : Int32) then
              some ((-4 : Int32), t_froms0, t_tos0, t_weights0, t_there0, t_arcs0, t_left0)
            else
              gd (inb t_arcs0 30) <|
              gd (inb t_arcs0 30) <|
              gd (inb t_arcs0 30) <|
              gd (inb t_arcs0 30) <|
              bn (t_arcs0 + (1 : Int32)) fun x3 =>
              bn (t_left0 + (1 : Int32)) fun x4 =>
              some (x3 - (1 : Int32), upd t_froms0 t_arcs0.toNatClampNeg p1, upd t_tos0 t_arcs0.toNatClampNeg p2, upd t_weights0 t_arcs0.toNatClampNeg p3, upd t_there0 t_arcs0.toNatClampNeg (vp_nar .boolean (1 : Int32)), x3, x4)
          else
            some ((-2 : Int32), t_froms0, t_tos0, t_weights0, t_there0, t_arcs0, t_left0)
set_option maxRecDepth 100000 in
set_option maxHeartbeats 4000000 in
theorem w_Mo_arc_e {p : Program} {l : Launch} {e : Env} {R : Room} {s : State} {m : MethodId} {args : Array Value} {below : List Frame} {meth : Method} {c : Code} {D : va_G} {cI cJ cG cZ : ClassId} {A : Nat → Prop} {Q : State → Prop} {q_t q_t_froms q_t_tos q_t_weights q_t_there q_t_part q_t_matrix q_t_row q_t_low q_t_own q_t_chosen q_t_degrees q_t_fixed q_t_grown q_t_costs q_t_order : Nat} {t_nodes : Int32} {t_arcs0 : Int32} {t_left0 : Int32} {t_swapIn : Int32} {t_swapOut : Int32} {t_boundedSet : Int64} {t_joinedSet : Int64} {t_froms0 : Nat → Int32} {t_tos0 : Nat → Int32} {t_weights0 : Nat → Int32} {t_there0 : Nat → Int32} {p1 : Int32} {p2 : Int32} {p3 : Int32} {RR : Int32 × (Nat → Int32) × (Nat → Int32) × (Nat → Int32) × (Nat → Int32) × Int32 × Int32} (C0 : CX p R s m args meth c b_Mo_arc 4 R_Mo lw_g D CL (TYs cI cJ cG cZ) A 1 21) (hret : ∀ (pc : Nat) (ls : Array Slot) (H : Heap) (locs : List Loc) (v : Int32) (t_froms : Nat → Int32) (t_tos : Nat → Int32) (t_weights : Nat → Int32) (t_there : Nat → Int32) (t_arcs : Int32) (t_left : Int32), decode b_Mo_arc pc = .ok (.ireturn, 1) → va_P D CL [(q_t, .inr (8, [.int t_nodes, .int t_arcs, .int t_left, .ref q_t_froms, .ref q_t_tos, .ref q_t_weights, .ref q_t_there, .ref q_t_part, .ref q_t_matrix, .ref q_t_row, .ref q_t_low, .int t_swapIn, .int t_swapOut, .ref q_t_own, .ref q_t_chosen, .ref q_t_degrees, .long t_boundedSet, .ref q_t_fixed, .ref q_t_grown, .ref q_t_costs, .ref q_t_order, .long t_joinedSet])), (q_t_froms, .inl (cI, 30, .inl t_froms)), (q_t_tos, .inl (cI, 30, .inl t_tos)), (q_t_weights, .inl (cI, 30, .inl t_weights)), (q_t_there, .inl (cZ, 30, .inl t_there))] H → va_D A [(q_t, .inr (8, [.int t_nodes, .int t_arcs, .int t_left, .ref q_t_froms, .ref q_t_tos, .ref q_t_weights, .ref q_t_there, .ref q_t_part, .ref q_t_matrix, .ref q_t_row, .ref q_t_low, .int t_swapIn, .int t_swapOut, .ref q_t_own, .ref q_t_chosen, .ref q_t_degrees, .long t_boundedSet, .ref q_t_fixed, .ref q_t_grown, .ref q_t_costs, .ref q_t_order, .long t_joinedSet])), (q_t_froms, .inl (cI, 30, .inl t_froms)), (q_t_tos, .inl (cI, 30, .inl t_tos)), (q_t_weights, .inl (cI, 30, .inl t_weights)), (q_t_there, .inl (cZ, 30, .inl t_there))] → va_S A s.heap H locs → some (v, t_froms, t_tos, t_weights, t_there, t_arcs, t_left) = some RR → W p l e R s m args below meth c H locs 0 0 Q (F0 m pc ls [.int v])) : ∀ (H : Heap) (locs : List Loc) (ls : Array Slot), va_P D CL [(q_t, .inr (8, [.int t_nodes, .int t_arcs0, .int t_left0, .ref q_t_froms, .ref q_t_tos, .ref q_t_weights, .ref q_t_there, .ref q_t_part, .ref q_t_matrix, .ref q_t_row, .ref q_t_low, .int t_swapIn, .int t_swapOut, .ref q_t_own, .ref q_t_chosen, .ref q_t_degrees, .long t_boundedSet, .ref q_t_fixed, .ref q_t_grown, .ref q_t_costs, .ref q_t_order, .long t_joinedSet])), (q_t_froms, .inl (cI, 30, .inl t_froms0)), (q_t_tos, .inl (cI, 30, .inl t_tos0)), (q_t_weights, .inl (cI, 30, .inl t_weights0)), (q_t_there, .inl (cZ, 30, .inl t_there0))] H → va_D A [(q_t, .inr (8, [.int t_nodes, .int t_arcs0, .int t_left0, .ref q_t_froms, .ref q_t_tos, .ref q_t_weights, .ref q_t_there, .ref q_t_part, .ref q_t_matrix, .ref q_t_row, .ref q_t_low, .int t_swapIn, .int t_swapOut, .ref q_t_own, .ref q_t_chosen, .ref q_t_degrees, .long t_boundedSet, .ref q_t_fixed, .ref q_t_grown, .ref q_t_costs, .ref q_t_order, .long t_joinedSet])), (q_t_froms, .inl (cI, 30, .inl t_froms0)), (q_t_tos, .inl (cI, 30, .inl t_tos0)), (q_t_weights, .inl (cI, 30, .inl t_weights0)), (q_t_there, .inl (cZ, 30, .inl t_there0))] → va_S A s.heap H locs → lv_has ls 4 [(0, .ref q_t), (1, .int p1), (2, .int p2), (3, .int p3)] → f_Mo_arc p1 p2 p3 t_nodes t_arcs0 t_left0 t_froms0 t_tos0 t_weights0 t_there0 = some RR → W p l e R s m args below meth c H locs 0 0 Q (F0 m 0 ls []) := by
  intro H locs ls hP hD hS hl hf
  obtain ⟨hx, hb, hml, hown, hts, hK, hA, hfr, hlo, hlk⟩ := id C0
  unfold f_Mo_arc at hf
  refine lv_aload_n hx hb d_Mo_arc_0 rfl (lv_at hl 0 rfl) ?_
  refine lv_iload_n hx hb d_Mo_arc_1 rfl (lv_at hl 1 rfl) ?_
  obtain ⟨r1, hq1, hf⟩ := bk1_e hf
  refine cl_go (wr := [(q_t_froms, .inl (cI, 30, .inl t_froms0)), (q_t_tos, .inl (cI, 30, .inl t_tos0)), (q_t_weights, .inl (cI, 30, .inl t_weights0)), (q_t_there, .inl (cZ, 30, .inl t_there0))]) (W1 := [(q_t, .inr (8, [.int t_nodes, .int t_arcs0, .int t_left0, .ref q_t_froms, .ref q_t_tos, .ref q_t_weights, .ref q_t_there, .ref q_t_part, .ref q_t_matrix, .ref q_t_row, .ref q_t_low, .int t_swapIn, .int t_swapOut, .ref q_t_own, .ref q_t_chosen, .ref q_t_degrees, .long t_boundedSet, .ref q_t_fixed, .ref q_t_grown, .ref q_t_costs, .ref q_t_order, .long t_joinedSet])), (q_t_froms, .inl (cI, 30, .inl t_froms0)), (q_t_tos, .inl (cI, 30, .inl t_tos0)), (q_t_weights, .inl (cI, 30, .inl t_weights0)), (q_t_there, .inl (cZ, 30, .inl t_there0))]) (va_runV (As := [.int p1]) (rest := []) ⟨hx, hb, hml, hown, hts⟩ (c_Mo_isNode l D cI cJ cG cZ q_t q_t_froms q_t_tos q_t_weights q_t_there q_t_part q_t_matrix q_t_row q_t_low q_t_own q_t_chosen q_t_degrees q_t_fixed q_t_grown q_t_costs q_t_order t_nodes t_arcs0 t_left0 t_swapIn t_swapOut t_boundedSet t_joinedSet p1 hq1 H.size) (cwV 1 hts (gi_V m_3_204 m_3_206 m_0_23 m_1_9 wi_Mo_isNode) rfl rfl rfl hd_Mo_isNode ⟨Nat.le_trans (Nat.le_of_ble_eq_true rfl) hfr, Nat.le_trans (Nat.le_of_ble_eq_true rfl) hlo⟩) ⟨pw_blind, va_recv hK hP (ci := 8) (q0 := 0) rfl rfl, fun U hU hW => ⟨rfl, pw_in hU (hP.sub [0] rfl) (va_K.moved hW.alike hK) ((hD.sub [0] rfl rfl).weaken (fun _ _ _ _ => trivial))⟩⟩ rfl rfl hl.1 rfl (lv_room (Nat.le_of_ble_eq_true rfl)) d_Mo_arc_2 ⟨Nat.zero_le _, Nat.zero_le _⟩) hP hD hS hA [0] [1, 2, 3, 4] rfl rfl rfl rfl [4, 0, 1, 2, 3] rfl rfl (fun H locs hP hD hS => ?_)
  have hP : va_P D CL [(q_t, .inr (8, [.int t_nodes, .int t_arcs0, .int t_left0, .ref q_t_froms, .ref q_t_tos, .ref q_t_weights, .ref q_t_there, .ref q_t_part, .ref q_t_matrix, .ref q_t_row, .ref q_t_low, .int t_swapIn, .int t_swapOut, .ref q_t_own, .ref q_t_chosen, .ref q_t_degrees, .long t_boundedSet, .ref q_t_fixed, .ref q_t_grown, .ref q_t_costs, .ref q_t_order, .long t_joinedSet])), (q_t_froms, .inl (cI, 30, .inl t_froms0)), (q_t_tos, .inl (cI, 30, .inl t_tos0)), (q_t_weights, .inl (cI, 30, .inl t_weights0)), (q_t_there, .inl (cZ, 30, .inl t_there0))] H := hP
  have hD : va_D A [(q_t, .inr (8, [.int t_nodes, .int t_arcs0, .int t_left0, .ref q_t_froms, .ref q_t_tos, .ref q_t_weights, .ref q_t_there, .ref q_t_part, .ref q_t_matrix, .ref q_t_row, .ref q_t_low, .int t_swapIn, .int t_swapOut, .ref q_t_own, .ref q_t_chosen, .ref q_t_degrees, .long t_boundedSet, .ref q_t_fixed, .ref q_t_grown, .ref q_t_costs, .ref q_t_order, .long t_joinedSet])), (q_t_froms, .inl (cI, 30, .inl t_froms0)), (q_t_tos, .inl (cI, 30, .inl t_tos0)), (q_t_weights, .inl (cI, 30, .inl t_weights0)), (q_t_there, .inl (cZ, 30, .inl t_there0))] := hD
  refine lv_if_eq (tgt := 21) hx hb d_Mo_arc_5 (by decide) (fun hc1 => ?_) (fun hc1 => ?_)
  · have hf := if_t hc1 hf
    refine lv_iconst (v := -1) hx hb d_Mo_arc_21 (by decide) ?_
    exact hret 22 _ _ _ (-1 : Int32) t_froms0 t_tos0 t_weights0 t_there0 t_arcs0 t_left0 d_Mo_arc_22 hP hD hS hf
  · have hf := if_f hc1 hf
    refine lv_aload_n hx hb d_Mo_arc_8 rfl (lv_at hl 0 rfl) ?_
    refine lv_iload_n hx hb d_Mo_arc_9 rfl (lv_at hl 2 rfl) ?_
    obtain ⟨r2, hq2, hf⟩ := bk1_e hf
    refine cl_go (wr := [(q_t_froms, .inl (cI, 30, .inl t_froms0)), (q_t_tos, .inl (cI, 30, .inl t_tos0)), (q_t_weights, .inl (cI, 30, .inl t_weights0)), (q_t_there, .inl (cZ, 30, .inl t_there0))]) (W1 := [(q_t, .inr (8, [.int t_nodes, .int t_arcs0, .int t_left0, .ref q_t_froms, .ref q_t_tos, .ref q_t_weights, .ref q_t_there, .ref q_t_part, .ref q_t_matrix, .ref q_t_row, .ref q_t_low, .int t_swapIn, .int t_swapOut, .ref q_t_own, .ref q_t_chosen, .ref q_t_degrees, .long t_boundedSet, .ref q_t_fixed, .ref q_t_grown, .ref q_t_costs, .ref q_t_order, .long t_joinedSet])), (q_t_froms, .inl (cI, 30, .inl t_froms0)), (q_t_tos, .inl (cI, 30, .inl t_tos0)), (q_t_weights, .inl (cI, 30, .inl t_weights0)), (q_t_there, .inl (cZ, 30, .inl t_there0))]) (va_runV (As := [.int p2]) (rest := []) ⟨hx, hb, hml, hown, hts⟩ (c_Mo_isNode l D cI cJ cG cZ q_t q_t_froms q_t_tos q_t_weights q_t_there q_t_part q_t_matrix q_t_row q_t_low q_t_own q_t_chosen q_t_degrees q_t_fixed q_t_grown q_t_costs q_t_order t_nodes t_arcs0 t_left0 t_swapIn t_swapOut t_boundedSet t_joinedSet p2 hq2 H.size) (cwV 1 hts (gi_V m_3_204 m_3_206 m_0_23 m_1_9 wi_Mo_isNode) rfl rfl rfl hd_Mo_isNode ⟨Nat.le_trans (Nat.le_of_ble_eq_true rfl) hfr, Nat.le_trans (Nat.le_of_ble_eq_true rfl) hlo⟩) ⟨pw_blind, va_recv hK hP (ci := 8) (q0 := 0) rfl rfl, fun U hU hW => ⟨rfl, pw_in hU (hP.sub [0] rfl) (va_K.moved hW.alike hK) ((hD.sub [0] rfl rfl).weaken (fun _ _ _ _ => trivial))⟩⟩ rfl rfl hl.1 rfl (lv_room (Nat.le_of_ble_eq_true rfl)) d_Mo_arc_10 ⟨Nat.zero_le _, Nat.zero_le _⟩) hP hD hS hA [0] [1, 2, 3, 4] rfl rfl rfl rfl [4, 0, 1, 2, 3] rfl rfl (fun H locs hP hD hS => ?_)
    have hP : va_P D CL [(q_t, .inr (8, [.int t_nodes, .int t_arcs0, .int t_left0, .ref q_t_froms, .ref q_t_tos, .ref q_t_weights, .ref q_t_there, .ref q_t_part, .ref q_t_matrix, .ref q_t_row, .ref q_t_low, .int t_swapIn, .int t_swapOut, .ref q_t_own, .ref q_t_chosen, .ref q_t_degrees, .long t_boundedSet, .ref q_t_fixed, .ref q_t_grown, .ref q_t_costs, .ref q_t_order, .long t_joinedSet])), (q_t_froms, .inl (cI, 30, .inl t_froms0)), (q_t_tos, .inl (cI, 30, .inl t_tos0)), (q_t_weights, .inl (cI, 30, .inl t_weights0)), (q_t_there, .inl (cZ, 30, .inl t_there0))] H := hP
    have hD : va_D A [(q_t, .inr (8, [.int t_nodes, .int t_arcs0, .int t_left0, .ref q_t_froms, .ref q_t_tos, .ref q_t_weights, .ref q_t_there, .ref q_t_part, .ref q_t_matrix, .ref q_t_row, .ref q_t_low, .int t_swapIn, .int t_swapOut, .ref q_t_own, .ref q_t_chosen, .ref q_t_degrees, .long t_boundedSet, .ref q_t_fixed, .ref q_t_grown, .ref q_t_costs, .ref q_t_order, .long t_joinedSet])), (q_t_froms, .inl (cI, 30, .inl t_froms0)), (q_t_tos, .inl (cI, 30, .inl t_tos0)), (q_t_weights, .inl (cI, 30, .inl t_weights0)), (q_t_there, .inl (cZ, 30, .inl t_there0))] := hD
    refine lv_if_eq (tgt := 21) hx hb d_Mo_arc_13 (by decide) (fun hc2 => ?_) (fun hc2 => ?_)
    · have hf := if_t hc2 hf
      refine lv_iconst (v := -1) hx hb d_Mo_arc_21 (by decide) ?_
      exact hret 22 _ _ _ (-1 : Int32) t_froms0 t_tos0 t_weights0 t_there0 t_arcs0 t_left0 d_Mo_arc_22 hP hD hS hf
    · have hf := if_f hc2 hf
      refine lv_iload_n hx hb d_Mo_arc_16 rfl (lv_at hl 1 rfl) ?_
      refine lv_iload_n hx hb d_Mo_arc_17 rfl (lv_at hl 2 rfl) ?_
      refine lv_icmp_ne (tgt := 23) hx hb d_Mo_arc_18 (by decide) (fun hc3 => ?_) (fun hc3 => ?_)
      · have hf := if_f hc3 hf
        refine lv_iload_n hx hb d_Mo_arc_23 rfl (lv_at hl 3 rfl) ?_
        refine lv_if_lt (tgt := 34) hx hb d_Mo_arc_24 (by decide) (fun hc4 => ?_) (fun hc4 => ?_)
        · have hf := if_t hc4 hf
          refine lv_bipush (v := -2) hx hb d_Mo_arc_34 (by decide) ?_
          exact hret 36 _ _ _ (-2 : Int32) t_froms0 t_tos0 t_weights0 t_there0 t_arcs0 t_left0 d_Mo_arc_36 hP hD hS hf
        · have hf := if_f hc4 hf
          refine lv_iload_n hx hb d_Mo_arc_27 rfl (lv_at hl 3 rfl) ?_
          refine lv_sipush (v := 1000) hx hb d_Mo_arc_28 (by decide) ?_
          refine lv_icmp_le (tgt := 37) hx hb d_Mo_arc_31 (by decide) (fun hc5 => ?_) (fun hc5 => ?_)
          · have hf := if_t hc5 hf
            refine lv_aload_n hx hb d_Mo_arc_37 rfl (lv_at hl 0 rfl) ?_
            refine va_get (D := D) (ci := 8) (v := .int t_arcs0) (C := R_Mo) (T := F_Mo) (N := 22) hx hb hts i_Mo hown hK hP 0 rfl rfl 1 (by decide) (hts _ m_3_129) (fun _ h9 => h9) rfl d_Mo_arc_38 ?_
            refine lv_bipush (v := 30) hx hb d_Mo_arc_41 (by decide) ?_
            refine lv_icmp_ne (tgt := 49) hx hb d_Mo_arc_43 (by decide) (fun hc6 => ?_) (fun hc6 => ?_)
            · have hf := if_f hc6 hf
              refine lv_aload_n hx hb d_Mo_arc_49 rfl (lv_at hl 0 rfl) ?_
              refine va_get (D := D) (ci := 8) (v := .ref q_t_froms) (C := R_Mo) (T := F_Mo) (N := 22) hx hb hts i_Mo hown hK hP 0 rfl rfl 3 (by decide) (hts _ m_3_131) (fun _ h9 => h9) rfl d_Mo_arc_50 ?_
              refine lv_aload_n hx hb d_Mo_arc_53 rfl (lv_at hl 0 rfl) ?_
              refine va_get (D := D) (ci := 8) (v := .int t_arcs0) (C := R_Mo) (T := F_Mo) (N := 22) hx hb hts i_Mo hown hK hP 0 rfl rfl 1 (by decide) (hts _ m_3_129) (fun _ h9 => h9) rfl d_Mo_arc_54 ?_
              refine lv_iload_n hx hb d_Mo_arc_57 rfl (lv_at hl 1 rfl) ?_
              obtain ⟨hg1, hf⟩ := gd_e hf
              refine va_iast hx hb hK hP hD hS 1 0 rfl rfl (inb_e hg1) d_Mo_arc_58 (fun H locs hP hD hS => ?_)
              have hP : va_P D CL [(q_t, .inr (8, [.int t_nodes, .int t_arcs0, .int t_left0, .ref q_t_froms, .ref q_t_tos, .ref q_t_weights, .ref q_t_there, .ref q_t_part, .ref q_t_matrix, .ref q_t_row, .ref q_t_low, .int t_swapIn, .int t_swapOut, .ref q_t_own, .ref q_t_chosen, .ref q_t_degrees, .long t_boundedSet, .ref q_t_fixed, .ref q_t_grown, .ref q_t_costs, .ref q_t_order, .long t_joinedSet])), (q_t_froms, .inl (cI, 30, .inl (upd t_froms0 t_arcs0.toNatClampNeg p1))), (q_t_tos, .inl (cI, 30, .inl t_tos0)), (q_t_weights, .inl (cI, 30, .inl t_weights0)), (q_t_there, .inl (cZ, 30, .inl t_there0))] H := hP
              have hD : va_D A [(q_t, .inr (8, [.int t_nodes, .int t_arcs0, .int t_left0, .ref q_t_froms, .ref q_t_tos, .ref q_t_weights, .ref q_t_there, .ref q_t_part, .ref q_t_matrix, .ref q_t_row, .ref q_t_low, .int t_swapIn, .int t_swapOut, .ref q_t_own, .ref q_t_chosen, .ref q_t_degrees, .long t_boundedSet, .ref q_t_fixed, .ref q_t_grown, .ref q_t_costs, .ref q_t_order, .long t_joinedSet])), (q_t_froms, .inl (cI, 30, .inl (upd t_froms0 t_arcs0.toNatClampNeg p1))), (q_t_tos, .inl (cI, 30, .inl t_tos0)), (q_t_weights, .inl (cI, 30, .inl t_weights0)), (q_t_there, .inl (cZ, 30, .inl t_there0))] := hD
              refine lv_aload_n hx hb d_Mo_arc_59 rfl (lv_at hl 0 rfl) ?_
              refine va_get (D := D) (ci := 8) (v := .ref q_t_tos) (C := R_Mo) (T := F_Mo) (N := 22) hx hb hts i_Mo hown hK hP 0 rfl rfl 4 (by decide) (hts _ m_3_132) (fun _ h9 => h9) rfl d_Mo_arc_60 ?_
              refine lv_aload_n hx hb d_Mo_arc_63 rfl (lv_at hl 0 rfl) ?_
              refine va_get (D := D) (ci := 8) (v := .int t_arcs0) (C := R_Mo) (T := F_Mo) (N := 22) hx hb hts i_Mo hown hK hP 0 rfl rfl 1 (by decide) (hts _ m_3_129) (fun _ h9 => h9) rfl d_Mo_arc_64 ?_
              refine lv_iload_n hx hb d_Mo_arc_67 rfl (lv_at hl 2 rfl) ?_
              obtain ⟨hg2, hf⟩ := gd_e hf
              refine va_iast hx hb hK hP hD hS 2 0 rfl rfl (inb_e hg2) d_Mo_arc_68 (fun H locs hP hD hS => ?_)
              have hP : va_P D CL [(q_t, .inr (8, [.int t_nodes, .int t_arcs0, .int t_left0, .ref q_t_froms, .ref q_t_tos, .ref q_t_weights, .ref q_t_there, .ref q_t_part, .ref q_t_matrix, .ref q_t_row, .ref q_t_low, .int t_swapIn, .int t_swapOut, .ref q_t_own, .ref q_t_chosen, .ref q_t_degrees, .long t_boundedSet, .ref q_t_fixed, .ref q_t_grown, .ref q_t_costs, .ref q_t_order, .long t_joinedSet])), (q_t_froms, .inl (cI, 30, .inl (upd t_froms0 t_arcs0.toNatClampNeg p1))), (q_t_tos, .inl (cI, 30, .inl (upd t_tos0 t_arcs0.toNatClampNeg p2))), (q_t_weights, .inl (cI, 30, .inl t_weights0)), (q_t_there, .inl (cZ, 30, .inl t_there0))] H := hP
              have hD : va_D A [(q_t, .inr (8, [.int t_nodes, .int t_arcs0, .int t_left0, .ref q_t_froms, .ref q_t_tos, .ref q_t_weights, .ref q_t_there, .ref q_t_part, .ref q_t_matrix, .ref q_t_row, .ref q_t_low, .int t_swapIn, .int t_swapOut, .ref q_t_own, .ref q_t_chosen, .ref q_t_degrees, .long t_boundedSet, .ref q_t_fixed, .ref q_t_grown, .ref q_t_costs, .ref q_t_order, .long t_joinedSet])), (q_t_froms, .inl (cI, 30, .inl (upd t_froms0 t_arcs0.toNatClampNeg p1))), (q_t_tos, .inl (cI, 30, .inl (upd t_tos0 t_arcs0.toNatClampNeg p2))), (q_t_weights, .inl (cI, 30, .inl t_weights0)), (q_t_there, .inl (cZ, 30, .inl t_there0))] := hD
              refine lv_aload_n hx hb d_Mo_arc_69 rfl (lv_at hl 0 rfl) ?_
              refine va_get (D := D) (ci := 8) (v := .ref q_t_weights) (C := R_Mo) (T := F_Mo) (N := 22) hx hb hts i_Mo hown hK hP 0 rfl rfl 5 (by decide) (hts _ m_3_133) (fun _ h9 => h9) rfl d_Mo_arc_70 ?_
              refine lv_aload_n hx hb d_Mo_arc_73 rfl (lv_at hl 0 rfl) ?_
              refine va_get (D := D) (ci := 8) (v := .int t_arcs0) (C := R_Mo) (T := F_Mo) (N := 22) hx hb hts i_Mo hown hK hP 0 rfl rfl 1 (by decide) (hts _ m_3_129) (fun _ h9 => h9) rfl d_Mo_arc_74 ?_
              refine lv_iload_n hx hb d_Mo_arc_77 rfl (lv_at hl 3 rfl) ?_
              obtain ⟨hg3, hf⟩ := gd_e hf
              refine va_iast hx hb hK hP hD hS 3 0 rfl rfl (inb_e hg3) d_Mo_arc_78 (fun H locs hP hD hS => ?_)
              have hP : va_P D CL [(q_t, .inr (8, [.int t_nodes, .int t_arcs0, .int t_left0, .ref q_t_froms, .ref q_t_tos, .ref q_t_weights, .ref q_t_there, .ref q_t_part, .ref q_t_matrix, .ref q_t_row, .ref q_t_low, .int t_swapIn, .int t_swapOut, .ref q_t_own, .ref q_t_chosen, .ref q_t_degrees, .long t_boundedSet, .ref q_t_fixed, .ref q_t_grown, .ref q_t_costs, .ref q_t_order, .long t_joinedSet])), (q_t_froms, .inl (cI, 30, .inl (upd t_froms0 t_arcs0.toNatClampNeg p1))), (q_t_tos, .inl (cI, 30, .inl (upd t_tos0 t_arcs0.toNatClampNeg p2))), (q_t_weights, .inl (cI, 30, .inl (upd t_weights0 t_arcs0.toNatClampNeg p3))), (q_t_there, .inl (cZ, 30, .inl t_there0))] H := hP
              have hD : va_D A [(q_t, .inr (8, [.int t_nodes, .int t_arcs0, .int t_left0, .ref q_t_froms, .ref q_t_tos, .ref q_t_weights, .ref q_t_there, .ref q_t_part, .ref q_t_matrix, .ref q_t_row, .ref q_t_low, .int t_swapIn, .int t_swapOut, .ref q_t_own, .ref q_t_chosen, .ref q_t_degrees, .long t_boundedSet, .ref q_t_fixed, .ref q_t_grown, .ref q_t_costs, .ref q_t_order, .long t_joinedSet])), (q_t_froms, .inl (cI, 30, .inl (upd t_froms0 t_arcs0.toNatClampNeg p1))), (q_t_tos, .inl (cI, 30, .inl (upd t_tos0 t_arcs0.toNatClampNeg p2))), (q_t_weights, .inl (cI, 30, .inl (upd t_weights0 t_arcs0.toNatClampNeg p3))), (q_t_there, .inl (cZ, 30, .inl t_there0))] := hD
              refine lv_aload_n hx hb d_Mo_arc_79 rfl (lv_at hl 0 rfl) ?_
              refine va_get (D := D) (ci := 8) (v := .ref q_t_there) (C := R_Mo) (T := F_Mo) (N := 22) hx hb hts i_Mo hown hK hP 0 rfl rfl 6 (by decide) (hts _ m_3_134) (fun _ h9 => h9) rfl d_Mo_arc_80 ?_
              refine lv_aload_n hx hb d_Mo_arc_83 rfl (lv_at hl 0 rfl) ?_
              refine va_get (D := D) (ci := 8) (v := .int t_arcs0) (C := R_Mo) (T := F_Mo) (N := 22) hx hb hts i_Mo hown hK hP 0 rfl rfl 1 (by decide) (hts _ m_3_129) (fun _ h9 => h9) rfl d_Mo_arc_84 ?_
              refine lv_iconst (v := 1) hx hb d_Mo_arc_87 (by decide) ?_
              obtain ⟨hg4, hf⟩ := gd_e hf
              refine va_zast hx hb hK hP hD hS 4 3 rfl rfl (inb_e hg4) d_Mo_arc_88 (fun H locs hP hD hS => ?_)
              have hP : va_P D CL [(q_t, .inr (8, [.int t_nodes, .int t_arcs0, .int t_left0, .ref q_t_froms, .ref q_t_tos, .ref q_t_weights, .ref q_t_there, .ref q_t_part, .ref q_t_matrix, .ref q_t_row, .ref q_t_low, .int t_swapIn, .int t_swapOut, .ref q_t_own, .ref q_t_chosen, .ref q_t_degrees, .long t_boundedSet, .ref q_t_fixed, .ref q_t_grown, .ref q_t_costs, .ref q_t_order, .long t_joinedSet])), (q_t_froms, .inl (cI, 30, .inl (upd t_froms0 t_arcs0.toNatClampNeg p1))), (q_t_tos, .inl (cI, 30, .inl (upd t_tos0 t_arcs0.toNatClampNeg p2))), (q_t_weights, .inl (cI, 30, .inl (upd t_weights0 t_arcs0.toNatClampNeg p3))), (q_t_there, .inl (cZ, 30, .inl (upd t_there0 t_arcs0.toNatClampNeg (vp_nar .boolean (1 : Int32)))))] H := hP
              have hD : va_D A [(q_t, .inr (8, [.int t_nodes, .int t_arcs0, .int t_left0, .ref q_t_froms, .ref q_t_tos, .ref q_t_weights, .ref q_t_there, .ref q_t_part, .ref q_t_matrix, .ref q_t_row, .ref q_t_low, .int t_swapIn, .int t_swapOut, .ref q_t_own, .ref q_t_chosen, .ref q_t_degrees, .long t_boundedSet, .ref q_t_fixed, .ref q_t_grown, .ref q_t_costs, .ref q_t_order, .long t_joinedSet])), (q_t_froms, .inl (cI, 30, .inl (upd t_froms0 t_arcs0.toNatClampNeg p1))), (q_t_tos, .inl (cI, 30, .inl (upd t_tos0 t_arcs0.toNatClampNeg p2))), (q_t_weights, .inl (cI, 30, .inl (upd t_weights0 t_arcs0.toNatClampNeg p3))), (q_t_there, .inl (cZ, 30, .inl (upd t_there0 t_arcs0.toNatClampNeg (vp_nar .boolean (1 : Int32)))))] := hD
              refine lv_aload_n hx hb d_Mo_arc_89 rfl (lv_at hl 0 rfl) ?_
              refine lv_dup hx hb d_Mo_arc_90 rfl ?_
              refine va_get (D := D) (ci := 8) (v := .int t_arcs0) (C := R_Mo) (T := F_Mo) (N := 22) hx hb hts i_Mo hown hK hP 0 rfl rfl 1 (by decide) (hts _ m_3_129) (fun _ h9 => h9) rfl d_Mo_arc_91 ?_
              refine lv_iconst (v := 1) hx hb d_Mo_arc_94 (by decide) ?_
              refine lv_iadd hx hb d_Mo_arc_95 ?_
              refine lv_topi (fun x3 ex3 => ?_)
              have hf := bn_e ex3 hf
              refine va_put (D := D) (ci := 8) (v := .int x3) (ty := .int) (C := R_Mo) (T := F_Mo) (N := 22) hx hb hts i_Mo t_Mo to_Mo n_Mo hown hK hP hD hS 0 rfl rfl 1 (by decide) (hts _ m_3_129) (fun _ h9 => h9) rfl (by decide +kernel) rfl rfl (Nat.le_of_ble_eq_true rfl) d_Mo_arc_96 (fun H locs hP hD hS => ?_)
              have hP : va_P D CL [(q_t, .inr (8, [.int t_nodes, .int x3, .int t_left0, .ref q_t_froms, .ref q_t_tos, .ref q_t_weights, .ref q_t_there, .ref q_t_part, .ref q_t_matrix, .ref q_t_row, .ref q_t_low, .int t_swapIn, .int t_swapOut, .ref q_t_own, .ref q_t_chosen, .ref q_t_degrees, .long t_boundedSet, .ref q_t_fixed, .ref q_t_grown, .ref q_t_costs, .ref q_t_order, .long t_joinedSet])), (q_t_froms, .inl (cI, 30, .inl (upd t_froms0 t_arcs0.toNatClampNeg p1))), (q_t_tos, .inl (cI, 30, .inl (upd t_tos0 t_arcs0.toNatClampNeg p2))), (q_t_weights, .inl (cI, 30, .inl (upd t_weights0 t_arcs0.toNatClampNeg p3))), (q_t_there, .inl (cZ, 30, .inl (upd t_there0 t_arcs0.toNatClampNeg (vp_nar .boolean (1 : Int32)))))] H := hP
              have hD : va_D A [(q_t, .inr (8, [.int t_nodes, .int x3, .int t_left0, .ref q_t_froms, .ref q_t_tos, .ref q_t_weights, .ref q_t_there, .ref q_t_part, .ref q_t_matrix, .ref q_t_row, .ref q_t_low, .int t_swapIn, .int t_swapOut, .ref q_t_own, .ref q_t_chosen, .ref q_t_degrees, .long t_boundedSet, .ref q_t_fixed, .ref q_t_grown, .ref q_t_costs, .ref q_t_order, .long t_joinedSet])), (q_t_froms, .inl (cI, 30, .inl (upd t_froms0 t_arcs0.toNatClampNeg p1))), (q_t_tos, .inl (cI, 30, .inl (upd t_tos0 t_arcs0.toNatClampNeg p2))), (q_t_weights, .inl (cI, 30, .inl (upd t_weights0 t_arcs0.toNatClampNeg p3))), (q_t_there, .inl (cZ, 30, .inl (upd t_there0 t_arcs0.toNatClampNeg (vp_nar .boolean (1 : Int32)))))] := hD
              refine lv_aload_n hx hb d_Mo_arc_99 rfl (lv_at hl 0 rfl) ?_
              refine lv_dup hx hb d_Mo_arc_100 rfl ?_
              refine va_get (D := D) (ci := 8) (v := .int t_left0) (C := R_Mo) (T := F_Mo) (N := 22) hx hb hts i_Mo hown hK hP 0 rfl rfl 2 (by decide) (hts _ m_3_130) (fun _ h9 => h9) rfl d_Mo_arc_101 ?_
              refine lv_iconst (v := 1) hx hb d_Mo_arc_104 (by decide) ?_
              refine lv_iadd hx hb d_Mo_arc_105 ?_
              refine lv_topi (fun x4 ex4 => ?_)
              have hf := bn_e ex4 hf
              refine va_put (D := D) (ci := 8) (v := .int x4) (ty := .int) (C := R_Mo) (T := F_Mo) (N := 22) hx hb hts i_Mo t_Mo to_Mo n_Mo hown hK hP hD hS 0 rfl rfl 2 (by decide) (hts _ m_3_130) (fun _ h9 => h9) rfl (by decide +kernel) rfl rfl (Nat.le_of_ble_eq_true rfl) d_Mo_arc_106 (fun H locs hP hD hS => ?_)
              have hP : va_P D CL [(q_t, .inr (8, [.int t_nodes, .int x3, .int x4, .ref q_t_froms, .ref q_t_tos, .ref q_t_weights, .ref q_t_there, .ref q_t_part, .ref q_t_matrix, .ref q_t_row, .ref q_t_low, .int t_swapIn, .int t_swapOut, .ref q_t_own, .ref q_t_chosen, .ref q_t_degrees, .long t_boundedSet, .ref q_t_fixed, .ref q_t_grown, .ref q_t_costs, .ref q_t_order, .long t_joinedSet])), (q_t_froms, .inl (cI, 30, .inl (upd t_froms0 t_arcs0.toNatClampNeg p1))), (q_t_tos, .inl (cI, 30, .inl (upd t_tos0 t_arcs0.toNatClampNeg p2))), (q_t_weights, .inl (cI, 30, .inl (upd t_weights0 t_arcs0.toNatClampNeg p3))), (q_t_there, .inl (cZ, 30, .inl (upd t_there0 t_arcs0.toNatClampNeg (vp_nar .boolean (1 : Int32)))))] H := hP
              have hD : va_D A [(q_t, .inr (8, [.int t_nodes, .int x3, .int x4, .ref q_t_froms, .ref q_t_tos, .ref q_t_weights, .ref q_t_there, .ref q_t_part, .ref q_t_matrix, .ref q_t_row, .ref q_t_low, .int t_swapIn, .int t_swapOut, .ref q_t_own, .ref q_t_chosen, .ref q_t_degrees, .long t_boundedSet, .ref q_t_fixed, .ref q_t_grown, .ref q_t_costs, .ref q_t_order, .long t_joinedSet])), (q_t_froms, .inl (cI, 30, .inl (upd t_froms0 t_arcs0.toNatClampNeg p1))), (q_t_tos, .inl (cI, 30, .inl (upd t_tos0 t_arcs0.toNatClampNeg p2))), (q_t_weights, .inl (cI, 30, .inl (upd t_weights0 t_arcs0.toNatClampNeg p3))), (q_t_there, .inl (cZ, 30, .inl (upd t_there0 t_arcs0.toNatClampNeg (vp_nar .boolean (1 : Int32)))))] := hD
              refine lv_aload_n hx hb d_Mo_arc_109 rfl (lv_at hl 0 rfl) ?_
              refine va_get (D := D) (ci := 8) (v := .int x3) (C := R_Mo) (T := F_Mo) (N := 22) hx hb hts i_Mo hown hK hP 0 rfl rfl 1 (by decide) (hts _ m_3_129) (fun _ h9 => h9) rfl d_Mo_arc_110 ?_
              refine lv_iconst (v := 1) hx hb d_Mo_arc_113 (by decide) ?_
              refine lv_isub hx hb d_Mo_arc_114 ?_
              exact hret 115 _ _ _ (x3 - (1 : Int32)) (upd t_froms0 t_arcs0.toNatClampNeg p1) (upd t_tos0 t_arcs0.toNatClampNeg p2) (upd t_weights0 t_arcs0.toNatClampNeg p3) (upd t_there0 t_arcs0.toNatClampNeg (vp_nar .boolean (1 : Int32))) x3 x4 d_Mo_arc_115 hP hD hS hf
            · have hf := if_t hc6 hf
              refine lv_bipush (v := -4) hx hb d_Mo_arc_46 (by decide) ?_
              exact hret 48 _ _ _ (-4 : Int32) t_froms0 t_tos0 t_weights0 t_there0 t_arcs0 t_left0 d_Mo_arc_48 hP hD hS hf
          · have hf := if_f hc5 hf
            refine lv_bipush (v := -2) hx hb d_Mo_arc_34 (by decide) ?_
            exact hret 36 _ _ _ (-2 : Int32) t_froms0 t_tos0 t_weights0 t_there0 t_arcs0 t_left0 d_Mo_arc_36 hP hD hS hf
      · have hf := if_t hc3 hf
        refine lv_iconst (v := -1) hx hb d_Mo_arc_21 (by decide) ?_
        exact hret 22 _ _ _ (-1 : Int32) t_froms0 t_tos0 t_weights0 t_there0 t_arcs0 t_left0 d_Mo_arc_22 hP hD hS hf
set_option maxRecDepth 100000 in
set_option maxHeartbeats 4000000 in
theorem c_Mo_arc (l : Launch) (D : va_G) (cI cJ cG cZ : ClassId) (q_t q_t_froms q_t_tos q_t_weights q_t_there q_t_part q_t_matrix q_t_row q_t_low q_t_own q_t_chosen q_t_degrees q_t_fixed q_t_grown q_t_costs q_t_order : Nat) (t_nodes : Int32) (t_arcs0 : Int32) (t_left0 : Int32) (t_swapIn : Int32) (t_swapOut : Int32) (t_boundedSet : Int64) (t_joinedSet : Int64) (t_froms0 : Nat → Int32) (t_tos0 : Nat → Int32) (t_weights0 : Nat → Int32) (t_there0 : Nat → Int32) (p1 : Int32) (p2 : Int32) (p3 : Int32) {r : Int32} {t_froms' : Nat → Int32} {t_tos' : Nat → Int32} {t_weights' : Nat → Int32} {t_there' : Nat → Int32} {t_arcs' : Int32} {t_left' : Int32} (hf : f_Mo_arc p1 p2 p3 t_nodes t_arcs0 t_left0 t_froms0 t_tos0 t_weights0 t_there0 = some (r, t_froms', t_tos', t_weights', t_there', t_arcs', t_left')) : MeG l D CL (TYs cI cJ cG cZ) y_Mo_arc ws_Mo_arc (rm_Mo_arc) [.ref q_t, .int p1, .int p2, .int p3] [(q_t, .inr (8, [.int t_nodes, .int t_arcs0, .int t_left0, .ref q_t_froms, .ref q_t_tos, .ref q_t_weights, .ref q_t_there, .ref q_t_part, .ref q_t_matrix, .ref q_t_row, .ref q_t_low, .int t_swapIn, .int t_swapOut, .ref q_t_own, .ref q_t_chosen, .ref q_t_degrees, .long t_boundedSet, .ref q_t_fixed, .ref q_t_grown, .ref q_t_costs, .ref q_t_order, .long t_joinedSet])), (q_t_froms, .inl (cI, 30, .inl t_froms0)), (q_t_tos, .inl (cI, 30, .inl t_tos0)), (q_t_weights, .inl (cI, 30, .inl t_weights0)), (q_t_there, .inl (cZ, 30, .inl t_there0))] (some (.int r)) [(q_t, .inr (8, [.int t_nodes, .int t_arcs', .int t_left', .ref q_t_froms, .ref q_t_tos, .ref q_t_weights, .ref q_t_there, .ref q_t_part, .ref q_t_matrix, .ref q_t_row, .ref q_t_low, .int t_swapIn, .int t_swapOut, .ref q_t_own, .ref q_t_chosen, .ref q_t_degrees, .long t_boundedSet, .ref q_t_fixed, .ref q_t_grown, .ref q_t_costs, .ref q_t_order, .long t_joinedSet])), (q_t_froms, .inl (cI, 30, .inl t_froms')), (q_t_tos, .inl (cI, 30, .inl t_tos')), (q_t_weights, .inl (cI, 30, .inl t_weights')), (q_t_there, .inl (cZ, 30, .inl t_there'))] := by
  intro sz
  refine Met.ofW (cc := b_Mo_arc) (maxL := 4) (ret := (some .int)) (by decide) rfl ?_
  intro p e s m args below meth c s₁ B hml hv
  obtain ⟨rfl, hsz, hP, hK, hD0⟩ := hv
  subst hsz
  have hD := hD0.self (sz := s.heap.size)
  generalize hAe : va_A [(q_t, .inr (8, [.int t_nodes, .int t_arcs0, .int t_left0, .ref q_t_froms, .ref q_t_tos, .ref q_t_weights, .ref q_t_there, .ref q_t_part, .ref q_t_matrix, .ref q_t_row, .ref q_t_low, .int t_swapIn, .int t_swapOut, .ref q_t_own, .ref q_t_chosen, .ref q_t_degrees, .long t_boundedSet, .ref q_t_fixed, .ref q_t_grown, .ref q_t_costs, .ref q_t_order, .long t_joinedSet])), (q_t_froms, .inl (cI, 30, .inl t_froms0)), (q_t_tos, .inl (cI, 30, .inl t_tos0)), (q_t_weights, .inl (cI, 30, .inl t_weights0)), (q_t_there, .inl (cZ, 30, .inl t_there0))] s.heap.size = A at hD ⊢
  have C0 : CX p (headSpec ws_Mo_arc (rm_Mo_arc)).room s m _ meth c b_Mo_arc 4 R_Mo lw_g D CL (TYs cI cJ cG cZ) A 1 21 := ⟨B.exec, B.bytes, hml, findClass_of_methodNamed B.named, fun w h => atoms_spec (ws := ws_Mo_arc) B.pre w (List.mem_cons_of_mem _ h), hK, fun q h => by rw [← hAe]; exact Or.inr h, Nat.le_of_ble_eq_true rfl, Nat.le_of_ble_eq_true rfl, B.notSynchronized⟩
  have hl := lv_entry ([.ref q_t, .int p1, .int p2, .int p3]) (n := 4) (Nat.le_of_ble_eq_true rfl)
  rw [lg_entry_eq]
  generalize (lg_sl ([.ref q_t, .int p1, .int p2, .int p3]) ++ List.replicate (4 - (lg_sl ([.ref q_t, .int p1, .int p2, .int p3])).length) Slot.unset).toArray = ls at hl ⊢
  have hl : lv_has ls 4 [(0, .ref q_t), (1, .int p1), (2, .int p2), (3, .int p3)] := hl
  exact w_Mo_arc_e C0 (fun pc ls H locs v t_froms t_tos t_weights t_there t_arcs t_left hdg hP hD hS e => by cases e; exact W.iret B.exec B.bytes B.returns (fun t ht hW => ⟨⟨rfl, by rw [ht]; exact hP, va_K.moved hW.alike hK, hD⟩, hS.F ht⟩) hS.2.2 hdg) _ _ _ hP hD va_S.rf (lv_sub hl [0, 1, 2, 3] rfl) hf
abbrev b_Mo_change : ByteArray := prog_11_method_6_code
def y_Mo_change : MethodName := ⟨R_Mo, "change", "(II)I"⟩
def ws_Mo_change : List Cond := .code y_Mo_change b_Mo_change 4 (some .int) :: lw_g
theorem wi_Mo_change : ∀ w ∈ ws_Mo_change, w ∈ lw_g := wi_of m_3_211
abbrev rm_Mo_change : Room := { frames := 1, cells := 0, slots := 0, locals := 21 }
theorem hd_Mo_change : y_Mo_change.cls = R_Mo ∧ y_Mo_change.cls ≠ "java/lang/invoke/MethodHandle" ∧ y_Mo_change.cls ≠ "java/lang/invoke/VarHandle" ∧ (parseMethodDescriptor y_Mo_change.desc).map (fun d => d.parameters.length) = some 2 := by decide +kernel
theorem d_Mo_change_0 : decode b_Mo_change 0 = .ok (.aload_n 0, 1) := by decide +kernel
theorem d_Mo_change_1 : decode b_Mo_change 1 = .ok (.iload_n 1, 1) := by decide +kernel
theorem d_Mo_change_2 : decode b_Mo_change 2 = .ok (.invokevirtual 71, 3) := by decide +kernel
theorem d_Mo_change_5 : decode b_Mo_change 5 = .ok (.ifCond .ne 5, 3) := by decide +kernel
theorem d_Mo_change_8 : decode b_Mo_change 8 = .ok (.iconst (-1), 1) := by decide +kernel
theorem d_Mo_change_9 : decode b_Mo_change 9 = .ok (.ireturn, 1) := by decide +kernel
theorem d_Mo_change_10 : decode b_Mo_change 10 = .ok (.iload_n 2, 1) := by decide +kernel
theorem d_Mo_change_11 : decode b_Mo_change 11 = .ok (.ifCond .lt 10, 3) := by decide +kernel
theorem d_Mo_change_14 : decode b_Mo_change 14 = .ok (.iload_n 2, 1) := by decide +kernel
theorem d_Mo_change_15 : decode b_Mo_change 15 = .ok (.sipush 1000, 3) := by decide +kernel
theorem d_Mo_change_18 : decode b_Mo_change 18 = .ok (.if_icmp .le 6, 3) := by decide +kernel
theorem d_Mo_change_21 : decode b_Mo_change 21 = .ok (.bipush (-2), 2) := by decide +kernel
theorem d_Mo_change_23 : decode b_Mo_change 23 = .ok (.ireturn, 1) := by decide +kernel
theorem d_Mo_change_24 : decode b_Mo_change 24 = .ok (.aload_n 0, 1) := by decide +kernel
theorem d_Mo_change_25 : decode b_Mo_change 25 = .ok (.getfield 16, 3) := by decide +kernel
theorem d_Mo_change_28 : decode b_Mo_change 28 = .ok (.iload_n 1, 1) := by decide +kernel
theorem d_Mo_change_29 : decode b_Mo_change 29 = .ok (.iaload, 1) := by decide +kernel
theorem d_Mo_change_30 : decode b_Mo_change 30 = .ok (.istore_n 3, 1) := by decide +kernel
theorem d_Mo_change_31 : decode b_Mo_change 31 = .ok (.aload_n 0, 1) := by decide +kernel
theorem d_Mo_change_32 : decode b_Mo_change 32 = .ok (.getfield 16, 3) := by decide +kernel
theorem d_Mo_change_35 : decode b_Mo_change 35 = .ok (.iload_n 1, 1) := by decide +kernel
theorem d_Mo_change_36 : decode b_Mo_change 36 = .ok (.iload_n 2, 1) := by decide +kernel
theorem d_Mo_change_37 : decode b_Mo_change 37 = .ok (.iastore, 1) := by decide +kernel
theorem d_Mo_change_38 : decode b_Mo_change 38 = .ok (.iload_n 3, 1) := by decide +kernel
theorem d_Mo_change_39 : decode b_Mo_change 39 = .ok (.ireturn, 1) := by decide +kernel
def f_Mo_change (p1 : Int32) (p2 : Int32) (t_arcs : Int32) (t_there : Nat → Int32) (t_weights0 : Nat → Int32) : Option (Int32 × (Nat → Int32)) :=
  bk1 (f_Mo_isArc p1 t_arcs t_there) fun r1 =>
  if r1 = 0 then
    some ((-1 : Int32), t_weights0)
  else
    if p2 < 0 then
      some ((-2 : Int32), t_weights0)
    else
      if p2 ≤ (1000 : Int32) then
        gd (inb p1 30) <|
        bn (t_weights0 p1.toNatClampNeg) fun x2 =>
        gd (inb p1 30) <|
        some (x2, upd t_weights0 p1.toNatClampNeg p2)
      else
        some ((-2 : Int32), t_weights0)
set_option maxRecDepth 100000 in
set_option maxHeartbeats 4000000 in
theorem w_Mo_change_e {p : Program} {l : Launch} {e : Env} {R : Room} {s : State} {m : MethodId} {args : Array Value} {below : List Frame} {meth : Method} {c : Code} {D : va_G} {cI cJ cG cZ : ClassId} {A : Nat → Prop} {Q : State → Prop} {q_t q_t_froms q_t_tos q_t_weights q_t_there q_t_part q_t_matrix q_t_row q_t_low q_t_own q_t_chosen q_t_degrees q_t_fixed q_t_grown q_t_costs q_t_order : Nat} {t_nodes : Int32} {t_arcs : Int32} {t_left : Int32} {t_swapIn : Int32} {t_swapOut : Int32} {t_boundedSet : Int64} {t_joinedSet : Int64} {t_there : Nat → Int32} {t_weights0 : Nat → Int32} {p1 : Int32} {p2 : Int32} {RR : Int32 × (Nat → Int32)} (C0 : CX p R s m args meth c b_Mo_change 4 R_Mo lw_g D CL (TYs cI cJ cG cZ) A 1 21) (hret : ∀ (pc : Nat) (ls : Array Slot) (H : Heap) (locs : List Loc) (v : Int32) (t_weights : Nat → Int32), decode b_Mo_change pc = .ok (.ireturn, 1) → va_P D CL [(q_t, .inr (8, [.int t_nodes, .int t_arcs, .int t_left, .ref q_t_froms, .ref q_t_tos, .ref q_t_weights, .ref q_t_there, .ref q_t_part, .ref q_t_matrix, .ref q_t_row, .ref q_t_low, .int t_swapIn, .int t_swapOut, .ref q_t_own, .ref q_t_chosen, .ref q_t_degrees, .long t_boundedSet, .ref q_t_fixed, .ref q_t_grown, .ref q_t_costs, .ref q_t_order, .long t_joinedSet])), (q_t_there, .inl (cZ, 30, .inl t_there)), (q_t_weights, .inl (cI, 30, .inl t_weights))] H → va_D A [(q_t, .inr (8, [.int t_nodes, .int t_arcs, .int t_left, .ref q_t_froms, .ref q_t_tos, .ref q_t_weights, .ref q_t_there, .ref q_t_part, .ref q_t_matrix, .ref q_t_row, .ref q_t_low, .int t_swapIn, .int t_swapOut, .ref q_t_own, .ref q_t_chosen, .ref q_t_degrees, .long t_boundedSet, .ref q_t_fixed, .ref q_t_grown, .ref q_t_costs, .ref q_t_order, .long t_joinedSet])), (q_t_there, .inl (cZ, 30, .inl t_there)), (q_t_weights, .inl (cI, 30, .inl t_weights))] → va_S A s.heap H locs → some (v, t_weights) = some RR → W p l e R s m args below meth c H locs 0 0 Q (F0 m pc ls [.int v])) : ∀ (H : Heap) (locs : List Loc) (ls : Array Slot), va_P D CL [(q_t, .inr (8, [.int t_nodes, .int t_arcs, .int t_left, .ref q_t_froms, .ref q_t_tos, .ref q_t_weights, .ref q_t_there, .ref q_t_part, .ref q_t_matrix, .ref q_t_row, .ref q_t_low, .int t_swapIn, .int t_swapOut, .ref q_t_own, .ref q_t_chosen, .ref q_t_degrees, .long t_boundedSet, .ref q_t_fixed, .ref q_t_grown, .ref q_t_costs, .ref q_t_order, .long t_joinedSet])), (q_t_there, .inl (cZ, 30, .inl t_there)), (q_t_weights, .inl (cI, 30, .inl t_weights0))] H → va_D A [(q_t, .inr (8, [.int t_nodes, .int t_arcs, .int t_left, .ref q_t_froms, .ref q_t_tos, .ref q_t_weights, .ref q_t_there, .ref q_t_part, .ref q_t_matrix, .ref q_t_row, .ref q_t_low, .int t_swapIn, .int t_swapOut, .ref q_t_own, .ref q_t_chosen, .ref q_t_degrees, .long t_boundedSet, .ref q_t_fixed, .ref q_t_grown, .ref q_t_costs, .ref q_t_order, .long t_joinedSet])), (q_t_there, .inl (cZ, 30, .inl t_there)), (q_t_weights, .inl (cI, 30, .inl t_weights0))] → va_S A s.heap H locs → lv_has ls 4 [(0, .ref q_t), (1, .int p1), (2, .int p2)] → f_Mo_change p1 p2 t_arcs t_there t_weights0 = some RR → W p l e R s m args below meth c H locs 0 0 Q (F0 m 0 ls []) := by
  intro H locs ls hP hD hS hl hf
  obtain ⟨hx, hb, hml, hown, hts, hK, hA, hfr, hlo, hlk⟩ := id C0
  unfold f_Mo_change at hf
  refine lv_aload_n hx hb d_Mo_change_0 rfl (lv_at hl 0 rfl) ?_
  refine lv_iload_n hx hb d_Mo_change_1 rfl (lv_at hl 1 rfl) ?_
  obtain ⟨r1, hq1, hf⟩ := bk1_e hf
  refine cl_go (wr := [(q_t_weights, .inl (cI, 30, .inl t_weights0))]) (W1 := [(q_t, .inr (8, [.int t_nodes, .int t_arcs, .int t_left, .ref q_t_froms, .ref q_t_tos, .ref q_t_weights, .ref q_t_there, .ref q_t_part, .ref q_t_matrix, .ref q_t_row, .ref q_t_low, .int t_swapIn, .int t_swapOut, .ref q_t_own, .ref q_t_chosen, .ref q_t_degrees, .long t_boundedSet, .ref q_t_fixed, .ref q_t_grown, .ref q_t_costs, .ref q_t_order, .long t_joinedSet])), (q_t_there, .inl (cZ, 30, .inl t_there)), (q_t_weights, .inl (cI, 30, .inl t_weights0))]) (va_runV (As := [.int p1]) (rest := []) ⟨hx, hb, hml, hown, hts⟩ (c_Mo_isArc l D cI cJ cG cZ q_t q_t_froms q_t_tos q_t_weights q_t_there q_t_part q_t_matrix q_t_row q_t_low q_t_own q_t_chosen q_t_degrees q_t_fixed q_t_grown q_t_costs q_t_order t_nodes t_arcs t_left t_swapIn t_swapOut t_boundedSet t_joinedSet t_there p1 hq1 H.size) (cwV 1 hts (gi_V m_3_212 m_3_214 m_0_24 m_1_9 wi_Mo_isArc) rfl rfl rfl hd_Mo_isArc ⟨Nat.le_trans (Nat.le_of_ble_eq_true rfl) hfr, Nat.le_trans (Nat.le_of_ble_eq_true rfl) hlo⟩) ⟨pw_blind, va_recv hK hP (ci := 8) (q0 := 0) rfl rfl, fun U hU hW => ⟨rfl, pw_in hU (hP.sub [0, 1] rfl) (va_K.moved hW.alike hK) ((hD.sub [0, 1] rfl rfl).weaken (fun _ _ _ _ => trivial))⟩⟩ rfl rfl hl.1 rfl (lv_room (Nat.le_of_ble_eq_true rfl)) d_Mo_change_2 ⟨Nat.zero_le _, Nat.zero_le _⟩) hP hD hS hA [0, 1] [2] rfl rfl rfl rfl [1, 2, 0] rfl rfl (fun H locs hP hD hS => ?_)
  have hP : va_P D CL [(q_t, .inr (8, [.int t_nodes, .int t_arcs, .int t_left, .ref q_t_froms, .ref q_t_tos, .ref q_t_weights, .ref q_t_there, .ref q_t_part, .ref q_t_matrix, .ref q_t_row, .ref q_t_low, .int t_swapIn, .int t_swapOut, .ref q_t_own, .ref q_t_chosen, .ref q_t_degrees, .long t_boundedSet, .ref q_t_fixed, .ref q_t_grown, .ref q_t_costs, .ref q_t_order, .long t_joinedSet])), (q_t_there, .inl (cZ, 30, .inl t_there)), (q_t_weights, .inl (cI, 30, .inl t_weights0))] H := hP
  have hD : va_D A [(q_t, .inr (8, [.int t_nodes, .int t_arcs, .int t_left, .ref q_t_froms, .ref q_t_tos, .ref q_t_weights, .ref q_t_there, .ref q_t_part, .ref q_t_matrix, .ref q_t_row, .ref q_t_low, .int t_swapIn, .int t_swapOut, .ref q_t_own, .ref q_t_chosen, .ref q_t_degrees, .long t_boundedSet, .ref q_t_fixed, .ref q_t_grown, .ref q_t_costs, .ref q_t_order, .long t_joinedSet])), (q_t_there, .inl (cZ, 30, .inl t_there)), (q_t_weights, .inl (cI, 30, .inl t_weights0))] := hD
  refine lv_if_ne (tgt := 10) hx hb d_Mo_change_5 (by decide) (fun hc1 => ?_) (fun hc1 => ?_)
  · have hf := if_f hc1 hf
    refine lv_iload_n hx hb d_Mo_change_10 rfl (lv_at hl 2 rfl) ?_
    refine lv_if_lt (tgt := 21) hx hb d_Mo_change_11 (by decide) (fun hc2 => ?_) (fun hc2 => ?_)
    · have hf := if_t hc2 hf
      refine lv_bipush (v := -2) hx hb d_Mo_change_21 (by decide) ?_
      exact hret 23 _ _ _ (-2 : Int32) t_weights0 d_Mo_change_23 hP hD hS hf
    · have hf := if_f hc2 hf
      refine lv_iload_n hx hb d_Mo_change_14 rfl (lv_at hl 2 rfl) ?_
      refine lv_sipush (v := 1000) hx hb d_Mo_change_15 (by decide) ?_
      refine lv_icmp_le (tgt := 24) hx hb d_Mo_change_18 (by decide) (fun hc3 => ?_) (fun hc3 => ?_)
      · have hf := if_t hc3 hf
        refine lv_aload_n hx hb d_Mo_change_24 rfl (lv_at hl 0 rfl) ?_
        refine va_get (D := D) (ci := 8) (v := .ref q_t_weights) (C := R_Mo) (T := F_Mo) (N := 22) hx hb hts i_Mo hown hK hP 0 rfl rfl 5 (by decide) (hts _ m_3_133) (fun _ h9 => h9) rfl d_Mo_change_25 ?_
        refine lv_iload_n hx hb d_Mo_change_28 rfl (lv_at hl 1 rfl) ?_
        obtain ⟨hg1, hf⟩ := gd_e hf
        refine va_iald hx hb hK hP 2 0 rfl rfl (inb_e hg1) d_Mo_change_29 ?_
        refine lv_topi (fun x2 ex2 => ?_)
        have hf := bn_e ex2 hf
        refine lv_istore_n (lv' := [(3, .int x2), (0, .ref q_t), (1, .int p1), (2, .int p2)]) hx hb d_Mo_change_30 rfl hl (by decide) rfl (fun ls hl => ?_)
        refine lv_aload_n hx hb d_Mo_change_31 rfl (lv_at hl 1 rfl) ?_
        refine va_get (D := D) (ci := 8) (v := .ref q_t_weights) (C := R_Mo) (T := F_Mo) (N := 22) hx hb hts i_Mo hown hK hP 0 rfl rfl 5 (by decide) (hts _ m_3_133) (fun _ h9 => h9) rfl d_Mo_change_32 ?_
        refine lv_iload_n hx hb d_Mo_change_35 rfl (lv_at hl 2 rfl) ?_
        refine lv_iload_n hx hb d_Mo_change_36 rfl (lv_at hl 3 rfl) ?_
        obtain ⟨hg2, hf⟩ := gd_e hf
        refine va_iast hx hb hK hP hD hS 2 0 rfl rfl (inb_e hg2) d_Mo_change_37 (fun H locs hP hD hS => ?_)
        have hP : va_P D CL [(q_t, .inr (8, [.int t_nodes, .int t_arcs, .int t_left, .ref q_t_froms, .ref q_t_tos, .ref q_t_weights, .ref q_t_there, .ref q_t_part, .ref q_t_matrix, .ref q_t_row, .ref q_t_low, .int t_swapIn, .int t_swapOut, .ref q_t_own, .ref q_t_chosen, .ref q_t_degrees, .long t_boundedSet, .ref q_t_fixed, .ref q_t_grown, .ref q_t_costs, .ref q_t_order, .long t_joinedSet])), (q_t_there, .inl (cZ, 30, .inl t_there)), (q_t_weights, .inl (cI, 30, .inl (upd t_weights0 p1.toNatClampNeg p2)))] H := hP
        have hD : va_D A [(q_t, .inr (8, [.int t_nodes, .int t_arcs, .int t_left, .ref q_t_froms, .ref q_t_tos, .ref q_t_weights, .ref q_t_there, .ref q_t_part, .ref q_t_matrix, .ref q_t_row, .ref q_t_low, .int t_swapIn, .int t_swapOut, .ref q_t_own, .ref q_t_chosen, .ref q_t_degrees, .long t_boundedSet, .ref q_t_fixed, .ref q_t_grown, .ref q_t_costs, .ref q_t_order, .long t_joinedSet])), (q_t_there, .inl (cZ, 30, .inl t_there)), (q_t_weights, .inl (cI, 30, .inl (upd t_weights0 p1.toNatClampNeg p2)))] := hD
        refine lv_iload_n hx hb d_Mo_change_38 rfl (lv_at hl 0 rfl) ?_
        exact hret 39 _ _ _ x2 (upd t_weights0 p1.toNatClampNeg p2) d_Mo_change_39 hP hD hS hf
      · have hf := if_f hc3 hf
        refine lv_bipush (v := -2) hx hb d_Mo_change_21 (by decide) ?_
        exact hret 23 _ _ _ (-2 : Int32) t_weights0 d_Mo_change_23 hP hD hS hf
  · have hf := if_t hc1 hf
    refine lv_iconst (v := -1) hx hb d_Mo_change_8 (by decide) ?_
    exact hret 9 _ _ _ (-1 : Int32) t_weights0 d_Mo_change_9 hP hD hS hf
set_option maxRecDepth 100000 in
set_option maxHeartbeats 4000000 in
theorem c_Mo_change (l : Launch) (D : va_G) (cI cJ cG cZ : ClassId) (q_t q_t_froms q_t_tos q_t_weights q_t_there q_t_part q_t_matrix q_t_row q_t_low q_t_own q_t_chosen q_t_degrees q_t_fixed q_t_grown q_t_costs q_t_order : Nat) (t_nodes : Int32) (t_arcs : Int32) (t_left : Int32) (t_swapIn : Int32) (t_swapOut : Int32) (t_boundedSet : Int64) (t_joinedSet : Int64) (t_there : Nat → Int32) (t_weights0 : Nat → Int32) (p1 : Int32) (p2 : Int32) {r : Int32} {t_weights' : Nat → Int32} (hf : f_Mo_change p1 p2 t_arcs t_there t_weights0 = some (r, t_weights')) : MeG l D CL (TYs cI cJ cG cZ) y_Mo_change ws_Mo_change (rm_Mo_change) [.ref q_t, .int p1, .int p2] [(q_t, .inr (8, [.int t_nodes, .int t_arcs, .int t_left, .ref q_t_froms, .ref q_t_tos, .ref q_t_weights, .ref q_t_there, .ref q_t_part, .ref q_t_matrix, .ref q_t_row, .ref q_t_low, .int t_swapIn, .int t_swapOut, .ref q_t_own, .ref q_t_chosen, .ref q_t_degrees, .long t_boundedSet, .ref q_t_fixed, .ref q_t_grown, .ref q_t_costs, .ref q_t_order, .long t_joinedSet])), (q_t_there, .inl (cZ, 30, .inl t_there)), (q_t_weights, .inl (cI, 30, .inl t_weights0))] (some (.int r)) [(q_t, .inr (8, [.int t_nodes, .int t_arcs, .int t_left, .ref q_t_froms, .ref q_t_tos, .ref q_t_weights, .ref q_t_there, .ref q_t_part, .ref q_t_matrix, .ref q_t_row, .ref q_t_low, .int t_swapIn, .int t_swapOut, .ref q_t_own, .ref q_t_chosen, .ref q_t_degrees, .long t_boundedSet, .ref q_t_fixed, .ref q_t_grown, .ref q_t_costs, .ref q_t_order, .long t_joinedSet])), (q_t_there, .inl (cZ, 30, .inl t_there)), (q_t_weights, .inl (cI, 30, .inl t_weights'))] := by
  intro sz
  refine Met.ofW (cc := b_Mo_change) (maxL := 4) (ret := (some .int)) (by decide) rfl ?_
  intro p e s m args below meth c s₁ B hml hv
  obtain ⟨rfl, hsz, hP, hK, hD0⟩ := hv
  subst hsz
  have hD := hD0.self (sz := s.heap.size)
  generalize hAe : va_A [(q_t, .inr (8, [.int t_nodes, .int t_arcs, .int t_left, .ref q_t_froms, .ref q_t_tos, .ref q_t_weights, .ref q_t_there, .ref q_t_part, .ref q_t_matrix, .ref q_t_row, .ref q_t_low, .int t_swapIn, .int t_swapOut, .ref q_t_own, .ref q_t_chosen, .ref q_t_degrees, .long t_boundedSet, .ref q_t_fixed, .ref q_t_grown, .ref q_t_costs, .ref q_t_order, .long t_joinedSet])), (q_t_there, .inl (cZ, 30, .inl t_there)), (q_t_weights, .inl (cI, 30, .inl t_weights0))] s.heap.size = A at hD ⊢
  have C0 : CX p (headSpec ws_Mo_change (rm_Mo_change)).room s m _ meth c b_Mo_change 4 R_Mo lw_g D CL (TYs cI cJ cG cZ) A 1 21 := ⟨B.exec, B.bytes, hml, findClass_of_methodNamed B.named, fun w h => atoms_spec (ws := ws_Mo_change) B.pre w (List.mem_cons_of_mem _ h), hK, fun q h => by rw [← hAe]; exact Or.inr h, Nat.le_of_ble_eq_true rfl, Nat.le_of_ble_eq_true rfl, B.notSynchronized⟩
  have hl := lv_entry ([.ref q_t, .int p1, .int p2]) (n := 4) (Nat.le_of_ble_eq_true rfl)
  rw [lg_entry_eq]
  generalize (lg_sl ([.ref q_t, .int p1, .int p2]) ++ List.replicate (4 - (lg_sl ([.ref q_t, .int p1, .int p2])).length) Slot.unset).toArray = ls at hl ⊢
  have hl : lv_has ls 4 [(0, .ref q_t), (1, .int p1), (2, .int p2)] := hl
  exact w_Mo_change_e C0 (fun pc ls H locs v t_weights hdg hP hD hS e => by cases e; exact W.iret B.exec B.bytes B.returns (fun t ht hW => ⟨⟨rfl, by rw [ht]; exact hP, va_K.moved hW.alike hK, hD⟩, hS.F ht⟩) hS.2.2 hdg) _ _ _ hP hD va_S.rf (lv_sub hl [0, 1, 2] rfl) hf
