abbrev b_Mo_unreachedOf : ByteArray := prog_11_method_33_code
def y_Mo_unreachedOf : MethodName := ⟨R_Mo, "unreachedOf", "(I)I"⟩
def ws_Mo_unreachedOf : List Cond := .code y_Mo_unreachedOf b_Mo_unreachedOf 5 (some .int) :: lw_g
theorem wi_Mo_unreachedOf : ∀ w ∈ ws_Mo_unreachedOf, w ∈ lw_g := wi_of m_4_101
abbrev rm_Mo_unreachedOf : Room := { frames := 0, cells := 0, slots := 0, locals := 0 }
theorem hd_Mo_unreachedOf : y_Mo_unreachedOf.cls = R_Mo ∧ y_Mo_unreachedOf.cls ≠ "java/lang/invoke/MethodHandle" ∧ y_Mo_unreachedOf.cls ≠ "java/lang/invoke/VarHandle" ∧ (parseMethodDescriptor y_Mo_unreachedOf.desc).map (fun d => d.parameters.length) = some 1 := by decide +kernel
theorem d_Mo_unreachedOf_0 : decode b_Mo_unreachedOf 0 = .ok (.iconst 1, 1) := by decide +kernel
theorem d_Mo_unreachedOf_1 : decode b_Mo_unreachedOf 1 = .ok (.iload_n 1, 1) := by decide +kernel
theorem d_Mo_unreachedOf_2 : decode b_Mo_unreachedOf 2 = .ok (.ishl, 1) := by decide +kernel
theorem d_Mo_unreachedOf_3 : decode b_Mo_unreachedOf 3 = .ok (.istore_n 2, 1) := by decide +kernel
theorem d_Mo_unreachedOf_4 : decode b_Mo_unreachedOf 4 = .ok (.iconst 0, 1) := by decide +kernel
theorem d_Mo_unreachedOf_5 : decode b_Mo_unreachedOf 5 = .ok (.istore_n 3, 1) := by decide +kernel
theorem d_Mo_unreachedOf_6 : decode b_Mo_unreachedOf 6 = .ok (.iload_n 3, 1) := by decide +kernel
theorem d_Mo_unreachedOf_7 : decode b_Mo_unreachedOf 7 = .ok (.iload_n 2, 1) := by decide +kernel
theorem d_Mo_unreachedOf_8 : decode b_Mo_unreachedOf 8 = .ok (.if_icmp .eq 63, 3) := by decide +kernel
theorem d_Mo_unreachedOf_11 : decode b_Mo_unreachedOf 11 = .ok (.iload_n 2, 1) := by decide +kernel
theorem d_Mo_unreachedOf_12 : decode b_Mo_unreachedOf 12 = .ok (.istore_n 3, 1) := by decide +kernel
theorem d_Mo_unreachedOf_13 : decode b_Mo_unreachedOf 13 = .ok (.iconst 0, 1) := by decide +kernel
theorem d_Mo_unreachedOf_14 : decode b_Mo_unreachedOf 14 = .ok (.istore 4, 2) := by decide +kernel
theorem d_Mo_unreachedOf_16 : decode b_Mo_unreachedOf 16 = .ok (.iload 4, 2) := by decide +kernel
theorem d_Mo_unreachedOf_18 : decode b_Mo_unreachedOf 18 = .ok (.aload_n 0, 1) := by decide +kernel
theorem d_Mo_unreachedOf_19 : decode b_Mo_unreachedOf 19 = .ok (.getfield 61, 3) := by decide +kernel
theorem d_Mo_unreachedOf_22 : decode b_Mo_unreachedOf 22 = .ok (.if_icmp .ge 46, 3) := by decide +kernel
theorem d_Mo_unreachedOf_25 : decode b_Mo_unreachedOf 25 = .ok (.aload_n 0, 1) := by decide +kernel
theorem d_Mo_unreachedOf_26 : decode b_Mo_unreachedOf 26 = .ok (.getfield 19, 3) := by decide +kernel
theorem d_Mo_unreachedOf_29 : decode b_Mo_unreachedOf 29 = .ok (.iload 4, 2) := by decide +kernel
theorem d_Mo_unreachedOf_31 : decode b_Mo_unreachedOf 31 = .ok (.baload, 1) := by decide +kernel
theorem d_Mo_unreachedOf_32 : decode b_Mo_unreachedOf 32 = .ok (.ifCond .eq 30, 3) := by decide +kernel
theorem d_Mo_unreachedOf_35 : decode b_Mo_unreachedOf 35 = .ok (.iload_n 2, 1) := by decide +kernel
theorem d_Mo_unreachedOf_36 : decode b_Mo_unreachedOf 36 = .ok (.aload_n 0, 1) := by decide +kernel
theorem d_Mo_unreachedOf_37 : decode b_Mo_unreachedOf 37 = .ok (.getfield 7, 3) := by decide +kernel
theorem d_Mo_unreachedOf_40 : decode b_Mo_unreachedOf 40 = .ok (.iload 4, 2) := by decide +kernel
theorem d_Mo_unreachedOf_42 : decode b_Mo_unreachedOf 42 = .ok (.iaload, 1) := by decide +kernel
theorem d_Mo_unreachedOf_43 : decode b_Mo_unreachedOf 43 = .ok (.ishr, 1) := by decide +kernel
theorem d_Mo_unreachedOf_44 : decode b_Mo_unreachedOf 44 = .ok (.iconst 1, 1) := by decide +kernel
theorem d_Mo_unreachedOf_45 : decode b_Mo_unreachedOf 45 = .ok (.iand, 1) := by decide +kernel
theorem d_Mo_unreachedOf_46 : decode b_Mo_unreachedOf 46 = .ok (.iconst 1, 1) := by decide +kernel
theorem d_Mo_unreachedOf_47 : decode b_Mo_unreachedOf 47 = .ok (.if_icmp .ne 15, 3) := by decide +kernel
theorem d_Mo_unreachedOf_50 : decode b_Mo_unreachedOf 50 = .ok (.iload_n 2, 1) := by decide +kernel
theorem d_Mo_unreachedOf_51 : decode b_Mo_unreachedOf 51 = .ok (.iconst 1, 1) := by decide +kernel
theorem d_Mo_unreachedOf_52 : decode b_Mo_unreachedOf 52 = .ok (.aload_n 0, 1) := by decide +kernel
theorem d_Mo_unreachedOf_53 : decode b_Mo_unreachedOf 53 = .ok (.getfield 13, 3) := by decide +kernel
theorem d_Mo_unreachedOf_56 : decode b_Mo_unreachedOf 56 = .ok (.iload 4, 2) := by decide +kernel
theorem d_Mo_unreachedOf_58 : decode b_Mo_unreachedOf 58 = .ok (.iaload, 1) := by decide +kernel
theorem d_Mo_unreachedOf_59 : decode b_Mo_unreachedOf 59 = .ok (.ishl, 1) := by decide +kernel
theorem d_Mo_unreachedOf_60 : decode b_Mo_unreachedOf 60 = .ok (.ior, 1) := by decide +kernel
theorem d_Mo_unreachedOf_61 : decode b_Mo_unreachedOf 61 = .ok (.istore_n 2, 1) := by decide +kernel
theorem d_Mo_unreachedOf_62 : decode b_Mo_unreachedOf 62 = .ok (.iinc 4 1, 3) := by decide +kernel
theorem d_Mo_unreachedOf_65 : decode b_Mo_unreachedOf 65 = .ok (.goto (-49), 3) := by decide +kernel
theorem d_Mo_unreachedOf_68 : decode b_Mo_unreachedOf 68 = .ok (.goto (-62), 3) := by decide +kernel
theorem d_Mo_unreachedOf_71 : decode b_Mo_unreachedOf 71 = .ok (.iconst 1, 1) := by decide +kernel
theorem d_Mo_unreachedOf_72 : decode b_Mo_unreachedOf 72 = .ok (.aload_n 0, 1) := by decide +kernel
theorem d_Mo_unreachedOf_73 : decode b_Mo_unreachedOf 73 = .ok (.getfield 57, 3) := by decide +kernel
theorem d_Mo_unreachedOf_76 : decode b_Mo_unreachedOf 76 = .ok (.ishl, 1) := by decide +kernel
theorem d_Mo_unreachedOf_77 : decode b_Mo_unreachedOf 77 = .ok (.iconst 1, 1) := by decide +kernel
theorem d_Mo_unreachedOf_78 : decode b_Mo_unreachedOf 78 = .ok (.isub, 1) := by decide +kernel
theorem d_Mo_unreachedOf_79 : decode b_Mo_unreachedOf 79 = .ok (.iload_n 2, 1) := by decide +kernel
theorem d_Mo_unreachedOf_80 : decode b_Mo_unreachedOf 80 = .ok (.iconst (-1), 1) := by decide +kernel
theorem d_Mo_unreachedOf_81 : decode b_Mo_unreachedOf 81 = .ok (.ixor, 1) := by decide +kernel
theorem d_Mo_unreachedOf_82 : decode b_Mo_unreachedOf 82 = .ok (.iand, 1) := by decide +kernel
theorem d_Mo_unreachedOf_83 : decode b_Mo_unreachedOf 83 = .ok (.ireturn, 1) := by decide +kernel
def g_Mo_unreachedOf_16 (t_arcs : Int32) (t_there : Nat → Int32) (t_froms : Nat → Int32) (t_tos : Nat → Int32) (k6 : Int32 → Int32 → Option (Int32)) (k16 : Int32 → Int32 → Int32 → Option (Int32)) (v2 : Int32) (v3 : Int32) (v4 : Int32) : Option (Int32) :=
  if t_arcs ≤ v4 then
    k6 v2 v3
  else
    gd (inb v4 30) <|
    if (t_there v4.toNatClampNeg) = 0 then
      bn (v4 + (1 : Int32)) fun x1 =>
      k16 v2 v3 x1
    else
      gd (inb v4 30) <|
      if ((v2 >>> ((t_froms v4.toNatClampNeg) &&& 31)) &&& (1 : Int32)) = (1 : Int32) then
        gd (inb v4 30) <|
        bn (v2 ||| ((1 : Int32) <<< ((t_tos v4.toNatClampNeg) &&& 31))) fun x3 =>
        bn (v4 + (1 : Int32)) fun x4 =>
        k16 x3 v3 x4
      else
        bn (v4 + (1 : Int32)) fun x2 =>
        k16 v2 v3 x2
def g_Mo_unreachedOf_6 (N : Nat) (t_nodes : Int32) (t_arcs : Int32) (t_there : Nat → Int32) (t_froms : Nat → Int32) (t_tos : Nat → Int32) (k6 : Int32 → Int32 → Option (Int32)) (v2 : Int32) (v3 : Int32) : Option (Int32) :=
  if v3 = v2 then
    some ((((1 : Int32) <<< (t_nodes &&& 31)) - (1 : Int32)) &&& (v2 ^^^ (-1 : Int32)))
  else
    lo3 (g_Mo_unreachedOf_16 t_arcs t_there t_froms t_tos k6) N v2 v2 (0 : Int32)
def f_Mo_unreachedOf (N : Nat) (p1 : Int32) (t_nodes : Int32) (t_arcs : Int32) (t_there : Nat → Int32) (t_froms : Nat → Int32) (t_tos : Nat → Int32) : Option (Int32) :=
  bn ((1 : Int32) <<< (p1 &&& 31)) fun x1 =>
  lo2 (g_Mo_unreachedOf_6 N t_nodes t_arcs t_there t_froms t_tos) N x1 (0 : Int32)
set_option maxRecDepth 100000 in
set_option maxHeartbeats 4000000 in
theorem w_Mo_unreachedOf_16 {p : Program} {l : Launch} {e : Env} {R : Room} {s : State} {m : MethodId} {args : Array Value} {below : List Frame} {meth : Method} {c : Code} {D : va_G} {cI cJ cG cZ : ClassId} {A : Nat → Prop} {Q : State → Prop} {q_t q_t_froms q_t_tos q_t_weights q_t_there q_t_part q_t_matrix q_t_row q_t_low q_t_own q_t_chosen q_t_degrees q_t_fixed q_t_grown q_t_costs q_t_order : Nat} {t_nodes : Int32} {t_arcs : Int32} {t_left : Int32} {t_swapIn : Int32} {t_swapOut : Int32} {t_boundedSet : Int64} {t_joinedSet : Int64} {t_there : Nat → Int32} {t_froms : Nat → Int32} {t_tos : Nat → Int32} {RR : Int32} (C0 : CX p R s m args meth c b_Mo_unreachedOf 5 R_Mo lw_g D CL (TYs cI cJ cG cZ) A 0 0) (hret : ∀ (pc : Nat) (ls : Array Slot) (H : Heap) (locs : List Loc) (v : Int32) , decode b_Mo_unreachedOf pc = .ok (.ireturn, 1) → va_P D CL [(q_t, .inr (8, [.int t_nodes, .int t_arcs, .int t_left, .ref q_t_froms, .ref q_t_tos, .ref q_t_weights, .ref q_t_there, .ref q_t_part, .ref q_t_matrix, .ref q_t_row, .ref q_t_low, .int t_swapIn, .int t_swapOut, .ref q_t_own, .ref q_t_chosen, .ref q_t_degrees, .long t_boundedSet, .ref q_t_fixed, .ref q_t_grown, .ref q_t_costs, .ref q_t_order, .long t_joinedSet])), (q_t_there, .inl (cZ, 30, .inl t_there)), (q_t_froms, .inl (cI, 30, .inl t_froms)), (q_t_tos, .inl (cI, 30, .inl t_tos))] H → va_D A [(q_t, .inr (8, [.int t_nodes, .int t_arcs, .int t_left, .ref q_t_froms, .ref q_t_tos, .ref q_t_weights, .ref q_t_there, .ref q_t_part, .ref q_t_matrix, .ref q_t_row, .ref q_t_low, .int t_swapIn, .int t_swapOut, .ref q_t_own, .ref q_t_chosen, .ref q_t_degrees, .long t_boundedSet, .ref q_t_fixed, .ref q_t_grown, .ref q_t_costs, .ref q_t_order, .long t_joinedSet])), (q_t_there, .inl (cZ, 30, .inl t_there)), (q_t_froms, .inl (cI, 30, .inl t_froms)), (q_t_tos, .inl (cI, 30, .inl t_tos))] → va_S A s.heap H locs → some (v) = some RR → W p l e R s m args below meth c H locs 0 0 Q (F0 m pc ls [.int v])) (k6 : Int32 → Int32 → Option (Int32)) (hk6 : ∀ (v2 : Int32) (v3 : Int32) (H : Heap) (locs : List Loc) (ls : Array Slot), va_P D CL [(q_t, .inr (8, [.int t_nodes, .int t_arcs, .int t_left, .ref q_t_froms, .ref q_t_tos, .ref q_t_weights, .ref q_t_there, .ref q_t_part, .ref q_t_matrix, .ref q_t_row, .ref q_t_low, .int t_swapIn, .int t_swapOut, .ref q_t_own, .ref q_t_chosen, .ref q_t_degrees, .long t_boundedSet, .ref q_t_fixed, .ref q_t_grown, .ref q_t_costs, .ref q_t_order, .long t_joinedSet])), (q_t_there, .inl (cZ, 30, .inl t_there)), (q_t_froms, .inl (cI, 30, .inl t_froms)), (q_t_tos, .inl (cI, 30, .inl t_tos))] H → va_D A [(q_t, .inr (8, [.int t_nodes, .int t_arcs, .int t_left, .ref q_t_froms, .ref q_t_tos, .ref q_t_weights, .ref q_t_there, .ref q_t_part, .ref q_t_matrix, .ref q_t_row, .ref q_t_low, .int t_swapIn, .int t_swapOut, .ref q_t_own, .ref q_t_chosen, .ref q_t_degrees, .long t_boundedSet, .ref q_t_fixed, .ref q_t_grown, .ref q_t_costs, .ref q_t_order, .long t_joinedSet])), (q_t_there, .inl (cZ, 30, .inl t_there)), (q_t_froms, .inl (cI, 30, .inl t_froms)), (q_t_tos, .inl (cI, 30, .inl t_tos))] → va_S A s.heap H locs → lv_has ls 5 [(0, .ref q_t), (2, .int v2), (3, .int v3)] → k6 v2 v3 = some RR → W p l e R s m args below meth c H locs 0 0 Q (F0 m 6 ls [])) (k16 : Int32 → Int32 → Int32 → Option (Int32)) (hk16 : ∀ (v2 : Int32) (v3 : Int32) (v4 : Int32) (H : Heap) (locs : List Loc) (ls : Array Slot), va_P D CL [(q_t, .inr (8, [.int t_nodes, .int t_arcs, .int t_left, .ref q_t_froms, .ref q_t_tos, .ref q_t_weights, .ref q_t_there, .ref q_t_part, .ref q_t_matrix, .ref q_t_row, .ref q_t_low, .int t_swapIn, .int t_swapOut, .ref q_t_own, .ref q_t_chosen, .ref q_t_degrees, .long t_boundedSet, .ref q_t_fixed, .ref q_t_grown, .ref q_t_costs, .ref q_t_order, .long t_joinedSet])), (q_t_there, .inl (cZ, 30, .inl t_there)), (q_t_froms, .inl (cI, 30, .inl t_froms)), (q_t_tos, .inl (cI, 30, .inl t_tos))] H → va_D A [(q_t, .inr (8, [.int t_nodes, .int t_arcs, .int t_left, .ref q_t_froms, .ref q_t_tos, .ref q_t_weights, .ref q_t_there, .ref q_t_part, .ref q_t_matrix, .ref q_t_row, .ref q_t_low, .int t_swapIn, .int t_swapOut, .ref q_t_own, .ref q_t_chosen, .ref q_t_degrees, .long t_boundedSet, .ref q_t_fixed, .ref q_t_grown, .ref q_t_costs, .ref q_t_order, .long t_joinedSet])), (q_t_there, .inl (cZ, 30, .inl t_there)), (q_t_froms, .inl (cI, 30, .inl t_froms)), (q_t_tos, .inl (cI, 30, .inl t_tos))] → va_S A s.heap H locs → lv_has ls 5 [(0, .ref q_t), (2, .int v2), (3, .int v3), (4, .int v4)] → k16 v2 v3 v4 = some RR → W p l e R s m args below meth c H locs 0 0 Q (F0 m 16 ls [])) : ∀ (v2 : Int32) (v3 : Int32) (v4 : Int32) (H : Heap) (locs : List Loc) (ls : Array Slot), va_P D CL [(q_t, .inr (8, [.int t_nodes, .int t_arcs, .int t_left, .ref q_t_froms, .ref q_t_tos, .ref q_t_weights, .ref q_t_there, .ref q_t_part, .ref q_t_matrix, .ref q_t_row, .ref q_t_low, .int t_swapIn, .int t_swapOut, .ref q_t_own, .ref q_t_chosen, .ref q_t_degrees, .long t_boundedSet, .ref q_t_fixed, .ref q_t_grown, .ref q_t_costs, .ref q_t_order, .long t_joinedSet])), (q_t_there, .inl (cZ, 30, .inl t_there)), (q_t_froms, .inl (cI, 30, .inl t_froms)), (q_t_tos, .inl (cI, 30, .inl t_tos))] H → va_D A [(q_t, .inr (8, [.int t_nodes, .int t_arcs, .int t_left, .ref q_t_froms, .ref q_t_tos, .ref q_t_weights, .ref q_t_there, .ref q_t_part, .ref q_t_matrix, .ref q_t_row, .ref q_t_low, .int t_swapIn, .int t_swapOut, .ref q_t_own, .ref q_t_chosen, .ref q_t_degrees, .long t_boundedSet, .ref q_t_fixed, .ref q_t_grown, .ref q_t_costs, .ref q_t_order, .long t_joinedSet])), (q_t_there, .inl (cZ, 30, .inl t_there)), (q_t_froms, .inl (cI, 30, .inl t_froms)), (q_t_tos, .inl (cI, 30, .inl t_tos))] → va_S A s.heap H locs → lv_has ls 5 [(0, .ref q_t), (2, .int v2), (3, .int v3), (4, .int v4)] → g_Mo_unreachedOf_16 t_arcs t_there t_froms t_tos k6 k16 v2 v3 v4 = some RR → W p l e R s m args below meth c H locs 0 0 Q (F0 m 16 ls []) := by
  intro v2 v3 v4 H locs ls hP hD hS hl hf
  obtain ⟨hx, hb, hml, hown, hts, hK, hA, hfr, hlo, hlk⟩ := id C0
  unfold g_Mo_unreachedOf_16 at hf
  refine lv_iload hx hb d_Mo_unreachedOf_16 (lv_at hl 3 rfl) ?_
  refine lv_aload_n hx hb d_Mo_unreachedOf_18 rfl (lv_at hl 0 rfl) ?_
  refine va_get (D := D) (ci := 8) (v := .int t_arcs) (C := R_Mo) (T := F_Mo) (N := 22) hx hb hts i_Mo hown hK hP 0 rfl rfl 1 (by decide) (hts _ m_3_129) (fun _ h9 => h9) rfl d_Mo_unreachedOf_19 ?_
  refine lv_icmp_ge (tgt := 68) hx hb d_Mo_unreachedOf_22 (by decide) (fun hc1 => ?_) (fun hc1 => ?_)
  · have hf := if_t hc1 hf
    refine lv_goto (tgt := 6) hx hb d_Mo_unreachedOf_68 (by decide) ?_
    exact hk6 v2 v3 _ _ _ hP hD hS (lv_sub hl [0, 1, 2] rfl) hf
  · have hf := if_f hc1 hf
    refine lv_aload_n hx hb d_Mo_unreachedOf_25 rfl (lv_at hl 0 rfl) ?_
    refine va_get (D := D) (ci := 8) (v := .ref q_t_there) (C := R_Mo) (T := F_Mo) (N := 22) hx hb hts i_Mo hown hK hP 0 rfl rfl 6 (by decide) (hts _ m_3_134) (fun _ h9 => h9) rfl d_Mo_unreachedOf_26 ?_
    refine lv_iload hx hb d_Mo_unreachedOf_29 (lv_at hl 3 rfl) ?_
    obtain ⟨hg1, hf⟩ := gd_e hf
    refine va_zald hx hb hK hP 1 3 rfl rfl (inb_e hg1) d_Mo_unreachedOf_31 ?_
    refine lv_if_eq (tgt := 62) hx hb d_Mo_unreachedOf_32 (by decide) (fun hc2 => ?_) (fun hc2 => ?_)
    · have hf := if_t hc2 hf
      obtain ⟨x1, ex1⟩ : ∃ y : Int32, y = v4 + (1 : Int32) := ⟨_, rfl⟩
      have hf := bn_e ex1 hf
      refine lv_iinc (v := x1) (lv' := [(4, .int x1), (0, .ref q_t), (2, .int v2), (3, .int v3)]) hx hb d_Mo_unreachedOf_62 hl (k := 3) rfl (by rw [ex1]; rfl) (by decide) rfl (fun ls hl => ?_)
      refine lv_goto (tgt := 16) hx hb d_Mo_unreachedOf_65 (by decide) ?_
      exact hk16 v2 v3 x1 _ _ _ hP hD hS (lv_sub hl [1, 2, 3, 0] rfl) hf
    · have hf := if_f hc2 hf
      refine lv_iload_n hx hb d_Mo_unreachedOf_35 rfl (lv_at hl 1 rfl) ?_
      refine lv_aload_n hx hb d_Mo_unreachedOf_36 rfl (lv_at hl 0 rfl) ?_
      refine va_get (D := D) (ci := 8) (v := .ref q_t_froms) (C := R_Mo) (T := F_Mo) (N := 22) hx hb hts i_Mo hown hK hP 0 rfl rfl 3 (by decide) (hts _ m_3_131) (fun _ h9 => h9) rfl d_Mo_unreachedOf_37 ?_
      refine lv_iload hx hb d_Mo_unreachedOf_40 (lv_at hl 3 rfl) ?_
      obtain ⟨hg2, hf⟩ := gd_e hf
      refine va_iald hx hb hK hP 2 0 rfl rfl (inb_e hg2) d_Mo_unreachedOf_42 ?_
      refine lv_ishr hx hb d_Mo_unreachedOf_43 ?_
      refine lv_iconst (v := 1) hx hb d_Mo_unreachedOf_44 (by decide) ?_
      refine lv_iand hx hb d_Mo_unreachedOf_45 ?_
      refine lv_iconst (v := 1) hx hb d_Mo_unreachedOf_46 (by decide) ?_
      refine lv_icmp_ne (tgt := 62) hx hb d_Mo_unreachedOf_47 (by decide) (fun hc3 => ?_) (fun hc3 => ?_)
      · have hf := if_f hc3 hf
        obtain ⟨x2, ex2⟩ : ∃ y : Int32, y = v4 + (1 : Int32) := ⟨_, rfl⟩
        have hf := bn_e ex2 hf
        refine lv_iinc (v := x2) (lv' := [(4, .int x2), (0, .ref q_t), (2, .int v2), (3, .int v3)]) hx hb d_Mo_unreachedOf_62 hl (k := 3) rfl (by rw [ex2]; rfl) (by decide) rfl (fun ls hl => ?_)
        refine lv_goto (tgt := 16) hx hb d_Mo_unreachedOf_65 (by decide) ?_
        exact hk16 v2 v3 x2 _ _ _ hP hD hS (lv_sub hl [1, 2, 3, 0] rfl) hf
      · have hf := if_t hc3 hf
        refine lv_iload_n hx hb d_Mo_unreachedOf_50 rfl (lv_at hl 1 rfl) ?_
        refine lv_iconst (v := 1) hx hb d_Mo_unreachedOf_51 (by decide) ?_
        refine lv_aload_n hx hb d_Mo_unreachedOf_52 rfl (lv_at hl 0 rfl) ?_
        refine va_get (D := D) (ci := 8) (v := .ref q_t_tos) (C := R_Mo) (T := F_Mo) (N := 22) hx hb hts i_Mo hown hK hP 0 rfl rfl 4 (by decide) (hts _ m_3_132) (fun _ h9 => h9) rfl d_Mo_unreachedOf_53 ?_
        refine lv_iload hx hb d_Mo_unreachedOf_56 (lv_at hl 3 rfl) ?_
        obtain ⟨hg3, hf⟩ := gd_e hf
        refine va_iald hx hb hK hP 3 0 rfl rfl (inb_e hg3) d_Mo_unreachedOf_58 ?_
        refine lv_ishl hx hb d_Mo_unreachedOf_59 ?_
        refine lv_ior hx hb d_Mo_unreachedOf_60 ?_
        refine lv_topi (fun x3 ex3 => ?_)
        have hf := bn_e ex3 hf
        refine lv_istore_n (lv' := [(2, .int x3), (0, .ref q_t), (3, .int v3), (4, .int v4)]) hx hb d_Mo_unreachedOf_61 rfl hl (by decide) rfl (fun ls hl => ?_)
        obtain ⟨x4, ex4⟩ : ∃ y : Int32, y = v4 + (1 : Int32) := ⟨_, rfl⟩
        have hf := bn_e ex4 hf
        refine lv_iinc (v := x4) (lv' := [(4, .int x4), (2, .int x3), (0, .ref q_t), (3, .int v3)]) hx hb d_Mo_unreachedOf_62 hl (k := 3) rfl (by rw [ex4]; rfl) (by decide) rfl (fun ls hl => ?_)
        refine lv_goto (tgt := 16) hx hb d_Mo_unreachedOf_65 (by decide) ?_
        exact hk16 x3 v3 x4 _ _ _ hP hD hS (lv_sub hl [2, 1, 3, 0] rfl) hf
set_option maxRecDepth 100000 in
set_option maxHeartbeats 4000000 in
theorem w_Mo_unreachedOf_16_l {p : Program} {l : Launch} {e : Env} {R : Room} {s : State} {m : MethodId} {args : Array Value} {below : List Frame} {meth : Method} {c : Code} {D : va_G} {cI cJ cG cZ : ClassId} {A : Nat → Prop} {Q : State → Prop} {q_t q_t_froms q_t_tos q_t_weights q_t_there q_t_part q_t_matrix q_t_row q_t_low q_t_own q_t_chosen q_t_degrees q_t_fixed q_t_grown q_t_costs q_t_order : Nat} {t_nodes : Int32} {t_arcs : Int32} {t_left : Int32} {t_swapIn : Int32} {t_swapOut : Int32} {t_boundedSet : Int64} {t_joinedSet : Int64} {t_there : Nat → Int32} {t_froms : Nat → Int32} {t_tos : Nat → Int32} {RR : Int32} (C0 : CX p R s m args meth c b_Mo_unreachedOf 5 R_Mo lw_g D CL (TYs cI cJ cG cZ) A 0 0) (hret : ∀ (pc : Nat) (ls : Array Slot) (H : Heap) (locs : List Loc) (v : Int32) , decode b_Mo_unreachedOf pc = .ok (.ireturn, 1) → va_P D CL [(q_t, .inr (8, [.int t_nodes, .int t_arcs, .int t_left, .ref q_t_froms, .ref q_t_tos, .ref q_t_weights, .ref q_t_there, .ref q_t_part, .ref q_t_matrix, .ref q_t_row, .ref q_t_low, .int t_swapIn, .int t_swapOut, .ref q_t_own, .ref q_t_chosen, .ref q_t_degrees, .long t_boundedSet, .ref q_t_fixed, .ref q_t_grown, .ref q_t_costs, .ref q_t_order, .long t_joinedSet])), (q_t_there, .inl (cZ, 30, .inl t_there)), (q_t_froms, .inl (cI, 30, .inl t_froms)), (q_t_tos, .inl (cI, 30, .inl t_tos))] H → va_D A [(q_t, .inr (8, [.int t_nodes, .int t_arcs, .int t_left, .ref q_t_froms, .ref q_t_tos, .ref q_t_weights, .ref q_t_there, .ref q_t_part, .ref q_t_matrix, .ref q_t_row, .ref q_t_low, .int t_swapIn, .int t_swapOut, .ref q_t_own, .ref q_t_chosen, .ref q_t_degrees, .long t_boundedSet, .ref q_t_fixed, .ref q_t_grown, .ref q_t_costs, .ref q_t_order, .long t_joinedSet])), (q_t_there, .inl (cZ, 30, .inl t_there)), (q_t_froms, .inl (cI, 30, .inl t_froms)), (q_t_tos, .inl (cI, 30, .inl t_tos))] → va_S A s.heap H locs → some (v) = some RR → W p l e R s m args below meth c H locs 0 0 Q (F0 m pc ls [.int v])) (k6 : Int32 → Int32 → Option (Int32)) (hk6 : ∀ (v2 : Int32) (v3 : Int32) (H : Heap) (locs : List Loc) (ls : Array Slot), va_P D CL [(q_t, .inr (8, [.int t_nodes, .int t_arcs, .int t_left, .ref q_t_froms, .ref q_t_tos, .ref q_t_weights, .ref q_t_there, .ref q_t_part, .ref q_t_matrix, .ref q_t_row, .ref q_t_low, .int t_swapIn, .int t_swapOut, .ref q_t_own, .ref q_t_chosen, .ref q_t_degrees, .long t_boundedSet, .ref q_t_fixed, .ref q_t_grown, .ref q_t_costs, .ref q_t_order, .long t_joinedSet])), (q_t_there, .inl (cZ, 30, .inl t_there)), (q_t_froms, .inl (cI, 30, .inl t_froms)), (q_t_tos, .inl (cI, 30, .inl t_tos))] H → va_D A [(q_t, .inr (8, [.int t_nodes, .int t_arcs, .int t_left, .ref q_t_froms, .ref q_t_tos, .ref q_t_weights, .ref q_t_there, .ref q_t_part, .ref q_t_matrix, .ref q_t_row, .ref q_t_low, .int t_swapIn, .int t_swapOut, .ref q_t_own, .ref q_t_chosen, .ref q_t_degrees, .long t_boundedSet, .ref q_t_fixed, .ref q_t_grown, .ref q_t_costs, .ref q_t_order, .long t_joinedSet])), (q_t_there, .inl (cZ, 30, .inl t_there)), (q_t_froms, .inl (cI, 30, .inl t_froms)), (q_t_tos, .inl (cI, 30, .inl t_tos))] → va_S A s.heap H locs → lv_has ls 5 [(0, .ref q_t), (2, .int v2), (3, .int v3)] → k6 v2 v3 = some RR → W p l e R s m args below meth c H locs 0 0 Q (F0 m 6 ls [])) : ∀ (n : Nat) (v2 : Int32) (v3 : Int32) (v4 : Int32) (H : Heap) (locs : List Loc) (ls : Array Slot), va_P D CL [(q_t, .inr (8, [.int t_nodes, .int t_arcs, .int t_left, .ref q_t_froms, .ref q_t_tos, .ref q_t_weights, .ref q_t_there, .ref q_t_part, .ref q_t_matrix, .ref q_t_row, .ref q_t_low, .int t_swapIn, .int t_swapOut, .ref q_t_own, .ref q_t_chosen, .ref q_t_degrees, .long t_boundedSet, .ref q_t_fixed, .ref q_t_grown, .ref q_t_costs, .ref q_t_order, .long t_joinedSet])), (q_t_there, .inl (cZ, 30, .inl t_there)), (q_t_froms, .inl (cI, 30, .inl t_froms)), (q_t_tos, .inl (cI, 30, .inl t_tos))] H → va_D A [(q_t, .inr (8, [.int t_nodes, .int t_arcs, .int t_left, .ref q_t_froms, .ref q_t_tos, .ref q_t_weights, .ref q_t_there, .ref q_t_part, .ref q_t_matrix, .ref q_t_row, .ref q_t_low, .int t_swapIn, .int t_swapOut, .ref q_t_own, .ref q_t_chosen, .ref q_t_degrees, .long t_boundedSet, .ref q_t_fixed, .ref q_t_grown, .ref q_t_costs, .ref q_t_order, .long t_joinedSet])), (q_t_there, .inl (cZ, 30, .inl t_there)), (q_t_froms, .inl (cI, 30, .inl t_froms)), (q_t_tos, .inl (cI, 30, .inl t_tos))] → va_S A s.heap H locs → lv_has ls 5 [(0, .ref q_t), (2, .int v2), (3, .int v3), (4, .int v4)] → lo3 (g_Mo_unreachedOf_16 t_arcs t_there t_froms t_tos k6) n v2 v3 v4 = some RR → W p l e R s m args below meth c H locs 0 0 Q (F0 m 16 ls []) := by
  intro n
  induction n with
  | zero =>
    intro v2 v3 v4 H locs ls hP hD hS hl hf
    exact absurd hf (by simp [lo3])
  | succ n ih =>
    intro v2 v3 v4 H locs ls hP hD hS hl hf
    exact w_Mo_unreachedOf_16 C0 hret k6 hk6 (lo3 (g_Mo_unreachedOf_16 t_arcs t_there t_froms t_tos k6) n) ih v2 v3 v4 H locs ls hP hD hS hl hf
set_option maxRecDepth 100000 in
set_option maxHeartbeats 4000000 in
theorem w_Mo_unreachedOf_6 {p : Program} {l : Launch} {e : Env} {R : Room} {s : State} {m : MethodId} {args : Array Value} {below : List Frame} {meth : Method} {c : Code} {D : va_G} {cI cJ cG cZ : ClassId} {A : Nat → Prop} {Q : State → Prop} {q_t q_t_froms q_t_tos q_t_weights q_t_there q_t_part q_t_matrix q_t_row q_t_low q_t_own q_t_chosen q_t_degrees q_t_fixed q_t_grown q_t_costs q_t_order : Nat} {t_nodes : Int32} {t_arcs : Int32} {t_left : Int32} {t_swapIn : Int32} {t_swapOut : Int32} {t_boundedSet : Int64} {t_joinedSet : Int64} {t_there : Nat → Int32} {t_froms : Nat → Int32} {t_tos : Nat → Int32} {N : Nat} {RR : Int32} (C0 : CX p R s m args meth c b_Mo_unreachedOf 5 R_Mo lw_g D CL (TYs cI cJ cG cZ) A 0 0) (hret : ∀ (pc : Nat) (ls : Array Slot) (H : Heap) (locs : List Loc) (v : Int32) , decode b_Mo_unreachedOf pc = .ok (.ireturn, 1) → va_P D CL [(q_t, .inr (8, [.int t_nodes, .int t_arcs, .int t_left, .ref q_t_froms, .ref q_t_tos, .ref q_t_weights, .ref q_t_there, .ref q_t_part, .ref q_t_matrix, .ref q_t_row, .ref q_t_low, .int t_swapIn, .int t_swapOut, .ref q_t_own, .ref q_t_chosen, .ref q_t_degrees, .long t_boundedSet, .ref q_t_fixed, .ref q_t_grown, .ref q_t_costs, .ref q_t_order, .long t_joinedSet])), (q_t_there, .inl (cZ, 30, .inl t_there)), (q_t_froms, .inl (cI, 30, .inl t_froms)), (q_t_tos, .inl (cI, 30, .inl t_tos))] H → va_D A [(q_t, .inr (8, [.int t_nodes, .int t_arcs, .int t_left, .ref q_t_froms, .ref q_t_tos, .ref q_t_weights, .ref q_t_there, .ref q_t_part, .ref q_t_matrix, .ref q_t_row, .ref q_t_low, .int t_swapIn, .int t_swapOut, .ref q_t_own, .ref q_t_chosen, .ref q_t_degrees, .long t_boundedSet, .ref q_t_fixed, .ref q_t_grown, .ref q_t_costs, .ref q_t_order, .long t_joinedSet])), (q_t_there, .inl (cZ, 30, .inl t_there)), (q_t_froms, .inl (cI, 30, .inl t_froms)), (q_t_tos, .inl (cI, 30, .inl t_tos))] → va_S A s.heap H locs → some (v) = some RR → W p l e R s m args below meth c H locs 0 0 Q (F0 m pc ls [.int v])) (k6 : Int32 → Int32 → Option (Int32)) (hk6 : ∀ (v2 : Int32) (v3 : Int32) (H : Heap) (locs : List Loc) (ls : Array Slot), va_P D CL [(q_t, .inr (8, [.int t_nodes, .int t_arcs, .int t_left, .ref q_t_froms, .ref q_t_tos, .ref q_t_weights, .ref q_t_there, .ref q_t_part, .ref q_t_matrix, .ref q_t_row, .ref q_t_low, .int t_swapIn, .int t_swapOut, .ref q_t_own, .ref q_t_chosen, .ref q_t_degrees, .long t_boundedSet, .ref q_t_fixed, .ref q_t_grown, .ref q_t_costs, .ref q_t_order, .long t_joinedSet])), (q_t_there, .inl (cZ, 30, .inl t_there)), (q_t_froms, .inl (cI, 30, .inl t_froms)), (q_t_tos, .inl (cI, 30, .inl t_tos))] H → va_D A [(q_t, .inr (8, [.int t_nodes, .int t_arcs, .int t_left, .ref q_t_froms, .ref q_t_tos, .ref q_t_weights, .ref q_t_there, .ref q_t_part, .ref q_t_matrix, .ref q_t_row, .ref q_t_low, .int t_swapIn, .int t_swapOut, .ref q_t_own, .ref q_t_chosen, .ref q_t_degrees, .long t_boundedSet, .ref q_t_fixed, .ref q_t_grown, .ref q_t_costs, .ref q_t_order, .long t_joinedSet])), (q_t_there, .inl (cZ, 30, .inl t_there)), (q_t_froms, .inl (cI, 30, .inl t_froms)), (q_t_tos, .inl (cI, 30, .inl t_tos))] → va_S A s.heap H locs → lv_has ls 5 [(0, .ref q_t), (2, .int v2), (3, .int v3)] → k6 v2 v3 = some RR → W p l e R s m args below meth c H locs 0 0 Q (F0 m 6 ls [])) : ∀ (v2 : Int32) (v3 : Int32) (H : Heap) (locs : List Loc) (ls : Array Slot), va_P D CL [(q_t, .inr (8, [.int t_nodes, .int t_arcs, .int t_left, .ref q_t_froms, .ref q_t_tos, .ref q_t_weights, .ref q_t_there, .ref q_t_part, .ref q_t_matrix, .ref q_t_row, .ref q_t_low, .int t_swapIn, .int t_swapOut, .ref q_t_own, .ref q_t_chosen, .ref q_t_degrees, .long t_boundedSet, .ref q_t_fixed, .ref q_t_grown, .ref q_t_costs, .ref q_t_order, .long t_joinedSet])), (q_t_there, .inl (cZ, 30, .inl t_there)), (q_t_froms, .inl (cI, 30, .inl t_froms)), (q_t_tos, .inl (cI, 30, .inl t_tos))] H → va_D A [(q_t, .inr (8, [.int t_nodes, .int t_arcs, .int t_left, .ref q_t_froms, .ref q_t_tos, .ref q_t_weights, .ref q_t_there, .ref q_t_part, .ref q_t_matrix, .ref q_t_row, .ref q_t_low, .int t_swapIn, .int t_swapOut, .ref q_t_own, .ref q_t_chosen, .ref q_t_degrees, .long t_boundedSet, .ref q_t_fixed, .ref q_t_grown, .ref q_t_costs, .ref q_t_order, .long t_joinedSet])), (q_t_there, .inl (cZ, 30, .inl t_there)), (q_t_froms, .inl (cI, 30, .inl t_froms)), (q_t_tos, .inl (cI, 30, .inl t_tos))] → va_S A s.heap H locs → lv_has ls 5 [(0, .ref q_t), (2, .int v2), (3, .int v3)] → g_Mo_unreachedOf_6 N t_nodes t_arcs t_there t_froms t_tos k6 v2 v3 = some RR → W p l e R s m args below meth c H locs 0 0 Q (F0 m 6 ls []) := by
  intro v2 v3 H locs ls hP hD hS hl hf
  obtain ⟨hx, hb, hml, hown, hts, hK, hA, hfr, hlo, hlk⟩ := id C0
  unfold g_Mo_unreachedOf_6 at hf
  refine lv_iload_n hx hb d_Mo_unreachedOf_6 rfl (lv_at hl 2 rfl) ?_
  refine lv_iload_n hx hb d_Mo_unreachedOf_7 rfl (lv_at hl 1 rfl) ?_
  refine lv_icmp_eq (tgt := 71) hx hb d_Mo_unreachedOf_8 (by decide) (fun hc1 => ?_) (fun hc1 => ?_)
  · have hf := if_t hc1 hf
    refine lv_iconst (v := 1) hx hb d_Mo_unreachedOf_71 (by decide) ?_
    refine lv_aload_n hx hb d_Mo_unreachedOf_72 rfl (lv_at hl 0 rfl) ?_
    refine va_get (D := D) (ci := 8) (v := .int t_nodes) (C := R_Mo) (T := F_Mo) (N := 22) hx hb hts i_Mo hown hK hP 0 rfl rfl 0 (by decide) (hts _ m_3_128) (fun _ h9 => h9) rfl d_Mo_unreachedOf_73 ?_
    refine lv_ishl hx hb d_Mo_unreachedOf_76 ?_
    refine lv_iconst (v := 1) hx hb d_Mo_unreachedOf_77 (by decide) ?_
    refine lv_isub hx hb d_Mo_unreachedOf_78 ?_
    refine lv_iload_n hx hb d_Mo_unreachedOf_79 rfl (lv_at hl 1 rfl) ?_
    refine lv_iconst (v := -1) hx hb d_Mo_unreachedOf_80 (by decide) ?_
    refine lv_ixor hx hb d_Mo_unreachedOf_81 ?_
    refine lv_iand hx hb d_Mo_unreachedOf_82 ?_
    exact hret 83 _ _ _ ((((1 : Int32) <<< (t_nodes &&& 31)) - (1 : Int32)) &&& (v2 ^^^ (-1 : Int32))) d_Mo_unreachedOf_83 hP hD hS hf
  · have hf := if_f hc1 hf
    refine lv_iload_n hx hb d_Mo_unreachedOf_11 rfl (lv_at hl 1 rfl) ?_
    refine lv_istore_n (lv' := [(3, .int v2), (0, .ref q_t), (2, .int v2)]) hx hb d_Mo_unreachedOf_12 rfl hl (by decide) rfl (fun ls hl => ?_)
    refine lv_iconst (v := 0) hx hb d_Mo_unreachedOf_13 (by decide) ?_
    refine lv_istore (lv' := [(4, .int (0 : Int32)), (3, .int v2), (0, .ref q_t), (2, .int v2)]) hx hb d_Mo_unreachedOf_14 hl (by decide) rfl (fun ls hl => ?_)
    exact w_Mo_unreachedOf_16_l C0 hret k6 hk6 N v2 v2 (0 : Int32) _ _ _ hP hD hS (lv_sub hl [2, 3, 1, 0] rfl) hf
set_option maxRecDepth 100000 in
set_option maxHeartbeats 4000000 in
theorem w_Mo_unreachedOf_6_l {p : Program} {l : Launch} {e : Env} {R : Room} {s : State} {m : MethodId} {args : Array Value} {below : List Frame} {meth : Method} {c : Code} {D : va_G} {cI cJ cG cZ : ClassId} {A : Nat → Prop} {Q : State → Prop} {q_t q_t_froms q_t_tos q_t_weights q_t_there q_t_part q_t_matrix q_t_row q_t_low q_t_own q_t_chosen q_t_degrees q_t_fixed q_t_grown q_t_costs q_t_order : Nat} {t_nodes : Int32} {t_arcs : Int32} {t_left : Int32} {t_swapIn : Int32} {t_swapOut : Int32} {t_boundedSet : Int64} {t_joinedSet : Int64} {t_there : Nat → Int32} {t_froms : Nat → Int32} {t_tos : Nat → Int32} {N : Nat} {RR : Int32} (C0 : CX p R s m args meth c b_Mo_unreachedOf 5 R_Mo lw_g D CL (TYs cI cJ cG cZ) A 0 0) (hret : ∀ (pc : Nat) (ls : Array Slot) (H : Heap) (locs : List Loc) (v : Int32) , decode b_Mo_unreachedOf pc = .ok (.ireturn, 1) → va_P D CL [(q_t, .inr (8, [.int t_nodes, .int t_arcs, .int t_left, .ref q_t_froms, .ref q_t_tos, .ref q_t_weights, .ref q_t_there, .ref q_t_part, .ref q_t_matrix, .ref q_t_row, .ref q_t_low, .int t_swapIn, .int t_swapOut, .ref q_t_own, .ref q_t_chosen, .ref q_t_degrees, .long t_boundedSet, .ref q_t_fixed, .ref q_t_grown, .ref q_t_costs, .ref q_t_order, .long t_joinedSet])), (q_t_there, .inl (cZ, 30, .inl t_there)), (q_t_froms, .inl (cI, 30, .inl t_froms)), (q_t_tos, .inl (cI, 30, .inl t_tos))] H → va_D A [(q_t, .inr (8, [.int t_nodes, .int t_arcs, .int t_left, .ref q_t_froms, .ref q_t_tos, .ref q_t_weights, .ref q_t_there, .ref q_t_part, .ref q_t_matrix, .ref q_t_row, .ref q_t_low, .int t_swapIn, .int t_swapOut, .ref q_t_own, .ref q_t_chosen, .ref q_t_degrees, .long t_boundedSet, .ref q_t_fixed, .ref q_t_grown, .ref q_t_costs, .ref q_t_order, .long t_joinedSet])), (q_t_there, .inl (cZ, 30, .inl t_there)), (q_t_froms, .inl (cI, 30, .inl t_froms)), (q_t_tos, .inl (cI, 30, .inl t_tos))] → va_S A s.heap H locs → some (v) = some RR → W p l e R s m args below meth c H locs 0 0 Q (F0 m pc ls [.int v]))  : ∀ (n : Nat) (v2 : Int32) (v3 : Int32) (H : Heap) (locs : List Loc) (ls : Array Slot), va_P D CL [(q_t, .inr (8, [.int t_nodes, .int t_arcs, .int t_left, .ref q_t_froms, .ref q_t_tos, .ref q_t_weights, .ref q_t_there, .ref q_t_part, .ref q_t_matrix, .ref q_t_row, .ref q_t_low, .int t_swapIn, .int t_swapOut, .ref q_t_own, .ref q_t_chosen, .ref q_t_degrees, .long t_boundedSet, .ref q_t_fixed, .ref q_t_grown, .ref q_t_costs, .ref q_t_order, .long t_joinedSet])), (q_t_there, .inl (cZ, 30, .inl t_there)), (q_t_froms, .inl (cI, 30, .inl t_froms)), (q_t_tos, .inl (cI, 30, .inl t_tos))] H → va_D A [(q_t, .inr (8, [.int t_nodes, .int t_arcs, .int t_left, .ref q_t_froms, .ref q_t_tos, .ref q_t_weights, .ref q_t_there, .ref q_t_part, .ref q_t_matrix, .ref q_t_row, .ref q_t_low, .int t_swapIn, .int t_swapOut, .ref q_t_own, .ref q_t_chosen, .ref q_t_degrees, .long t_boundedSet, .ref q_t_fixed, .ref q_t_grown, .ref q_t_costs, .ref q_t_order, .long t_joinedSet])), (q_t_there, .inl (cZ, 30, .inl t_there)), (q_t_froms, .inl (cI, 30, .inl t_froms)), (q_t_tos, .inl (cI, 30, .inl t_tos))] → va_S A s.heap H locs → lv_has ls 5 [(0, .ref q_t), (2, .int v2), (3, .int v3)] → lo2 (g_Mo_unreachedOf_6 N t_nodes t_arcs t_there t_froms t_tos) n v2 v3 = some RR → W p l e R s m args below meth c H locs 0 0 Q (F0 m 6 ls []) := by
  intro n
  induction n with
  | zero =>
    intro v2 v3 H locs ls hP hD hS hl hf
    exact absurd hf (by simp [lo2])
  | succ n ih =>
    intro v2 v3 H locs ls hP hD hS hl hf
    exact w_Mo_unreachedOf_6 C0 hret  (lo2 (g_Mo_unreachedOf_6 N t_nodes t_arcs t_there t_froms t_tos) n) ih v2 v3 H locs ls hP hD hS hl hf
set_option maxRecDepth 100000 in
set_option maxHeartbeats 4000000 in
theorem w_Mo_unreachedOf_e {p : Program} {l : Launch} {e : Env} {R : Room} {s : State} {m : MethodId} {args : Array Value} {below : List Frame} {meth : Method} {c : Code} {D : va_G} {cI cJ cG cZ : ClassId} {A : Nat → Prop} {Q : State → Prop} {q_t q_t_froms q_t_tos q_t_weights q_t_there q_t_part q_t_matrix q_t_row q_t_low q_t_own q_t_chosen q_t_degrees q_t_fixed q_t_grown q_t_costs q_t_order : Nat} {t_nodes : Int32} {t_arcs : Int32} {t_left : Int32} {t_swapIn : Int32} {t_swapOut : Int32} {t_boundedSet : Int64} {t_joinedSet : Int64} {t_there : Nat → Int32} {t_froms : Nat → Int32} {t_tos : Nat → Int32} {p1 : Int32} {N : Nat} {RR : Int32} (C0 : CX p R s m args meth c b_Mo_unreachedOf 5 R_Mo lw_g D CL (TYs cI cJ cG cZ) A 0 0) (hret : ∀ (pc : Nat) (ls : Array Slot) (H : Heap) (locs : List Loc) (v : Int32) , decode b_Mo_unreachedOf pc = .ok (.ireturn, 1) → va_P D CL [(q_t, .inr (8, [.int t_nodes, .int t_arcs, .int t_left, .ref q_t_froms, .ref q_t_tos, .ref q_t_weights, .ref q_t_there, .ref q_t_part, .ref q_t_matrix, .ref q_t_row, .ref q_t_low, .int t_swapIn, .int t_swapOut, .ref q_t_own, .ref q_t_chosen, .ref q_t_degrees, .long t_boundedSet, .ref q_t_fixed, .ref q_t_grown, .ref q_t_costs, .ref q_t_order, .long t_joinedSet])), (q_t_there, .inl (cZ, 30, .inl t_there)), (q_t_froms, .inl (cI, 30, .inl t_froms)), (q_t_tos, .inl (cI, 30, .inl t_tos))] H → va_D A [(q_t, .inr (8, [.int t_nodes, .int t_arcs, .int t_left, .ref q_t_froms, .ref q_t_tos, .ref q_t_weights, .ref q_t_there, .ref q_t_part, .ref q_t_matrix, .ref q_t_row, .ref q_t_low, .int t_swapIn, .int t_swapOut, .ref q_t_own, .ref q_t_chosen, .ref q_t_degrees, .long t_boundedSet, .ref q_t_fixed, .ref q_t_grown, .ref q_t_costs, .ref q_t_order, .long t_joinedSet])), (q_t_there, .inl (cZ, 30, .inl t_there)), (q_t_froms, .inl (cI, 30, .inl t_froms)), (q_t_tos, .inl (cI, 30, .inl t_tos))] → va_S A s.heap H locs → some (v) = some RR → W p l e R s m args below meth c H locs 0 0 Q (F0 m pc ls [.int v])) : ∀ (H : Heap) (locs : List Loc) (ls : Array Slot), va_P D CL [(q_t, .inr (8, [.int t_nodes, .int t_arcs, .int t_left, .ref q_t_froms, .ref q_t_tos, .ref q_t_weights, .ref q_t_there, .ref q_t_part, .ref q_t_matrix, .ref q_t_row, .ref q_t_low, .int t_swapIn, .int t_swapOut, .ref q_t_own, .ref q_t_chosen, .ref q_t_degrees, .long t_boundedSet, .ref q_t_fixed, .ref q_t_grown, .ref q_t_costs, .ref q_t_order, .long t_joinedSet])), (q_t_there, .inl (cZ, 30, .inl t_there)), (q_t_froms, .inl (cI, 30, .inl t_froms)), (q_t_tos, .inl (cI, 30, .inl t_tos))] H → va_D A [(q_t, .inr (8, [.int t_nodes, .int t_arcs, .int t_left, .ref q_t_froms, .ref q_t_tos, .ref q_t_weights, .ref q_t_there, .ref q_t_part, .ref q_t_matrix, .ref q_t_row, .ref q_t_low, .int t_swapIn, .int t_swapOut, .ref q_t_own, .ref q_t_chosen, .ref q_t_degrees, .long t_boundedSet, .ref q_t_fixed, .ref q_t_grown, .ref q_t_costs, .ref q_t_order, .long t_joinedSet])), (q_t_there, .inl (cZ, 30, .inl t_there)), (q_t_froms, .inl (cI, 30, .inl t_froms)), (q_t_tos, .inl (cI, 30, .inl t_tos))] → va_S A s.heap H locs → lv_has ls 5 [(0, .ref q_t), (1, .int p1)] → f_Mo_unreachedOf N p1 t_nodes t_arcs t_there t_froms t_tos = some RR → W p l e R s m args below meth c H locs 0 0 Q (F0 m 0 ls []) := by
  intro H locs ls hP hD hS hl hf
  obtain ⟨hx, hb, hml, hown, hts, hK, hA, hfr, hlo, hlk⟩ := id C0
  unfold f_Mo_unreachedOf at hf
  refine lv_iconst (v := 1) hx hb d_Mo_unreachedOf_0 (by decide) ?_
  refine lv_iload_n hx hb d_Mo_unreachedOf_1 rfl (lv_at hl 1 rfl) ?_
  refine lv_ishl hx hb d_Mo_unreachedOf_2 ?_
  refine lv_topi (fun x1 ex1 => ?_)
  have hf := bn_e ex1 hf
  refine lv_istore_n (lv' := [(2, .int x1), (0, .ref q_t), (1, .int p1)]) hx hb d_Mo_unreachedOf_3 rfl hl (by decide) rfl (fun ls hl => ?_)
  refine lv_iconst (v := 0) hx hb d_Mo_unreachedOf_4 (by decide) ?_
  refine lv_istore_n (lv' := [(3, .int (0 : Int32)), (2, .int x1), (0, .ref q_t), (1, .int p1)]) hx hb d_Mo_unreachedOf_5 rfl hl (by decide) rfl (fun ls hl => ?_)
  exact w_Mo_unreachedOf_6_l C0 hret N x1 (0 : Int32) _ _ _ hP hD hS (lv_sub hl [2, 1, 0] rfl) hf
set_option maxRecDepth 100000 in
set_option maxHeartbeats 4000000 in
theorem c_Mo_unreachedOf (l : Launch) (D : va_G) (cI cJ cG cZ : ClassId) (q_t q_t_froms q_t_tos q_t_weights q_t_there q_t_part q_t_matrix q_t_row q_t_low q_t_own q_t_chosen q_t_degrees q_t_fixed q_t_grown q_t_costs q_t_order : Nat) (t_nodes : Int32) (t_arcs : Int32) (t_left : Int32) (t_swapIn : Int32) (t_swapOut : Int32) (t_boundedSet : Int64) (t_joinedSet : Int64) (t_there : Nat → Int32) (t_froms : Nat → Int32) (t_tos : Nat → Int32) (p1 : Int32) {N : Nat} {r : Int32} (hf : f_Mo_unreachedOf N p1 t_nodes t_arcs t_there t_froms t_tos = some (r)) : MeG l D CL (TYs cI cJ cG cZ) y_Mo_unreachedOf ws_Mo_unreachedOf (rm_Mo_unreachedOf) [.ref q_t, .int p1] [(q_t, .inr (8, [.int t_nodes, .int t_arcs, .int t_left, .ref q_t_froms, .ref q_t_tos, .ref q_t_weights, .ref q_t_there, .ref q_t_part, .ref q_t_matrix, .ref q_t_row, .ref q_t_low, .int t_swapIn, .int t_swapOut, .ref q_t_own, .ref q_t_chosen, .ref q_t_degrees, .long t_boundedSet, .ref q_t_fixed, .ref q_t_grown, .ref q_t_costs, .ref q_t_order, .long t_joinedSet])), (q_t_there, .inl (cZ, 30, .inl t_there)), (q_t_froms, .inl (cI, 30, .inl t_froms)), (q_t_tos, .inl (cI, 30, .inl t_tos))] (some (.int r)) [(q_t, .inr (8, [.int t_nodes, .int t_arcs, .int t_left, .ref q_t_froms, .ref q_t_tos, .ref q_t_weights, .ref q_t_there, .ref q_t_part, .ref q_t_matrix, .ref q_t_row, .ref q_t_low, .int t_swapIn, .int t_swapOut, .ref q_t_own, .ref q_t_chosen, .ref q_t_degrees, .long t_boundedSet, .ref q_t_fixed, .ref q_t_grown, .ref q_t_costs, .ref q_t_order, .long t_joinedSet])), (q_t_there, .inl (cZ, 30, .inl t_there)), (q_t_froms, .inl (cI, 30, .inl t_froms)), (q_t_tos, .inl (cI, 30, .inl t_tos))] := by
  intro sz
  refine Met.ofW (cc := b_Mo_unreachedOf) (maxL := 5) (ret := (some .int)) (by decide) rfl ?_
  intro p e s m args below meth c s₁ B hml hv
  obtain ⟨rfl, hsz, hP, hK, hD0⟩ := hv
  subst hsz
  have hD := hD0.self (sz := s.heap.size)
  generalize hAe : va_A [(q_t, .inr (8, [.int t_nodes, .int t_arcs, .int t_left, .ref q_t_froms, .ref q_t_tos, .ref q_t_weights, .ref q_t_there, .ref q_t_part, .ref q_t_matrix, .ref q_t_row, .ref q_t_low, .int t_swapIn, .int t_swapOut, .ref q_t_own, .ref q_t_chosen, .ref q_t_degrees, .long t_boundedSet, .ref q_t_fixed, .ref q_t_grown, .ref q_t_costs, .ref q_t_order, .long t_joinedSet])), (q_t_there, .inl (cZ, 30, .inl t_there)), (q_t_froms, .inl (cI, 30, .inl t_froms)), (q_t_tos, .inl (cI, 30, .inl t_tos))] s.heap.size = A at hD ⊢
  have C0 : CX p (headSpec ws_Mo_unreachedOf (rm_Mo_unreachedOf)).room s m _ meth c b_Mo_unreachedOf 5 R_Mo lw_g D CL (TYs cI cJ cG cZ) A 0 0 := ⟨B.exec, B.bytes, hml, findClass_of_methodNamed B.named, fun w h => atoms_spec (ws := ws_Mo_unreachedOf) B.pre w (List.mem_cons_of_mem _ h), hK, fun q h => by rw [← hAe]; exact Or.inr h, Nat.le_of_ble_eq_true rfl, Nat.le_of_ble_eq_true rfl, B.notSynchronized⟩
  have hl := lv_entry ([.ref q_t, .int p1]) (n := 5) (Nat.le_of_ble_eq_true rfl)
  rw [lg_entry_eq]
  generalize (lg_sl ([.ref q_t, .int p1]) ++ List.replicate (5 - (lg_sl ([.ref q_t, .int p1])).length) Slot.unset).toArray = ls at hl ⊢
  have hl : lv_has ls 5 [(0, .ref q_t), (1, .int p1)] := hl
  exact w_Mo_unreachedOf_e C0 (fun pc ls H locs v hdg hP hD hS e => by cases e; exact W.iret B.exec B.bytes B.returns (fun t ht hW => ⟨⟨rfl, by rw [ht]; exact hP, va_K.moved hW.alike hK, hD⟩, hS.F ht⟩) hS.2.2 hdg) _ _ _ hP hD va_S.rf (lv_sub hl [0, 1] rfl) hf
