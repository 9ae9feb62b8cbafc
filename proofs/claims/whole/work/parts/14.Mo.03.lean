abbrev b_Mo_join : ByteArray := prog_11_method_10_code
def y_Mo_join : MethodName := ⟨R_Mo, "join", "(I)Z"⟩
def ws_Mo_join : List Cond := .code y_Mo_join b_Mo_join 7 (some .boolean) :: lw_g
theorem wi_Mo_join : ∀ w ∈ ws_Mo_join, w ∈ lw_g := wi_of m_3_239
abbrev rm_Mo_join : Room := { frames := 0, cells := 0, slots := 0, locals := 0 }
theorem hd_Mo_join : y_Mo_join.cls = R_Mo ∧ y_Mo_join.cls ≠ "java/lang/invoke/MethodHandle" ∧ y_Mo_join.cls ≠ "java/lang/invoke/VarHandle" ∧ (parseMethodDescriptor y_Mo_join.desc).map (fun d => d.parameters.length) = some 1 := by decide +kernel
theorem d_Mo_join_0 : decode b_Mo_join 0 = .ok (.aload_n 0, 1) := by decide +kernel
theorem d_Mo_join_1 : decode b_Mo_join 1 = .ok (.getfield 23, 3) := by decide +kernel
theorem d_Mo_join_4 : decode b_Mo_join 4 = .ok (.aload_n 0, 1) := by decide +kernel
theorem d_Mo_join_5 : decode b_Mo_join 5 = .ok (.getfield 7, 3) := by decide +kernel
theorem d_Mo_join_8 : decode b_Mo_join 8 = .ok (.iload_n 1, 1) := by decide +kernel
theorem d_Mo_join_9 : decode b_Mo_join 9 = .ok (.iaload, 1) := by decide +kernel
theorem d_Mo_join_10 : decode b_Mo_join 10 = .ok (.iaload, 1) := by decide +kernel
theorem d_Mo_join_11 : decode b_Mo_join 11 = .ok (.istore_n 2, 1) := by decide +kernel
theorem d_Mo_join_12 : decode b_Mo_join 12 = .ok (.aload_n 0, 1) := by decide +kernel
theorem d_Mo_join_13 : decode b_Mo_join 13 = .ok (.getfield 23, 3) := by decide +kernel
theorem d_Mo_join_16 : decode b_Mo_join 16 = .ok (.aload_n 0, 1) := by decide +kernel
theorem d_Mo_join_17 : decode b_Mo_join 17 = .ok (.getfield 13, 3) := by decide +kernel
theorem d_Mo_join_20 : decode b_Mo_join 20 = .ok (.iload_n 1, 1) := by decide +kernel
theorem d_Mo_join_21 : decode b_Mo_join 21 = .ok (.iaload, 1) := by decide +kernel
theorem d_Mo_join_22 : decode b_Mo_join 22 = .ok (.iaload, 1) := by decide +kernel
theorem d_Mo_join_23 : decode b_Mo_join 23 = .ok (.istore_n 3, 1) := by decide +kernel
theorem d_Mo_join_24 : decode b_Mo_join 24 = .ok (.iload_n 2, 1) := by decide +kernel
theorem d_Mo_join_25 : decode b_Mo_join 25 = .ok (.iload_n 3, 1) := by decide +kernel
theorem d_Mo_join_26 : decode b_Mo_join 26 = .ok (.if_icmp .ne 5, 3) := by decide +kernel
theorem d_Mo_join_29 : decode b_Mo_join 29 = .ok (.iconst 0, 1) := by decide +kernel
theorem d_Mo_join_30 : decode b_Mo_join 30 = .ok (.ireturn, 1) := by decide +kernel
theorem d_Mo_join_31 : decode b_Mo_join 31 = .ok (.iload_n 2, 1) := by decide +kernel
theorem d_Mo_join_32 : decode b_Mo_join 32 = .ok (.iload_n 3, 1) := by decide +kernel
theorem d_Mo_join_33 : decode b_Mo_join 33 = .ok (.if_icmp .ge 7, 3) := by decide +kernel
theorem d_Mo_join_36 : decode b_Mo_join 36 = .ok (.iload_n 2, 1) := by decide +kernel
theorem d_Mo_join_37 : decode b_Mo_join 37 = .ok (.goto 4, 3) := by decide +kernel
theorem d_Mo_join_40 : decode b_Mo_join 40 = .ok (.iload_n 3, 1) := by decide +kernel
theorem d_Mo_join_41 : decode b_Mo_join 41 = .ok (.istore 4, 2) := by decide +kernel
theorem d_Mo_join_43 : decode b_Mo_join 43 = .ok (.iload_n 2, 1) := by decide +kernel
theorem d_Mo_join_44 : decode b_Mo_join 44 = .ok (.iload_n 3, 1) := by decide +kernel
theorem d_Mo_join_45 : decode b_Mo_join 45 = .ok (.if_icmp .ge 7, 3) := by decide +kernel
theorem d_Mo_join_48 : decode b_Mo_join 48 = .ok (.iload_n 3, 1) := by decide +kernel
theorem d_Mo_join_49 : decode b_Mo_join 49 = .ok (.goto 4, 3) := by decide +kernel
theorem d_Mo_join_52 : decode b_Mo_join 52 = .ok (.iload_n 2, 1) := by decide +kernel
theorem d_Mo_join_53 : decode b_Mo_join 53 = .ok (.istore 5, 2) := by decide +kernel
theorem d_Mo_join_55 : decode b_Mo_join 55 = .ok (.iconst 0, 1) := by decide +kernel
theorem d_Mo_join_56 : decode b_Mo_join 56 = .ok (.istore 6, 2) := by decide +kernel
theorem d_Mo_join_58 : decode b_Mo_join 58 = .ok (.iload 6, 2) := by decide +kernel
theorem d_Mo_join_60 : decode b_Mo_join 60 = .ok (.bipush 10, 2) := by decide +kernel
theorem d_Mo_join_62 : decode b_Mo_join 62 = .ok (.if_icmp .ge 40, 3) := by decide +kernel
theorem d_Mo_join_65 : decode b_Mo_join 65 = .ok (.aload_n 0, 1) := by decide +kernel
theorem d_Mo_join_66 : decode b_Mo_join 66 = .ok (.getfield 23, 3) := by decide +kernel
theorem d_Mo_join_69 : decode b_Mo_join 69 = .ok (.iload 6, 2) := by decide +kernel
theorem d_Mo_join_71 : decode b_Mo_join 71 = .ok (.aload_n 0, 1) := by decide +kernel
theorem d_Mo_join_72 : decode b_Mo_join 72 = .ok (.getfield 23, 3) := by decide +kernel
theorem d_Mo_join_75 : decode b_Mo_join 75 = .ok (.iload 6, 2) := by decide +kernel
theorem d_Mo_join_77 : decode b_Mo_join 77 = .ok (.iaload, 1) := by decide +kernel
theorem d_Mo_join_78 : decode b_Mo_join 78 = .ok (.iload 5, 2) := by decide +kernel
theorem d_Mo_join_80 : decode b_Mo_join 80 = .ok (.if_icmp .ne 8, 3) := by decide +kernel
theorem d_Mo_join_83 : decode b_Mo_join 83 = .ok (.iload 4, 2) := by decide +kernel
theorem d_Mo_join_85 : decode b_Mo_join 85 = .ok (.goto 10, 3) := by decide +kernel
theorem d_Mo_join_88 : decode b_Mo_join 88 = .ok (.aload_n 0, 1) := by decide +kernel
theorem d_Mo_join_89 : decode b_Mo_join 89 = .ok (.getfield 23, 3) := by decide +kernel
theorem d_Mo_join_92 : decode b_Mo_join 92 = .ok (.iload 6, 2) := by decide +kernel
theorem d_Mo_join_94 : decode b_Mo_join 94 = .ok (.iaload, 1) := by decide +kernel
theorem d_Mo_join_95 : decode b_Mo_join 95 = .ok (.iastore, 1) := by decide +kernel
theorem d_Mo_join_96 : decode b_Mo_join 96 = .ok (.iinc 6 1, 3) := by decide +kernel
theorem d_Mo_join_99 : decode b_Mo_join 99 = .ok (.goto (-41), 3) := by decide +kernel
theorem d_Mo_join_102 : decode b_Mo_join 102 = .ok (.iconst 1, 1) := by decide +kernel
theorem d_Mo_join_103 : decode b_Mo_join 103 = .ok (.ireturn, 1) := by decide +kernel
def g_Mo_join_58 (k58 : Int32 → Int32 → Int32 → (Nat → Int32) → Option (Int32 × (Nat → Int32))) (v4 : Int32) (v5 : Int32) (v6 : Int32) (t_part : Nat → Int32) : Option (Int32 × (Nat → Int32)) :=
  if (10 : Int32) ≤ v6 then
    some ((1 : Int32), t_part)
  else
    gd (inb v6 10) <|
    if (t_part v6.toNatClampNeg) = v5 then
      gd (inb v6 10) <|
      bn (v6 + (1 : Int32)) fun x2 =>
      k58 v4 v5 x2 (upd t_part v6.toNatClampNeg v4)
    else
      gd (inb v6 10) <|
      gd (inb v6 10) <|
      bn (v6 + (1 : Int32)) fun x1 =>
      k58 v4 v5 x1 (upd t_part v6.toNatClampNeg (t_part v6.toNatClampNeg))
def g_Mo_join_41 (N : Nat) (v2 : Int32) (v3 : Int32) (s0 : Int32) (t_part : Nat → Int32) : Option (Int32 × (Nat → Int32)) :=
  if v3 ≤ v2 then
    lo4 (g_Mo_join_58) N s0 v2 (0 : Int32) t_part
  else
    lo4 (g_Mo_join_58) N s0 v3 (0 : Int32) t_part
def f_Mo_join (N : Nat) (p1 : Int32) (t_froms : Nat → Int32) (t_part0 : Nat → Int32) (t_tos : Nat → Int32) : Option (Int32 × (Nat → Int32)) :=
  gd (inb p1 30) <|
  gd (inb (t_froms p1.toNatClampNeg) 10) <|
  bn (t_part0 (t_froms p1.toNatClampNeg).toNatClampNeg) fun x1 =>
  gd (inb p1 30) <|
  gd (inb (t_tos p1.toNatClampNeg) 10) <|
  bn (t_part0 (t_tos p1.toNatClampNeg).toNatClampNeg) fun x2 =>
  if x1 = x2 then
    some ((0 : Int32), t_part0)
  else
    if x2 ≤ x1 then
      g_Mo_join_41 N x1 x2 x2 t_part0
    else
      g_Mo_join_41 N x1 x2 x1 t_part0
set_option maxRecDepth 100000 in
set_option maxHeartbeats 4000000 in
theorem w_Mo_join_58 {p : Program} {l : Launch} {e : Env} {R : Room} {s : State} {m : MethodId} {args : Array Value} {below : List Frame} {meth : Method} {c : Code} {D : va_G} {cI cJ cG cZ : ClassId} {A : Nat → Prop} {Q : State → Prop} {q_t q_t_froms q_t_tos q_t_weights q_t_there q_t_part q_t_matrix q_t_row q_t_low q_t_own q_t_chosen q_t_degrees q_t_fixed q_t_grown q_t_costs q_t_order : Nat} {t_nodes : Int32} {t_arcs : Int32} {t_left : Int32} {t_swapIn : Int32} {t_swapOut : Int32} {t_boundedSet : Int64} {t_joinedSet : Int64} {t_froms : Nat → Int32} {t_tos : Nat → Int32} {RR : Int32 × (Nat → Int32)} (C0 : CX p R s m args meth c b_Mo_join 7 R_Mo lw_g D CL (TYs cI cJ cG cZ) A 0 0) (hret : ∀ (pc : Nat) (ls : Array Slot) (H : Heap) (locs : List Loc) (v : Int32) (t_part : Nat → Int32), decode b_Mo_join pc = .ok (.ireturn, 1) → narrow .boolean (.int v) = .int v → va_P D CL [(q_t, .inr (8, [.int t_nodes, .int t_arcs, .int t_left, .ref q_t_froms, .ref q_t_tos, .ref q_t_weights, .ref q_t_there, .ref q_t_part, .ref q_t_matrix, .ref q_t_row, .ref q_t_low, .int t_swapIn, .int t_swapOut, .ref q_t_own, .ref q_t_chosen, .ref q_t_degrees, .long t_boundedSet, .ref q_t_fixed, .ref q_t_grown, .ref q_t_costs, .ref q_t_order, .long t_joinedSet])), (q_t_froms, .inl (cI, 30, .inl t_froms)), (q_t_part, .inl (cI, 10, .inl t_part)), (q_t_tos, .inl (cI, 30, .inl t_tos))] H → va_D A [(q_t, .inr (8, [.int t_nodes, .int t_arcs, .int t_left, .ref q_t_froms, .ref q_t_tos, .ref q_t_weights, .ref q_t_there, .ref q_t_part, .ref q_t_matrix, .ref q_t_row, .ref q_t_low, .int t_swapIn, .int t_swapOut, .ref q_t_own, .ref q_t_chosen, .ref q_t_degrees, .long t_boundedSet, .ref q_t_fixed, .ref q_t_grown, .ref q_t_costs, .ref q_t_order, .long t_joinedSet])), (q_t_froms, .inl (cI, 30, .inl t_froms)), (q_t_part, .inl (cI, 10, .inl t_part)), (q_t_tos, .inl (cI, 30, .inl t_tos))] → va_S A s.heap H locs → some (v, t_part) = some RR → W p l e R s m args below meth c H locs 0 0 Q (F0 m pc ls [.int v])) (k58 : Int32 → Int32 → Int32 → (Nat → Int32) → Option (Int32 × (Nat → Int32))) (hk58 : ∀ (v4 : Int32) (v5 : Int32) (v6 : Int32) (t_part : Nat → Int32) (H : Heap) (locs : List Loc) (ls : Array Slot), va_P D CL [(q_t, .inr (8, [.int t_nodes, .int t_arcs, .int t_left, .ref q_t_froms, .ref q_t_tos, .ref q_t_weights, .ref q_t_there, .ref q_t_part, .ref q_t_matrix, .ref q_t_row, .ref q_t_low, .int t_swapIn, .int t_swapOut, .ref q_t_own, .ref q_t_chosen, .ref q_t_degrees, .long t_boundedSet, .ref q_t_fixed, .ref q_t_grown, .ref q_t_costs, .ref q_t_order, .long t_joinedSet])), (q_t_froms, .inl (cI, 30, .inl t_froms)), (q_t_part, .inl (cI, 10, .inl t_part)), (q_t_tos, .inl (cI, 30, .inl t_tos))] H → va_D A [(q_t, .inr (8, [.int t_nodes, .int t_arcs, .int t_left, .ref q_t_froms, .ref q_t_tos, .ref q_t_weights, .ref q_t_there, .ref q_t_part, .ref q_t_matrix, .ref q_t_row, .ref q_t_low, .int t_swapIn, .int t_swapOut, .ref q_t_own, .ref q_t_chosen, .ref q_t_degrees, .long t_boundedSet, .ref q_t_fixed, .ref q_t_grown, .ref q_t_costs, .ref q_t_order, .long t_joinedSet])), (q_t_froms, .inl (cI, 30, .inl t_froms)), (q_t_part, .inl (cI, 10, .inl t_part)), (q_t_tos, .inl (cI, 30, .inl t_tos))] → va_S A s.heap H locs → lv_has ls 7 [(0, .ref q_t), (4, .int v4), (5, .int v5), (6, .int v6)] → k58 v4 v5 v6 t_part = some RR → W p l e R s m args below meth c H locs 0 0 Q (F0 m 58 ls [])) : ∀ (v4 : Int32) (v5 : Int32) (v6 : Int32) (t_part : Nat → Int32) (H : Heap) (locs : List Loc) (ls : Array Slot), va_P D CL [(q_t, .inr (8, [.int t_nodes, .int t_arcs, .int t_left, .ref q_t_froms, .ref q_t_tos, .ref q_t_weights, .ref q_t_there, .ref q_t_part, .ref q_t_matrix, .ref q_t_row, .ref q_t_low, .int t_swapIn, .int t_swapOut, .ref q_t_own, .ref q_t_chosen, .ref q_t_degrees, .long t_boundedSet, .ref q_t_fixed, .ref q_t_grown, .ref q_t_costs, .ref q_t_order, .long t_joinedSet])), (q_t_froms, .inl (cI, 30, .inl t_froms)), (q_t_part, .inl (cI, 10, .inl t_part)), (q_t_tos, .inl (cI, 30, .inl t_tos))] H → va_D A [(q_t, .inr (8, [.int t_nodes, .int t_arcs, .int t_left, .ref q_t_froms, .ref q_t_tos, .ref q_t_weights, .ref q_t_there, .ref q_t_part, .ref q_t_matrix, .ref q_t_row, .ref q_t_low, .int t_swapIn, .int t_swapOut, .ref q_t_own, .ref q_t_chosen, .ref q_t_degrees, .long t_boundedSet, .ref q_t_fixed, .ref q_t_grown, .ref q_t_costs, .ref q_t_order, .long t_joinedSet])), (q_t_froms, .inl (cI, 30, .inl t_froms)), (q_t_part, .inl (cI, 10, .inl t_part)), (q_t_tos, .inl (cI, 30, .inl t_tos))] → va_S A s.heap H locs → lv_has ls 7 [(0, .ref q_t), (4, .int v4), (5, .int v5), (6, .int v6)] → g_Mo_join_58 k58 v4 v5 v6 t_part = some RR → W p l e R s m args below meth c H locs 0 0 Q (F0 m 58 ls []) := by
  intro v4 v5 v6 t_part H locs ls hP hD hS hl hf
  obtain ⟨hx, hb, hml, hown, hts, hK, hA, hfr, hlo, hlk⟩ := id C0
  unfold g_Mo_join_58 at hf
  refine lv_iload hx hb d_Mo_join_58 (lv_at hl 3 rfl) ?_
  refine lv_bipush (v := 10) hx hb d_Mo_join_60 (by decide) ?_
  refine lv_icmp_ge (tgt := 102) hx hb d_Mo_join_62 (by decide) (fun hc1 => ?_) (fun hc1 => ?_)
  · have hf := if_t hc1 hf
    refine lv_iconst (v := 1) hx hb d_Mo_join_102 (by decide) ?_
    exact hret 103 _ _ _ (1 : Int32) t_part d_Mo_join_103 rfl hP hD hS hf
  · have hf := if_f hc1 hf
    refine lv_aload_n hx hb d_Mo_join_65 rfl (lv_at hl 0 rfl) ?_
    refine va_get (D := D) (ci := 8) (v := .ref q_t_part) (C := R_Mo) (T := F_Mo) (N := 22) hx hb hts i_Mo hown hK hP 0 rfl rfl 7 (by decide) (hts _ m_3_135) (fun _ h9 => h9) rfl d_Mo_join_66 ?_
    refine lv_iload hx hb d_Mo_join_69 (lv_at hl 3 rfl) ?_
    refine lv_aload_n hx hb d_Mo_join_71 rfl (lv_at hl 0 rfl) ?_
    refine va_get (D := D) (ci := 8) (v := .ref q_t_part) (C := R_Mo) (T := F_Mo) (N := 22) hx hb hts i_Mo hown hK hP 0 rfl rfl 7 (by decide) (hts _ m_3_135) (fun _ h9 => h9) rfl d_Mo_join_72 ?_
    refine lv_iload hx hb d_Mo_join_75 (lv_at hl 3 rfl) ?_
    obtain ⟨hg1, hf⟩ := gd_e hf
    refine va_iald hx hb hK hP 2 0 rfl rfl (inb_e hg1) d_Mo_join_77 ?_
    refine lv_iload hx hb d_Mo_join_78 (lv_at hl 2 rfl) ?_
    refine lv_icmp_ne (tgt := 88) hx hb d_Mo_join_80 (by decide) (fun hc2 => ?_) (fun hc2 => ?_)
    · have hf := if_f hc2 hf
      refine lv_aload_n hx hb d_Mo_join_88 rfl (lv_at hl 0 rfl) ?_
      refine va_get (D := D) (ci := 8) (v := .ref q_t_part) (C := R_Mo) (T := F_Mo) (N := 22) hx hb hts i_Mo hown hK hP 0 rfl rfl 7 (by decide) (hts _ m_3_135) (fun _ h9 => h9) rfl d_Mo_join_89 ?_
      refine lv_iload hx hb d_Mo_join_92 (lv_at hl 3 rfl) ?_
      obtain ⟨hg2, hf⟩ := gd_e hf
      refine va_iald hx hb hK hP 2 0 rfl rfl (inb_e hg2) d_Mo_join_94 ?_
      obtain ⟨hg3, hf⟩ := gd_e hf
      refine va_iast hx hb hK hP hD hS 2 0 rfl rfl (inb_e hg3) d_Mo_join_95 (fun H locs hP hD hS => ?_)
      have hP : va_P D CL [(q_t, .inr (8, [.int t_nodes, .int t_arcs, .int t_left, .ref q_t_froms, .ref q_t_tos, .ref q_t_weights, .ref q_t_there, .ref q_t_part, .ref q_t_matrix, .ref q_t_row, .ref q_t_low, .int t_swapIn, .int t_swapOut, .ref q_t_own, .ref q_t_chosen, .ref q_t_degrees, .long t_boundedSet, .ref q_t_fixed, .ref q_t_grown, .ref q_t_costs, .ref q_t_order, .long t_joinedSet])), (q_t_froms, .inl (cI, 30, .inl t_froms)), (q_t_part, .inl (cI, 10, .inl (upd t_part v6.toNatClampNeg (t_part v6.toNatClampNeg)))), (q_t_tos, .inl (cI, 30, .inl t_tos))] H := hP
      have hD : va_D A [(q_t, .inr (8, [.int t_nodes, .int t_arcs, .int t_left, .ref q_t_froms, .ref q_t_tos, .ref q_t_weights, .ref q_t_there, .ref q_t_part, .ref q_t_matrix, .ref q_t_row, .ref q_t_low, .int t_swapIn, .int t_swapOut, .ref q_t_own, .ref q_t_chosen, .ref q_t_degrees, .long t_boundedSet, .ref q_t_fixed, .ref q_t_grown, .ref q_t_costs, .ref q_t_order, .long t_joinedSet])), (q_t_froms, .inl (cI, 30, .inl t_froms)), (q_t_part, .inl (cI, 10, .inl (upd t_part v6.toNatClampNeg (t_part v6.toNatClampNeg)))), (q_t_tos, .inl (cI, 30, .inl t_tos))] := hD
      obtain ⟨x1, ex1⟩ : ∃ y : Int32, y = v6 + (1 : Int32) := ⟨_, rfl⟩
      have hf := bn_e ex1 hf
      refine lv_iinc (v := x1) (lv' := [(6, .int x1), (0, .ref q_t), (4, .int v4), (5, .int v5)]) hx hb d_Mo_join_96 hl (k := 3) rfl (by rw [ex1]; rfl) (by decide) rfl (fun ls hl => ?_)
      refine lv_goto (tgt := 58) hx hb d_Mo_join_99 (by decide) ?_
      exact hk58 v4 v5 x1 (upd t_part v6.toNatClampNeg (t_part v6.toNatClampNeg)) _ _ _ hP hD hS (lv_sub hl [1, 2, 3, 0] rfl) hf
    · have hf := if_t hc2 hf
      refine lv_iload hx hb d_Mo_join_83 (lv_at hl 1 rfl) ?_
      refine lv_goto (tgt := 95) hx hb d_Mo_join_85 (by decide) ?_
      obtain ⟨hg4, hf⟩ := gd_e hf
      refine va_iast hx hb hK hP hD hS 2 0 rfl rfl (inb_e hg4) d_Mo_join_95 (fun H locs hP hD hS => ?_)
      have hP : va_P D CL [(q_t, .inr (8, [.int t_nodes, .int t_arcs, .int t_left, .ref q_t_froms, .ref q_t_tos, .ref q_t_weights, .ref q_t_there, .ref q_t_part, .ref q_t_matrix, .ref q_t_row, .ref q_t_low, .int t_swapIn, .int t_swapOut, .ref q_t_own, .ref q_t_chosen, .ref q_t_degrees, .long t_boundedSet, .ref q_t_fixed, .ref q_t_grown, .ref q_t_costs, .ref q_t_order, .long t_joinedSet])), (q_t_froms, .inl (cI, 30, .inl t_froms)), (q_t_part, .inl (cI, 10, .inl (upd t_part v6.toNatClampNeg v4))), (q_t_tos, .inl (cI, 30, .inl t_tos))] H := hP
      have hD : va_D A [(q_t, .inr (8, [.int t_nodes, .int t_arcs, .int t_left, .ref q_t_froms, .ref q_t_tos, .ref q_t_weights, .ref q_t_there, .ref q_t_part, .ref q_t_matrix, .ref q_t_row, .ref q_t_low, .int t_swapIn, .int t_swapOut, .ref q_t_own, .ref q_t_chosen, .ref q_t_degrees, .long t_boundedSet, .ref q_t_fixed, .ref q_t_grown, .ref q_t_costs, .ref q_t_order, .long t_joinedSet])), (q_t_froms, .inl (cI, 30, .inl t_froms)), (q_t_part, .inl (cI, 10, .inl (upd t_part v6.toNatClampNeg v4))), (q_t_tos, .inl (cI, 30, .inl t_tos))] := hD
      obtain ⟨x2, ex2⟩ : ∃ y : Int32, y = v6 + (1 : Int32) := ⟨_, rfl⟩
      have hf := bn_e ex2 hf
      refine lv_iinc (v := x2) (lv' := [(6, .int x2), (0, .ref q_t), (4, .int v4), (5, .int v5)]) hx hb d_Mo_join_96 hl (k := 3) rfl (by rw [ex2]; rfl) (by decide) rfl (fun ls hl => ?_)
      refine lv_goto (tgt := 58) hx hb d_Mo_join_99 (by decide) ?_
      exact hk58 v4 v5 x2 (upd t_part v6.toNatClampNeg v4) _ _ _ hP hD hS (lv_sub hl [1, 2, 3, 0] rfl) hf
set_option maxRecDepth 100000 in
set_option maxHeartbeats 4000000 in
theorem w_Mo_join_58_l {p : Program} {l : Launch} {e : Env} {R : Room} {s : State} {m : MethodId} {args : Array Value} {below : List Frame} {meth : Method} {c : Code} {D : va_G} {cI cJ cG cZ : ClassId} {A : Nat → Prop} {Q : State → Prop} {q_t q_t_froms q_t_tos q_t_weights q_t_there q_t_part q_t_matrix q_t_row q_t_low q_t_own q_t_chosen q_t_degrees q_t_fixed q_t_grown q_t_costs q_t_order : Nat} {t_nodes : Int32} {t_arcs : Int32} {t_left : Int32} {t_swapIn : Int32} {t_swapOut : Int32} {t_boundedSet : Int64} {t_joinedSet : Int64} {t_froms : Nat → Int32} {t_tos : Nat → Int32} {RR : Int32 × (Nat → Int32)} (C0 : CX p R s m args meth c b_Mo_join 7 R_Mo lw_g D CL (TYs cI cJ cG cZ) A 0 0) (hret : ∀ (pc : Nat) (ls : Array Slot) (H : Heap) (locs : List Loc) (v : Int32) (t_part : Nat → Int32), decode b_Mo_join pc = .ok (.ireturn, 1) → narrow .boolean (.int v) = .int v → va_P D CL [(q_t, .inr (8, [.int t_nodes, .int t_arcs, .int t_left, .ref q_t_froms, .ref q_t_tos, .ref q_t_weights, .ref q_t_there, .ref q_t_part, .ref q_t_matrix, .ref q_t_row, .ref q_t_low, .int t_swapIn, .int t_swapOut, .ref q_t_own, .ref q_t_chosen, .ref q_t_degrees, .long t_boundedSet, .ref q_t_fixed, .ref q_t_grown, .ref q_t_costs, .ref q_t_order, .long t_joinedSet])), (q_t_froms, .inl (cI, 30, .inl t_froms)), (q_t_part, .inl (cI, 10, .inl t_part)), (q_t_tos, .inl (cI, 30, .inl t_tos))] H → va_D A [(q_t, .inr (8, [.int t_nodes, .int t_arcs, .int t_left, .ref q_t_froms, .ref q_t_tos, .ref q_t_weights, .ref q_t_there, .ref q_t_part, .ref q_t_matrix, .ref q_t_row, .ref q_t_low, .int t_swapIn, .int t_swapOut, .ref q_t_own, .ref q_t_chosen, .ref q_t_degrees, .long t_boundedSet, .ref q_t_fixed, .ref q_t_grown, .ref q_t_costs, .ref q_t_order, .long t_joinedSet])), (q_t_froms, .inl (cI, 30, .inl t_froms)), (q_t_part, .inl (cI, 10, .inl t_part)), (q_t_tos, .inl (cI, 30, .inl t_tos))] → va_S A s.heap H locs → some (v, t_part) = some RR → W p l e R s m args below meth c H locs 0 0 Q (F0 m pc ls [.int v]))  : ∀ (n : Nat) (v4 : Int32) (v5 : Int32) (v6 : Int32) (t_part : Nat → Int32) (H : Heap) (locs : List Loc) (ls : Array Slot), va_P D CL [(q_t, .inr (8, [.int t_nodes, .int t_arcs, .int t_left, .ref q_t_froms, .ref q_t_tos, .ref q_t_weights, .ref q_t_there, .ref q_t_part, .ref q_t_matrix, .ref q_t_row, .ref q_t_low, .int t_swapIn, .int t_swapOut, .ref q_t_own, .ref q_t_chosen, .ref q_t_degrees, .long t_boundedSet, .ref q_t_fixed, .ref q_t_grown, .ref q_t_costs, .ref q_t_order, .long t_joinedSet])), (q_t_froms, .inl (cI, 30, .inl t_froms)), (q_t_part, .inl (cI, 10, .inl t_part)), (q_t_tos, .inl (cI, 30, .inl t_tos))] H → va_D A [(q_t, .inr (8, [.int t_nodes, .int t_arcs, .int t_left, .ref q_t_froms, .ref q_t_tos, .ref q_t_weights, .ref q_t_there, .ref q_t_part, .ref q_t_matrix, .ref q_t_row, .ref q_t_low, .int t_swapIn, .int t_swapOut, .ref q_t_own, .ref q_t_chosen, .ref q_t_degrees, .long t_boundedSet, .ref q_t_fixed, .ref q_t_grown, .ref q_t_costs, .ref q_t_order, .long t_joinedSet])), (q_t_froms, .inl (cI, 30, .inl t_froms)), (q_t_part, .inl (cI, 10, .inl t_part)), (q_t_tos, .inl (cI, 30, .inl t_tos))] → va_S A s.heap H locs → lv_has ls 7 [(0, .ref q_t), (4, .int v4), (5, .int v5), (6, .int v6)] → lo4 (g_Mo_join_58) n v4 v5 v6 t_part = some RR → W p l e R s m args below meth c H locs 0 0 Q (F0 m 58 ls []) := by
  intro n
  induction n with
  | zero =>
    intro v4 v5 v6 t_part H locs ls hP hD hS hl hf
    exact absurd hf (by simp [lo4])
  | succ n ih =>
    intro v4 v5 v6 t_part H locs ls hP hD hS hl hf
    exact w_Mo_join_58 C0 hret  (lo4 (g_Mo_join_58) n) ih v4 v5 v6 t_part H locs ls hP hD hS hl hf
set_option maxRecDepth 100000 in
set_option maxHeartbeats 4000000 in
theorem w_Mo_join_41 {p : Program} {l : Launch} {e : Env} {R : Room} {s : State} {m : MethodId} {args : Array Value} {below : List Frame} {meth : Method} {c : Code} {D : va_G} {cI cJ cG cZ : ClassId} {A : Nat → Prop} {Q : State → Prop} {q_t q_t_froms q_t_tos q_t_weights q_t_there q_t_part q_t_matrix q_t_row q_t_low q_t_own q_t_chosen q_t_degrees q_t_fixed q_t_grown q_t_costs q_t_order : Nat} {t_nodes : Int32} {t_arcs : Int32} {t_left : Int32} {t_swapIn : Int32} {t_swapOut : Int32} {t_boundedSet : Int64} {t_joinedSet : Int64} {t_froms : Nat → Int32} {t_tos : Nat → Int32} {N : Nat} {RR : Int32 × (Nat → Int32)} (C0 : CX p R s m args meth c b_Mo_join 7 R_Mo lw_g D CL (TYs cI cJ cG cZ) A 0 0) (hret : ∀ (pc : Nat) (ls : Array Slot) (H : Heap) (locs : List Loc) (v : Int32) (t_part : Nat → Int32), decode b_Mo_join pc = .ok (.ireturn, 1) → narrow .boolean (.int v) = .int v → va_P D CL [(q_t, .inr (8, [.int t_nodes, .int t_arcs, .int t_left, .ref q_t_froms, .ref q_t_tos, .ref q_t_weights, .ref q_t_there, .ref q_t_part, .ref q_t_matrix, .ref q_t_row, .ref q_t_low, .int t_swapIn, .int t_swapOut, .ref q_t_own, .ref q_t_chosen, .ref q_t_degrees, .long t_boundedSet, .ref q_t_fixed, .ref q_t_grown, .ref q_t_costs, .ref q_t_order, .long t_joinedSet])), (q_t_froms, .inl (cI, 30, .inl t_froms)), (q_t_part, .inl (cI, 10, .inl t_part)), (q_t_tos, .inl (cI, 30, .inl t_tos))] H → va_D A [(q_t, .inr (8, [.int t_nodes, .int t_arcs, .int t_left, .ref q_t_froms, .ref q_t_tos, .ref q_t_weights, .ref q_t_there, .ref q_t_part, .ref q_t_matrix, .ref q_t_row, .ref q_t_low, .int t_swapIn, .int t_swapOut, .ref q_t_own, .ref q_t_chosen, .ref q_t_degrees, .long t_boundedSet, .ref q_t_fixed, .ref q_t_grown, .ref q_t_costs, .ref q_t_order, .long t_joinedSet])), (q_t_froms, .inl (cI, 30, .inl t_froms)), (q_t_part, .inl (cI, 10, .inl t_part)), (q_t_tos, .inl (cI, 30, .inl t_tos))] → va_S A s.heap H locs → some (v, t_part) = some RR → W p l e R s m args below meth c H locs 0 0 Q (F0 m pc ls [.int v]))  : ∀ (v2 : Int32) (v3 : Int32) (s0 : Int32) (t_part : Nat → Int32) (H : Heap) (locs : List Loc) (ls : Array Slot), va_P D CL [(q_t, .inr (8, [.int t_nodes, .int t_arcs, .int t_left, .ref q_t_froms, .ref q_t_tos, .ref q_t_weights, .ref q_t_there, .ref q_t_part, .ref q_t_matrix, .ref q_t_row, .ref q_t_low, .int t_swapIn, .int t_swapOut, .ref q_t_own, .ref q_t_chosen, .ref q_t_degrees, .long t_boundedSet, .ref q_t_fixed, .ref q_t_grown, .ref q_t_costs, .ref q_t_order, .long t_joinedSet])), (q_t_froms, .inl (cI, 30, .inl t_froms)), (q_t_part, .inl (cI, 10, .inl t_part)), (q_t_tos, .inl (cI, 30, .inl t_tos))] H → va_D A [(q_t, .inr (8, [.int t_nodes, .int t_arcs, .int t_left, .ref q_t_froms, .ref q_t_tos, .ref q_t_weights, .ref q_t_there, .ref q_t_part, .ref q_t_matrix, .ref q_t_row, .ref q_t_low, .int t_swapIn, .int t_swapOut, .ref q_t_own, .ref q_t_chosen, .ref q_t_degrees, .long t_boundedSet, .ref q_t_fixed, .ref q_t_grown, .ref q_t_costs, .ref q_t_order, .long t_joinedSet])), (q_t_froms, .inl (cI, 30, .inl t_froms)), (q_t_part, .inl (cI, 10, .inl t_part)), (q_t_tos, .inl (cI, 30, .inl t_tos))] → va_S A s.heap H locs → lv_has ls 7 [(0, .ref q_t), (2, .int v2), (3, .int v3)] → g_Mo_join_41 N v2 v3 s0 t_part = some RR → W p l e R s m args below meth c H locs 0 0 Q (F0 m 41 ls [.int s0]) := by
  intro v2 v3 s0 t_part H locs ls hP hD hS hl hf
  obtain ⟨hx, hb, hml, hown, hts, hK, hA, hfr, hlo, hlk⟩ := id C0
  unfold g_Mo_join_41 at hf
  refine lv_istore (lv' := [(4, .int s0), (0, .ref q_t), (2, .int v2), (3, .int v3)]) hx hb d_Mo_join_41 hl (by decide) rfl (fun ls hl => ?_)
  refine lv_iload_n hx hb d_Mo_join_43 rfl (lv_at hl 2 rfl) ?_
  refine lv_iload_n hx hb d_Mo_join_44 rfl (lv_at hl 3 rfl) ?_
  refine lv_icmp_ge (tgt := 52) hx hb d_Mo_join_45 (by decide) (fun hc1 => ?_) (fun hc1 => ?_)
  · have hf := if_t hc1 hf
    refine lv_iload_n hx hb d_Mo_join_52 rfl (lv_at hl 2 rfl) ?_
    refine lv_istore (lv' := [(5, .int v2), (4, .int s0), (0, .ref q_t), (2, .int v2), (3, .int v3)]) hx hb d_Mo_join_53 hl (by decide) rfl (fun ls hl => ?_)
    refine lv_iconst (v := 0) hx hb d_Mo_join_55 (by decide) ?_
    refine lv_istore (lv' := [(6, .int (0 : Int32)), (5, .int v2), (4, .int s0), (0, .ref q_t), (2, .int v2), (3, .int v3)]) hx hb d_Mo_join_56 hl (by decide) rfl (fun ls hl => ?_)
    exact w_Mo_join_58_l C0 hret N s0 v2 (0 : Int32) t_part _ _ _ hP hD hS (lv_sub hl [3, 2, 1, 0] rfl) hf
  · have hf := if_f hc1 hf
    refine lv_iload_n hx hb d_Mo_join_48 rfl (lv_at hl 3 rfl) ?_
    refine lv_goto (tgt := 53) hx hb d_Mo_join_49 (by decide) ?_
    refine lv_istore (lv' := [(5, .int v3), (4, .int s0), (0, .ref q_t), (2, .int v2), (3, .int v3)]) hx hb d_Mo_join_53 hl (by decide) rfl (fun ls hl => ?_)
    refine lv_iconst (v := 0) hx hb d_Mo_join_55 (by decide) ?_
    refine lv_istore (lv' := [(6, .int (0 : Int32)), (5, .int v3), (4, .int s0), (0, .ref q_t), (2, .int v2), (3, .int v3)]) hx hb d_Mo_join_56 hl (by decide) rfl (fun ls hl => ?_)
    exact w_Mo_join_58_l C0 hret N s0 v3 (0 : Int32) t_part _ _ _ hP hD hS (lv_sub hl [3, 2, 1, 0] rfl) hf
set_option maxRecDepth 100000 in
set_option maxHeartbeats 4000000 in
theorem w_Mo_join_e {p : Program} {l : Launch} {e : Env} {R : Room} {s : State} {m : MethodId} {args : Array Value} {below : List Frame} {meth : Method} {c : Code} {D : va_G} {cI cJ cG cZ : ClassId} {A : Nat → Prop} {Q : State → Prop} {q_t q_t_froms q_t_tos q_t_weights q_t_there q_t_part q_t_matrix q_t_row q_t_low q_t_own q_t_chosen q_t_degrees q_t_fixed q_t_grown q_t_costs q_t_order : Nat} {t_nodes : Int32} {t_arcs : Int32} {t_left : Int32} {t_swapIn : Int32} {t_swapOut : Int32} {t_boundedSet : Int64} {t_joinedSet : Int64} {t_froms : Nat → Int32} {t_part0 : Nat → Int32} {t_tos : Nat → Int32} {p1 : Int32} {N : Nat} {RR : Int32 × (Nat → Int32)} (C0 : CX p R s m args meth c b_Mo_join 7 R_Mo lw_g D CL (TYs cI cJ cG cZ) A 0 0) (hret : ∀ (pc : Nat) (ls : Array Slot) (H : Heap) (locs : List Loc) (v : Int32) (t_part : Nat → Int32), decode b_Mo_join pc = .ok (.ireturn, 1) → narrow .boolean (.int v) = .int v → va_P D CL [(q_t, .inr (8, [.int t_nodes, .int t_arcs, .int t_left, .ref q_t_froms, .ref q_t_tos, .ref q_t_weights, .ref q_t_there, .ref q_t_part, .ref q_t_matrix, .ref q_t_row, .ref q_t_low, .int t_swapIn, .int t_swapOut, .ref q_t_own, .ref q_t_chosen, .ref q_t_degrees, .long t_boundedSet, .ref q_t_fixed, .ref q_t_grown, .ref q_t_costs, .ref q_t_order, .long t_joinedSet])), (q_t_froms, .inl (cI, 30, .inl t_froms)), (q_t_part, .inl (cI, 10, .inl t_part)), (q_t_tos, .inl (cI, 30, .inl t_tos))] H → va_D A [(q_t, .inr (8, [.int t_nodes, .int t_arcs, .int t_left, .ref q_t_froms, .ref q_t_tos, .ref q_t_weights, .ref q_t_there, .ref q_t_part, .ref q_t_matrix, .ref q_t_row, .ref q_t_low, .int t_swapIn, .int t_swapOut, .ref q_t_own, .ref q_t_chosen, .ref q_t_degrees, .long t_boundedSet, .ref q_t_fixed, .ref q_t_grown, .ref q_t_costs, .ref q_t_order, .long t_joinedSet])), (q_t_froms, .inl (cI, 30, .inl t_froms)), (q_t_part, .inl (cI, 10, .inl t_part)), (q_t_tos, .inl (cI, 30, .inl t_tos))] → va_S A s.heap H locs → some (v, t_part) = some RR → W p l e R s m args below meth c H locs 0 0 Q (F0 m pc ls [.int v])) : ∀ (H : Heap) (locs : List Loc) (ls : Array Slot), va_P D CL [(q_t, .inr (8, [.int t_nodes, .int t_arcs, .int t_left, .ref q_t_froms, .ref q_t_tos, .ref q_t_weights, .ref q_t_there, .ref q_t_part, .ref q_t_matrix, .ref q_t_row, .ref q_t_low, .int t_swapIn, .int t_swapOut, .ref q_t_own, .ref q_t_chosen, .ref q_t_degrees, .long t_boundedSet, .ref q_t_fixed, .ref q_t_grown, .ref q_t_costs, .ref q_t_order, .long t_joinedSet])), (q_t_froms, .inl (cI, 30, .inl t_froms)), (q_t_part, .inl (cI, 10, .inl t_part0)), (q_t_tos, .inl (cI, 30, .inl t_tos))] H → va_D A [(q_t, .inr (8, [.int t_nodes, .int t_arcs, .int t_left, .ref q_t_froms, .ref q_t_tos, .ref q_t_weights, .ref q_t_there, .ref q_t_part, .ref q_t_matrix, .ref q_t_row, .ref q_t_low, .int t_swapIn, .int t_swapOut, .ref q_t_own, .ref q_t_chosen, .ref q_t_degrees, .long t_boundedSet, .ref q_t_fixed, .ref q_t_grown, .ref q_t_costs, .ref q_t_order, .long t_joinedSet])), (q_t_froms, .inl (cI, 30, .inl t_froms)), (q_t_part, .inl (cI, 10, .inl t_part0)), (q_t_tos, .inl (cI, 30, .inl t_tos))] → va_S A s.heap H locs → lv_has ls 7 [(0, .ref q_t), (1, .int p1)] → f_Mo_join N p1 t_froms t_part0 t_tos = some RR → W p l e R s m args below meth c H locs 0 0 Q (F0 m 0 ls []) := by
  intro H locs ls hP hD hS hl hf
  obtain ⟨hx, hb, hml, hown, hts, hK, hA, hfr, hlo, hlk⟩ := id C0
  unfold f_Mo_join at hf
  refine lv_aload_n hx hb d_Mo_join_0 rfl (lv_at hl 0 rfl) ?_
  refine va_get (D := D) (ci := 8) (v := .ref q_t_part) (C := R_Mo) (T := F_Mo) (N := 22) hx hb hts i_Mo hown hK hP 0 rfl rfl 7 (by decide) (hts _ m_3_135) (fun _ h9 => h9) rfl d_Mo_join_1 ?_
  refine lv_aload_n hx hb d_Mo_join_4 rfl (lv_at hl 0 rfl) ?_
  refine va_get (D := D) (ci := 8) (v := .ref q_t_froms) (C := R_Mo) (T := F_Mo) (N := 22) hx hb hts i_Mo hown hK hP 0 rfl rfl 3 (by decide) (hts _ m_3_131) (fun _ h9 => h9) rfl d_Mo_join_5 ?_
  refine lv_iload_n hx hb d_Mo_join_8 rfl (lv_at hl 1 rfl) ?_
  obtain ⟨hg1, hf⟩ := gd_e hf
  refine va_iald hx hb hK hP 1 0 rfl rfl (inb_e hg1) d_Mo_join_9 ?_
  obtain ⟨hg2, hf⟩ := gd_e hf
  refine va_iald hx hb hK hP 2 0 rfl rfl (inb_e hg2) d_Mo_join_10 ?_
  refine lv_topi (fun x1 ex1 => ?_)
  have hf := bn_e ex1 hf
  refine lv_istore_n (lv' := [(2, .int x1), (0, .ref q_t), (1, .int p1)]) hx hb d_Mo_join_11 rfl hl (by decide) rfl (fun ls hl => ?_)
  refine lv_aload_n hx hb d_Mo_join_12 rfl (lv_at hl 1 rfl) ?_
  refine va_get (D := D) (ci := 8) (v := .ref q_t_part) (C := R_Mo) (T := F_Mo) (N := 22) hx hb hts i_Mo hown hK hP 0 rfl rfl 7 (by decide) (hts _ m_3_135) (fun _ h9 => h9) rfl d_Mo_join_13 ?_
  refine lv_aload_n hx hb d_Mo_join_16 rfl (lv_at hl 1 rfl) ?_
  refine va_get (D := D) (ci := 8) (v := .ref q_t_tos) (C := R_Mo) (T := F_Mo) (N := 22) hx hb hts i_Mo hown hK hP 0 rfl rfl 4 (by decide) (hts _ m_3_132) (fun _ h9 => h9) rfl d_Mo_join_17 ?_
  refine lv_iload_n hx hb d_Mo_join_20 rfl (lv_at hl 2 rfl) ?_
  obtain ⟨hg3, hf⟩ := gd_e hf
  refine va_iald hx hb hK hP 3 0 rfl rfl (inb_e hg3) d_Mo_join_21 ?_
  obtain ⟨hg4, hf⟩ := gd_e hf
  refine va_iald hx hb hK hP 2 0 rfl rfl (inb_e hg4) d_Mo_join_22 ?_
  refine lv_topi (fun x2 ex2 => ?_)
  have hf := bn_e ex2 hf
  refine lv_istore_n (lv' := [(3, .int x2), (2, .int x1), (0, .ref q_t), (1, .int p1)]) hx hb d_Mo_join_23 rfl hl (by decide) rfl (fun ls hl => ?_)
  refine lv_iload_n hx hb d_Mo_join_24 rfl (lv_at hl 1 rfl) ?_
  refine lv_iload_n hx hb d_Mo_join_25 rfl (lv_at hl 0 rfl) ?_
  refine lv_icmp_ne (tgt := 31) hx hb d_Mo_join_26 (by decide) (fun hc1 => ?_) (fun hc1 => ?_)
  · have hf := if_f hc1 hf
    refine lv_iload_n hx hb d_Mo_join_31 rfl (lv_at hl 1 rfl) ?_
    refine lv_iload_n hx hb d_Mo_join_32 rfl (lv_at hl 0 rfl) ?_
    refine lv_icmp_ge (tgt := 40) hx hb d_Mo_join_33 (by decide) (fun hc2 => ?_) (fun hc2 => ?_)
    · have hf := if_t hc2 hf
      refine lv_iload_n hx hb d_Mo_join_40 rfl (lv_at hl 0 rfl) ?_
      exact w_Mo_join_41 C0 hret  x1 x2 x2 t_part0 _ _ _ hP hD hS (lv_sub hl [2, 1, 0] rfl) hf
    · have hf := if_f hc2 hf
      refine lv_iload_n hx hb d_Mo_join_36 rfl (lv_at hl 1 rfl) ?_
      refine lv_goto (tgt := 41) hx hb d_Mo_join_37 (by decide) ?_
      exact w_Mo_join_41 C0 hret  x1 x2 x1 t_part0 _ _ _ hP hD hS (lv_sub hl [2, 1, 0] rfl) hf
  · have hf := if_t hc1 hf
    refine lv_iconst (v := 0) hx hb d_Mo_join_29 (by decide) ?_
    exact hret 30 _ _ _ (0 : Int32) t_part0 d_Mo_join_30 rfl hP hD hS hf
set_option maxRecDepth 100000 in
set_option maxHeartbeats 4000000 in
theorem c_Mo_join (l : Launch) (D : va_G) (cI cJ cG cZ : ClassId) (q_t q_t_froms q_t_tos q_t_weights q_t_there q_t_part q_t_matrix q_t_row q_t_low q_t_own q_t_chosen q_t_degrees q_t_fixed q_t_grown q_t_costs q_t_order : Nat) (t_nodes : Int32) (t_arcs : Int32) (t_left : Int32) (t_swapIn : Int32) (t_swapOut : Int32) (t_boundedSet : Int64) (t_joinedSet : Int64) (t_froms : Nat → Int32) (t_part0 : Nat → Int32) (t_tos : Nat → Int32) (p1 : Int32) {N : Nat} {r : Int32} {t_part' : Nat → Int32} (hf : f_Mo_join N p1 t_froms t_part0 t_tos = some (r, t_part')) : MeG l D CL (TYs cI cJ cG cZ) y_Mo_join ws_Mo_join (rm_Mo_join) [.ref q_t, .int p1] [(q_t, .inr (8, [.int t_nodes, .int t_arcs, .int t_left, .ref q_t_froms, .ref q_t_tos, .ref q_t_weights, .ref q_t_there, .ref q_t_part, .ref q_t_matrix, .ref q_t_row, .ref q_t_low, .int t_swapIn, .int t_swapOut, .ref q_t_own, .ref q_t_chosen, .ref q_t_degrees, .long t_boundedSet, .ref q_t_fixed, .ref q_t_grown, .ref q_t_costs, .ref q_t_order, .long t_joinedSet])), (q_t_froms, .inl (cI, 30, .inl t_froms)), (q_t_part, .inl (cI, 10, .inl t_part0)), (q_t_tos, .inl (cI, 30, .inl t_tos))] (some (.int r)) [(q_t, .inr (8, [.int t_nodes, .int t_arcs, .int t_left, .ref q_t_froms, .ref q_t_tos, .ref q_t_weights, .ref q_t_there, .ref q_t_part, .ref q_t_matrix, .ref q_t_row, .ref q_t_low, .int t_swapIn, .int t_swapOut, .ref q_t_own, .ref q_t_chosen, .ref q_t_degrees, .long t_boundedSet, .ref q_t_fixed, .ref q_t_grown, .ref q_t_costs, .ref q_t_order, .long t_joinedSet])), (q_t_froms, .inl (cI, 30, .inl t_froms)), (q_t_part, .inl (cI, 10, .inl t_part')), (q_t_tos, .inl (cI, 30, .inl t_tos))] := by
  intro sz
  refine Met.ofW (cc := b_Mo_join) (maxL := 7) (ret := (some .boolean)) (by decide) rfl ?_
  intro p e s m args below meth c s₁ B hml hv
  obtain ⟨rfl, hsz, hP, hK, hD0⟩ := hv
  subst hsz
  have hD := hD0.self (sz := s.heap.size)
  generalize hAe : va_A [(q_t, .inr (8, [.int t_nodes, .int t_arcs, .int t_left, .ref q_t_froms, .ref q_t_tos, .ref q_t_weights, .ref q_t_there, .ref q_t_part, .ref q_t_matrix, .ref q_t_row, .ref q_t_low, .int t_swapIn, .int t_swapOut, .ref q_t_own, .ref q_t_chosen, .ref q_t_degrees, .long t_boundedSet, .ref q_t_fixed, .ref q_t_grown, .ref q_t_costs, .ref q_t_order, .long t_joinedSet])), (q_t_froms, .inl (cI, 30, .inl t_froms)), (q_t_part, .inl (cI, 10, .inl t_part0)), (q_t_tos, .inl (cI, 30, .inl t_tos))] s.heap.size = A at hD ⊢
  have C0 : CX p (headSpec ws_Mo_join (rm_Mo_join)).room s m _ meth c b_Mo_join 7 R_Mo lw_g D CL (TYs cI cJ cG cZ) A 0 0 := ⟨B.exec, B.bytes, hml, findClass_of_methodNamed B.named, fun w h => atoms_spec (ws := ws_Mo_join) B.pre w (List.mem_cons_of_mem _ h), hK, fun q h => by rw [← hAe]; exact Or.inr h, Nat.le_of_ble_eq_true rfl, Nat.le_of_ble_eq_true rfl, B.notSynchronized⟩
  have hl := lv_entry ([.ref q_t, .int p1]) (n := 7) (Nat.le_of_ble_eq_true rfl)
  rw [lg_entry_eq]
  generalize (lg_sl ([.ref q_t, .int p1]) ++ List.replicate (7 - (lg_sl ([.ref q_t, .int p1])).length) Slot.unset).toArray = ls at hl ⊢
  have hl : lv_has ls 7 [(0, .ref q_t), (1, .int p1)] := hl
  exact w_Mo_join_e C0 (fun pc ls H locs v t_part hdg hz hP hD hS e => by cases e; exact W.zret B.exec B.bytes B.returns hz (fun t ht hW => ⟨⟨rfl, by rw [ht]; exact hP, va_K.moved hW.alike hK, hD⟩, hS.F ht⟩) hS.2.2 hdg) _ _ _ hP hD va_S.rf (lv_sub hl [0, 1] rfl) hf
abbrev b_Mo_partCount : ByteArray := prog_11_method_11_code
def y_Mo_partCount : MethodName := ⟨R_Mo, "partCount", "()I"⟩
def ws_Mo_partCount : List Cond := .code y_Mo_partCount b_Mo_partCount 3 (some .int) :: lw_g
theorem wi_Mo_partCount : ∀ w ∈ ws_Mo_partCount, w ∈ lw_g := wi_of m_4_3
abbrev rm_Mo_partCount : Room := { frames := 0, cells := 0, slots := 0, locals := 0 }
theorem hd_Mo_partCount : y_Mo_partCount.cls = R_Mo ∧ y_Mo_partCount.cls ≠ "java/lang/invoke/MethodHandle" ∧ y_Mo_partCount.cls ≠ "java/lang/invoke/VarHandle" ∧ (parseMethodDescriptor y_Mo_partCount.desc).map (fun d => d.parameters.length) = some 0 := by decide +kernel
theorem d_Mo_partCount_0 : decode b_Mo_partCount 0 = .ok (.iconst 0, 1) := by decide +kernel
theorem d_Mo_partCount_1 : decode b_Mo_partCount 1 = .ok (.istore_n 1, 1) := by decide +kernel
theorem d_Mo_partCount_2 : decode b_Mo_partCount 2 = .ok (.iconst 0, 1) := by decide +kernel
theorem d_Mo_partCount_3 : decode b_Mo_partCount 3 = .ok (.istore_n 2, 1) := by decide +kernel
theorem d_Mo_partCount_4 : decode b_Mo_partCount 4 = .ok (.iload_n 2, 1) := by decide +kernel
theorem d_Mo_partCount_5 : decode b_Mo_partCount 5 = .ok (.aload_n 0, 1) := by decide +kernel
theorem d_Mo_partCount_6 : decode b_Mo_partCount 6 = .ok (.getfield 57, 3) := by decide +kernel
theorem d_Mo_partCount_9 : decode b_Mo_partCount 9 = .ok (.if_icmp .ge 27, 3) := by decide +kernel
theorem d_Mo_partCount_12 : decode b_Mo_partCount 12 = .ok (.iload_n 1, 1) := by decide +kernel
theorem d_Mo_partCount_13 : decode b_Mo_partCount 13 = .ok (.aload_n 0, 1) := by decide +kernel
theorem d_Mo_partCount_14 : decode b_Mo_partCount 14 = .ok (.getfield 23, 3) := by decide +kernel
theorem d_Mo_partCount_17 : decode b_Mo_partCount 17 = .ok (.iload_n 2, 1) := by decide +kernel
theorem d_Mo_partCount_18 : decode b_Mo_partCount 18 = .ok (.iaload, 1) := by decide +kernel
theorem d_Mo_partCount_19 : decode b_Mo_partCount 19 = .ok (.iload_n 2, 1) := by decide +kernel
theorem d_Mo_partCount_20 : decode b_Mo_partCount 20 = .ok (.if_icmp .ne 7, 3) := by decide +kernel
theorem d_Mo_partCount_23 : decode b_Mo_partCount 23 = .ok (.iconst 1, 1) := by decide +kernel
theorem d_Mo_partCount_24 : decode b_Mo_partCount 24 = .ok (.goto 4, 3) := by decide +kernel
theorem d_Mo_partCount_27 : decode b_Mo_partCount 27 = .ok (.iconst 0, 1) := by decide +kernel
theorem d_Mo_partCount_28 : decode b_Mo_partCount 28 = .ok (.iadd, 1) := by decide +kernel
theorem d_Mo_partCount_29 : decode b_Mo_partCount 29 = .ok (.istore_n 1, 1) := by decide +kernel
theorem d_Mo_partCount_30 : decode b_Mo_partCount 30 = .ok (.iinc 2 1, 3) := by decide +kernel
theorem d_Mo_partCount_33 : decode b_Mo_partCount 33 = .ok (.goto (-29), 3) := by decide +kernel
theorem d_Mo_partCount_36 : decode b_Mo_partCount 36 = .ok (.iload_n 1, 1) := by decide +kernel
theorem d_Mo_partCount_37 : decode b_Mo_partCount 37 = .ok (.ireturn, 1) := by decide +kernel
def g_Mo_partCount_4 (t_nodes : Int32) (t_part : Nat → Int32) (k4 : Int32 → Int32 → Option (Int32)) (v1 : Int32) (v2 : Int32) : Option (Int32) :=
  if t_nodes ≤ v2 then
    some (v1)
  else
    gd (inb v2 10) <|
    if (t_part v2.toNatClampNeg) = v2 then
      bn (v1 + (1 : Int32)) fun x3 =>
      bn (v2 + (1 : Int32)) fun x4 =>
      k4 x3 x4
    else
      bn (v1 + (0 : Int32)) fun x1 =>
      bn (v2 + (1 : Int32)) fun x2 =>
      k4 x1 x2
def f_Mo_partCount (N : Nat) (t_nodes : Int32) (t_part : Nat → Int32) : Option (Int32) :=
  lo2 (g_Mo_partCount_4 t_nodes t_part) N (0 : Int32) (0 : Int32)
set_option maxRecDepth 100000 in
set_option maxHeartbeats 4000000 in
theorem w_Mo_partCount_4 {p : Program} {l : Launch} {e : Env} {R : Room} {s : State} {m : MethodId} {args : Array Value} {below : List Frame} {meth : Method} {c : Code} {D : va_G} {cI cJ cG cZ : ClassId} {A : Nat → Prop} {Q : State → Prop} {q_t q_t_froms q_t_tos q_t_weights q_t_there q_t_part q_t_matrix q_t_row q_t_low q_t_own q_t_chosen q_t_degrees q_t_fixed q_t_grown q_t_costs q_t_order : Nat} {t_nodes : Int32} {t_arcs : Int32} {t_left : Int32} {t_swapIn : Int32} {t_swapOut : Int32} {t_boundedSet : Int64} {t_joinedSet : Int64} {t_part : Nat → Int32} {RR : Int32} (C0 : CX p R s m args meth c b_Mo_partCount 3 R_Mo lw_g D CL (TYs cI cJ cG cZ) A 0 0) (hret : ∀ (pc : Nat) (ls : Array Slot) (H : Heap) (locs : List Loc) (v : Int32) , decode b_Mo_partCount pc = .ok (.ireturn, 1) → va_P D CL [(q_t, .inr (8, [.int t_nodes, .int t_arcs, .int t_left, .ref q_t_froms, .ref q_t_tos, .ref q_t_weights, .ref q_t_there, .ref q_t_part, .ref q_t_matrix, .ref q_t_row, .ref q_t_low, .int t_swapIn, .int t_swapOut, .ref q_t_own, .ref q_t_chosen, .ref q_t_degrees, .long t_boundedSet, .ref q_t_fixed, .ref q_t_grown, .ref q_t_costs, .ref q_t_order, .long t_joinedSet])), (q_t_part, .inl (cI, 10, .inl t_part))] H → va_D A [(q_t, .inr (8, [.int t_nodes, .int t_arcs, .int t_left, .ref q_t_froms, .ref q_t_tos, .ref q_t_weights, .ref q_t_there, .ref q_t_part, .ref q_t_matrix, .ref q_t_row, .ref q_t_low, .int t_swapIn, .int t_swapOut, .ref q_t_own, .ref q_t_chosen, .ref q_t_degrees, .long t_boundedSet, .ref q_t_fixed, .ref q_t_grown, .ref q_t_costs, .ref q_t_order, .long t_joinedSet])), (q_t_part, .inl (cI, 10, .inl t_part))] → va_S A s.heap H locs → some (v) = some RR → W p l e R s m args below meth c H locs 0 0 Q (F0 m pc ls [.int v])) (k4 : Int32 → Int32 → Option (Int32)) (hk4 : ∀ (v1 : Int32) (v2 : Int32) (H : Heap) (locs : List Loc) (ls : Array Slot), va_P D CL [(q_t, .inr (8, [.int t_nodes, .int t_arcs, .int t_left, .ref q_t_froms, .ref q_t_tos, .ref q_t_weights, .ref q_t_there, .ref q_t_part, .ref q_t_matrix, .ref q_t_row, .ref q_t_low, .int t_swapIn, .int t_swapOut, .ref q_t_own, .ref q_t_chosen, .ref q_t_degrees, .long t_boundedSet, .ref q_t_fixed, .ref q_t_grown, .ref q_t_costs, .ref q_t_order, .long t_joinedSet])), (q_t_part, .inl (cI, 10, .inl t_part))] H → va_D A [(q_t, .inr (8, [.int t_nodes, .int t_arcs, .int t_left, .ref q_t_froms, .ref q_t_tos, .ref q_t_weights, .ref q_t_there, .ref q_t_part, .ref q_t_matrix, .ref q_t_row, .ref q_t_low, .int t_swapIn, .int t_swapOut, .ref q_t_own, .ref q_t_chosen, .ref q_t_degrees, .long t_boundedSet, .ref q_t_fixed, .ref q_t_grown, .ref q_t_costs, .ref q_t_order, .long t_joinedSet])), (q_t_part, .inl (cI, 10, .inl t_part))] → va_S A s.heap H locs → lv_has ls 3 [(0, .ref q_t), (1, .int v1), (2, .int v2)] → k4 v1 v2 = some RR → W p l e R s m args below meth c H locs 0 0 Q (F0 m 4 ls [])) : ∀ (v1 : Int32) (v2 : Int32) (H : Heap) (locs : List Loc) (ls : Array Slot), va_P D CL [(q_t, .inr (8, [.int t_nodes, .int t_arcs, .int t_left, .ref q_t_froms, .ref q_t_tos, .ref q_t_weights, .ref q_t_there, .ref q_t_part, .ref q_t_matrix, .ref q_t_row, .ref q_t_low, .int t_swapIn, .int t_swapOut, .ref q_t_own, .ref q_t_chosen, .ref q_t_degrees, .long t_boundedSet, .ref q_t_fixed, .ref q_t_grown, .ref q_t_costs, .ref q_t_order, .long t_joinedSet])), (q_t_part, .inl (cI, 10, .inl t_part))] H → va_D A [(q_t, .inr (8, [.int t_nodes, .int t_arcs, .int t_left, .ref q_t_froms, .ref q_t_tos, .ref q_t_weights, .ref q_t_there, .ref q_t_part, .ref q_t_matrix, .ref q_t_row, .ref q_t_low, .int t_swapIn, .int t_swapOut, .ref q_t_own, .ref q_t_chosen, .ref q_t_degrees, .long t_boundedSet, .ref q_t_fixed, .ref q_t_grown, .ref q_t_costs, .ref q_t_order, .long t_joinedSet])), (q_t_part, .inl (cI, 10, .inl t_part))] → va_S A s.heap H locs → lv_has ls 3 [(0, .ref q_t), (1, .int v1), (2, .int v2)] → g_Mo_partCount_4 t_nodes t_part k4 v1 v2 = some RR → W p l e R s m args below meth c H locs 0 0 Q (F0 m 4 ls []) := by
  intro v1 v2 H locs ls hP hD hS hl hf
  obtain ⟨hx, hb, hml, hown, hts, hK, hA, hfr, hlo, hlk⟩ := id C0
  unfold g_Mo_partCount_4 at hf
  refine lv_iload_n hx hb d_Mo_partCount_4 rfl (lv_at hl 2 rfl) ?_
  refine lv_aload_n hx hb d_Mo_partCount_5 rfl (lv_at hl 0 rfl) ?_
  refine va_get (D := D) (ci := 8) (v := .int t_nodes) (C := R_Mo) (T := F_Mo) (N := 22) hx hb hts i_Mo hown hK hP 0 rfl rfl 0 (by decide) (hts _ m_3_128) (fun _ h9 => h9) rfl d_Mo_partCount_6 ?_
  refine lv_icmp_ge (tgt := 36) hx hb d_Mo_partCount_9 (by decide) (fun hc1 => ?_) (fun hc1 => ?_)
  · have hf := if_t hc1 hf
    refine lv_iload_n hx hb d_Mo_partCount_36 rfl (lv_at hl 1 rfl) ?_
    exact hret 37 _ _ _ v1 d_Mo_partCount_37 hP hD hS hf
  · have hf := if_f hc1 hf
    refine lv_iload_n hx hb d_Mo_partCount_12 rfl (lv_at hl 1 rfl) ?_
    refine lv_aload_n hx hb d_Mo_partCount_13 rfl (lv_at hl 0 rfl) ?_
    refine va_get (D := D) (ci := 8) (v := .ref q_t_part) (C := R_Mo) (T := F_Mo) (N := 22) hx hb hts i_Mo hown hK hP 0 rfl rfl 7 (by decide) (hts _ m_3_135) (fun _ h9 => h9) rfl d_Mo_partCount_14 ?_
    refine lv_iload_n hx hb d_Mo_partCount_17 rfl (lv_at hl 2 rfl) ?_
    obtain ⟨hg1, hf⟩ := gd_e hf
    refine va_iald hx hb hK hP 1 0 rfl rfl (inb_e hg1) d_Mo_partCount_18 ?_
    refine lv_iload_n hx hb d_Mo_partCount_19 rfl (lv_at hl 2 rfl) ?_
    refine lv_icmp_ne (tgt := 27) hx hb d_Mo_partCount_20 (by decide) (fun hc2 => ?_) (fun hc2 => ?_)
    · have hf := if_f hc2 hf
      refine lv_iconst (v := 0) hx hb d_Mo_partCount_27 (by decide) ?_
      refine lv_iadd hx hb d_Mo_partCount_28 ?_
      refine lv_topi (fun x1 ex1 => ?_)
      have hf := bn_e ex1 hf
      refine lv_istore_n (lv' := [(1, .int x1), (0, .ref q_t), (2, .int v2)]) hx hb d_Mo_partCount_29 rfl hl (by decide) rfl (fun ls hl => ?_)
      obtain ⟨x2, ex2⟩ : ∃ y : Int32, y = v2 + (1 : Int32) := ⟨_, rfl⟩
      have hf := bn_e ex2 hf
      refine lv_iinc (v := x2) (lv' := [(2, .int x2), (1, .int x1), (0, .ref q_t)]) hx hb d_Mo_partCount_30 hl (k := 2) rfl (by rw [ex2]; rfl) (by decide) rfl (fun ls hl => ?_)
      refine lv_goto (tgt := 4) hx hb d_Mo_partCount_33 (by decide) ?_
      exact hk4 x1 x2 _ _ _ hP hD hS (lv_sub hl [2, 1, 0] rfl) hf
    · have hf := if_t hc2 hf
      refine lv_iconst (v := 1) hx hb d_Mo_partCount_23 (by decide) ?_
      refine lv_goto (tgt := 28) hx hb d_Mo_partCount_24 (by decide) ?_
      refine lv_iadd hx hb d_Mo_partCount_28 ?_
      refine lv_topi (fun x3 ex3 => ?_)
      have hf := bn_e ex3 hf
      refine lv_istore_n (lv' := [(1, .int x3), (0, .ref q_t), (2, .int v2)]) hx hb d_Mo_partCount_29 rfl hl (by decide) rfl (fun ls hl => ?_)
      obtain ⟨x4, ex4⟩ : ∃ y : Int32, y = v2 + (1 : Int32) := ⟨_, rfl⟩
      have hf := bn_e ex4 hf
      refine lv_iinc (v := x4) (lv' := [(2, .int x4), (1, .int x3), (0, .ref q_t)]) hx hb d_Mo_partCount_30 hl (k := 2) rfl (by rw [ex4]; rfl) (by decide) rfl (fun ls hl => ?_)
      refine lv_goto (tgt := 4) hx hb d_Mo_partCount_33 (by decide) ?_
      exact hk4 x3 x4 _ _ _ hP hD hS (lv_sub hl [2, 1, 0] rfl) hf
set_option maxRecDepth 100000 in
set_option maxHeartbeats 4000000 in
theorem w_Mo_partCount_4_l {p : Program} {l : Launch} {e : Env} {R : Room} {s : State} {m : MethodId} {args : Array Value} {below : List Frame} {meth : Method} {c : Code} {D : va_G} {cI cJ cG cZ : ClassId} {A : Nat → Prop} {Q : State → Prop} {q_t q_t_froms q_t_tos q_t_weights q_t_there q_t_part q_t_matrix q_t_row q_t_low q_t_own q_t_chosen q_t_degrees q_t_fixed q_t_grown q_t_costs q_t_order : Nat} {t_nodes : Int32} {t_arcs : Int32} {t_left : Int32} {t_swapIn : Int32} {t_swapOut : Int32} {t_boundedSet : Int64} {t_joinedSet : Int64} {t_part : Nat → Int32} {RR : Int32} (C0 : CX p R s m args meth c b_Mo_partCount 3 R_Mo lw_g D CL (TYs cI cJ cG cZ) A 0 0) (hret : ∀ (pc : Nat) (ls : Array Slot) (H : Heap) (locs : List Loc) (v : Int32) , decode b_Mo_partCount pc = .ok (.ireturn, 1) → va_P D CL [(q_t, .inr (8, [.int t_nodes, .int t_arcs, .int t_left, .ref q_t_froms, .ref q_t_tos, .ref q_t_weights, .ref q_t_there, .ref q_t_part, .ref q_t_matrix, .ref q_t_row, .ref q_t_low, .int t_swapIn, .int t_swapOut, .ref q_t_own, .ref q_t_chosen, .ref q_t_degrees, .long t_boundedSet, .ref q_t_fixed, .ref q_t_grown, .ref q_t_costs, .ref q_t_order, .long t_joinedSet])), (q_t_part, .inl (cI, 10, .inl t_part))] H → va_D A [(q_t, .inr (8, [.int t_nodes, .int t_arcs, .int t_left, .ref q_t_froms, .ref q_t_tos, .ref q_t_weights, .ref q_t_there, .ref q_t_part, .ref q_t_matrix, .ref q_t_row, .ref q_t_low, .int t_swapIn, .int t_swapOut, .ref q_t_own, .ref q_t_chosen, .ref q_t_degrees, .long t_boundedSet, .ref q_t_fixed, .ref q_t_grown, .ref q_t_costs, .ref q_t_order, .long t_joinedSet])), (q_t_part, .inl (cI, 10, .inl t_part))] → va_S A s.heap H locs → some (v) = some RR → W p l e R s m args below meth c H locs 0 0 Q (F0 m pc ls [.int v]))  : ∀ (n : Nat) (v1 : Int32) (v2 : Int32) (H : Heap) (locs : List Loc) (ls : Array Slot), va_P D CL [(q_t, .inr (8, [.int t_nodes, .int t_arcs, .int t_left, .ref q_t_froms, .ref q_t_tos, .ref q_t_weights, .ref q_t_there, .ref q_t_part, .ref q_t_matrix, .ref q_t_row, .ref q_t_low, .int t_swapIn, .int t_swapOut, .ref q_t_own, .ref q_t_chosen, .ref q_t_degrees, .long t_boundedSet, .ref q_t_fixed, .ref q_t_grown, .ref q_t_costs, .ref q_t_order, .long t_joinedSet])), (q_t_part, .inl (cI, 10, .inl t_part))] H → va_D A [(q_t, .inr (8, [.int t_nodes, .int t_arcs, .int t_left, .ref q_t_froms, .ref q_t_tos, .ref q_t_weights, .ref q_t_there, .ref q_t_part, .ref q_t_matrix, .ref q_t_row, .ref q_t_low, .int t_swapIn, .int t_swapOut, .ref q_t_own, .ref q_t_chosen, .ref q_t_degrees, .long t_boundedSet, .ref q_t_fixed, .ref q_t_grown, .ref q_t_costs, .ref q_t_order, .long t_joinedSet])), (q_t_part, .inl (cI, 10, .inl t_part))] → va_S A s.heap H locs → lv_has ls 3 [(0, .ref q_t), (1, .int v1), (2, .int v2)] → lo2 (g_Mo_partCount_4 t_nodes t_part) n v1 v2 = some RR → W p l e R s m args below meth c H locs 0 0 Q (F0 m 4 ls []) := by
  intro n
  induction n with
  | zero =>
    intro v1 v2 H locs ls hP hD hS hl hf
    exact absurd hf (by simp [lo2])
  | succ n ih =>
    intro v1 v2 H locs ls hP hD hS hl hf
    exact w_Mo_partCount_4 C0 hret  (lo2 (g_Mo_partCount_4 t_nodes t_part) n) ih v1 v2 H locs ls hP hD hS hl hf
set_option maxRecDepth 100000 in
set_option maxHeartbeats 4000000 in
theorem w_Mo_partCount_e {p : Program} {l : Launch} {e : Env} {R : Room} {s : State} {m : MethodId} {args : Array Value} {below : List Frame} {meth : Method} {c : Code} {D : va_G} {cI cJ cG cZ : ClassId} {A : Nat → Prop} {Q : State → Prop} {q_t q_t_froms q_t_tos q_t_weights q_t_there q_t_part q_t_matrix q_t_row q_t_low q_t_own q_t_chosen q_t_degrees q_t_fixed q_t_grown q_t_costs q_t_order : Nat} {t_nodes : Int32} {t_arcs : Int32} {t_left : Int32} {t_swapIn : Int32} {t_swapOut : Int32} {t_boundedSet : Int64} {t_joinedSet : Int64} {t_part : Nat → Int32} {N : Nat} {RR : Int32} (C0 : CX p R s m args meth c b_Mo_partCount 3 R_Mo lw_g D CL (TYs cI cJ cG cZ) A 0 0) (hret : ∀ (pc : Nat) (ls : Array Slot) (H : Heap) (locs : List Loc) (v : Int32) , decode b_Mo_partCount pc = .ok (.ireturn, 1) → va_P D CL [(q_t, .inr (8, [.int t_nodes, .int t_arcs, .int t_left, .ref q_t_froms, .ref q_t_tos, .ref q_t_weights, .ref q_t_there, .ref q_t_part, .ref q_t_matrix, .ref q_t_row, .ref q_t_low, .int t_swapIn, .int t_swapOut, .ref q_t_own, .ref q_t_chosen, .ref q_t_degrees, .long t_boundedSet, .ref q_t_fixed, .ref q_t_grown, .ref q_t_costs, .ref q_t_order, .long t_joinedSet])), (q_t_part, .inl (cI, 10, .inl t_part))] H → va_D A [(q_t, .inr (8, [.int t_nodes, .int t_arcs, .int t_left, .ref q_t_froms, .ref q_t_tos, .ref q_t_weights, .ref q_t_there, .ref q_t_part, .ref q_t_matrix, .ref q_t_row, .ref q_t_low, .int t_swapIn, .int t_swapOut, .ref q_t_own, .ref q_t_chosen, .ref q_t_degrees, .long t_boundedSet, .ref q_t_fixed, .ref q_t_grown, .ref q_t_costs, .ref q_t_order, .long t_joinedSet])), (q_t_part, .inl (cI, 10, .inl t_part))] → va_S A s.heap H locs → some (v) = some RR → W p l e R s m args below meth c H locs 0 0 Q (F0 m pc ls [.int v])) : ∀ (H : Heap) (locs : List Loc) (ls : Array Slot), va_P D CL [(q_t, .inr (8, [.int t_nodes, .int t_arcs, .int t_left, .ref q_t_froms, .ref q_t_tos, .ref q_t_weights, .ref q_t_there, .ref q_t_part, .ref q_t_matrix, .ref q_t_row, .ref q_t_low, .int t_swapIn, .int t_swapOut, .ref q_t_own, .ref q_t_chosen, .ref q_t_degrees, .long t_boundedSet, .ref q_t_fixed, .ref q_t_grown, .ref q_t_costs, .ref q_t_order, .long t_joinedSet])), (q_t_part, .inl (cI, 10, .inl t_part))] H → va_D A [(q_t, .inr (8, [.int t_nodes, .int t_arcs, .int t_left, .ref q_t_froms, .ref q_t_tos, .ref q_t_weights, .ref q_t_there, .ref q_t_part, .ref q_t_matrix, .ref q_t_row, .ref q_t_low, .int t_swapIn, .int t_swapOut, .ref q_t_own, .ref q_t_chosen, .ref q_t_degrees, .long t_boundedSet, .ref q_t_fixed, .ref q_t_grown, .ref q_t_costs, .ref q_t_order, .long t_joinedSet])), (q_t_part, .inl (cI, 10, .inl t_part))] → va_S A s.heap H locs → lv_has ls 3 [(0, .ref q_t)] → f_Mo_partCount N t_nodes t_part = some RR → W p l e R s m args below meth c H locs 0 0 Q (F0 m 0 ls []) := by
  intro H locs ls hP hD hS hl hf
  obtain ⟨hx, hb, hml, hown, hts, hK, hA, hfr, hlo, hlk⟩ := id C0
  unfold f_Mo_partCount at hf
  refine lv_iconst (v := 0) hx hb d_Mo_partCount_0 (by decide) ?_
  refine lv_istore_n (lv' := [(1, .int (0 : Int32)), (0, .ref q_t)]) hx hb d_Mo_partCount_1 rfl hl (by decide) rfl (fun ls hl => ?_)
  refine lv_iconst (v := 0) hx hb d_Mo_partCount_2 (by decide) ?_
  refine lv_istore_n (lv' := [(2, .int (0 : Int32)), (1, .int (0 : Int32)), (0, .ref q_t)]) hx hb d_Mo_partCount_3 rfl hl (by decide) rfl (fun ls hl => ?_)
  exact w_Mo_partCount_4_l C0 hret N (0 : Int32) (0 : Int32) _ _ _ hP hD hS (lv_sub hl [2, 1, 0] rfl) hf
set_option maxRecDepth 100000 in
set_option maxHeartbeats 4000000 in
theorem c_Mo_partCount (l : Launch) (D : va_G) (cI cJ cG cZ : ClassId) (q_t q_t_froms q_t_tos q_t_weights q_t_there q_t_part q_t_matrix q_t_row q_t_low q_t_own q_t_chosen q_t_degrees q_t_fixed q_t_grown q_t_costs q_t_order : Nat) (t_nodes : Int32) (t_arcs : Int32) (t_left : Int32) (t_swapIn : Int32) (t_swapOut : Int32) (t_boundedSet : Int64) (t_joinedSet : Int64) (t_part : Nat → Int32) {N : Nat} {r : Int32} (hf : f_Mo_partCount N t_nodes t_part = some (r)) : MeG l D CL (TYs cI cJ cG cZ) y_Mo_partCount ws_Mo_partCount (rm_Mo_partCount) [.ref q_t] [(q_t, .inr (8, [.int t_nodes, .int t_arcs, .int t_left, .ref q_t_froms, .ref q_t_tos, .ref q_t_weights, .ref q_t_there, .ref q_t_part, .ref q_t_matrix, .ref q_t_row, .ref q_t_low, .int t_swapIn, .int t_swapOut, .ref q_t_own, .ref q_t_chosen, .ref q_t_degrees, .long t_boundedSet, .ref q_t_fixed, .ref q_t_grown, .ref q_t_costs, .ref q_t_order, .long t_joinedSet])), (q_t_part, .inl (cI, 10, .inl t_part))] (some (.int r)) [(q_t, .inr (8, [.int t_nodes, .int t_arcs, .int t_left, .ref q_t_froms, .ref q_t_tos, .ref q_t_weights, .ref q_t_there, .ref q_t_part, .ref q_t_matrix, .ref q_t_row, .ref q_t_low, .int t_swapIn, .int t_swapOut, .ref q_t_own, .ref q_t_chosen, .ref q_t_degrees, .long t_boundedSet, .ref q_t_fixed, .ref q_t_grown, .ref q_t_costs, .ref q_t_order, .long t_joinedSet])), (q_t_part, .inl (cI, 10, .inl t_part))] := by
  intro sz
  refine Met.ofW (cc := b_Mo_partCount) (maxL := 3) (ret := (some .int)) (by decide) rfl ?_
  intro p e s m args below meth c s₁ B hml hv
  obtain ⟨rfl, hsz, hP, hK, hD0⟩ := hv
  subst hsz
  have hD := hD0.self (sz := s.heap.size)
  generalize hAe : va_A [(q_t, .inr (8, [.int t_nodes, .int t_arcs, .int t_left, .ref q_t_froms, .ref q_t_tos, .ref q_t_weights, .ref q_t_there, .ref q_t_part, .ref q_t_matrix, .ref q_t_row, .ref q_t_low, .int t_swapIn, .int t_swapOut, .ref q_t_own, .ref q_t_chosen, .ref q_t_degrees, .long t_boundedSet, .ref q_t_fixed, .ref q_t_grown, .ref q_t_costs, .ref q_t_order, .long t_joinedSet])), (q_t_part, .inl (cI, 10, .inl t_part))] s.heap.size = A at hD ⊢
  have C0 : CX p (headSpec ws_Mo_partCount (rm_Mo_partCount)).room s m _ meth c b_Mo_partCount 3 R_Mo lw_g D CL (TYs cI cJ cG cZ) A 0 0 := ⟨B.exec, B.bytes, hml, findClass_of_methodNamed B.named, fun w h => atoms_spec (ws := ws_Mo_partCount) B.pre w (List.mem_cons_of_mem _ h), hK, fun q h => by rw [← hAe]; exact Or.inr h, Nat.le_of_ble_eq_true rfl, Nat.le_of_ble_eq_true rfl, B.notSynchronized⟩
  have hl := lv_entry ([.ref q_t]) (n := 3) (Nat.le_of_ble_eq_true rfl)
  rw [lg_entry_eq]
  generalize (lg_sl ([.ref q_t]) ++ List.replicate (3 - (lg_sl ([.ref q_t])).length) Slot.unset).toArray = ls at hl ⊢
  have hl : lv_has ls 3 [(0, .ref q_t)] := hl
  exact w_Mo_partCount_e C0 (fun pc ls H locs v hdg hP hD hS e => by cases e; exact W.iret B.exec B.bytes B.returns (fun t ht hW => ⟨⟨rfl, by rw [ht]; exact hP, va_K.moved hW.alike hK, hD⟩, hS.F ht⟩) hS.2.2 hdg) _ _ _ hP hD va_S.rf (lv_sub hl [0] rfl) hf
