abbrev b_Mo_hangs : ByteArray := prog_11_method_22_code
def y_Mo_hangs : MethodName := ⟨R_Mo, "hangs", "(JII)Z"⟩
def ws_Mo_hangs : List Cond := .code y_Mo_hangs b_Mo_hangs 7 (some .boolean) :: lw_g
theorem wi_Mo_hangs : ∀ w ∈ ws_Mo_hangs, w ∈ lw_g := wi_of m_4_48
abbrev rm_Mo_hangs : Room := { frames := 1, cells := 0, slots := 0, locals := 26 }
theorem hd_Mo_hangs : y_Mo_hangs.cls = R_Mo ∧ y_Mo_hangs.cls ≠ "java/lang/invoke/MethodHandle" ∧ y_Mo_hangs.cls ≠ "java/lang/invoke/VarHandle" ∧ (parseMethodDescriptor y_Mo_hangs.desc).map (fun d => d.parameters.length) = some 3 := by decide +kernel
theorem d_Mo_hangs_0 : decode b_Mo_hangs 0 = .ok (.aload_n 0, 1) := by decide +kernel
theorem d_Mo_hangs_1 : decode b_Mo_hangs 1 = .ok (.invokevirtual 74, 3) := by decide +kernel
theorem d_Mo_hangs_4 : decode b_Mo_hangs 4 = .ok (.iconst 0, 1) := by decide +kernel
theorem d_Mo_hangs_5 : decode b_Mo_hangs 5 = .ok (.istore 5, 2) := by decide +kernel
theorem d_Mo_hangs_7 : decode b_Mo_hangs 7 = .ok (.iload 5, 2) := by decide +kernel
theorem d_Mo_hangs_9 : decode b_Mo_hangs 9 = .ok (.aload_n 0, 1) := by decide +kernel
theorem d_Mo_hangs_10 : decode b_Mo_hangs 10 = .ok (.getfield 61, 3) := by decide +kernel
theorem d_Mo_hangs_13 : decode b_Mo_hangs 13 = .ok (.if_icmp .ge 28, 3) := by decide +kernel
theorem d_Mo_hangs_16 : decode b_Mo_hangs 16 = .ok (.lload_n 1, 1) := by decide +kernel
theorem d_Mo_hangs_17 : decode b_Mo_hangs 17 = .ok (.iload 5, 2) := by decide +kernel
theorem d_Mo_hangs_19 : decode b_Mo_hangs 19 = .ok (.lshr, 1) := by decide +kernel
theorem d_Mo_hangs_20 : decode b_Mo_hangs 20 = .ok (.lconst 1, 1) := by decide +kernel
theorem d_Mo_hangs_21 : decode b_Mo_hangs 21 = .ok (.land, 1) := by decide +kernel
theorem d_Mo_hangs_22 : decode b_Mo_hangs 22 = .ok (.lconst 1, 1) := by decide +kernel
theorem d_Mo_hangs_23 : decode b_Mo_hangs 23 = .ok (.lcmp, 1) := by decide +kernel
theorem d_Mo_hangs_24 : decode b_Mo_hangs 24 = .ok (.ifCond .ne 11, 3) := by decide +kernel
theorem d_Mo_hangs_27 : decode b_Mo_hangs 27 = .ok (.aload_n 0, 1) := by decide +kernel
theorem d_Mo_hangs_28 : decode b_Mo_hangs 28 = .ok (.iload 5, 2) := by decide +kernel
theorem d_Mo_hangs_30 : decode b_Mo_hangs 30 = .ok (.invokevirtual 77, 3) := by decide +kernel
theorem d_Mo_hangs_33 : decode b_Mo_hangs 33 = .ok (.istore 6, 2) := by decide +kernel
theorem d_Mo_hangs_35 : decode b_Mo_hangs 35 = .ok (.iinc 5 1, 3) := by decide +kernel
theorem d_Mo_hangs_38 : decode b_Mo_hangs 38 = .ok (.goto (-31), 3) := by decide +kernel
theorem d_Mo_hangs_41 : decode b_Mo_hangs 41 = .ok (.aload_n 0, 1) := by decide +kernel
theorem d_Mo_hangs_42 : decode b_Mo_hangs 42 = .ok (.getfield 23, 3) := by decide +kernel
theorem d_Mo_hangs_45 : decode b_Mo_hangs 45 = .ok (.iload_n 3, 1) := by decide +kernel
theorem d_Mo_hangs_46 : decode b_Mo_hangs 46 = .ok (.iaload, 1) := by decide +kernel
theorem d_Mo_hangs_47 : decode b_Mo_hangs 47 = .ok (.aload_n 0, 1) := by decide +kernel
theorem d_Mo_hangs_48 : decode b_Mo_hangs 48 = .ok (.getfield 23, 3) := by decide +kernel
theorem d_Mo_hangs_51 : decode b_Mo_hangs 51 = .ok (.iload 4, 2) := by decide +kernel
theorem d_Mo_hangs_53 : decode b_Mo_hangs 53 = .ok (.iaload, 1) := by decide +kernel
theorem d_Mo_hangs_54 : decode b_Mo_hangs 54 = .ok (.if_icmp .ne 7, 3) := by decide +kernel
theorem d_Mo_hangs_57 : decode b_Mo_hangs 57 = .ok (.iconst 1, 1) := by decide +kernel
theorem d_Mo_hangs_58 : decode b_Mo_hangs 58 = .ok (.goto 4, 3) := by decide +kernel
theorem d_Mo_hangs_61 : decode b_Mo_hangs 61 = .ok (.iconst 0, 1) := by decide +kernel
theorem d_Mo_hangs_62 : decode b_Mo_hangs 62 = .ok (.ireturn, 1) := by decide +kernel
def g_Mo_hangs_7 (N : Nat) (p1 : Int64) (p3 : Int32) (p4 : Int32) (t_arcs : Int32) (t_froms : Nat → Int32) (t_tos : Nat → Int32) (k7 : Int32 → (Nat → Int32) → Option (Int32 × (Nat → Int32))) (v5 : Int32) (t_part : Nat → Int32) : Option (Int32 × (Nat → Int32)) :=
  if t_arcs ≤ v5 then
    gd (inb p3 10) <|
    gd (inb p4 10) <|
    if (t_part p3.toNatClampNeg) = (t_part p4.toNatClampNeg) then
      some ((1 : Int32), t_part)
    else
      some ((0 : Int32), t_part)
  else
    if (lg_cmp ((p1 >>> (v5.toInt64 &&& 63)) &&& (1 : Int64)) (1 : Int64)) = 0 then
      bk2 (f_Mo_join N v5 t_froms t_part t_tos) fun r2 c3 =>
      bn (v5 + (1 : Int32)) fun x4 =>
      k7 x4 c3
    else
      bn (v5 + (1 : Int32)) fun x1 =>
      k7 x1 t_part
def f_Mo_hangs (N : Nat) (p1 : Int64) (p3 : Int32) (p4 : Int32) (t_arcs : Int32) (t_part0 : Nat → Int32) (t_froms : Nat → Int32) (t_tos : Nat → Int32) : Option (Int32 × (Nat → Int32)) :=
  bk1 (f_Mo_alone N t_part0) fun c1 =>
  lo2 (g_Mo_hangs_7 N p1 p3 p4 t_arcs t_froms t_tos) N (0 : Int32) c1
set_option maxRecDepth 100000 in
set_option maxHeartbeats 4000000 in
theorem w_Mo_hangs_7 {p : Program} {l : Launch} {e : Env} {R : Room} {s : State} {m : MethodId} {args : Array Value} {below : List Frame} {meth : Method} {c : Code} {D : va_G} {cI cJ cG cZ : ClassId} {A : Nat → Prop} {Q : State → Prop} {q_t q_t_froms q_t_tos q_t_weights q_t_there q_t_part q_t_matrix q_t_row q_t_low q_t_own q_t_chosen q_t_degrees q_t_fixed q_t_grown q_t_costs q_t_order : Nat} {t_nodes : Int32} {t_arcs : Int32} {t_left : Int32} {t_swapIn : Int32} {t_swapOut : Int32} {t_boundedSet : Int64} {t_joinedSet : Int64} {t_froms : Nat → Int32} {t_tos : Nat → Int32} {p1 : Int64} {p3 : Int32} {p4 : Int32} {N : Nat} {RR : Int32 × (Nat → Int32)} (C0 : CX p R s m args meth c b_Mo_hangs 7 R_Mo lw_g D CL (TYs cI cJ cG cZ) A 1 26) (hret : ∀ (pc : Nat) (ls : Array Slot) (H : Heap) (locs : List Loc) (v : Int32) (t_part : Nat → Int32), decode b_Mo_hangs pc = .ok (.ireturn, 1) → narrow .boolean (.int v) = .int v → va_P D CL [(q_t, .inr (8, [.int t_nodes, .int t_arcs, .int t_left, .ref q_t_froms, .ref q_t_tos, .ref q_t_weights, .ref q_t_there, .ref q_t_part, .ref q_t_matrix, .ref q_t_row, .ref q_t_low, .int t_swapIn, .int t_swapOut, .ref q_t_own, .ref q_t_chosen, .ref q_t_degrees, .long t_boundedSet, .ref q_t_fixed, .ref q_t_grown, .ref q_t_costs, .ref q_t_order, .long t_joinedSet])), (q_t_part, .inl (cI, 10, .inl t_part)), (q_t_froms, .inl (cI, 30, .inl t_froms)), (q_t_tos, .inl (cI, 30, .inl t_tos))] H → va_D A [(q_t, .inr (8, [.int t_nodes, .int t_arcs, .int t_left, .ref q_t_froms, .ref q_t_tos, .ref q_t_weights, .ref q_t_there, .ref q_t_part, .ref q_t_matrix, .ref q_t_row, .ref q_t_low, .int t_swapIn, .int t_swapOut, .ref q_t_own, .ref q_t_chosen, .ref q_t_degrees, .long t_boundedSet, .ref q_t_fixed, .ref q_t_grown, .ref q_t_costs, .ref q_t_order, .long t_joinedSet])), (q_t_part, .inl (cI, 10, .inl t_part)), (q_t_froms, .inl (cI, 30, .inl t_froms)), (q_t_tos, .inl (cI, 30, .inl t_tos))] → va_S A s.heap H locs → some (v, t_part) = some RR → W p l e R s m args below meth c H locs 0 0 Q (F0 m pc ls [.int v])) (k7 : Int32 → (Nat → Int32) → Option (Int32 × (Nat → Int32))) (hk7 : ∀ (v5 : Int32) (t_part : Nat → Int32) (H : Heap) (locs : List Loc) (ls : Array Slot), va_P D CL [(q_t, .inr (8, [.int t_nodes, .int t_arcs, .int t_left, .ref q_t_froms, .ref q_t_tos, .ref q_t_weights, .ref q_t_there, .ref q_t_part, .ref q_t_matrix, .ref q_t_row, .ref q_t_low, .int t_swapIn, .int t_swapOut, .ref q_t_own, .ref q_t_chosen, .ref q_t_degrees, .long t_boundedSet, .ref q_t_fixed, .ref q_t_grown, .ref q_t_costs, .ref q_t_order, .long t_joinedSet])), (q_t_part, .inl (cI, 10, .inl t_part)), (q_t_froms, .inl (cI, 30, .inl t_froms)), (q_t_tos, .inl (cI, 30, .inl t_tos))] H → va_D A [(q_t, .inr (8, [.int t_nodes, .int t_arcs, .int t_left, .ref q_t_froms, .ref q_t_tos, .ref q_t_weights, .ref q_t_there, .ref q_t_part, .ref q_t_matrix, .ref q_t_row, .ref q_t_low, .int t_swapIn, .int t_swapOut, .ref q_t_own, .ref q_t_chosen, .ref q_t_degrees, .long t_boundedSet, .ref q_t_fixed, .ref q_t_grown, .ref q_t_costs, .ref q_t_order, .long t_joinedSet])), (q_t_part, .inl (cI, 10, .inl t_part)), (q_t_froms, .inl (cI, 30, .inl t_froms)), (q_t_tos, .inl (cI, 30, .inl t_tos))] → va_S A s.heap H locs → lv_has ls 7 [(0, .ref q_t), (1, .long p1), (3, .int p3), (4, .int p4), (5, .int v5)] → k7 v5 t_part = some RR → W p l e R s m args below meth c H locs 0 0 Q (F0 m 7 ls [])) : ∀ (v5 : Int32) (t_part : Nat → Int32) (H : Heap) (locs : List Loc) (ls : Array Slot), va_P D CL [(q_t, .inr (8, [.int t_nodes, .int t_arcs, .int t_left, .ref q_t_froms, .ref q_t_tos, .ref q_t_weights, .ref q_t_there, .ref q_t_part, .ref q_t_matrix, .ref q_t_row, .ref q_t_low, .int t_swapIn, .int t_swapOut, .ref q_t_own, .ref q_t_chosen, .ref q_t_degrees, .long t_boundedSet, .ref q_t_fixed, .ref q_t_grown, .ref q_t_costs, .ref q_t_order, .long t_joinedSet])), (q_t_part, .inl (cI, 10, .inl t_part)), (q_t_froms, .inl (cI, 30, .inl t_froms)), (q_t_tos, .inl (cI, 30, .inl t_tos))] H → va_D A [(q_t, .inr (8, [.int t_nodes, .int t_arcs, .int t_left, .ref q_t_froms, .ref q_t_tos, .ref q_t_weights, .ref q_t_there, .ref q_t_part, .ref q_t_matrix, .ref q_t_row, .ref q_t_low, .int t_swapIn, .int t_swapOut, .ref q_t_own, .ref q_t_chosen, .ref q_t_degrees, .long t_boundedSet, .ref q_t_fixed, .ref q_t_grown, .ref q_t_costs, .ref q_t_order, .long t_joinedSet])), (q_t_part, .inl (cI, 10, .inl t_part)), (q_t_froms, .inl (cI, 30, .inl t_froms)), (q_t_tos, .inl (cI, 30, .inl t_tos))] → va_S A s.heap H locs → lv_has ls 7 [(0, .ref q_t), (1, .long p1), (3, .int p3), (4, .int p4), (5, .int v5)] → g_Mo_hangs_7 N p1 p3 p4 t_arcs t_froms t_tos k7 v5 t_part = some RR → W p l e R s m args below meth c H locs 0 0 Q (F0 m 7 ls []) := by
  intro v5 t_part H locs ls hP hD hS hl hf
  obtain ⟨hx, hb, hml, hown, hts, hK, hA, hfr, hlo, hlk⟩ := id C0
  unfold g_Mo_hangs_7 at hf
  refine lv_iload hx hb d_Mo_hangs_7 (lv_at hl 4 rfl) ?_
  refine lv_aload_n hx hb d_Mo_hangs_9 rfl (lv_at hl 0 rfl) ?_
  refine va_get (D := D) (ci := 8) (v := .int t_arcs) (C := R_Mo) (T := F_Mo) (N := 22) hx hb hts i_Mo hown hK hP 0 rfl rfl 1 (by decide) (hts _ m_3_129) (fun _ h9 => h9) rfl d_Mo_hangs_10 ?_
  refine lv_icmp_ge (tgt := 41) hx hb d_Mo_hangs_13 (by decide) (fun hc1 => ?_) (fun hc1 => ?_)
  · have hf := if_t hc1 hf
    refine lv_aload_n hx hb d_Mo_hangs_41 rfl (lv_at hl 0 rfl) ?_
    refine va_get (D := D) (ci := 8) (v := .ref q_t_part) (C := R_Mo) (T := F_Mo) (N := 22) hx hb hts i_Mo hown hK hP 0 rfl rfl 7 (by decide) (hts _ m_3_135) (fun _ h9 => h9) rfl d_Mo_hangs_42 ?_
    refine lv_iload_n hx hb d_Mo_hangs_45 rfl (lv_at hl 2 rfl) ?_
    obtain ⟨hg1, hf⟩ := gd_e hf
    refine va_iald hx hb hK hP 1 0 rfl rfl (inb_e hg1) d_Mo_hangs_46 ?_
    refine lv_aload_n hx hb d_Mo_hangs_47 rfl (lv_at hl 0 rfl) ?_
    refine va_get (D := D) (ci := 8) (v := .ref q_t_part) (C := R_Mo) (T := F_Mo) (N := 22) hx hb hts i_Mo hown hK hP 0 rfl rfl 7 (by decide) (hts _ m_3_135) (fun _ h9 => h9) rfl d_Mo_hangs_48 ?_
    refine lv_iload hx hb d_Mo_hangs_51 (lv_at hl 3 rfl) ?_
    obtain ⟨hg2, hf⟩ := gd_e hf
    refine va_iald hx hb hK hP 1 0 rfl rfl (inb_e hg2) d_Mo_hangs_53 ?_
    refine lv_icmp_ne (tgt := 61) hx hb d_Mo_hangs_54 (by decide) (fun hc2 => ?_) (fun hc2 => ?_)
    · have hf := if_f hc2 hf
      refine lv_iconst (v := 0) hx hb d_Mo_hangs_61 (by decide) ?_
      exact hret 62 _ _ _ (0 : Int32) t_part d_Mo_hangs_62 rfl hP hD hS hf
    · have hf := if_t hc2 hf
      refine lv_iconst (v := 1) hx hb d_Mo_hangs_57 (by decide) ?_
      refine lv_goto (tgt := 62) hx hb d_Mo_hangs_58 (by decide) ?_
      exact hret 62 _ _ _ (1 : Int32) t_part d_Mo_hangs_62 rfl hP hD hS hf
  · have hf := if_f hc1 hf
    refine lv_lload_n hx hb d_Mo_hangs_16 rfl (lv_at hl 1 rfl) ?_
    refine lv_iload hx hb d_Mo_hangs_17 (lv_at hl 4 rfl) ?_
    refine lv_lshr (v := p1 >>> (v5.toInt64 &&& 63)) hx hb d_Mo_hangs_19 rfl ?_
    refine lv_lconst (v := 1) hx hb d_Mo_hangs_20 (by decide) ?_
    refine lv_land hx hb d_Mo_hangs_21 ?_
    refine lv_lconst (v := 1) hx hb d_Mo_hangs_22 (by decide) ?_
    refine W.lcmp hx hb d_Mo_hangs_23 ?_
    refine lv_if_ne (tgt := 35) hx hb d_Mo_hangs_24 (by decide) (fun hc3 => ?_) (fun hc3 => ?_)
    · have hf := if_f hc3 hf
      obtain ⟨x1, ex1⟩ : ∃ y : Int32, y = v5 + (1 : Int32) := ⟨_, rfl⟩
      have hf := bn_e ex1 hf
      refine lv_iinc (v := x1) (lv' := [(5, .int x1), (0, .ref q_t), (1, .long p1), (3, .int p3), (4, .int p4)]) hx hb d_Mo_hangs_35 hl (k := 4) rfl (by rw [ex1]; rfl) (by decide) rfl (fun ls hl => ?_)
      refine lv_goto (tgt := 7) hx hb d_Mo_hangs_38 (by decide) ?_
      exact hk7 x1 t_part _ _ _ hP hD hS (lv_sub hl [1, 2, 3, 4, 0] rfl) hf
    · have hf := if_t hc3 hf
      refine lv_aload_n hx hb d_Mo_hangs_27 rfl (lv_at hl 0 rfl) ?_
      refine lv_iload hx hb d_Mo_hangs_28 (lv_at hl 4 rfl) ?_
      obtain ⟨r2, c3, hq1, hf⟩ := bk2_e hf
      refine cl_go (wr := []) (W1 := [(q_t, .inr (8, [.int t_nodes, .int t_arcs, .int t_left, .ref q_t_froms, .ref q_t_tos, .ref q_t_weights, .ref q_t_there, .ref q_t_part, .ref q_t_matrix, .ref q_t_row, .ref q_t_low, .int t_swapIn, .int t_swapOut, .ref q_t_own, .ref q_t_chosen, .ref q_t_degrees, .long t_boundedSet, .ref q_t_fixed, .ref q_t_grown, .ref q_t_costs, .ref q_t_order, .long t_joinedSet])), (q_t_part, .inl (cI, 10, .inl c3)), (q_t_froms, .inl (cI, 30, .inl t_froms)), (q_t_tos, .inl (cI, 30, .inl t_tos))]) (va_runV (As := [.int v5]) (rest := []) ⟨hx, hb, hml, hown, hts⟩ (c_Mo_join l D cI cJ cG cZ q_t q_t_froms q_t_tos q_t_weights q_t_there q_t_part q_t_matrix q_t_row q_t_low q_t_own q_t_chosen q_t_degrees q_t_fixed q_t_grown q_t_costs q_t_order t_nodes t_arcs t_left t_swapIn t_swapOut t_boundedSet t_joinedSet t_froms t_part t_tos v5 hq1 H.size) (cwV 1 hts (gi_V m_3_236 m_3_238 m_0_27 m_1_9 wi_Mo_join) rfl rfl rfl hd_Mo_join ⟨Nat.le_trans (Nat.le_of_ble_eq_true rfl) hfr, Nat.le_trans (Nat.le_of_ble_eq_true rfl) hlo⟩) ⟨pw_blind, va_recv hK hP (ci := 8) (q0 := 0) rfl rfl, fun U hU hW => ⟨rfl, pw_in hU (hP.sub [0, 2, 1, 3] rfl) (va_K.moved hW.alike hK) ((hD.sub [0, 2, 1, 3] rfl rfl).weaken (fun _ _ _ _ => trivial))⟩⟩ rfl rfl hl.1 rfl (lv_room (Nat.le_of_ble_eq_true rfl)) d_Mo_hangs_30 ⟨Nat.zero_le _, Nat.zero_le _⟩) hP hD hS hA [0, 2, 1, 3] [] rfl rfl rfl rfl [0, 2, 1, 3] rfl rfl (fun H locs hP hD hS => ?_)
      have hP : va_P D CL [(q_t, .inr (8, [.int t_nodes, .int t_arcs, .int t_left, .ref q_t_froms, .ref q_t_tos, .ref q_t_weights, .ref q_t_there, .ref q_t_part, .ref q_t_matrix, .ref q_t_row, .ref q_t_low, .int t_swapIn, .int t_swapOut, .ref q_t_own, .ref q_t_chosen, .ref q_t_degrees, .long t_boundedSet, .ref q_t_fixed, .ref q_t_grown, .ref q_t_costs, .ref q_t_order, .long t_joinedSet])), (q_t_part, .inl (cI, 10, .inl c3)), (q_t_froms, .inl (cI, 30, .inl t_froms)), (q_t_tos, .inl (cI, 30, .inl t_tos))] H := hP
      have hD : va_D A [(q_t, .inr (8, [.int t_nodes, .int t_arcs, .int t_left, .ref q_t_froms, .ref q_t_tos, .ref q_t_weights, .ref q_t_there, .ref q_t_part, .ref q_t_matrix, .ref q_t_row, .ref q_t_low, .int t_swapIn, .int t_swapOut, .ref q_t_own, .ref q_t_chosen, .ref q_t_degrees, .long t_boundedSet, .ref q_t_fixed, .ref q_t_grown, .ref q_t_costs, .ref q_t_order, .long t_joinedSet])), (q_t_part, .inl (cI, 10, .inl c3)), (q_t_froms, .inl (cI, 30, .inl t_froms)), (q_t_tos, .inl (cI, 30, .inl t_tos))] := hD
      refine lv_istore (lv' := [(6, .int r2), (0, .ref q_t), (1, .long p1), (3, .int p3), (4, .int p4), (5, .int v5)]) hx hb d_Mo_hangs_33 hl (by decide) rfl (fun ls hl => ?_)
      obtain ⟨x4, ex4⟩ : ∃ y : Int32, y = v5 + (1 : Int32) := ⟨_, rfl⟩
      have hf := bn_e ex4 hf
      refine lv_iinc (v := x4) (lv' := [(5, .int x4), (6, .int r2), (0, .ref q_t), (1, .long p1), (3, .int p3), (4, .int p4)]) hx hb d_Mo_hangs_35 hl (k := 5) rfl (by rw [ex4]; rfl) (by decide) rfl (fun ls hl => ?_)
      refine lv_goto (tgt := 7) hx hb d_Mo_hangs_38 (by decide) ?_
      exact hk7 x4 c3 _ _ _ hP hD hS (lv_sub hl [2, 3, 4, 5, 0] rfl) hf
set_option maxRecDepth 100000 in
set_option maxHeartbeats 4000000 in
theorem w_Mo_hangs_7_l {p : Program} {l : Launch} {e : Env} {R : Room} {s : State} {m : MethodId} {args : Array Value} {below : List Frame} {meth : Method} {c : Code} {D : va_G} {cI cJ cG cZ : ClassId} {A : Nat → Prop} {Q : State → Prop} {q_t q_t_froms q_t_tos q_t_weights q_t_there q_t_part q_t_matrix q_t_row q_t_low q_t_own q_t_chosen q_t_degrees q_t_fixed q_t_grown q_t_costs q_t_order : Nat} {t_nodes : Int32} {t_arcs : Int32} {t_left : Int32} {t_swapIn : Int32} {t_swapOut : Int32} {t_boundedSet : Int64} {t_joinedSet : Int64} {t_froms : Nat → Int32} {t_tos : Nat → Int32} {p1 : Int64} {p3 : Int32} {p4 : Int32} {N : Nat} {RR : Int32 × (Nat → Int32)} (C0 : CX p R s m args meth c b_Mo_hangs 7 R_Mo lw_g D CL (TYs cI cJ cG cZ) A 1 26) (hret : ∀ (pc : Nat) (ls : Array Slot) (H : Heap) (locs : List Loc) (v : Int32) (t_part : Nat → Int32), decode b_Mo_hangs pc = .ok (.ireturn, 1) → narrow .boolean (.int v) = .int v → va_P D CL [(q_t, .inr (8, [.int t_nodes, .int t_arcs, .int t_left, .ref q_t_froms, .ref q_t_tos, .ref q_t_weights, .ref q_t_there, .ref q_t_part, .ref q_t_matrix, .ref q_t_row, .ref q_t_low, .int t_swapIn, .int t_swapOut, .ref q_t_own, .ref q_t_chosen, .ref q_t_degrees, .long t_boundedSet, .ref q_t_fixed, .ref q_t_grown, .ref q_t_costs, .ref q_t_order, .long t_joinedSet])), (q_t_part, .inl (cI, 10, .inl t_part)), (q_t_froms, .inl (cI, 30, .inl t_froms)), (q_t_tos, .inl (cI, 30, .inl t_tos))] H → va_D A [(q_t, .inr (8, [.int t_nodes, .int t_arcs, .int t_left, .ref q_t_froms, .ref q_t_tos, .ref q_t_weights, .ref q_t_there, .ref q_t_part, .ref q_t_matrix, .ref q_t_row, .ref q_t_low, .int t_swapIn, .int t_swapOut, .ref q_t_own, .ref q_t_chosen, .ref q_t_degrees, .long t_boundedSet, .ref q_t_fixed, .ref q_t_grown, .ref q_t_costs, .ref q_t_order, .long t_joinedSet])), (q_t_part, .inl (cI, 10, .inl t_part)), (q_t_froms, .inl (cI, 30, .inl t_froms)), (q_t_tos, .inl (cI, 30, .inl t_tos))] → va_S A s.heap H locs → some (v, t_part) = some RR → W p l e R s m args below meth c H locs 0 0 Q (F0 m pc ls [.int v]))  : ∀ (n : Nat) (v5 : Int32) (t_part : Nat → Int32) (H : Heap) (locs : List Loc) (ls : Array Slot), va_P D CL [(q_t, .inr (8, [.int t_nodes, .int t_arcs, .int t_left, .ref q_t_froms, .ref q_t_tos, .ref q_t_weights, .ref q_t_there, .ref q_t_part, .ref q_t_matrix, .ref q_t_row, .ref q_t_low, .int t_swapIn, .int t_swapOut, .ref q_t_own, .ref q_t_chosen, .ref q_t_degrees, .long t_boundedSet, .ref q_t_fixed, .ref q_t_grown, .ref q_t_costs, .ref q_t_order, .long t_joinedSet])), (q_t_part, .inl (cI, 10, .inl t_part)), (q_t_froms, .inl (cI, 30, .inl t_froms)), (q_t_tos, .inl (cI, 30, .inl t_tos))] H → va_D A [(q_t, .inr (8, [.int t_nodes, .int t_arcs, .int t_left, .ref q_t_froms, .ref q_t_tos, .ref q_t_weights, .ref q_t_there, .ref q_t_part, .ref q_t_matrix, .ref q_t_row, .ref q_t_low, .int t_swapIn, .int t_swapOut, .ref q_t_own, .ref q_t_chosen, .ref q_t_degrees, .long t_boundedSet, .ref q_t_fixed, .ref q_t_grown, .ref q_t_costs, .ref q_t_order, .long t_joinedSet])), (q_t_part, .inl (cI, 10, .inl t_part)), (q_t_froms, .inl (cI, 30, .inl t_froms)), (q_t_tos, .inl (cI, 30, .inl t_tos))] → va_S A s.heap H locs → lv_has ls 7 [(0, .ref q_t), (1, .long p1), (3, .int p3), (4, .int p4), (5, .int v5)] → lo2 (g_Mo_hangs_7 N p1 p3 p4 t_arcs t_froms t_tos) n v5 t_part = some RR → W p l e R s m args below meth c H locs 0 0 Q (F0 m 7 ls []) := by
  intro n
  induction n with
  | zero =>
    intro v5 t_part H locs ls hP hD hS hl hf
    exact absurd hf (by simp [lo2])
  | succ n ih =>
    intro v5 t_part H locs ls hP hD hS hl hf
    exact w_Mo_hangs_7 C0 hret  (lo2 (g_Mo_hangs_7 N p1 p3 p4 t_arcs t_froms t_tos) n) ih v5 t_part H locs ls hP hD hS hl hf
set_option maxRecDepth 100000 in
set_option maxHeartbeats 4000000 in
theorem w_Mo_hangs_e {p : Program} {l : Launch} {e : Env} {R : Room} {s : State} {m : MethodId} {args : Array Value} {below : List Frame} {meth : Method} {c : Code} {D : va_G} {cI cJ cG cZ : ClassId} {A : Nat → Prop} {Q : State → Prop} {q_t q_t_froms q_t_tos q_t_weights q_t_there q_t_part q_t_matrix q_t_row q_t_low q_t_own q_t_chosen q_t_degrees q_t_fixed q_t_grown q_t_costs q_t_order : Nat} {t_nodes : Int32} {t_arcs : Int32} {t_left : Int32} {t_swapIn : Int32} {t_swapOut : Int32} {t_boundedSet : Int64} {t_joinedSet : Int64} {t_part0 : Nat → Int32} {t_froms : Nat → Int32} {t_tos : Nat → Int32} {p1 : Int64} {p3 : Int32} {p4 : Int32} {N : Nat} {RR : Int32 × (Nat → Int32)} (C0 : CX p R s m args meth c b_Mo_hangs 7 R_Mo lw_g D CL (TYs cI cJ cG cZ) A 1 26) (hret : ∀ (pc : Nat) (ls : Array Slot) (H : Heap) (locs : List Loc) (v : Int32) (t_part : Nat → Int32), decode b_Mo_hangs pc = .ok (.ireturn, 1) → narrow .boolean (.int v) = .int v → va_P D CL [(q_t, .inr (8, [.int t_nodes, .int t_arcs, .int t_left, .ref q_t_froms, .ref q_t_tos, .ref q_t_weights, .ref q_t_there, .ref q_t_part, .ref q_t_matrix, .ref q_t_row, .ref q_t_low, .int t_swapIn, .int t_swapOut, .ref q_t_own, .ref q_t_chosen, .ref q_t_degrees, .long t_boundedSet, .ref q_t_fixed, .ref q_t_grown, .ref q_t_costs, .ref q_t_order, .long t_joinedSet])), (q_t_part, .inl (cI, 10, .inl t_part)), (q_t_froms, .inl (cI, 30, .inl t_froms)), (q_t_tos, .inl (cI, 30, .inl t_tos))] H → va_D A [(q_t, .inr (8, [.int t_nodes, .int t_arcs, .int t_left, .ref q_t_froms, .ref q_t_tos, .ref q_t_weights, .ref q_t_there, .ref q_t_part, .ref q_t_matrix, .ref q_t_row, .ref q_t_low, .int t_swapIn, .int t_swapOut, .ref q_t_own, .ref q_t_chosen, .ref q_t_degrees, .long t_boundedSet, .ref q_t_fixed, .ref q_t_grown, .ref q_t_costs, .ref q_t_order, .long t_joinedSet])), (q_t_part, .inl (cI, 10, .inl t_part)), (q_t_froms, .inl (cI, 30, .inl t_froms)), (q_t_tos, .inl (cI, 30, .inl t_tos))] → va_S A s.heap H locs → some (v, t_part) = some RR → W p l e R s m args below meth c H locs 0 0 Q (F0 m pc ls [.int v])) : ∀ (H : Heap) (locs : List Loc) (ls : Array Slot), va_P D CL [(q_t, .inr (8, [.int t_nodes, .int t_arcs, .int t_left, .ref q_t_froms, .ref q_t_tos, .ref q_t_weights, .ref q_t_there, .ref q_t_part, .ref q_t_matrix, .ref q_t_row, .ref q_t_low, .int t_swapIn, .int t_swapOut, .ref q_t_own, .ref q_t_chosen, .ref q_t_degrees, .long t_boundedSet, .ref q_t_fixed, .ref q_t_grown, .ref q_t_costs, .ref q_t_order, .long t_joinedSet])), (q_t_part, .inl (cI, 10, .inl t_part0)), (q_t_froms, .inl (cI, 30, .inl t_froms)), (q_t_tos, .inl (cI, 30, .inl t_tos))] H → va_D A [(q_t, .inr (8, [.int t_nodes, .int t_arcs, .int t_left, .ref q_t_froms, .ref q_t_tos, .ref q_t_weights, .ref q_t_there, .ref q_t_part, .ref q_t_matrix, .ref q_t_row, .ref q_t_low, .int t_swapIn, .int t_swapOut, .ref q_t_own, .ref q_t_chosen, .ref q_t_degrees, .long t_boundedSet, .ref q_t_fixed, .ref q_t_grown, .ref q_t_costs, .ref q_t_order, .long t_joinedSet])), (q_t_part, .inl (cI, 10, .inl t_part0)), (q_t_froms, .inl (cI, 30, .inl t_froms)), (q_t_tos, .inl (cI, 30, .inl t_tos))] → va_S A s.heap H locs → lv_has ls 7 [(0, .ref q_t), (1, .long p1), (3, .int p3), (4, .int p4)] → f_Mo_hangs N p1 p3 p4 t_arcs t_part0 t_froms t_tos = some RR → W p l e R s m args below meth c H locs 0 0 Q (F0 m 0 ls []) := by
  intro H locs ls hP hD hS hl hf
  obtain ⟨hx, hb, hml, hown, hts, hK, hA, hfr, hlo, hlk⟩ := id C0
  unfold f_Mo_hangs at hf
  refine lv_aload_n hx hb d_Mo_hangs_0 rfl (lv_at hl 0 rfl) ?_
  obtain ⟨c1, hq1, hf⟩ := bk1_e hf
  refine cl_go (wr := [(q_t_froms, .inl (cI, 30, .inl t_froms)), (q_t_tos, .inl (cI, 30, .inl t_tos))]) (W1 := [(q_t, .inr (8, [.int t_nodes, .int t_arcs, .int t_left, .ref q_t_froms, .ref q_t_tos, .ref q_t_weights, .ref q_t_there, .ref q_t_part, .ref q_t_matrix, .ref q_t_row, .ref q_t_low, .int t_swapIn, .int t_swapOut, .ref q_t_own, .ref q_t_chosen, .ref q_t_degrees, .long t_boundedSet, .ref q_t_fixed, .ref q_t_grown, .ref q_t_costs, .ref q_t_order, .long t_joinedSet])), (q_t_part, .inl (cI, 10, .inl c1)), (q_t_froms, .inl (cI, 30, .inl t_froms)), (q_t_tos, .inl (cI, 30, .inl t_tos))]) (va_runV (As := []) (rest := []) ⟨hx, hb, hml, hown, hts⟩ (c_Mo_alone l D cI cJ cG cZ q_t q_t_froms q_t_tos q_t_weights q_t_there q_t_part q_t_matrix q_t_row q_t_low q_t_own q_t_chosen q_t_degrees q_t_fixed q_t_grown q_t_costs q_t_order t_nodes t_arcs t_left t_swapIn t_swapOut t_boundedSet t_joinedSet t_part0 hq1 H.size) (cwV 0 hts (gi_V m_3_232 m_3_234 m_0_26 m_1_9 wi_Mo_alone) rfl rfl rfl hd_Mo_alone ⟨Nat.le_trans (Nat.le_of_ble_eq_true rfl) hfr, Nat.le_trans (Nat.le_of_ble_eq_true rfl) hlo⟩) ⟨pw_blind, va_recv hK hP (ci := 8) (q0 := 0) rfl rfl, fun U hU hW => ⟨rfl, pw_in hU (hP.sub [0, 1] rfl) (va_K.moved hW.alike hK) ((hD.sub [0, 1] rfl rfl).weaken (fun _ _ _ _ => trivial))⟩⟩ rfl rfl hl.1 rfl (lv_room (Nat.le_of_ble_eq_true rfl)) d_Mo_hangs_1 ⟨Nat.zero_le _, Nat.zero_le _⟩) hP hD hS hA [0, 1] [2, 3] rfl rfl rfl rfl [2, 3, 0, 1] rfl rfl (fun H locs hP hD hS => ?_)
  have hP : va_P D CL [(q_t, .inr (8, [.int t_nodes, .int t_arcs, .int t_left, .ref q_t_froms, .ref q_t_tos, .ref q_t_weights, .ref q_t_there, .ref q_t_part, .ref q_t_matrix, .ref q_t_row, .ref q_t_low, .int t_swapIn, .int t_swapOut, .ref q_t_own, .ref q_t_chosen, .ref q_t_degrees, .long t_boundedSet, .ref q_t_fixed, .ref q_t_grown, .ref q_t_costs, .ref q_t_order, .long t_joinedSet])), (q_t_part, .inl (cI, 10, .inl c1)), (q_t_froms, .inl (cI, 30, .inl t_froms)), (q_t_tos, .inl (cI, 30, .inl t_tos))] H := hP
  have hD : va_D A [(q_t, .inr (8, [.int t_nodes, .int t_arcs, .int t_left, .ref q_t_froms, .ref q_t_tos, .ref q_t_weights, .ref q_t_there, .ref q_t_part, .ref q_t_matrix, .ref q_t_row, .ref q_t_low, .int t_swapIn, .int t_swapOut, .ref q_t_own, .ref q_t_chosen, .ref q_t_degrees, .long t_boundedSet, .ref q_t_fixed, .ref q_t_grown, .ref q_t_costs, .ref q_t_order, .long t_joinedSet])), (q_t_part, .inl (cI, 10, .inl c1)), (q_t_froms, .inl (cI, 30, .inl t_froms)), (q_t_tos, .inl (cI, 30, .inl t_tos))] := hD
  refine lv_iconst (v := 0) hx hb d_Mo_hangs_4 (by decide) ?_
  refine lv_istore (lv' := [(5, .int (0 : Int32)), (0, .ref q_t), (1, .long p1), (3, .int p3), (4, .int p4)]) hx hb d_Mo_hangs_5 hl (by decide) rfl (fun ls hl => ?_)
  exact w_Mo_hangs_7_l C0 hret N (0 : Int32) c1 _ _ _ hP hD hS (lv_sub hl [1, 2, 3, 4, 0] rfl) hf
set_option maxRecDepth 100000 in
set_option maxHeartbeats 4000000 in
theorem c_Mo_hangs (l : Launch) (D : va_G) (cI cJ cG cZ : ClassId) (q_t q_t_froms q_t_tos q_t_weights q_t_there q_t_part q_t_matrix q_t_row q_t_low q_t_own q_t_chosen q_t_degrees q_t_fixed q_t_grown q_t_costs q_t_order : Nat) (t_nodes : Int32) (t_arcs : Int32) (t_left : Int32) (t_swapIn : Int32) (t_swapOut : Int32) (t_boundedSet : Int64) (t_joinedSet : Int64) (t_part0 : Nat → Int32) (t_froms : Nat → Int32) (t_tos : Nat → Int32) (p1 : Int64) (p3 : Int32) (p4 : Int32) {N : Nat} {r : Int32} {t_part' : Nat → Int32} (hf : f_Mo_hangs N p1 p3 p4 t_arcs t_part0 t_froms t_tos = some (r, t_part')) : MeG l D CL (TYs cI cJ cG cZ) y_Mo_hangs ws_Mo_hangs (rm_Mo_hangs) [.ref q_t, .long p1, .int p3, .int p4] [(q_t, .inr (8, [.int t_nodes, .int t_arcs, .int t_left, .ref q_t_froms, .ref q_t_tos, .ref q_t_weights, .ref q_t_there, .ref q_t_part, .ref q_t_matrix, .ref q_t_row, .ref q_t_low, .int t_swapIn, .int t_swapOut, .ref q_t_own, .ref q_t_chosen, .ref q_t_degrees, .long t_boundedSet, .ref q_t_fixed, .ref q_t_grown, .ref q_t_costs, .ref q_t_order, .long t_joinedSet])), (q_t_part, .inl (cI, 10, .inl t_part0)), (q_t_froms, .inl (cI, 30, .inl t_froms)), (q_t_tos, .inl (cI, 30, .inl t_tos))] (some (.int r)) [(q_t, .inr (8, [.int t_nodes, .int t_arcs, .int t_left, .ref q_t_froms, .ref q_t_tos, .ref q_t_weights, .ref q_t_there, .ref q_t_part, .ref q_t_matrix, .ref q_t_row, .ref q_t_low, .int t_swapIn, .int t_swapOut, .ref q_t_own, .ref q_t_chosen, .ref q_t_degrees, .long t_boundedSet, .ref q_t_fixed, .ref q_t_grown, .ref q_t_costs, .ref q_t_order, .long t_joinedSet])), (q_t_part, .inl (cI, 10, .inl t_part')), (q_t_froms, .inl (cI, 30, .inl t_froms)), (q_t_tos, .inl (cI, 30, .inl t_tos))] := by
  intro sz
  refine Met.ofW (cc := b_Mo_hangs) (maxL := 7) (ret := (some .boolean)) (by decide) rfl ?_
  intro p e s m args below meth c s₁ B hml hv
  obtain ⟨rfl, hsz, hP, hK, hD0⟩ := hv
  subst hsz
  have hD := hD0.self (sz := s.heap.size)
  generalize hAe : va_A [(q_t, .inr (8, [.int t_nodes, .int t_arcs, .int t_left, .ref q_t_froms, .ref q_t_tos, .ref q_t_weights, .ref q_t_there, .ref q_t_part, .ref q_t_matrix, .ref q_t_row, .ref q_t_low, .int t_swapIn, .int t_swapOut, .ref q_t_own, .ref q_t_chosen, .ref q_t_degrees, .long t_boundedSet, .ref q_t_fixed, .ref q_t_grown, .ref q_t_costs, .ref q_t_order, .long t_joinedSet])), (q_t_part, .inl (cI, 10, .inl t_part0)), (q_t_froms, .inl (cI, 30, .inl t_froms)), (q_t_tos, .inl (cI, 30, .inl t_tos))] s.heap.size = A at hD ⊢
  have C0 : CX p (headSpec ws_Mo_hangs (rm_Mo_hangs)).room s m _ meth c b_Mo_hangs 7 R_Mo lw_g D CL (TYs cI cJ cG cZ) A 1 26 := ⟨B.exec, B.bytes, hml, findClass_of_methodNamed B.named, fun w h => atoms_spec (ws := ws_Mo_hangs) B.pre w (List.mem_cons_of_mem _ h), hK, fun q h => by rw [← hAe]; exact Or.inr h, Nat.le_of_ble_eq_true rfl, Nat.le_of_ble_eq_true rfl, B.notSynchronized⟩
  have hl := lv_entry ([.ref q_t, .long p1, .int p3, .int p4]) (n := 7) (Nat.le_of_ble_eq_true rfl)
  rw [lg_entry_eq]
  generalize (lg_sl ([.ref q_t, .long p1, .int p3, .int p4]) ++ List.replicate (7 - (lg_sl ([.ref q_t, .long p1, .int p3, .int p4])).length) Slot.unset).toArray = ls at hl ⊢
  have hl : lv_has ls 7 [(0, .ref q_t), (1, .long p1), (3, .int p3), (4, .int p4)] := hl
  exact w_Mo_hangs_e C0 (fun pc ls H locs v t_part hdg hz hP hD hS e => by cases e; exact W.zret B.exec B.bytes B.returns hz (fun t ht hW => ⟨⟨rfl, by rw [ht]; exact hP, va_K.moved hW.alike hK, hD⟩, hS.F ht⟩) hS.2.2 hdg) _ _ _ hP hD va_S.rf (lv_sub hl [0, 1, 2, 3] rfl) hf
