abbrev b_Mo_behind : ByteArray := prog_11_method_14_code
def y_Mo_behind : MethodName := ⟨R_Mo, "behind", "(I)I"⟩
def ws_Mo_behind : List Cond := .code y_Mo_behind b_Mo_behind 5 (some .int) :: lw_g
theorem wi_Mo_behind : ∀ w ∈ ws_Mo_behind, w ∈ lw_g := wi_of m_4_15
abbrev rm_Mo_behind : Room := { frames := 0, cells := 0, slots := 0, locals := 0 }
theorem hd_Mo_behind : y_Mo_behind.cls = R_Mo ∧ y_Mo_behind.cls ≠ "java/lang/invoke/MethodHandle" ∧ y_Mo_behind.cls ≠ "java/lang/invoke/VarHandle" ∧ (parseMethodDescriptor y_Mo_behind.desc).map (fun d => d.parameters.length) = some 1 := by decide +kernel
theorem d_Mo_behind_0 : decode b_Mo_behind 0 = .ok (.iconst (-1), 1) := by decide +kernel
theorem d_Mo_behind_1 : decode b_Mo_behind 1 = .ok (.istore_n 2, 1) := by decide +kernel
theorem d_Mo_behind_2 : decode b_Mo_behind 2 = .ok (.iconst 0, 1) := by decide +kernel
theorem d_Mo_behind_3 : decode b_Mo_behind 3 = .ok (.istore_n 3, 1) := by decide +kernel
theorem d_Mo_behind_4 : decode b_Mo_behind 4 = .ok (.iload_n 3, 1) := by decide +kernel
theorem d_Mo_behind_5 : decode b_Mo_behind 5 = .ok (.aload_n 0, 1) := by decide +kernel
theorem d_Mo_behind_6 : decode b_Mo_behind 6 = .ok (.getfield 61, 3) := by decide +kernel
theorem d_Mo_behind_9 : decode b_Mo_behind 9 = .ok (.if_icmp .ge 90, 3) := by decide +kernel
theorem d_Mo_behind_12 : decode b_Mo_behind 12 = .ok (.aload_n 0, 1) := by decide +kernel
theorem d_Mo_behind_13 : decode b_Mo_behind 13 = .ok (.getfield 19, 3) := by decide +kernel
theorem d_Mo_behind_16 : decode b_Mo_behind 16 = .ok (.iload_n 3, 1) := by decide +kernel
theorem d_Mo_behind_17 : decode b_Mo_behind 17 = .ok (.baload, 1) := by decide +kernel
theorem d_Mo_behind_18 : decode b_Mo_behind 18 = .ok (.ifCond .eq 46, 3) := by decide +kernel
theorem d_Mo_behind_21 : decode b_Mo_behind 21 = .ok (.iload_n 1, 1) := by decide +kernel
theorem d_Mo_behind_22 : decode b_Mo_behind 22 = .ok (.ifCond .lt 38, 3) := by decide +kernel
theorem d_Mo_behind_25 : decode b_Mo_behind 25 = .ok (.aload_n 0, 1) := by decide +kernel
theorem d_Mo_behind_26 : decode b_Mo_behind 26 = .ok (.getfield 16, 3) := by decide +kernel
theorem d_Mo_behind_29 : decode b_Mo_behind 29 = .ok (.iload_n 3, 1) := by decide +kernel
theorem d_Mo_behind_30 : decode b_Mo_behind 30 = .ok (.iaload, 1) := by decide +kernel
theorem d_Mo_behind_31 : decode b_Mo_behind 31 = .ok (.aload_n 0, 1) := by decide +kernel
theorem d_Mo_behind_32 : decode b_Mo_behind 32 = .ok (.getfield 16, 3) := by decide +kernel
theorem d_Mo_behind_35 : decode b_Mo_behind 35 = .ok (.iload_n 1, 1) := by decide +kernel
theorem d_Mo_behind_36 : decode b_Mo_behind 36 = .ok (.iaload, 1) := by decide +kernel
theorem d_Mo_behind_37 : decode b_Mo_behind 37 = .ok (.if_icmp .gt 23, 3) := by decide +kernel
theorem d_Mo_behind_40 : decode b_Mo_behind 40 = .ok (.aload_n 0, 1) := by decide +kernel
theorem d_Mo_behind_41 : decode b_Mo_behind 41 = .ok (.getfield 16, 3) := by decide +kernel
theorem d_Mo_behind_44 : decode b_Mo_behind 44 = .ok (.iload_n 3, 1) := by decide +kernel
theorem d_Mo_behind_45 : decode b_Mo_behind 45 = .ok (.iaload, 1) := by decide +kernel
theorem d_Mo_behind_46 : decode b_Mo_behind 46 = .ok (.aload_n 0, 1) := by decide +kernel
theorem d_Mo_behind_47 : decode b_Mo_behind 47 = .ok (.getfield 16, 3) := by decide +kernel
theorem d_Mo_behind_50 : decode b_Mo_behind 50 = .ok (.iload_n 1, 1) := by decide +kernel
theorem d_Mo_behind_51 : decode b_Mo_behind 51 = .ok (.iaload, 1) := by decide +kernel
theorem d_Mo_behind_52 : decode b_Mo_behind 52 = .ok (.if_icmp .ne 12, 3) := by decide +kernel
theorem d_Mo_behind_55 : decode b_Mo_behind 55 = .ok (.iload_n 3, 1) := by decide +kernel
theorem d_Mo_behind_56 : decode b_Mo_behind 56 = .ok (.iload_n 1, 1) := by decide +kernel
theorem d_Mo_behind_57 : decode b_Mo_behind 57 = .ok (.if_icmp .le 7, 3) := by decide +kernel
theorem d_Mo_behind_60 : decode b_Mo_behind 60 = .ok (.iconst 1, 1) := by decide +kernel
theorem d_Mo_behind_61 : decode b_Mo_behind 61 = .ok (.goto 4, 3) := by decide +kernel
theorem d_Mo_behind_64 : decode b_Mo_behind 64 = .ok (.iconst 0, 1) := by decide +kernel
theorem d_Mo_behind_65 : decode b_Mo_behind 65 = .ok (.istore 4, 2) := by decide +kernel
theorem d_Mo_behind_67 : decode b_Mo_behind 67 = .ok (.iload 4, 2) := by decide +kernel
theorem d_Mo_behind_69 : decode b_Mo_behind 69 = .ok (.ifCond .eq 24, 3) := by decide +kernel
theorem d_Mo_behind_72 : decode b_Mo_behind 72 = .ok (.iload_n 2, 1) := by decide +kernel
theorem d_Mo_behind_73 : decode b_Mo_behind 73 = .ok (.ifCond .lt 18, 3) := by decide +kernel
theorem d_Mo_behind_76 : decode b_Mo_behind 76 = .ok (.aload_n 0, 1) := by decide +kernel
theorem d_Mo_behind_77 : decode b_Mo_behind 77 = .ok (.getfield 16, 3) := by decide +kernel
theorem d_Mo_behind_80 : decode b_Mo_behind 80 = .ok (.iload_n 3, 1) := by decide +kernel
theorem d_Mo_behind_81 : decode b_Mo_behind 81 = .ok (.iaload, 1) := by decide +kernel
theorem d_Mo_behind_82 : decode b_Mo_behind 82 = .ok (.aload_n 0, 1) := by decide +kernel
theorem d_Mo_behind_83 : decode b_Mo_behind 83 = .ok (.getfield 16, 3) := by decide +kernel
theorem d_Mo_behind_86 : decode b_Mo_behind 86 = .ok (.iload_n 2, 1) := by decide +kernel
theorem d_Mo_behind_87 : decode b_Mo_behind 87 = .ok (.iaload, 1) := by decide +kernel
theorem d_Mo_behind_88 : decode b_Mo_behind 88 = .ok (.if_icmp .ge 5, 3) := by decide +kernel
theorem d_Mo_behind_91 : decode b_Mo_behind 91 = .ok (.iload_n 3, 1) := by decide +kernel
theorem d_Mo_behind_92 : decode b_Mo_behind 92 = .ok (.istore_n 2, 1) := by decide +kernel
theorem d_Mo_behind_93 : decode b_Mo_behind 93 = .ok (.iinc 3 1, 3) := by decide +kernel
theorem d_Mo_behind_96 : decode b_Mo_behind 96 = .ok (.goto (-92), 3) := by decide +kernel
theorem d_Mo_behind_99 : decode b_Mo_behind 99 = .ok (.iload_n 2, 1) := by decide +kernel
theorem d_Mo_behind_100 : decode b_Mo_behind 100 = .ok (.ireturn, 1) := by decide +kernel
def g_Mo_behind_65 (t_weights : Nat → Int32) (k4 : Int32 → Int32 → Option (Int32)) (v2 : Int32) (v3 : Int32) (s0 : Int32) : Option (Int32) :=
  if s0 = 0 then
    bn (v3 + (1 : Int32)) fun x1 =>
    k4 v2 x1
  else
    if v2 < 0 then
      bn (v3 + (1 : Int32)) fun x2 =>
      k4 v3 x2
    else
      gd (inb v3 30) <|
      gd (inb v2 30) <|
      if (t_weights v2.toNatClampNeg) ≤ (t_weights v3.toNatClampNeg) then
        bn (v3 + (1 : Int32)) fun x3 =>
        k4 v2 x3
      else
        bn (v3 + (1 : Int32)) fun x4 =>
        k4 v3 x4
def g_Mo_behind_64 (t_weights : Nat → Int32) (k4 : Int32 → Int32 → Option (Int32)) (v2 : Int32) (v3 : Int32) : Option (Int32) :=
  g_Mo_behind_65 t_weights k4 v2 v3 (0 : Int32)
def g_Mo_behind_60 (t_weights : Nat → Int32) (k4 : Int32 → Int32 → Option (Int32)) (v2 : Int32) (v3 : Int32) : Option (Int32) :=
  g_Mo_behind_65 t_weights k4 v2 v3 (1 : Int32)
def g_Mo_behind_4 (p1 : Int32) (t_arcs : Int32) (t_there : Nat → Int32) (t_weights : Nat → Int32) (k4 : Int32 → Int32 → Option (Int32)) (v2 : Int32) (v3 : Int32) : Option (Int32) :=
  if t_arcs ≤ v3 then
    some (v2)
  else
    gd (inb v3 30) <|
    if (t_there v3.toNatClampNeg) = 0 then
      g_Mo_behind_64 t_weights k4 v2 v3
    else
      if p1 < 0 then
        g_Mo_behind_60 t_weights k4 v2 v3
      else
        gd (inb v3 30) <|
        gd (inb p1 30) <|
        if (t_weights p1.toNatClampNeg) < (t_weights v3.toNatClampNeg) then
          g_Mo_behind_60 t_weights k4 v2 v3
        else
          gd (inb v3 30) <|
          gd (inb p1 30) <|
          if (t_weights v3.toNatClampNeg) = (t_weights p1.toNatClampNeg) then
            if v3 ≤ p1 then
              g_Mo_behind_64 t_weights k4 v2 v3
            else
              g_Mo_behind_60 t_weights k4 v2 v3
          else
            g_Mo_behind_64 t_weights k4 v2 v3
def f_Mo_behind (N : Nat) (p1 : Int32) (t_arcs : Int32) (t_there : Nat → Int32) (t_weights : Nat → Int32) : Option (Int32) :=
  lo2 (g_Mo_behind_4 p1 t_arcs t_there t_weights) N (-1 : Int32) (0 : Int32)
set_option maxRecDepth 100000 in
set_option maxHeartbeats 4000000 in
theorem w_Mo_behind_65 {p : Program} {l : Launch} {e : Env} {R : Room} {s : State} {m : MethodId} {args : Array Value} {below : List Frame} {meth : Method} {c : Code} {D : va_G} {cI cJ cG cZ : ClassId} {A : Nat → Prop} {Q : State → Prop} {q_t q_t_froms q_t_tos q_t_weights q_t_there q_t_part q_t_matrix q_t_row q_t_low q_t_own q_t_chosen q_t_degrees q_t_fixed q_t_grown q_t_costs q_t_order : Nat} {t_nodes : Int32} {t_arcs : Int32} {t_left : Int32} {t_swapIn : Int32} {t_swapOut : Int32} {t_boundedSet : Int64} {t_joinedSet : Int64} {t_there : Nat → Int32} {t_weights : Nat → Int32} {p1 : Int32} {RR : Int32} (C0 : CX p R s m args meth c b_Mo_behind 5 R_Mo lw_g D CL (TYs cI cJ cG cZ) A 0 0) (hret : ∀ (pc : Nat) (ls : Array Slot) (H : Heap) (locs : List Loc) (v : Int32) , decode b_Mo_behind pc = .ok (.ireturn, 1) → va_P D CL [(q_t, .inr (8, [.int t_nodes, .int t_arcs, .int t_left, .ref q_t_froms, .ref q_t_tos, .ref q_t_weights, .ref q_t_there, .ref q_t_part, .ref q_t_matrix, .ref q_t_row, .ref q_t_low, .int t_swapIn, .int t_swapOut, .ref q_t_own, .ref q_t_chosen, .ref q_t_degrees, .long t_boundedSet, .ref q_t_fixed, .ref q_t_grown, .ref q_t_costs, .ref q_t_order, .long t_joinedSet])), (q_t_there, .inl (cZ, 30, .inl t_there)), (q_t_weights, .inl (cI, 30, .inl t_weights))] H → va_D A [(q_t, .inr (8, [.int t_nodes, .int t_arcs, .int t_left, .ref q_t_froms, .ref q_t_tos, .ref q_t_weights, .ref q_t_there, .ref q_t_part, .ref q_t_matrix, .ref q_t_row, .ref q_t_low, .int t_swapIn, .int t_swapOut, .ref q_t_own, .ref q_t_chosen, .ref q_t_degrees, .long t_boundedSet, .ref q_t_fixed, .ref q_t_grown, .ref q_t_costs, .ref q_t_order, .long t_joinedSet])), (q_t_there, .inl (cZ, 30, .inl t_there)), (q_t_weights, .inl (cI, 30, .inl t_weights))] → va_S A s.heap H locs → some (v) = some RR → W p l e R s m args below meth c H locs 0 0 Q (F0 m pc ls [.int v])) (k4 : Int32 → Int32 → Option (Int32)) (hk4 : ∀ (v2 : Int32) (v3 : Int32) (H : Heap) (locs : List Loc) (ls : Array Slot), va_P D CL [(q_t, .inr (8, [.int t_nodes, .int t_arcs, .int t_left, .ref q_t_froms, .ref q_t_tos, .ref q_t_weights, .ref q_t_there, .ref q_t_part, .ref q_t_matrix, .ref q_t_row, .ref q_t_low, .int t_swapIn, .int t_swapOut, .ref q_t_own, .ref q_t_chosen, .ref q_t_degrees, .long t_boundedSet, .ref q_t_fixed, .ref q_t_grown, .ref q_t_costs, .ref q_t_order, .long t_joinedSet])), (q_t_there, .inl (cZ, 30, .inl t_there)), (q_t_weights, .inl (cI, 30, .inl t_weights))] H → va_D A [(q_t, .inr (8, [.int t_nodes, .int t_arcs, .int t_left, .ref q_t_froms, .ref q_t_tos, .ref q_t_weights, .ref q_t_there, .ref q_t_part, .ref q_t_matrix, .ref q_t_row, .ref q_t_low, .int t_swapIn, .int t_swapOut, .ref q_t_own, .ref q_t_chosen, .ref q_t_degrees, .long t_boundedSet, .ref q_t_fixed, .ref q_t_grown, .ref q_t_costs, .ref q_t_order, .long t_joinedSet])), (q_t_there, .inl (cZ, 30, .inl t_there)), (q_t_weights, .inl (cI, 30, .inl t_weights))] → va_S A s.heap H locs → lv_has ls 5 [(0, .ref q_t), (1, .int p1), (2, .int v2), (3, .int v3)] → k4 v2 v3 = some RR → W p l e R s m args below meth c H locs 0 0 Q (F0 m 4 ls [])) : ∀ (v2 : Int32) (v3 : Int32) (s0 : Int32) (H : Heap) (locs : List Loc) (ls : Array Slot), va_P D CL [(q_t, .inr (8, [.int t_nodes, .int t_arcs, .int t_left, .ref q_t_froms, .ref q_t_tos, .ref q_t_weights, .ref q_t_there, .ref q_t_part, .ref q_t_matrix, .ref q_t_row, .ref q_t_low, .int t_swapIn, .int t_swapOut, .ref q_t_own, .ref q_t_chosen, .ref q_t_degrees, .long t_boundedSet, .ref q_t_fixed, .ref q_t_grown, .ref q_t_costs, .ref q_t_order, .long t_joinedSet])), (q_t_there, .inl (cZ, 30, .inl t_there)), (q_t_weights, .inl (cI, 30, .inl t_weights))] H → va_D A [(q_t, .inr (8, [.int t_nodes, .int t_arcs, .int t_left, .ref q_t_froms, .ref q_t_tos, .ref q_t_weights, .ref q_t_there, .ref q_t_part, .ref q_t_matrix, .ref q_t_row, .ref q_t_low, .int t_swapIn, .int t_swapOut, .ref q_t_own, .ref q_t_chosen, .ref q_t_degrees, .long t_boundedSet, .ref q_t_fixed, .ref q_t_grown, .ref q_t_costs, .ref q_t_order, .long t_joinedSet])), (q_t_there, .inl (cZ, 30, .inl t_there)), (q_t_weights, .inl (cI, 30, .inl t_weights))] → va_S A s.heap H locs → lv_has ls 5 [(0, .ref q_t), (1, .int p1), (2, .int v2), (3, .int v3)] → g_Mo_behind_65 t_weights k4 v2 v3 s0 = some RR → W p l e R s m args below meth c H locs 0 0 Q (F0 m 65 ls [.int s0]) := by
  intro v2 v3 s0 H locs ls hP hD hS hl hf
  obtain ⟨hx, hb, hml, hown, hts, hK, hA, hfr, hlo, hlk⟩ := id C0
  unfold g_Mo_behind_65 at hf
  refine lv_istore (lv' := [(4, .int s0), (0, .ref q_t), (1, .int p1), (2, .int v2), (3, .int v3)]) hx hb d_Mo_behind_65 hl (by decide) rfl (fun ls hl => ?_)
  refine lv_iload hx hb d_Mo_behind_67 (lv_at hl 0 rfl) ?_
  refine lv_if_eq (tgt := 93) hx hb d_Mo_behind_69 (by decide) (fun hc1 => ?_) (fun hc1 => ?_)
  · have hf := if_t hc1 hf
    obtain ⟨x1, ex1⟩ : ∃ y : Int32, y = v3 + (1 : Int32) := ⟨_, rfl⟩
    have hf := bn_e ex1 hf
    refine lv_iinc (v := x1) (lv' := [(3, .int x1), (4, .int s0), (0, .ref q_t), (1, .int p1), (2, .int v2)]) hx hb d_Mo_behind_93 hl (k := 4) rfl (by rw [ex1]; rfl) (by decide) rfl (fun ls hl => ?_)
    refine lv_goto (tgt := 4) hx hb d_Mo_behind_96 (by decide) ?_
    exact hk4 v2 x1 _ _ _ hP hD hS (lv_sub hl [2, 3, 4, 0] rfl) hf
  · have hf := if_f hc1 hf
    refine lv_iload_n hx hb d_Mo_behind_72 rfl (lv_at hl 3 rfl) ?_
    refine lv_if_lt (tgt := 91) hx hb d_Mo_behind_73 (by decide) (fun hc2 => ?_) (fun hc2 => ?_)
    · have hf := if_t hc2 hf
      refine lv_iload_n hx hb d_Mo_behind_91 rfl (lv_at hl 4 rfl) ?_
      refine lv_istore_n (lv' := [(2, .int v3), (4, .int s0), (0, .ref q_t), (1, .int p1), (3, .int v3)]) hx hb d_Mo_behind_92 rfl hl (by decide) rfl (fun ls hl => ?_)
      obtain ⟨x2, ex2⟩ : ∃ y : Int32, y = v3 + (1 : Int32) := ⟨_, rfl⟩
      have hf := bn_e ex2 hf
      refine lv_iinc (v := x2) (lv' := [(3, .int x2), (2, .int v3), (4, .int s0), (0, .ref q_t), (1, .int p1)]) hx hb d_Mo_behind_93 hl (k := 4) rfl (by rw [ex2]; rfl) (by decide) rfl (fun ls hl => ?_)
      refine lv_goto (tgt := 4) hx hb d_Mo_behind_96 (by decide) ?_
      exact hk4 v3 x2 _ _ _ hP hD hS (lv_sub hl [3, 4, 1, 0] rfl) hf
    · have hf := if_f hc2 hf
      refine lv_aload_n hx hb d_Mo_behind_76 rfl (lv_at hl 1 rfl) ?_
      refine va_get (D := D) (ci := 8) (v := .ref q_t_weights) (C := R_Mo) (T := F_Mo) (N := 22) hx hb hts i_Mo hown hK hP 0 rfl rfl 5 (by decide) (hts _ m_3_133) (fun _ h9 => h9) rfl d_Mo_behind_77 ?_
      refine lv_iload_n hx hb d_Mo_behind_80 rfl (lv_at hl 4 rfl) ?_
      obtain ⟨hg1, hf⟩ := gd_e hf
      refine va_iald hx hb hK hP 2 0 rfl rfl (inb_e hg1) d_Mo_behind_81 ?_
      refine lv_aload_n hx hb d_Mo_behind_82 rfl (lv_at hl 1 rfl) ?_
      refine va_get (D := D) (ci := 8) (v := .ref q_t_weights) (C := R_Mo) (T := F_Mo) (N := 22) hx hb hts i_Mo hown hK hP 0 rfl rfl 5 (by decide) (hts _ m_3_133) (fun _ h9 => h9) rfl d_Mo_behind_83 ?_
      refine lv_iload_n hx hb d_Mo_behind_86 rfl (lv_at hl 3 rfl) ?_
      obtain ⟨hg2, hf⟩ := gd_e hf
      refine va_iald hx hb hK hP 2 0 rfl rfl (inb_e hg2) d_Mo_behind_87 ?_
      refine lv_icmp_ge (tgt := 93) hx hb d_Mo_behind_88 (by decide) (fun hc3 => ?_) (fun hc3 => ?_)
      · have hf := if_t hc3 hf
        obtain ⟨x3, ex3⟩ : ∃ y : Int32, y = v3 + (1 : Int32) := ⟨_, rfl⟩
        have hf := bn_e ex3 hf
        refine lv_iinc (v := x3) (lv' := [(3, .int x3), (4, .int s0), (0, .ref q_t), (1, .int p1), (2, .int v2)]) hx hb d_Mo_behind_93 hl (k := 4) rfl (by rw [ex3]; rfl) (by decide) rfl (fun ls hl => ?_)
        refine lv_goto (tgt := 4) hx hb d_Mo_behind_96 (by decide) ?_
        exact hk4 v2 x3 _ _ _ hP hD hS (lv_sub hl [2, 3, 4, 0] rfl) hf
      · have hf := if_f hc3 hf
        refine lv_iload_n hx hb d_Mo_behind_91 rfl (lv_at hl 4 rfl) ?_
        refine lv_istore_n (lv' := [(2, .int v3), (4, .int s0), (0, .ref q_t), (1, .int p1), (3, .int v3)]) hx hb d_Mo_behind_92 rfl hl (by decide) rfl (fun ls hl => ?_)
        obtain ⟨x4, ex4⟩ : ∃ y : Int32, y = v3 + (1 : Int32) := ⟨_, rfl⟩
        have hf := bn_e ex4 hf
        refine lv_iinc (v := x4) (lv' := [(3, .int x4), (2, .int v3), (4, .int s0), (0, .ref q_t), (1, .int p1)]) hx hb d_Mo_behind_93 hl (k := 4) rfl (by rw [ex4]; rfl) (by decide) rfl (fun ls hl => ?_)
        refine lv_goto (tgt := 4) hx hb d_Mo_behind_96 (by decide) ?_
        exact hk4 v3 x4 _ _ _ hP hD hS (lv_sub hl [3, 4, 1, 0] rfl) hf
set_option maxRecDepth 100000 in
set_option maxHeartbeats 4000000 in
theorem w_Mo_behind_64 {p : Program} {l : Launch} {e : Env} {R : Room} {s : State} {m : MethodId} {args : Array Value} {below : List Frame} {meth : Method} {c : Code} {D : va_G} {cI cJ cG cZ : ClassId} {A : Nat → Prop} {Q : State → Prop} {q_t q_t_froms q_t_tos q_t_weights q_t_there q_t_part q_t_matrix q_t_row q_t_low q_t_own q_t_chosen q_t_degrees q_t_fixed q_t_grown q_t_costs q_t_order : Nat} {t_nodes : Int32} {t_arcs : Int32} {t_left : Int32} {t_swapIn : Int32} {t_swapOut : Int32} {t_boundedSet : Int64} {t_joinedSet : Int64} {t_there : Nat → Int32} {t_weights : Nat → Int32} {p1 : Int32} {RR : Int32} (C0 : CX p R s m args meth c b_Mo_behind 5 R_Mo lw_g D CL (TYs cI cJ cG cZ) A 0 0) (hret : ∀ (pc : Nat) (ls : Array Slot) (H : Heap) (locs : List Loc) (v : Int32) , decode b_Mo_behind pc = .ok (.ireturn, 1) → va_P D CL [(q_t, .inr (8, [.int t_nodes, .int t_arcs, .int t_left, .ref q_t_froms, .ref q_t_tos, .ref q_t_weights, .ref q_t_there, .ref q_t_part, .ref q_t_matrix, .ref q_t_row, .ref q_t_low, .int t_swapIn, .int t_swapOut, .ref q_t_own, .ref q_t_chosen, .ref q_t_degrees, .long t_boundedSet, .ref q_t_fixed, .ref q_t_grown, .ref q_t_costs, .ref q_t_order, .long t_joinedSet])), (q_t_there, .inl (cZ, 30, .inl t_there)), (q_t_weights, .inl (cI, 30, .inl t_weights))] H → va_D A [(q_t, .inr (8, [.int t_nodes, .int t_arcs, .int t_left, .ref q_t_froms, .ref q_t_tos, .ref q_t_weights, .ref q_t_there, .ref q_t_part, .ref q_t_matrix, .ref q_t_row, .ref q_t_low, .int t_swapIn, .int t_swapOut, .ref q_t_own, .ref q_t_chosen, .ref q_t_degrees, .long t_boundedSet, .ref q_t_fixed, .ref q_t_grown, .ref q_t_costs, .ref q_t_order, .long t_joinedSet])), (q_t_there, .inl (cZ, 30, .inl t_there)), (q_t_weights, .inl (cI, 30, .inl t_weights))] → va_S A s.heap H locs → some (v) = some RR → W p l e R s m args below meth c H locs 0 0 Q (F0 m pc ls [.int v])) (k4 : Int32 → Int32 → Option (Int32)) (hk4 : ∀ (v2 : Int32) (v3 : Int32) (H : Heap) (locs : List Loc) (ls : Array Slot), va_P D CL [(q_t, .inr (8, [.int t_nodes, .int t_arcs, .int t_left, .ref q_t_froms, .ref q_t_tos, .ref q_t_weights, .ref q_t_there, .ref q_t_part, .ref q_t_matrix, .ref q_t_row, .ref q_t_low, .int t_swapIn, .int t_swapOut, .ref q_t_own, .ref q_t_chosen, .ref q_t_degrees, .long t_boundedSet, .ref q_t_fixed, .ref q_t_grown, .ref q_t_costs, .ref q_t_order, .long t_joinedSet])), (q_t_there, .inl (cZ, 30, .inl t_there)), (q_t_weights, .inl (cI, 30, .inl t_weights))] H → va_D A [(q_t, .inr (8, [.int t_nodes, .int t_arcs, .int t_left, .ref q_t_froms, .ref q_t_tos, .ref q_t_weights, .ref q_t_there, .ref q_t_part, .ref q_t_matrix, .ref q_t_row, .ref q_t_low, .int t_swapIn, .int t_swapOut, .ref q_t_own, .ref q_t_chosen, .ref q_t_degrees, .long t_boundedSet, .ref q_t_fixed, .ref q_t_grown, .ref q_t_costs, .ref q_t_order, .long t_joinedSet])), (q_t_there, .inl (cZ, 30, .inl t_there)), (q_t_weights, .inl (cI, 30, .inl t_weights))] → va_S A s.heap H locs → lv_has ls 5 [(0, .ref q_t), (1, .int p1), (2, .int v2), (3, .int v3)] → k4 v2 v3 = some RR → W p l e R s m args below meth c H locs 0 0 Q (F0 m 4 ls [])) : ∀ (v2 : Int32) (v3 : Int32) (H : Heap) (locs : List Loc) (ls : Array Slot), va_P D CL [(q_t, .inr (8, [.int t_nodes, .int t_arcs, .int t_left, .ref q_t_froms, .ref q_t_tos, .ref q_t_weights, .ref q_t_there, .ref q_t_part, .ref q_t_matrix, .ref q_t_row, .ref q_t_low, .int t_swapIn, .int t_swapOut, .ref q_t_own, .ref q_t_chosen, .ref q_t_degrees, .long t_boundedSet, .ref q_t_fixed, .ref q_t_grown, .ref q_t_costs, .ref q_t_order, .long t_joinedSet])), (q_t_there, .inl (cZ, 30, .inl t_there)), (q_t_weights, .inl (cI, 30, .inl t_weights))] H → va_D A [(q_t, .inr (8, [.int t_nodes, .int t_arcs, .int t_left, .ref q_t_froms, .ref q_t_tos, .ref q_t_weights, .ref q_t_there, .ref q_t_part, .ref q_t_matrix, .ref q_t_row, .ref q_t_low, .int t_swapIn, .int t_swapOut, .ref q_t_own, .ref q_t_chosen, .ref q_t_degrees, .long t_boundedSet, .ref q_t_fixed, .ref q_t_grown, .ref q_t_costs, .ref q_t_order, .long t_joinedSet])), (q_t_there, .inl (cZ, 30, .inl t_there)), (q_t_weights, .inl (cI, 30, .inl t_weights))] → va_S A s.heap H locs → lv_has ls 5 [(0, .ref q_t), (1, .int p1), (2, .int v2), (3, .int v3)] → g_Mo_behind_64 t_weights k4 v2 v3 = some RR → W p l e R s m args below meth c H locs 0 0 Q (F0 m 64 ls []) := by
  intro v2 v3 H locs ls hP hD hS hl hf
  obtain ⟨hx, hb, hml, hown, hts, hK, hA, hfr, hlo, hlk⟩ := id C0
  unfold g_Mo_behind_64 at hf
  refine lv_iconst (v := 0) hx hb d_Mo_behind_64 (by decide) ?_
  exact w_Mo_behind_65 C0 hret k4 hk4  v2 v3 (0 : Int32) _ _ _ hP hD hS (lv_sub hl [0, 1, 2, 3] rfl) hf
set_option maxRecDepth 100000 in
set_option maxHeartbeats 4000000 in
theorem w_Mo_behind_60 {p : Program} {l : Launch} {e : Env} {R : Room} {s : State} {m : MethodId} {args : Array Value} {below : List Frame} {meth : Method} {c : Code} {D : va_G} {cI cJ cG cZ : ClassId} {A : Nat → Prop} {Q : State → Prop} {q_t q_t_froms q_t_tos q_t_weights q_t_there q_t_part q_t_matrix q_t_row q_t_low q_t_own q_t_chosen q_t_degrees q_t_fixed q_t_grown q_t_costs q_t_order : Nat} {t_nodes : Int32} {t_arcs : Int32} {t_left : Int32} {t_swapIn : Int32} {t_swapOut : Int32} {t_boundedSet : Int64} {t_joinedSet : Int64} {t_there : Nat → Int32} {t_weights : Nat → Int32} {p1 : Int32} {RR : Int32} (C0 : CX p R s m args meth c b_Mo_behind 5 R_Mo lw_g D CL (TYs cI cJ cG cZ) A 0 0) (hret : ∀ (pc : Nat) (ls : Array Slot) (H : Heap) (locs : List Loc) (v : Int32) , decode b_Mo_behind pc = .ok (.ireturn, 1) → va_P D CL [(q_t, .inr (8, [.int t_nodes, .int t_arcs, .int t_left, .ref q_t_froms, .ref q_t_tos, .ref q_t_weights, .ref q_t_there, .ref q_t_part, .ref q_t_matrix, .ref q_t_row, .ref q_t_low, .int t_swapIn, .int t_swapOut, .ref q_t_own, .ref q_t_chosen, .ref q_t_degrees, .long t_boundedSet, .ref q_t_fixed, .ref q_t_grown, .ref q_t_costs, .ref q_t_order, .long t_joinedSet])), (q_t_there, .inl (cZ, 30, .inl t_there)), (q_t_weights, .inl (cI, 30, .inl t_weights))] H → va_D A [(q_t, .inr (8, [.int t_nodes, .int t_arcs, .int t_left, .ref q_t_froms, .ref q_t_tos, .ref q_t_weights, .ref q_t_there, .ref q_t_part, .ref q_t_matrix, .ref q_t_row, .ref q_t_low, .int t_swapIn, .int t_swapOut, .ref q_t_own, .ref q_t_chosen, .ref q_t_degrees, .long t_boundedSet, .ref q_t_fixed, .ref q_t_grown, .ref q_t_costs, .ref q_t_order, .long t_joinedSet])), (q_t_there, .inl (cZ, 30, .inl t_there)), (q_t_weights, .inl (cI, 30, .inl t_weights))] → va_S A s.heap H locs → some (v) = some RR → W p l e R s m args below meth c H locs 0 0 Q (F0 m pc ls [.int v])) (k4 : Int32 → Int32 → Option (Int32)) (hk4 : ∀ (v2 : Int32) (v3 : Int32) (H : Heap) (locs : List Loc) (ls : Array Slot), va_P D CL [(q_t, .inr (8, [.int t_nodes, .int t_arcs, .int t_left, .ref q_t_froms, .ref q_t_tos, .ref q_t_weights, .ref q_t_there, .ref q_t_part, .ref q_t_matrix, .ref q_t_row, .ref q_t_low, .int t_swapIn, .int t_swapOut, .ref q_t_own, .ref q_t_chosen, .ref q_t_degrees, .long t_boundedSet, .ref q_t_fixed, .ref q_t_grown, .ref q_t_costs, .ref q_t_order, .long t_joinedSet])), (q_t_there, .inl (cZ, 30, .inl t_there)), (q_t_weights, .inl (cI, 30, .inl t_weights))] H → va_D A [(q_t, .inr (8, [.int t_nodes, .int t_arcs, .int t_left, .ref q_t_froms, .ref q_t_tos, .ref q_t_weights, .ref q_t_there, .ref q_t_part, .ref q_t_matrix, .ref q_t_row, .ref q_t_low, .int t_swapIn, .int t_swapOut, .ref q_t_own, .ref q_t_chosen, .ref q_t_degrees, .long t_boundedSet, .ref q_t_fixed, .ref q_t_grown, .ref q_t_costs, .ref q_t_order, .long t_joinedSet])), (q_t_there, .inl (cZ, 30, .inl t_there)), (q_t_weights, .inl (cI, 30, .inl t_weights))] → va_S A s.heap H locs → lv_has ls 5 [(0, .ref q_t), (1, .int p1), (2, .int v2), (3, .int v3)] → k4 v2 v3 = some RR → W p l e R s m args below meth c H locs 0 0 Q (F0 m 4 ls [])) : ∀ (v2 : Int32) (v3 : Int32) (H : Heap) (locs : List Loc) (ls : Array Slot), va_P D CL [(q_t, .inr (8, [.int t_nodes, .int t_arcs, .int t_left, .ref q_t_froms, .ref q_t_tos, .ref q_t_weights, .ref q_t_there, .ref q_t_part, .ref q_t_matrix, .ref q_t_row, .ref q_t_low, .int t_swapIn, .int t_swapOut, .ref q_t_own, .ref q_t_chosen, .ref q_t_degrees, .long t_boundedSet, .ref q_t_fixed, .ref q_t_grown, .ref q_t_costs, .ref q_t_order, .long t_joinedSet])), (q_t_there, .inl (cZ, 30, .inl t_there)), (q_t_weights, .inl (cI, 30, .inl t_weights))] H → va_D A [(q_t, .inr (8, [.int t_nodes, .int t_arcs, .int t_left, .ref q_t_froms, .ref q_t_tos, .ref q_t_weights, .ref q_t_there, .ref q_t_part, .ref q_t_matrix, .ref q_t_row, .ref q_t_low, .int t_swapIn, .int t_swapOut, .ref q_t_own, .ref q_t_chosen, .ref q_t_degrees, .long t_boundedSet, .ref q_t_fixed, .ref q_t_grown, .ref q_t_costs, .ref q_t_order, .long t_joinedSet])), (q_t_there, .inl (cZ, 30, .inl t_there)), (q_t_weights, .inl (cI, 30, .inl t_weights))] → va_S A s.heap H locs → lv_has ls 5 [(0, .ref q_t), (1, .int p1), (2, .int v2), (3, .int v3)] → g_Mo_behind_60 t_weights k4 v2 v3 = some RR → W p l e R s m args below meth c H locs 0 0 Q (F0 m 60 ls []) := by
  intro v2 v3 H locs ls hP hD hS hl hf
  obtain ⟨hx, hb, hml, hown, hts, hK, hA, hfr, hlo, hlk⟩ := id C0
  unfold g_Mo_behind_60 at hf
  refine lv_iconst (v := 1) hx hb d_Mo_behind_60 (by decide) ?_
  refine lv_goto (tgt := 65) hx hb d_Mo_behind_61 (by decide) ?_
  exact w_Mo_behind_65 C0 hret k4 hk4  v2 v3 (1 : Int32) _ _ _ hP hD hS (lv_sub hl [0, 1, 2, 3] rfl) hf
set_option maxRecDepth 100000 in
set_option maxHeartbeats 4000000 in
theorem w_Mo_behind_4 {p : Program} {l : Launch} {e : Env} {R : Room} {s : State} {m : MethodId} {args : Array Value} {below : List Frame} {meth : Method} {c : Code} {D : va_G} {cI cJ cG cZ : ClassId} {A : Nat → Prop} {Q : State → Prop} {q_t q_t_froms q_t_tos q_t_weights q_t_there q_t_part q_t_matrix q_t_row q_t_low q_t_own q_t_chosen q_t_degrees q_t_fixed q_t_grown q_t_costs q_t_order : Nat} {t_nodes : Int32} {t_arcs : Int32} {t_left : Int32} {t_swapIn : Int32} {t_swapOut : Int32} {t_boundedSet : Int64} {t_joinedSet : Int64} {t_there : Nat → Int32} {t_weights : Nat → Int32} {p1 : Int32} {RR : Int32} (C0 : CX p R s m args meth c b_Mo_behind 5 R_Mo lw_g D CL (TYs cI cJ cG cZ) A 0 0) (hret : ∀ (pc : Nat) (ls : Array Slot) (H : Heap) (locs : List Loc) (v : Int32) , decode b_Mo_behind pc = .ok (.ireturn, 1) → va_P D CL [(q_t, .inr (8, [.int t_nodes, .int t_arcs, .int t_left, .ref q_t_froms, .ref q_t_tos, .ref q_t_weights, .ref q_t_there, .ref q_t_part, .ref q_t_matrix, .ref q_t_row, .ref q_t_low, .int t_swapIn, .int t_swapOut, .ref q_t_own, .ref q_t_chosen, .ref q_t_degrees, .long t_boundedSet, .ref q_t_fixed, .ref q_t_grown, .ref q_t_costs, .ref q_t_order, .long t_joinedSet])), (q_t_there, .inl (cZ, 30, .inl t_there)), (q_t_weights, .inl (cI, 30, .inl t_weights))] H → va_D A [(q_t, .inr (8, [.int t_nodes, .int t_arcs, .int t_left, .ref q_t_froms, .ref q_t_tos, .ref q_t_weights, .ref q_t_there, .ref q_t_part, .ref q_t_matrix, .ref q_t_row, .ref q_t_low, .int t_swapIn, .int t_swapOut, .ref q_t_own, .ref q_t_chosen, .ref q_t_degrees, .long t_boundedSet, .ref q_t_fixed, .ref q_t_grown, .ref q_t_costs, .ref q_t_order, .long t_joinedSet])), (q_t_there, .inl (cZ, 30, .inl t_there)), (q_t_weights, .inl (cI, 30, .inl t_weights))] → va_S A s.heap H locs → some (v) = some RR → W p l e R s m args below meth c H locs 0 0 Q (F0 m pc ls [.int v])) (k4 : Int32 → Int32 → Option (Int32)) (hk4 : ∀ (v2 : Int32) (v3 : Int32) (H : Heap) (locs : List Loc) (ls : Array Slot), va_P D CL [(q_t, .inr (8, [.int t_nodes, .int t_arcs, .int t_left, .ref q_t_froms, .ref q_t_tos, .ref q_t_weights, .ref q_t_there, .ref q_t_part, .ref q_t_matrix, .ref q_t_row, .ref q_t_low, .int t_swapIn, .int t_swapOut, .ref q_t_own, .ref q_t_chosen, .ref q_t_degrees, .long t_boundedSet, .ref q_t_fixed, .ref q_t_grown, .ref q_t_costs, .ref q_t_order, .long t_joinedSet])), (q_t_there, .inl (cZ, 30, .inl t_there)), (q_t_weights, .inl (cI, 30, .inl t_weights))] H → va_D A [(q_t, .inr (8, [.int t_nodes, .int t_arcs, .int t_left, .ref q_t_froms, .ref q_t_tos, .ref q_t_weights, .ref q_t_there, .ref q_t_part, .ref q_t_matrix, .ref q_t_row, .ref q_t_low, .int t_swapIn, .int t_swapOut, .ref q_t_own, .ref q_t_chosen, .ref q_t_degrees, .long t_boundedSet, .ref q_t_fixed, .ref q_t_grown, .ref q_t_costs, .ref q_t_order, .long t_joinedSet])), (q_t_there, .inl (cZ, 30, .inl t_there)), (q_t_weights, .inl (cI, 30, .inl t_weights))] → va_S A s.heap H locs → lv_has ls 5 [(0, .ref q_t), (1, .int p1), (2, .int v2), (3, .int v3)] → k4 v2 v3 = some RR → W p l e R s m args below meth c H locs 0 0 Q (F0 m 4 ls [])) : ∀ (v2 : Int32) (v3 : Int32) (H : Heap) (locs : List Loc) (ls : Array Slot), va_P D CL [(q_t, .inr (8, [.int t_nodes, .int t_arcs, .int t_left, .ref q_t_froms, .ref q_t_tos, .ref q_t_weights, .ref q_t_there, .ref q_t_part, .ref q_t_matrix, .ref q_t_row, .ref q_t_low, .int t_swapIn, .int t_swapOut, .ref q_t_own, .ref q_t_chosen, .ref q_t_degrees, .long t_boundedSet, .ref q_t_fixed, .ref q_t_grown, .ref q_t_costs, .ref q_t_order, .long t_joinedSet])), (q_t_there, .inl (cZ, 30, .inl t_there)), (q_t_weights, .inl (cI, 30, .inl t_weights))] H → va_D A [(q_t, .inr (8, [.int t_nodes, .int t_arcs, .int t_left, .ref q_t_froms, .ref q_t_tos, .ref q_t_weights, .ref q_t_there, .ref q_t_part, .ref q_t_matrix, .ref q_t_row, .ref q_t_low, .int t_swapIn, .int t_swapOut, .ref q_t_own, .ref q_t_chosen, .ref q_t_degrees, .long t_boundedSet, .ref q_t_fixed, .ref q_t_grown, .ref q_t_costs, .ref q_t_order, .long t_joinedSet])), (q_t_there, .inl (cZ, 30, .inl t_there)), (q_t_weights, .inl (cI, 30, .inl t_weights))] → va_S A s.heap H locs → lv_has ls 5 [(0, .ref q_t), (1, .int p1), (2, .int v2), (3, .int v3)] → g_Mo_behind_4 p1 t_arcs t_there t_weights k4 v2 v3 = some RR → W p l e R s m args below meth c H locs 0 0 Q (F0 m 4 ls []) := by
  intro v2 v3 H locs ls hP hD hS hl hf
  obtain ⟨hx, hb, hml, hown, hts, hK, hA, hfr, hlo, hlk⟩ := id C0
  unfold g_Mo_behind_4 at hf
  refine lv_iload_n hx hb d_Mo_behind_4 rfl (lv_at hl 3 rfl) ?_
  refine lv_aload_n hx hb d_Mo_behind_5 rfl (lv_at hl 0 rfl) ?_
  refine va_get (D := D) (ci := 8) (v := .int t_arcs) (C := R_Mo) (T := F_Mo) (N := 22) hx hb hts i_Mo hown hK hP 0 rfl rfl 1 (by decide) (hts _ m_3_129) (fun _ h9 => h9) rfl d_Mo_behind_6 ?_
  refine lv_icmp_ge (tgt := 99) hx hb d_Mo_behind_9 (by decide) (fun hc1 => ?_) (fun hc1 => ?_)
  · have hf := if_t hc1 hf
    refine lv_iload_n hx hb d_Mo_behind_99 rfl (lv_at hl 2 rfl) ?_
    exact hret 100 _ _ _ v2 d_Mo_behind_100 hP hD hS hf
  · have hf := if_f hc1 hf
    refine lv_aload_n hx hb d_Mo_behind_12 rfl (lv_at hl 0 rfl) ?_
    refine va_get (D := D) (ci := 8) (v := .ref q_t_there) (C := R_Mo) (T := F_Mo) (N := 22) hx hb hts i_Mo hown hK hP 0 rfl rfl 6 (by decide) (hts _ m_3_134) (fun _ h9 => h9) rfl d_Mo_behind_13 ?_
    refine lv_iload_n hx hb d_Mo_behind_16 rfl (lv_at hl 3 rfl) ?_
    obtain ⟨hg1, hf⟩ := gd_e hf
    refine va_zald hx hb hK hP 1 3 rfl rfl (inb_e hg1) d_Mo_behind_17 ?_
    refine lv_if_eq (tgt := 64) hx hb d_Mo_behind_18 (by decide) (fun hc2 => ?_) (fun hc2 => ?_)
    · have hf := if_t hc2 hf
      exact w_Mo_behind_64 C0 hret k4 hk4  v2 v3 _ _ _ hP hD hS (lv_sub hl [0, 1, 2, 3] rfl) hf
    · have hf := if_f hc2 hf
      refine lv_iload_n hx hb d_Mo_behind_21 rfl (lv_at hl 1 rfl) ?_
      refine lv_if_lt (tgt := 60) hx hb d_Mo_behind_22 (by decide) (fun hc3 => ?_) (fun hc3 => ?_)
      · have hf := if_t hc3 hf
        exact w_Mo_behind_60 C0 hret k4 hk4  v2 v3 _ _ _ hP hD hS (lv_sub hl [0, 1, 2, 3] rfl) hf
      · have hf := if_f hc3 hf
        refine lv_aload_n hx hb d_Mo_behind_25 rfl (lv_at hl 0 rfl) ?_
        refine va_get (D := D) (ci := 8) (v := .ref q_t_weights) (C := R_Mo) (T := F_Mo) (N := 22) hx hb hts i_Mo hown hK hP 0 rfl rfl 5 (by decide) (hts _ m_3_133) (fun _ h9 => h9) rfl d_Mo_behind_26 ?_
        refine lv_iload_n hx hb d_Mo_behind_29 rfl (lv_at hl 3 rfl) ?_
        obtain ⟨hg2, hf⟩ := gd_e hf
        refine va_iald hx hb hK hP 2 0 rfl rfl (inb_e hg2) d_Mo_behind_30 ?_
        refine lv_aload_n hx hb d_Mo_behind_31 rfl (lv_at hl 0 rfl) ?_
        refine va_get (D := D) (ci := 8) (v := .ref q_t_weights) (C := R_Mo) (T := F_Mo) (N := 22) hx hb hts i_Mo hown hK hP 0 rfl rfl 5 (by decide) (hts _ m_3_133) (fun _ h9 => h9) rfl d_Mo_behind_32 ?_
        refine lv_iload_n hx hb d_Mo_behind_35 rfl (lv_at hl 1 rfl) ?_
        obtain ⟨hg3, hf⟩ := gd_e hf
        refine va_iald hx hb hK hP 2 0 rfl rfl (inb_e hg3) d_Mo_behind_36 ?_
        refine lv_icmp_gt (tgt := 60) hx hb d_Mo_behind_37 (by decide) (fun hc4 => ?_) (fun hc4 => ?_)
        · have hf := if_t hc4 hf
          exact w_Mo_behind_60 C0 hret k4 hk4  v2 v3 _ _ _ hP hD hS (lv_sub hl [0, 1, 2, 3] rfl) hf
        · have hf := if_f hc4 hf
          refine lv_aload_n hx hb d_Mo_behind_40 rfl (lv_at hl 0 rfl) ?_
          refine va_get (D := D) (ci := 8) (v := .ref q_t_weights) (C := R_Mo) (T := F_Mo) (N := 22) hx hb hts i_Mo hown hK hP 0 rfl rfl 5 (by decide) (hts _ m_3_133) (fun _ h9 => h9) rfl d_Mo_behind_41 ?_
          refine lv_iload_n hx hb d_Mo_behind_44 rfl (lv_at hl 3 rfl) ?_
          obtain ⟨hg4, hf⟩ := gd_e hf
          refine va_iald hx hb hK hP 2 0 rfl rfl (inb_e hg4) d_Mo_behind_45 ?_
          refine lv_aload_n hx hb d_Mo_behind_46 rfl (lv_at hl 0 rfl) ?_
          refine va_get (D := D) (ci := 8) (v := .ref q_t_weights) (C := R_Mo) (T := F_Mo) (N := 22) hx hb hts i_Mo hown hK hP 0 rfl rfl 5 (by decide) (hts _ m_3_133) (fun _ h9 => h9) rfl d_Mo_behind_47 ?_
          refine lv_iload_n hx hb d_Mo_behind_50 rfl (lv_at hl 1 rfl) ?_
          obtain ⟨hg5, hf⟩ := gd_e hf
          refine va_iald hx hb hK hP 2 0 rfl rfl (inb_e hg5) d_Mo_behind_51 ?_
          refine lv_icmp_ne (tgt := 64) hx hb d_Mo_behind_52 (by decide) (fun hc5 => ?_) (fun hc5 => ?_)
          · have hf := if_f hc5 hf
            exact w_Mo_behind_64 C0 hret k4 hk4  v2 v3 _ _ _ hP hD hS (lv_sub hl [0, 1, 2, 3] rfl) hf
          · have hf := if_t hc5 hf
            refine lv_iload_n hx hb d_Mo_behind_55 rfl (lv_at hl 3 rfl) ?_
            refine lv_iload_n hx hb d_Mo_behind_56 rfl (lv_at hl 1 rfl) ?_
            refine lv_icmp_le (tgt := 64) hx hb d_Mo_behind_57 (by decide) (fun hc6 => ?_) (fun hc6 => ?_)
            · have hf := if_t hc6 hf
              exact w_Mo_behind_64 C0 hret k4 hk4  v2 v3 _ _ _ hP hD hS (lv_sub hl [0, 1, 2, 3] rfl) hf
            · have hf := if_f hc6 hf
              exact w_Mo_behind_60 C0 hret k4 hk4  v2 v3 _ _ _ hP hD hS (lv_sub hl [0, 1, 2, 3] rfl) hf
set_option maxRecDepth 100000 in
set_option maxHeartbeats 4000000 in
theorem w_Mo_behind_4_l {p : Program} {l : Launch} {e : Env} {R : Room} {s : State} {m : MethodId} {args : Array Value} {below : List Frame} {meth : Method} {c : Code} {D : va_G} {cI cJ cG cZ : ClassId} {A : Nat → Prop} {Q : State → Prop} {q_t q_t_froms q_t_tos q_t_weights q_t_there q_t_part q_t_matrix q_t_row q_t_low q_t_own q_t_chosen q_t_degrees q_t_fixed q_t_grown q_t_costs q_t_order : Nat} {t_nodes : Int32} {t_arcs : Int32} {t_left : Int32} {t_swapIn : Int32} {t_swapOut : Int32} {t_boundedSet : Int64} {t_joinedSet : Int64} {t_there : Nat → Int32} {t_weights : Nat → Int32} {p1 : Int32} {RR : Int32} (C0 : CX p R s m args meth c b_Mo_behind 5 R_Mo lw_g D CL (TYs cI cJ cG cZ) A 0 0) (hret : ∀ (pc : Nat) (ls : Array Slot) (H : Heap) (locs : List Loc) (v : Int32) , decode b_Mo_behind pc = .ok (.ireturn, 1) → va_P D CL [(q_t, .inr (8, [.int t_nodes, .int t_arcs, .int t_left, .ref q_t_froms, .ref q_t_tos, .ref q_t_weights, .ref q_t_there, .ref q_t_part, .ref q_t_matrix, .ref q_t_row, .ref q_t_low, .int t_swapIn, .int t_swapOut, .ref q_t_own, .ref q_t_chosen, .ref q_t_degrees, .long t_boundedSet, .ref q_t_fixed, .ref q_t_grown, .ref q_t_costs, .ref q_t_order, .long t_joinedSet])), (q_t_there, .inl (cZ, 30, .inl t_there)), (q_t_weights, .inl (cI, 30, .inl t_weights))] H → va_D A [(q_t, .inr (8, [.int t_nodes, .int t_arcs, .int t_left, .ref q_t_froms, .ref q_t_tos, .ref q_t_weights, .ref q_t_there, .ref q_t_part, .ref q_t_matrix, .ref q_t_row, .ref q_t_low, .int t_swapIn, .int t_swapOut, .ref q_t_own, .ref q_t_chosen, .ref q_t_degrees, .long t_boundedSet, .ref q_t_fixed, .ref q_t_grown, .ref q_t_costs, .ref q_t_order, .long t_joinedSet])), (q_t_there, .inl (cZ, 30, .inl t_there)), (q_t_weights, .inl (cI, 30, .inl t_weights))] → va_S A s.heap H locs → some (v) = some RR → W p l e R s m args below meth c H locs 0 0 Q (F0 m pc ls [.int v]))  : ∀ (n : Nat) (v2 : Int32) (v3 : Int32) (H : Heap) (locs : List Loc) (ls : Array Slot), va_P D CL [(q_t, .inr (8, [.int t_nodes, .int t_arcs, .int t_left, .ref q_t_froms, .ref q_t_tos, .ref q_t_weights, .ref q_t_there, .ref q_t_part, .ref q_t_matrix, .ref q_t_row, .ref q_t_low, .int t_swapIn, .int t_swapOut, .ref q_t_own, .ref q_t_chosen, .ref q_t_degrees, .long t_boundedSet, .ref q_t_fixed, .ref q_t_grown, .ref q_t_costs, .ref q_t_order, .long t_joinedSet])), (q_t_there, .inl (cZ, 30, .inl t_there)), (q_t_weights, .inl (cI, 30, .inl t_weights))] H → va_D A [(q_t, .inr (8, [.int t_nodes, .int t_arcs, .int t_left, .ref q_t_froms, .ref q_t_tos, .ref q_t_weights, .ref q_t_there, .ref q_t_part, .ref q_t_matrix, .ref q_t_row, .ref q_t_low, .int t_swapIn, .int t_swapOut, .ref q_t_own, .ref q_t_chosen, .ref q_t_degrees, .long t_boundedSet, .ref q_t_fixed, .ref q_t_grown, .ref q_t_costs, .ref q_t_order, .long t_joinedSet])), (q_t_there, .inl (cZ, 30, .inl t_there)), (q_t_weights, .inl (cI, 30, .inl t_weights))] → va_S A s.heap H locs → lv_has ls 5 [(0, .ref q_t), (1, .int p1), (2, .int v2), (3, .int v3)] → lo2 (g_Mo_behind_4 p1 t_arcs t_there t_weights) n v2 v3 = some RR → W p l e R s m args below meth c H locs 0 0 Q (F0 m 4 ls []) := by
  intro n
  induction n with
  | zero =>
    intro v2 v3 H locs ls hP hD hS hl hf
    exact absurd hf (by simp [lo2])
  | succ n ih =>
    intro v2 v3 H locs ls hP hD hS hl hf
    exact w_Mo_behind_4 C0 hret  (lo2 (g_Mo_behind_4 p1 t_arcs t_there t_weights) n) ih v2 v3 H locs ls hP hD hS hl hf
set_option maxRecDepth 100000 in
set_option maxHeartbeats 4000000 in
theorem w_Mo_behind_e {p : Program} {l : Launch} {e : Env} {R : Room} {s : State} {m : MethodId} {args : Array Value} {below : List Frame} {meth : Method} {c : Code} {D : va_G} {cI cJ cG cZ : ClassId} {A : Nat → Prop} {Q : State → Prop} {q_t q_t_froms q_t_tos q_t_weights q_t_there q_t_part q_t_matrix q_t_row q_t_low q_t_own q_t_chosen q_t_degrees q_t_fixed q_t_grown q_t_costs q_t_order : Nat} {t_nodes : Int32} {t_arcs : Int32} {t_left : Int32} {t_swapIn : Int32} {t_swapOut : Int32} {t_boundedSet : Int64} {t_joinedSet : Int64} {t_there : Nat → Int32} {t_weights : Nat → Int32} {p1 : Int32} {N : Nat} {RR : Int32} (C0 : CX p R s m args meth c b_Mo_behind 5 R_Mo lw_g D CL (TYs cI cJ cG cZ) A 0 0) (hret : ∀ (pc : Nat) (ls : Array Slot) (H : Heap) (locs : List Loc) (v : Int32) , decode b_Mo_behind pc = .ok (.ireturn, 1) → va_P D CL [(q_t, .inr (8, [.int t_nodes, .int t_arcs, .int t_left, .ref q_t_froms, .ref q_t_tos, .ref q_t_weights, .ref q_t_there, .ref q_t_part, .ref q_t_matrix, .ref q_t_row, .ref q_t_low, .int t_swapIn, .int t_swapOut, .ref q_t_own, .ref q_t_chosen, .ref q_t_degrees, .long t_boundedSet, .ref q_t_fixed, .ref q_t_grown, .ref q_t_costs, .ref q_t_order, .long t_joinedSet])), (q_t_there, .inl (cZ, 30, .inl t_there)), (q_t_weights, .inl (cI, 30, .inl t_weights))] H → va_D A [(q_t, .inr (8, [.int t_nodes, .int t_arcs, .int t_left, .ref q_t_froms, .ref q_t_tos, .ref q_t_weights, .ref q_t_there, .ref q_t_part, .ref q_t_matrix, .ref q_t_row, .ref q_t_low, .int t_swapIn, .int t_swapOut, .ref q_t_own, .ref q_t_chosen, .ref q_t_degrees, .long t_boundedSet, .ref q_t_fixed, .ref q_t_grown, .ref q_t_costs, .ref q_t_order, .long t_joinedSet])), (q_t_there, .inl (cZ, 30, .inl t_there)), (q_t_weights, .inl (cI, 30, .inl t_weights))] → va_S A s.heap H locs → some (v) = some RR → W p l e R s m args below meth c H locs 0 0 Q (F0 m pc ls [.int v])) : ∀ (H : Heap) (locs : List Loc) (ls : Array Slot), va_P D CL [(q_t, .inr (8, [.int t_nodes, .int t_arcs, .int t_left, .ref q_t_froms, .ref q_t_tos, .ref q_t_weights, .ref q_t_there, .ref q_t_part, .ref q_t_matrix, .ref q_t_row, .ref q_t_low, .int t_swapIn, .int t_swapOut, .ref q_t_own, .ref q_t_chosen, .ref q_t_degrees, .long t_boundedSet, .ref q_t_fixed, .ref q_t_grown, .ref q_t_costs, .ref q_t_order, .long t_joinedSet])), (q_t_there, .inl (cZ, 30, .inl t_there)), (q_t_weights, .inl (cI, 30, .inl t_weights))] H → va_D A [(q_t, .inr (8, [.int t_nodes, .int t_arcs, .int t_left, .ref q_t_froms, .ref q_t_tos, .ref q_t_weights, .ref q_t_there, .ref q_t_part, .ref q_t_matrix, .ref q_t_row, .ref q_t_low, .int t_swapIn, .int t_swapOut, .ref q_t_own, .ref q_t_chosen, .ref q_t_degrees, .long t_boundedSet, .ref q_t_fixed, .ref q_t_grown, .ref q_t_costs, .ref q_t_order, .long t_joinedSet])), (q_t_there, .inl (cZ, 30, .inl t_there)), (q_t_weights, .inl (cI, 30, .inl t_weights))] → va_S A s.heap H locs → lv_has ls 5 [(0, .ref q_t), (1, .int p1)] → f_Mo_behind N p1 t_arcs t_there t_weights = some RR → W p l e R s m args below meth c H locs 0 0 Q (F0 m 0 ls []) := by
  intro H locs ls hP hD hS hl hf
  obtain ⟨hx, hb, hml, hown, hts, hK, hA, hfr, hlo, hlk⟩ := id C0
  unfold f_Mo_behind at hf
  refine lv_iconst (v := -1) hx hb d_Mo_behind_0 (by decide) ?_
  refine lv_istore_n (lv' := [(2, .int (-1 : Int32)), (0, .ref q_t), (1, .int p1)]) hx hb d_Mo_behind_1 rfl hl (by decide) rfl (fun ls hl => ?_)
  refine lv_iconst (v := 0) hx hb d_Mo_behind_2 (by decide) ?_
  refine lv_istore_n (lv' := [(3, .int (0 : Int32)), (2, .int (-1 : Int32)), (0, .ref q_t), (1, .int p1)]) hx hb d_Mo_behind_3 rfl hl (by decide) rfl (fun ls hl => ?_)
  exact w_Mo_behind_4_l C0 hret N (-1 : Int32) (0 : Int32) _ _ _ hP hD hS (lv_sub hl [2, 3, 1, 0] rfl) hf
set_option maxRecDepth 100000 in
set_option maxHeartbeats 4000000 in
theorem c_Mo_behind (l : Launch) (D : va_G) (cI cJ cG cZ : ClassId) (q_t q_t_froms q_t_tos q_t_weights q_t_there q_t_part q_t_matrix q_t_row q_t_low q_t_own q_t_chosen q_t_degrees q_t_fixed q_t_grown q_t_costs q_t_order : Nat) (t_nodes : Int32) (t_arcs : Int32) (t_left : Int32) (t_swapIn : Int32) (t_swapOut : Int32) (t_boundedSet : Int64) (t_joinedSet : Int64) (t_there : Nat → Int32) (t_weights : Nat → Int32) (p1 : Int32) {N : Nat} {r : Int32} (hf : f_Mo_behind N p1 t_arcs t_there t_weights = some (r)) : MeG l D CL (TYs cI cJ cG cZ) y_Mo_behind ws_Mo_behind (rm_Mo_behind) [.ref q_t, .int p1] [(q_t, .inr (8, [.int t_nodes, .int t_arcs, .int t_left, .ref q_t_froms, .ref q_t_tos, .ref q_t_weights, .ref q_t_there, .ref q_t_part, .ref q_t_matrix, .ref q_t_row, .ref q_t_low, .int t_swapIn, .int t_swapOut, .ref q_t_own, .ref q_t_chosen, .ref q_t_degrees, .long t_boundedSet, .ref q_t_fixed, .ref q_t_grown, .ref q_t_costs, .ref q_t_order, .long t_joinedSet])), (q_t_there, .inl (cZ, 30, .inl t_there)), (q_t_weights, .inl (cI, 30, .inl t_weights))] (some (.int r)) [(q_t, .inr (8, [.int t_nodes, .int t_arcs, .int t_left, .ref q_t_froms, .ref q_t_tos, .ref q_t_weights, .ref q_t_there, .ref q_t_part, .ref q_t_matrix, .ref q_t_row, .ref q_t_low, .int t_swapIn, .int t_swapOut, .ref q_t_own, .ref q_t_chosen, .ref q_t_degrees, .long t_boundedSet, .ref q_t_fixed, .ref q_t_grown, .ref q_t_costs, .ref q_t_order, .long t_joinedSet])), (q_t_there, .inl (cZ, 30, .inl t_there)), (q_t_weights, .inl (cI, 30, .inl t_weights))] := by
  intro sz
  refine Met.ofW (cc := b_Mo_behind) (maxL := 5) (ret := (some .int)) (by decide) rfl ?_
  intro p e s m args below meth c s₁ B hml hv
  obtain ⟨rfl, hsz, hP, hK, hD0⟩ := hv
  subst hsz
  have hD := hD0.self (sz := s.heap.size)
  generalize hAe : va_A [(q_t, .inr (8, [.int t_nodes, .int t_arcs, .int t_left, .ref q_t_froms, .ref q_t_tos, .ref q_t_weights, .ref q_t_there, .ref q_t_part, .ref q_t_matrix, .ref q_t_row, .ref q_t_low, .int t_swapIn, .int t_swapOut, .ref q_t_own, .ref q_t_chosen, .ref q_t_degrees, .long t_boundedSet, .ref q_t_fixed, .ref q_t_grown, .ref q_t_costs, .ref q_t_order, .long t_joinedSet])), (q_t_there, .inl (cZ, 30, .inl t_there)), (q_t_weights, .inl (cI, 30, .inl t_weights))] s.heap.size = A at hD ⊢
  have C0 : CX p (headSpec ws_Mo_behind (rm_Mo_behind)).room s m _ meth c b_Mo_behind 5 R_Mo lw_g D CL (TYs cI cJ cG cZ) A 0 0 := ⟨B.exec, B.bytes, hml, findClass_of_methodNamed B.named, fun w h => atoms_spec (ws := ws_Mo_behind) B.pre w (List.mem_cons_of_mem _ h), hK, fun q h => by rw [← hAe]; exact Or.inr h, Nat.le_of_ble_eq_true rfl, Nat.le_of_ble_eq_true rfl, B.notSynchronized⟩
  have hl := lv_entry ([.ref q_t, .int p1]) (n := 5) (Nat.le_of_ble_eq_true rfl)
  rw [lg_entry_eq]
  generalize (lg_sl ([.ref q_t, .int p1]) ++ List.replicate (5 - (lg_sl ([.ref q_t, .int p1])).length) Slot.unset).toArray = ls at hl ⊢
  have hl : lv_has ls 5 [(0, .ref q_t), (1, .int p1)] := hl
  exact w_Mo_behind_e C0 (fun pc ls H locs v hdg hP hD hS e => by cases e; exact W.iret B.exec B.bytes B.returns (fun t ht hW => ⟨⟨rfl, by rw [ht]; exact hP, va_K.moved hW.alike hK, hD⟩, hS.F ht⟩) hS.2.2 hdg) _ _ _ hP hD va_S.rf (lv_sub hl [0, 1] rfl) hf
