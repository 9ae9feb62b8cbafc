abbrev b_Graph_weightOf : ByteArray := prog_5_method_10_code
def y_Graph_weightOf : MethodName := ⟨R_Graph, "weightOf", "(J)I"⟩
def ws_Graph_weightOf : List Cond := .code y_Graph_weightOf b_Graph_weightOf 5 (some .int) :: lw_g
theorem wi_Graph_weightOf : ∀ w ∈ ws_Graph_weightOf, w ∈ lw_g := wi_of m_2_110
abbrev rm_Graph_weightOf : Room := { frames := 1, cells := 0, slots := 0, locals := 22 }
theorem hd_Graph_weightOf : y_Graph_weightOf.cls = R_Graph ∧ y_Graph_weightOf.cls ≠ "java/lang/invoke/MethodHandle" ∧ y_Graph_weightOf.cls ≠ "java/lang/invoke/VarHandle" ∧ (parseMethodDescriptor y_Graph_weightOf.desc).map (fun d => d.parameters.length) = some 1 := by decide +kernel
theorem d_Graph_weightOf_0 : decode b_Graph_weightOf 0 = .ok (.iconst 0, 1) := by decide +kernel
theorem d_Graph_weightOf_1 : decode b_Graph_weightOf 1 = .ok (.istore_n 3, 1) := by decide +kernel
theorem d_Graph_weightOf_2 : decode b_Graph_weightOf 2 = .ok (.iconst 0, 1) := by decide +kernel
theorem d_Graph_weightOf_3 : decode b_Graph_weightOf 3 = .ok (.istore 4, 2) := by decide +kernel
theorem d_Graph_weightOf_5 : decode b_Graph_weightOf 5 = .ok (.iload 4, 2) := by decide +kernel
theorem d_Graph_weightOf_7 : decode b_Graph_weightOf 7 = .ok (.aload_n 0, 1) := by decide +kernel
theorem d_Graph_weightOf_8 : decode b_Graph_weightOf 8 = .ok (.getfield 28, 3) := by decide +kernel
theorem d_Graph_weightOf_11 : decode b_Graph_weightOf 11 = .ok (.if_icmp .ge 28, 3) := by decide +kernel
theorem d_Graph_weightOf_14 : decode b_Graph_weightOf 14 = .ok (.lload_n 1, 1) := by decide +kernel
theorem d_Graph_weightOf_15 : decode b_Graph_weightOf 15 = .ok (.iload 4, 2) := by decide +kernel
theorem d_Graph_weightOf_17 : decode b_Graph_weightOf 17 = .ok (.invokestatic 47, 3) := by decide +kernel
theorem d_Graph_weightOf_20 : decode b_Graph_weightOf 20 = .ok (.ifCond .eq 13, 3) := by decide +kernel
theorem d_Graph_weightOf_23 : decode b_Graph_weightOf 23 = .ok (.iload_n 3, 1) := by decide +kernel
theorem d_Graph_weightOf_24 : decode b_Graph_weightOf 24 = .ok (.aload_n 0, 1) := by decide +kernel
theorem d_Graph_weightOf_25 : decode b_Graph_weightOf 25 = .ok (.getfield 18, 3) := by decide +kernel
theorem d_Graph_weightOf_28 : decode b_Graph_weightOf 28 = .ok (.iload 4, 2) := by decide +kernel
theorem d_Graph_weightOf_30 : decode b_Graph_weightOf 30 = .ok (.iaload, 1) := by decide +kernel
theorem d_Graph_weightOf_31 : decode b_Graph_weightOf 31 = .ok (.iadd, 1) := by decide +kernel
theorem d_Graph_weightOf_32 : decode b_Graph_weightOf 32 = .ok (.istore_n 3, 1) := by decide +kernel
theorem d_Graph_weightOf_33 : decode b_Graph_weightOf 33 = .ok (.iinc 4 1, 3) := by decide +kernel
theorem d_Graph_weightOf_36 : decode b_Graph_weightOf 36 = .ok (.goto (-31), 3) := by decide +kernel
theorem d_Graph_weightOf_39 : decode b_Graph_weightOf 39 = .ok (.iload_n 3, 1) := by decide +kernel
theorem d_Graph_weightOf_40 : decode b_Graph_weightOf 40 = .ok (.ireturn, 1) := by decide +kernel
def g_Graph_weightOf_5 (p1 : Int64) (t_numbered : Int32) (t_weight : Nat → Int32) (k5 : Int32 → Int32 → Option (Int32)) (v3 : Int32) (v4 : Int32) : Option (Int32) :=
  if t_numbered ≤ v4 then
    some (v3)
  else
    bk1 (f_Graph_isIn p1 v4) fun r1 =>
    if r1 = 0 then
      bn (v4 + (1 : Int32)) fun x2 =>
      k5 v3 x2
    else
      gd (inb v4 30) <|
      bn (v3 + (t_weight v4.toNatClampNeg)) fun x3 =>
      bn (v4 + (1 : Int32)) fun x4 =>
      k5 x3 x4
def f_Graph_weightOf (N : Nat) (p1 : Int64) (t_numbered : Int32) (t_weight : Nat → Int32) : Option (Int32) :=
  lo2 (g_Graph_weightOf_5 p1 t_numbered t_weight) N (0 : Int32) (0 : Int32)
set_option maxRecDepth 100000 in
set_option maxHeartbeats 4000000 in
theorem w_Graph_weightOf_5 {p : Program} {l : Launch} {e : Env} {R : Room} {s : State} {m : MethodId} {args : Array Value} {below : List Frame} {meth : Method} {c : Code} {D : va_G} {cI cJ cG cZ : ClassId} {A : Nat → Prop} {Q : State → Prop} {q_t q_t_from q_t_to q_t_weight q_t_order : Nat} {t_nodes : Int32} {t_numbered : Int32} {t_size : Int32} {t_present : Int64} {t_weight : Nat → Int32} {p1 : Int64} {RR : Int32} (C0 : CX p R s m args meth c b_Graph_weightOf 5 R_Graph lw_g D CL (TYs cI cJ cG cZ) A 1 22) (hret : ∀ (pc : Nat) (ls : Array Slot) (H : Heap) (locs : List Loc) (v : Int32) , decode b_Graph_weightOf pc = .ok (.ireturn, 1) → va_P D CL [(q_t, .inr (2, [.ref q_t_from, .ref q_t_to, .ref q_t_weight, .ref q_t_order, .int t_nodes, .int t_numbered, .int t_size, .long t_present])), (q_t_weight, .inl (cI, 30, .inl t_weight))] H → va_D A [(q_t, .inr (2, [.ref q_t_from, .ref q_t_to, .ref q_t_weight, .ref q_t_order, .int t_nodes, .int t_numbered, .int t_size, .long t_present])), (q_t_weight, .inl (cI, 30, .inl t_weight))] → va_S A s.heap H locs → some (v) = some RR → W p l e R s m args below meth c H locs 0 0 Q (F0 m pc ls [.int v])) (k5 : Int32 → Int32 → Option (Int32)) (hk5 : ∀ (v3 : Int32) (v4 : Int32) (H : Heap) (locs : List Loc) (ls : Array Slot), va_P D CL [(q_t, .inr (2, [.ref q_t_from, .ref q_t_to, .ref q_t_weight, .ref q_t_order, .int t_nodes, .int t_numbered, .int t_size, .long t_present])), (q_t_weight, .inl (cI, 30, .inl t_weight))] H → va_D A [(q_t, .inr (2, [.ref q_t_from, .ref q_t_to, .ref q_t_weight, .ref q_t_order, .int t_nodes, .int t_numbered, .int t_size, .long t_present])), (q_t_weight, .inl (cI, 30, .inl t_weight))] → va_S A s.heap H locs → lv_has ls 5 [(0, .ref q_t), (1, .long p1), (3, .int v3), (4, .int v4)] → k5 v3 v4 = some RR → W p l e R s m args below meth c H locs 0 0 Q (F0 m 5 ls [])) : ∀ (v3 : Int32) (v4 : Int32) (H : Heap) (locs : List Loc) (ls : Array Slot), va_P D CL [(q_t, .inr (2, [.ref q_t_from, .ref q_t_to, .ref q_t_weight, .ref q_t_order, .int t_nodes, .int t_numbered, .int t_size, .long t_present])), (q_t_weight, .inl (cI, 30, .inl t_weight))] H → va_D A [(q_t, .inr (2, [.ref q_t_from, .ref q_t_to, .ref q_t_weight, .ref q_t_order, .int t_nodes, .int t_numbered, .int t_size, .long t_present])), (q_t_weight, .inl (cI, 30, .inl t_weight))] → va_S A s.heap H locs → lv_has ls 5 [(0, .ref q_t), (1, .long p1), (3, .int v3), (4, .int v4)] → g_Graph_weightOf_5 p1 t_numbered t_weight k5 v3 v4 = some RR → W p l e R s m args below meth c H locs 0 0 Q (F0 m 5 ls []) := by
  intro v3 v4 H locs ls hP hD hS hl hf
  obtain ⟨hx, hb, hml, hown, hts, hK, hA, hfr, hlo, hlk⟩ := id C0
  unfold g_Graph_weightOf_5 at hf
  refine lv_iload hx hb d_Graph_weightOf_5 (lv_at hl 3 rfl) ?_
  refine lv_aload_n hx hb d_Graph_weightOf_7 rfl (lv_at hl 0 rfl) ?_
  refine va_get (D := D) (ci := 2) (v := .int t_numbered) (C := R_Graph) (T := F_Graph) (N := 8) hx hb hts i_Graph hown hK hP 0 rfl rfl 5 (by decide) (hts _ m_1_55) (fun _ h9 => h9) rfl d_Graph_weightOf_8 ?_
  refine lv_icmp_ge (tgt := 39) hx hb d_Graph_weightOf_11 (by decide) (fun hc1 => ?_) (fun hc1 => ?_)
  · have hf := if_t hc1 hf
    refine lv_iload_n hx hb d_Graph_weightOf_39 rfl (lv_at hl 2 rfl) ?_
    exact hret 40 _ _ _ v3 d_Graph_weightOf_40 hP hD hS hf
  · have hf := if_f hc1 hf
    refine lv_lload_n hx hb d_Graph_weightOf_14 rfl (lv_at hl 1 rfl) ?_
    refine lv_iload hx hb d_Graph_weightOf_15 (lv_at hl 3 rfl) ?_
    obtain ⟨r1, hq1, hf⟩ := bk1_e hf
    refine cl_nil (va_runS (As := [.long p1, .int v4]) (rest := []) ⟨hx, hb, hml, hown, hts⟩ (c_Graph_isIn l D cI cJ cG cZ p1 v4 hq1 H.size) (va_cwS 2 hts (gi_S m_2_48 m_2_49 m_1_2 wi_Graph_isIn) rfl rfl rfl hd_Graph_isIn ⟨Nat.le_trans (Nat.le_of_ble_eq_true rfl) hfr, Nat.le_trans (Nat.le_of_ble_eq_true rfl) hlo⟩) ⟨pw_blind, fun U hU hW => ⟨rfl, pw_in hU pn_P (va_K.moved hW.alike hK) pn_D⟩⟩ rfl rfl hl.1 rfl (lv_room (Nat.le_of_ble_eq_true rfl)) d_Graph_weightOf_17 ⟨Nat.zero_le _, Nat.zero_le _⟩) hP hD hS hA (fun H locs hP hD hS => ?_)
    have hP : va_P D CL [(q_t, .inr (2, [.ref q_t_from, .ref q_t_to, .ref q_t_weight, .ref q_t_order, .int t_nodes, .int t_numbered, .int t_size, .long t_present])), (q_t_weight, .inl (cI, 30, .inl t_weight))] H := hP
    have hD : va_D A [(q_t, .inr (2, [.ref q_t_from, .ref q_t_to, .ref q_t_weight, .ref q_t_order, .int t_nodes, .int t_numbered, .int t_size, .long t_present])), (q_t_weight, .inl (cI, 30, .inl t_weight))] := hD
    refine lv_if_eq (tgt := 33) hx hb d_Graph_weightOf_20 (by decide) (fun hc2 => ?_) (fun hc2 => ?_)
    · have hf := if_t hc2 hf
      obtain ⟨x2, ex2⟩ : ∃ y : Int32, y = v4 + (1 : Int32) := ⟨_, rfl⟩
      have hf := bn_e ex2 hf
      refine lv_iinc (v := x2) (lv' := [(4, .int x2), (0, .ref q_t), (1, .long p1), (3, .int v3)]) hx hb d_Graph_weightOf_33 hl (k := 3) rfl (by rw [ex2]; rfl) (by decide) rfl (fun ls hl => ?_)
      refine lv_goto (tgt := 5) hx hb d_Graph_weightOf_36 (by decide) ?_
      exact hk5 v3 x2 _ _ _ hP hD hS (lv_sub hl [1, 2, 3, 0] rfl) hf
    · have hf := if_f hc2 hf
      refine lv_iload_n hx hb d_Graph_weightOf_23 rfl (lv_at hl 2 rfl) ?_
      refine lv_aload_n hx hb d_Graph_weightOf_24 rfl (lv_at hl 0 rfl) ?_
      refine va_get (D := D) (ci := 2) (v := .ref q_t_weight) (C := R_Graph) (T := F_Graph) (N := 8) hx hb hts i_Graph hown hK hP 0 rfl rfl 2 (by decide) (hts _ m_1_39) (fun _ h9 => h9) rfl d_Graph_weightOf_25 ?_
      refine lv_iload hx hb d_Graph_weightOf_28 (lv_at hl 3 rfl) ?_
      obtain ⟨hg1, hf⟩ := gd_e hf
      refine va_iald hx hb hK hP 1 0 rfl rfl (inb_e hg1) d_Graph_weightOf_30 ?_
      refine lv_iadd hx hb d_Graph_weightOf_31 ?_
      refine lv_topi (fun x3 ex3 => ?_)
      have hf := bn_e ex3 hf
      refine lv_istore_n (lv' := [(3, .int x3), (0, .ref q_t), (1, .long p1), (4, .int v4)]) hx hb d_Graph_weightOf_32 rfl hl (by decide) rfl (fun ls hl => ?_)
      obtain ⟨x4, ex4⟩ : ∃ y : Int32, y = v4 + (1 : Int32) := ⟨_, rfl⟩
      have hf := bn_e ex4 hf
      refine lv_iinc (v := x4) (lv' := [(4, .int x4), (3, .int x3), (0, .ref q_t), (1, .long p1)]) hx hb d_Graph_weightOf_33 hl (k := 3) rfl (by rw [ex4]; rfl) (by decide) rfl (fun ls hl => ?_)
      refine lv_goto (tgt := 5) hx hb d_Graph_weightOf_36 (by decide) ?_
      exact hk5 x3 x4 _ _ _ hP hD hS (lv_sub hl [2, 3, 1, 0] rfl) hf
set_option maxRecDepth 100000 in
set_option maxHeartbeats 4000000 in
theorem w_Graph_weightOf_5_l {p : Program} {l : Launch} {e : Env} {R : Room} {s : State} {m : MethodId} {args : Array Value} {below : List Frame} {meth : Method} {c : Code} {D : va_G} {cI cJ cG cZ : ClassId} {A : Nat → Prop} {Q : State → Prop} {q_t q_t_from q_t_to q_t_weight q_t_order : Nat} {t_nodes : Int32} {t_numbered : Int32} {t_size : Int32} {t_present : Int64} {t_weight : Nat → Int32} {p1 : Int64} {RR : Int32} (C0 : CX p R s m args meth c b_Graph_weightOf 5 R_Graph lw_g D CL (TYs cI cJ cG cZ) A 1 22) (hret : ∀ (pc : Nat) (ls : Array Slot) (H : Heap) (locs : List Loc) (v : Int32) , decode b_Graph_weightOf pc = .ok (.ireturn, 1) → va_P D CL [(q_t, .inr (2, [.ref q_t_from, .ref q_t_to, .ref q_t_weight, .ref q_t_order, .int t_nodes, .int t_numbered, .int t_size, .long t_present])), (q_t_weight, .inl (cI, 30, .inl t_weight))] H → va_D A [(q_t, .inr (2, [.ref q_t_from, .ref q_t_to, .ref q_t_weight, .ref q_t_order, .int t_nodes, .int t_numbered, .int t_size, .long t_present])), (q_t_weight, .inl (cI, 30, .inl t_weight))] → va_S A s.heap H locs → some (v) = some RR → W p l e R s m args below meth c H locs 0 0 Q (F0 m pc ls [.int v]))  : ∀ (n : Nat) (v3 : Int32) (v4 : Int32) (H : Heap) (locs : List Loc) (ls : Array Slot), va_P D CL [(q_t, .inr (2, [.ref q_t_from, .ref q_t_to, .ref q_t_weight, .ref q_t_order, .int t_nodes, .int t_numbered, .int t_size, .long t_present])), (q_t_weight, .inl (cI, 30, .inl t_weight))] H → va_D A [(q_t, .inr (2, [.ref q_t_from, .ref q_t_to, .ref q_t_weight, .ref q_t_order, .int t_nodes, .int t_numbered, .int t_size, .long t_present])), (q_t_weight, .inl (cI, 30, .inl t_weight))] → va_S A s.heap H locs → lv_has ls 5 [(0, .ref q_t), (1, .long p1), (3, .int v3), (4, .int v4)] → lo2 (g_Graph_weightOf_5 p1 t_numbered t_weight) n v3 v4 = some RR → W p l e R s m args below meth c H locs 0 0 Q (F0 m 5 ls []) := by
  intro n
  induction n with
  | zero =>
    intro v3 v4 H locs ls hP hD hS hl hf
    exact absurd hf (by simp [lo2])
  | succ n ih =>
    intro v3 v4 H locs ls hP hD hS hl hf
    exact w_Graph_weightOf_5 C0 hret  (lo2 (g_Graph_weightOf_5 p1 t_numbered t_weight) n) ih v3 v4 H locs ls hP hD hS hl hf
set_option maxRecDepth 100000 in
set_option maxHeartbeats 4000000 in
theorem w_Graph_weightOf_e {p : Program} {l : Launch} {e : Env} {R : Room} {s : State} {m : MethodId} {args : Array Value} {below : List Frame} {meth : Method} {c : Code} {D : va_G} {cI cJ cG cZ : ClassId} {A : Nat → Prop} {Q : State → Prop} {q_t q_t_from q_t_to q_t_weight q_t_order : Nat} {t_nodes : Int32} {t_numbered : Int32} {t_size : Int32} {t_present : Int64} {t_weight : Nat → Int32} {p1 : Int64} {N : Nat} {RR : Int32} (C0 : CX p R s m args meth c b_Graph_weightOf 5 R_Graph lw_g D CL (TYs cI cJ cG cZ) A 1 22) (hret : ∀ (pc : Nat) (ls : Array Slot) (H : Heap) (locs : List Loc) (v : Int32) , decode b_Graph_weightOf pc = .ok (.ireturn, 1) → va_P D CL [(q_t, .inr (2, [.ref q_t_from, .ref q_t_to, .ref q_t_weight, .ref q_t_order, .int t_nodes, .int t_numbered, .int t_size, .long t_present])), (q_t_weight, .inl (cI, 30, .inl t_weight))] H → va_D A [(q_t, .inr (2, [.ref q_t_from, .ref q_t_to, .ref q_t_weight, .ref q_t_order, .int t_nodes, .int t_numbered, .int t_size, .long t_present])), (q_t_weight, .inl (cI, 30, .inl t_weight))] → va_S A s.heap H locs → some (v) = some RR → W p l e R s m args below meth c H locs 0 0 Q (F0 m pc ls [.int v])) : ∀ (H : Heap) (locs : List Loc) (ls : Array Slot), va_P D CL [(q_t, .inr (2, [.ref q_t_from, .ref q_t_to, .ref q_t_weight, .ref q_t_order, .int t_nodes, .int t_numbered, .int t_size, .long t_present])), (q_t_weight, .inl (cI, 30, .inl t_weight))] H → va_D A [(q_t, .inr (2, [.ref q_t_from, .ref q_t_to, .ref q_t_weight, .ref q_t_order, .int t_nodes, .int t_numbered, .int t_size, .long t_present])), (q_t_weight, .inl (cI, 30, .inl t_weight))] → va_S A s.heap H locs → lv_has ls 5 [(0, .ref q_t), (1, .long p1)] → f_Graph_weightOf N p1 t_numbered t_weight = some RR → W p l e R s m args below meth c H locs 0 0 Q (F0 m 0 ls []) := by
  intro H locs ls hP hD hS hl hf
  obtain ⟨hx, hb, hml, hown, hts, hK, hA, hfr, hlo, hlk⟩ := id C0
  unfold f_Graph_weightOf at hf
  refine lv_iconst (v := 0) hx hb d_Graph_weightOf_0 (by decide) ?_
  refine lv_istore_n (lv' := [(3, .int (0 : Int32)), (0, .ref q_t), (1, .long p1)]) hx hb d_Graph_weightOf_1 rfl hl (by decide) rfl (fun ls hl => ?_)
  refine lv_iconst (v := 0) hx hb d_Graph_weightOf_2 (by decide) ?_
  refine lv_istore (lv' := [(4, .int (0 : Int32)), (3, .int (0 : Int32)), (0, .ref q_t), (1, .long p1)]) hx hb d_Graph_weightOf_3 hl (by decide) rfl (fun ls hl => ?_)
  exact w_Graph_weightOf_5_l C0 hret N (0 : Int32) (0 : Int32) _ _ _ hP hD hS (lv_sub hl [2, 3, 1, 0] rfl) hf
set_option maxRecDepth 100000 in
set_option maxHeartbeats 4000000 in
theorem c_Graph_weightOf (l : Launch) (D : va_G) (cI cJ cG cZ : ClassId) (q_t q_t_from q_t_to q_t_weight q_t_order : Nat) (t_nodes : Int32) (t_numbered : Int32) (t_size : Int32) (t_present : Int64) (t_weight : Nat → Int32) (p1 : Int64) {N : Nat} {r : Int32} (hf : f_Graph_weightOf N p1 t_numbered t_weight = some (r)) : MeG l D CL (TYs cI cJ cG cZ) y_Graph_weightOf ws_Graph_weightOf (rm_Graph_weightOf) [.ref q_t, .long p1] [(q_t, .inr (2, [.ref q_t_from, .ref q_t_to, .ref q_t_weight, .ref q_t_order, .int t_nodes, .int t_numbered, .int t_size, .long t_present])), (q_t_weight, .inl (cI, 30, .inl t_weight))] (some (.int r)) [(q_t, .inr (2, [.ref q_t_from, .ref q_t_to, .ref q_t_weight, .ref q_t_order, .int t_nodes, .int t_numbered, .int t_size, .long t_present])), (q_t_weight, .inl (cI, 30, .inl t_weight))] := by
  intro sz
  refine Met.ofW (cc := b_Graph_weightOf) (maxL := 5) (ret := (some .int)) (by decide) rfl ?_
  intro p e s m args below meth c s₁ B hml hv
  obtain ⟨rfl, hsz, hP, hK, hD0⟩ := hv
  subst hsz
  have hD := hD0.self (sz := s.heap.size)
  generalize hAe : va_A [(q_t, .inr (2, [.ref q_t_from, .ref q_t_to, .ref q_t_weight, .ref q_t_order, .int t_nodes, .int t_numbered, .int t_size, .long t_present])), (q_t_weight, .inl (cI, 30, .inl t_weight))] s.heap.size = A at hD ⊢
  have C0 : CX p (headSpec ws_Graph_weightOf (rm_Graph_weightOf)).room s m _ meth c b_Graph_weightOf 5 R_Graph lw_g D CL (TYs cI cJ cG cZ) A 1 22 := ⟨B.exec, B.bytes, hml, findClass_of_methodNamed B.named, fun w h => atoms_spec (ws := ws_Graph_weightOf) B.pre w (List.mem_cons_of_mem _ h), hK, fun q h => by rw [← hAe]; exact Or.inr h, Nat.le_of_ble_eq_true rfl, Nat.le_of_ble_eq_true rfl, B.notSynchronized⟩
  have hl := lv_entry ([.ref q_t, .long p1]) (n := 5) (Nat.le_of_ble_eq_true rfl)
  rw [lg_entry_eq]
  generalize (lg_sl ([.ref q_t, .long p1]) ++ List.replicate (5 - (lg_sl ([.ref q_t, .long p1])).length) Slot.unset).toArray = ls at hl ⊢
  have hl : lv_has ls 5 [(0, .ref q_t), (1, .long p1)] := hl
  exact w_Graph_weightOf_e C0 (fun pc ls H locs v hdg hP hD hS e => by cases e; exact W.iret B.exec B.bytes B.returns (fun t ht hW => ⟨⟨rfl, by rw [ht]; exact hP, va_K.moved hW.alike hK, hD⟩, hS.F ht⟩) hS.2.2 hdg) _ _ _ hP hD va_S.rf (lv_sub hl [0, 1] rfl) hf
