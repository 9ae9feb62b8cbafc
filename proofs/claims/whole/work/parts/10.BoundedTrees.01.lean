abbrev b_BoundedTrees_row : ByteArray := prog_2_method_3_code
def y_BoundedTrees_row : MethodName := ⟨R_BoundedTrees, "row", "(II)I"⟩
def ws_BoundedTrees_row : List Cond := .code y_BoundedTrees_row b_BoundedTrees_row 2 (some .int) :: lw_g
theorem wi_BoundedTrees_row : ∀ w ∈ ws_BoundedTrees_row, w ∈ lw_g := wi_of m_2_237
abbrev rm_BoundedTrees_row : Room := { frames := 0, cells := 0, slots := 0, locals := 0 }
theorem hd_BoundedTrees_row : y_BoundedTrees_row.cls ≠ "java/lang/invoke/MethodHandle" ∧ y_BoundedTrees_row.cls ≠ "java/lang/invoke/VarHandle" ∧ (parseMethodDescriptor y_BoundedTrees_row.desc).map (fun d => d.parameters.length) = some 2 := by decide +kernel
theorem d_BoundedTrees_row_0 : decode b_BoundedTrees_row 0 = .ok (.iload_n 0, 1) := by decide +kernel
theorem d_BoundedTrees_row_1 : decode b_BoundedTrees_row 1 = .ok (.bipush 7, 2) := by decide +kernel
theorem d_BoundedTrees_row_3 : decode b_BoundedTrees_row 3 = .ok (.imul, 1) := by decide +kernel
theorem d_BoundedTrees_row_4 : decode b_BoundedTrees_row 4 = .ok (.iload_n 1, 1) := by decide +kernel
theorem d_BoundedTrees_row_5 : decode b_BoundedTrees_row 5 = .ok (.iadd, 1) := by decide +kernel
theorem d_BoundedTrees_row_6 : decode b_BoundedTrees_row 6 = .ok (.ireturn, 1) := by decide +kernel
def f_BoundedTrees_row (p0 : Int32) (p1 : Int32) : Option (Int32) :=
  some ((p0 * (7 : Int32)) + p1)
set_option maxRecDepth 100000 in
set_option maxHeartbeats 4000000 in
theorem w_BoundedTrees_row_e {p : Program} {l : Launch} {e : Env} {R : Room} {s : State} {m : MethodId} {args : Array Value} {below : List Frame} {meth : Method} {c : Code} {D : va_G} {cI cJ cG cZ : ClassId} {A : Nat → Prop} {Q : State → Prop} {p0 : Int32} {p1 : Int32} {RR : Int32} (C0 : CX p R s m args meth c b_BoundedTrees_row 2 R_BoundedTrees lw_g D CL (TYs cI cJ cG cZ) A 0 0) (hret : ∀ (pc : Nat) (ls : Array Slot) (H : Heap) (locs : List Loc) (v : Int32) , decode b_BoundedTrees_row pc = .ok (.ireturn, 1) → va_P D CL [] H → va_D A [] → va_S A s.heap H locs → some (v) = some RR → W p l e R s m args below meth c H locs 0 0 Q (F0 m pc ls [.int v])) : ∀ (H : Heap) (locs : List Loc) (ls : Array Slot), va_P D CL [] H → va_D A [] → va_S A s.heap H locs → lv_has ls 2 [(0, .int p0), (1, .int p1)] → f_BoundedTrees_row p0 p1 = some RR → W p l e R s m args below meth c H locs 0 0 Q (F0 m 0 ls []) := by
  intro H locs ls hP hD hS hl hf
  obtain ⟨hx, hb, hml, hown, hts, hK, hA, hfr, hlo, hlk⟩ := id C0
  unfold f_BoundedTrees_row at hf
  refine lv_iload_n hx hb d_BoundedTrees_row_0 rfl (lv_at hl 0 rfl) ?_
  refine lv_bipush (v := 7) hx hb d_BoundedTrees_row_1 (by decide) ?_
  refine lv_imul hx hb d_BoundedTrees_row_3 ?_
  refine lv_iload_n hx hb d_BoundedTrees_row_4 rfl (lv_at hl 1 rfl) ?_
  refine lv_iadd hx hb d_BoundedTrees_row_5 ?_
  exact hret 6 _ _ _ ((p0 * (7 : Int32)) + p1) d_BoundedTrees_row_6 hP hD hS hf
set_option maxRecDepth 100000 in
set_option maxHeartbeats 4000000 in
theorem c_BoundedTrees_row (l : Launch) (D : va_G) (cI cJ cG cZ : ClassId) (p0 : Int32) (p1 : Int32) {r : Int32} (hf : f_BoundedTrees_row p0 p1 = some (r)) : MeG l D CL (TYs cI cJ cG cZ) y_BoundedTrees_row ws_BoundedTrees_row (rm_BoundedTrees_row) [.int p0, .int p1] [] (some (.int r)) [] := by
  intro sz
  refine Met.ofW (cc := b_BoundedTrees_row) (maxL := 2) (ret := (some .int)) (by decide) rfl ?_
  intro p e s m args below meth c s₁ B hml hv
  obtain ⟨rfl, hsz, hP, hK, hD0⟩ := hv
  subst hsz
  have hD := hD0.self (sz := s.heap.size)
  generalize hAe : va_A [] s.heap.size = A at hD ⊢
  have C0 : CX p (headSpec ws_BoundedTrees_row (rm_BoundedTrees_row)).room s m _ meth c b_BoundedTrees_row 2 R_BoundedTrees lw_g D CL (TYs cI cJ cG cZ) A 0 0 := ⟨B.exec, B.bytes, hml, findClass_of_methodNamed B.named, fun w h => atoms_spec (ws := ws_BoundedTrees_row) B.pre w (List.mem_cons_of_mem _ h), hK, fun q h => by rw [← hAe]; exact Or.inr h, Nat.le_of_ble_eq_true rfl, Nat.le_of_ble_eq_true rfl, B.notSynchronized⟩
  have hl := lv_entry ([.int p0, .int p1]) (n := 2) (Nat.le_of_ble_eq_true rfl)
  rw [lg_entry_eq]
  generalize (lg_sl ([.int p0, .int p1]) ++ List.replicate (2 - (lg_sl ([.int p0, .int p1])).length) Slot.unset).toArray = ls at hl ⊢
  have hl : lv_has ls 2 [(0, .int p0), (1, .int p1)] := hl
  exact w_BoundedTrees_row_e C0 (fun pc ls H locs v hdg hP hD hS e => by cases e; exact W.iret B.exec B.bytes B.returns (fun t ht hW => ⟨⟨rfl, by rw [ht]; exact hP, va_K.moved hW.alike hK, hD⟩, hS.F ht⟩) hS.2.2 hdg) _ _ _ hP hD va_S.rf (lv_sub hl [0, 1] rfl) hf
abbrev b_BoundedTrees_startEmpty : ByteArray := prog_2_method_6_code
def y_BoundedTrees_startEmpty : MethodName := ⟨R_BoundedTrees, "startEmpty", "()V"⟩
def ws_BoundedTrees_startEmpty : List Cond := .code y_BoundedTrees_startEmpty b_BoundedTrees_startEmpty 3 none :: lw_g
theorem wi_BoundedTrees_startEmpty : ∀ w ∈ ws_BoundedTrees_startEmpty, w ∈ lw_g := wi_of m_2_234
abbrev rm_BoundedTrees_startEmpty : Room := { frames := 1, cells := 0, slots := 0, locals := 24 }
theorem hd_BoundedTrees_startEmpty : y_BoundedTrees_startEmpty.cls = R_BoundedTrees ∧ y_BoundedTrees_startEmpty.cls ≠ "java/lang/invoke/MethodHandle" ∧ y_BoundedTrees_startEmpty.cls ≠ "java/lang/invoke/VarHandle" ∧ (parseMethodDescriptor y_BoundedTrees_startEmpty.desc).map (fun d => d.parameters.length) = some 0 := by decide +kernel
theorem d_BoundedTrees_startEmpty_0 : decode b_BoundedTrees_startEmpty 0 = .ok (.iconst 0, 1) := by decide +kernel
theorem d_BoundedTrees_startEmpty_1 : decode b_BoundedTrees_startEmpty 1 = .ok (.istore_n 1, 1) := by decide +kernel
theorem d_BoundedTrees_startEmpty_2 : decode b_BoundedTrees_startEmpty 2 = .ok (.iload_n 1, 1) := by decide +kernel
theorem d_BoundedTrees_startEmpty_3 : decode b_BoundedTrees_startEmpty 3 = .ok (.aload_n 0, 1) := by decide +kernel
theorem d_BoundedTrees_startEmpty_4 : decode b_BoundedTrees_startEmpty 4 = .ok (.getfield 38, 3) := by decide +kernel
theorem d_BoundedTrees_startEmpty_7 : decode b_BoundedTrees_startEmpty 7 = .ok (.if_icmp .ge 54, 3) := by decide +kernel
theorem d_BoundedTrees_startEmpty_10 : decode b_BoundedTrees_startEmpty 10 = .ok (.iconst 0, 1) := by decide +kernel
theorem d_BoundedTrees_startEmpty_11 : decode b_BoundedTrees_startEmpty 11 = .ok (.istore_n 2, 1) := by decide +kernel
theorem d_BoundedTrees_startEmpty_12 : decode b_BoundedTrees_startEmpty 12 = .ok (.iload_n 2, 1) := by decide +kernel
theorem d_BoundedTrees_startEmpty_13 : decode b_BoundedTrees_startEmpty 13 = .ok (.aload_n 0, 1) := by decide +kernel
theorem d_BoundedTrees_startEmpty_14 : decode b_BoundedTrees_startEmpty 14 = .ok (.getfield 41, 3) := by decide +kernel
theorem d_BoundedTrees_startEmpty_17 : decode b_BoundedTrees_startEmpty 17 = .ok (.if_icmp .gt 38, 3) := by decide +kernel
theorem d_BoundedTrees_startEmpty_20 : decode b_BoundedTrees_startEmpty 20 = .ok (.aload_n 0, 1) := by decide +kernel
theorem d_BoundedTrees_startEmpty_21 : decode b_BoundedTrees_startEmpty 21 = .ok (.getfield 23, 3) := by decide +kernel
theorem d_BoundedTrees_startEmpty_24 : decode b_BoundedTrees_startEmpty 24 = .ok (.iload_n 2, 1) := by decide +kernel
theorem d_BoundedTrees_startEmpty_25 : decode b_BoundedTrees_startEmpty 25 = .ok (.iload_n 1, 1) := by decide +kernel
theorem d_BoundedTrees_startEmpty_26 : decode b_BoundedTrees_startEmpty 26 = .ok (.invokestatic 57, 3) := by decide +kernel
theorem d_BoundedTrees_startEmpty_29 : decode b_BoundedTrees_startEmpty 29 = .ok (.aaload, 1) := by decide +kernel
theorem d_BoundedTrees_startEmpty_30 : decode b_BoundedTrees_startEmpty 30 = .ok (.ldc2_w 39, 3) := by decide +kernel
theorem d_BoundedTrees_startEmpty_33 : decode b_BoundedTrees_startEmpty 33 = .ok (.invokestatic 60, 3) := by decide +kernel
theorem d_BoundedTrees_startEmpty_36 : decode b_BoundedTrees_startEmpty 36 = .ok (.aload_n 0, 1) := by decide +kernel
theorem d_BoundedTrees_startEmpty_37 : decode b_BoundedTrees_startEmpty 37 = .ok (.getfield 23, 3) := by decide +kernel
theorem d_BoundedTrees_startEmpty_40 : decode b_BoundedTrees_startEmpty 40 = .ok (.iload_n 2, 1) := by decide +kernel
theorem d_BoundedTrees_startEmpty_41 : decode b_BoundedTrees_startEmpty 41 = .ok (.iload_n 1, 1) := by decide +kernel
theorem d_BoundedTrees_startEmpty_42 : decode b_BoundedTrees_startEmpty 42 = .ok (.invokestatic 57, 3) := by decide +kernel
theorem d_BoundedTrees_startEmpty_45 : decode b_BoundedTrees_startEmpty 45 = .ok (.aaload, 1) := by decide +kernel
theorem d_BoundedTrees_startEmpty_46 : decode b_BoundedTrees_startEmpty 46 = .ok (.iconst 0, 1) := by decide +kernel
theorem d_BoundedTrees_startEmpty_47 : decode b_BoundedTrees_startEmpty 47 = .ok (.lconst 0, 1) := by decide +kernel
theorem d_BoundedTrees_startEmpty_48 : decode b_BoundedTrees_startEmpty 48 = .ok (.lastore, 1) := by decide +kernel
theorem d_BoundedTrees_startEmpty_49 : decode b_BoundedTrees_startEmpty 49 = .ok (.iinc 2 1, 3) := by decide +kernel
theorem d_BoundedTrees_startEmpty_52 : decode b_BoundedTrees_startEmpty 52 = .ok (.goto (-40), 3) := by decide +kernel
theorem d_BoundedTrees_startEmpty_55 : decode b_BoundedTrees_startEmpty 55 = .ok (.iinc 1 1, 3) := by decide +kernel
theorem d_BoundedTrees_startEmpty_58 : decode b_BoundedTrees_startEmpty 58 = .ok (.goto (-56), 3) := by decide +kernel
theorem d_BoundedTrees_startEmpty_61 : decode b_BoundedTrees_startEmpty 61 = .ok (.return_, 1) := by decide +kernel
def g_BoundedTrees_startEmpty_12 (N : Nat) (t_bound : Int32) (k2 : Int32 → (Nat → Nat → Int64) → Option ((Nat → Nat → Int64))) (k12 : Int32 → Int32 → (Nat → Nat → Int64) → Option ((Nat → Nat → Int64))) (v1 : Int32) (v2 : Int32) (t_branches : Nat → Nat → Int64) : Option ((Nat → Nat → Int64)) :=
  if t_bound < v2 then
    bn (v1 + (1 : Int32)) fun x1 =>
    k2 x1 t_branches
  else
    bk1 (f_BoundedTrees_row v2 v1) fun r2 =>
    gd (inb r2 49) <|
    bk1 (f_Arr_fill1 N (1152921504606846976 : Int64) (t_branches r2.toNatClampNeg) 64) fun c3 =>
    bk1 (f_BoundedTrees_row v2 v1) fun r4 =>
    gd (inb r4 49) <|
    gd (inb (0 : Int32) 64) <|
    bn (v2 + (1 : Int32)) fun x5 =>
    k12 v1 x5 (upGL (stGL t_branches r2.toNatClampNeg c3) r4.toNatClampNeg (0 : Int32).toNatClampNeg (0 : Int64))
def g_BoundedTrees_startEmpty_2 (N : Nat) (t_nodes : Int32) (t_bound : Int32) (k2 : Int32 → (Nat → Nat → Int64) → Option ((Nat → Nat → Int64))) (v1 : Int32) (t_branches : Nat → Nat → Int64) : Option ((Nat → Nat → Int64)) :=
  if t_nodes ≤ v1 then
    some (t_branches)
  else
    lo3 (g_BoundedTrees_startEmpty_12 N t_bound k2) N v1 (0 : Int32) t_branches
def f_BoundedTrees_startEmpty (N : Nat) (t_nodes : Int32) (t_bound : Int32) (t_branches0 : Nat → Nat → Int64) : Option ((Nat → Nat → Int64)) :=
  lo2 (g_BoundedTrees_startEmpty_2 N t_nodes t_bound) N (0 : Int32) t_branches0
set_option maxRecDepth 100000 in
set_option maxHeartbeats 4000000 in
theorem w_BoundedTrees_startEmpty_12 {p : Program} {l : Launch} {e : Env} {R : Room} {s : State} {m : MethodId} {args : Array Value} {below : List Frame} {meth : Method} {c : Code} {D : va_G} {cI cJ cG cZ : ClassId} {A : Nat → Prop} {Q : State → Prop} {q_t q_t_graph q_t_between q_t_branch q_t_branches : Nat} {ra_t_branches : Nat → Nat} {t_nodes : Int32} {t_bound : Int32} {N : Nat} {RR : (Nat → Nat → Int64)} (C0 : CX p R s m args meth c b_BoundedTrees_startEmpty 3 R_BoundedTrees lw_g D CL (TYs cI cJ cG cZ) A 1 24) (hret : ∀ (pc : Nat) (ls : Array Slot) (H : Heap) (locs : List Loc) (t_branches : Nat → Nat → Int64), decode b_BoundedTrees_startEmpty pc = .ok (.return_, 1) → va_P D CL (wa [(q_t, .inr (0, [.ref q_t_graph, .ref q_t_between, .ref q_t_branch, .ref q_t_branches, .int t_nodes, .int t_bound])), (q_t_branches, .inl (cG, 49, .inr (.inr (.inr (.inr (fun i => some (ra_t_branches i)))))))] (wa (gsL 49 64 cJ ra_t_branches t_branches) [])) H → va_D A (wa [(q_t, .inr (0, [.ref q_t_graph, .ref q_t_between, .ref q_t_branch, .ref q_t_branches, .int t_nodes, .int t_bound])), (q_t_branches, .inl (cG, 49, .inr (.inr (.inr (.inr (fun i => some (ra_t_branches i)))))))] (wa (gsL 49 64 cJ ra_t_branches t_branches) [])) → va_S A s.heap H locs → some (t_branches) = some RR → W p l e R s m args below meth c H locs 0 0 Q (F0 m pc ls [])) (k2 : Int32 → (Nat → Nat → Int64) → Option ((Nat → Nat → Int64))) (hk2 : ∀ (v1 : Int32) (t_branches : Nat → Nat → Int64) (H : Heap) (locs : List Loc) (ls : Array Slot), va_P D CL (wa [(q_t, .inr (0, [.ref q_t_graph, .ref q_t_between, .ref q_t_branch, .ref q_t_branches, .int t_nodes, .int t_bound])), (q_t_branches, .inl (cG, 49, .inr (.inr (.inr (.inr (fun i => some (ra_t_branches i)))))))] (wa (gsL 49 64 cJ ra_t_branches t_branches) [])) H → va_D A (wa [(q_t, .inr (0, [.ref q_t_graph, .ref q_t_between, .ref q_t_branch, .ref q_t_branches, .int t_nodes, .int t_bound])), (q_t_branches, .inl (cG, 49, .inr (.inr (.inr (.inr (fun i => some (ra_t_branches i)))))))] (wa (gsL 49 64 cJ ra_t_branches t_branches) [])) → va_S A s.heap H locs → lv_has ls 3 [(0, .ref q_t), (1, .int v1)] → k2 v1 t_branches = some RR → W p l e R s m args below meth c H locs 0 0 Q (F0 m 2 ls [])) (k12 : Int32 → Int32 → (Nat → Nat → Int64) → Option ((Nat → Nat → Int64))) (hk12 : ∀ (v1 : Int32) (v2 : Int32) (t_branches : Nat → Nat → Int64) (H : Heap) (locs : List Loc) (ls : Array Slot), va_P D CL (wa [(q_t, .inr (0, [.ref q_t_graph, .ref q_t_between, .ref q_t_branch, .ref q_t_branches, .int t_nodes, .int t_bound])), (q_t_branches, .inl (cG, 49, .inr (.inr (.inr (.inr (fun i => some (ra_t_branches i)))))))] (wa (gsL 49 64 cJ ra_t_branches t_branches) [])) H → va_D A (wa [(q_t, .inr (0, [.ref q_t_graph, .ref q_t_between, .ref q_t_branch, .ref q_t_branches, .int t_nodes, .int t_bound])), (q_t_branches, .inl (cG, 49, .inr (.inr (.inr (.inr (fun i => some (ra_t_branches i)))))))] (wa (gsL 49 64 cJ ra_t_branches t_branches) [])) → va_S A s.heap H locs → lv_has ls 3 [(0, .ref q_t), (1, .int v1), (2, .int v2)] → k12 v1 v2 t_branches = some RR → W p l e R s m args below meth c H locs 0 0 Q (F0 m 12 ls [])) : ∀ (v1 : Int32) (v2 : Int32) (t_branches : Nat → Nat → Int64) (H : Heap) (locs : List Loc) (ls : Array Slot), va_P D CL (wa [(q_t, .inr (0, [.ref q_t_graph, .ref q_t_between, .ref q_t_branch, .ref q_t_branches, .int t_nodes, .int t_bound])), (q_t_branches, .inl (cG, 49, .inr (.inr (.inr (.inr (fun i => some (ra_t_branches i)))))))] (wa (gsL 49 64 cJ ra_t_branches t_branches) [])) H → va_D A (wa [(q_t, .inr (0, [.ref q_t_graph, .ref q_t_between, .ref q_t_branch, .ref q_t_branches, .int t_nodes, .int t_bound])), (q_t_branches, .inl (cG, 49, .inr (.inr (.inr (.inr (fun i => some (ra_t_branches i)))))))] (wa (gsL 49 64 cJ ra_t_branches t_branches) [])) → va_S A s.heap H locs → lv_has ls 3 [(0, .ref q_t), (1, .int v1), (2, .int v2)] → g_BoundedTrees_startEmpty_12 N t_bound k2 k12 v1 v2 t_branches = some RR → W p l e R s m args below meth c H locs 0 0 Q (F0 m 12 ls []) := by
  intro v1 v2 t_branches H locs ls hP hD hS hl hf
  obtain ⟨hx, hb, hml, hown, hts, hK, hA, hfr, hlo, hlk⟩ := id C0
  unfold g_BoundedTrees_startEmpty_12 at hf
  refine lv_iload_n hx hb d_BoundedTrees_startEmpty_12 rfl (lv_at hl 2 rfl) ?_
  refine lv_aload_n hx hb d_BoundedTrees_startEmpty_13 rfl (lv_at hl 0 rfl) ?_
  refine va_get (D := D) (ci := 0) (v := .int t_bound) (C := R_BoundedTrees) (T := F_BoundedTrees) (N := 6) hx hb hts i_BoundedTrees hown hK hP 0 rfl rfl 5 (by decide) (hts _ m_1_167) (fun _ h9 => h9) rfl d_BoundedTrees_startEmpty_14 ?_
  refine lv_icmp_gt (tgt := 55) hx hb d_BoundedTrees_startEmpty_17 (by decide) (fun hc1 => ?_) (fun hc1 => ?_)
  · have hf := if_t hc1 hf
    obtain ⟨x1, ex1⟩ : ∃ y : Int32, y = v1 + (1 : Int32) := ⟨_, rfl⟩
    have hf := bn_e ex1 hf
    refine lv_iinc (v := x1) (lv' := [(1, .int x1), (0, .ref q_t), (2, .int v2)]) hx hb d_BoundedTrees_startEmpty_55 hl (k := 1) rfl (by rw [ex1]; rfl) (by decide) rfl (fun ls hl => ?_)
    refine lv_goto (tgt := 2) hx hb d_BoundedTrees_startEmpty_58 (by decide) ?_
    exact hk2 x1 t_branches _ _ _ hP hD hS (lv_sub hl [1, 0] rfl) hf
  · have hf := if_f hc1 hf
    refine lv_aload_n hx hb d_BoundedTrees_startEmpty_20 rfl (lv_at hl 0 rfl) ?_
    refine va_get (D := D) (ci := 0) (v := .ref q_t_branches) (C := R_BoundedTrees) (T := F_BoundedTrees) (N := 6) hx hb hts i_BoundedTrees hown hK hP 0 rfl rfl 3 (by decide) (hts _ m_1_165) (fun _ h9 => h9) rfl d_BoundedTrees_startEmpty_21 ?_
    refine lv_iload_n hx hb d_BoundedTrees_startEmpty_24 rfl (lv_at hl 2 rfl) ?_
    refine lv_iload_n hx hb d_BoundedTrees_startEmpty_25 rfl (lv_at hl 1 rfl) ?_
    obtain ⟨r2, hq1, hf⟩ := bk1_e hf
    refine cl_nil (va_runS (As := [.int v2, .int v1]) (rest := [.ref q_t_branches]) ⟨hx, hb, hml, hown, hts⟩ (c_BoundedTrees_row l D cI cJ cG cZ v2 v1 hq1 H.size) (va_cwS 2 hts (gi_S m_2_235 m_2_236 m_1_6 wi_BoundedTrees_row) rfl rfl rfl hd_BoundedTrees_row ⟨Nat.le_trans (Nat.le_of_ble_eq_true rfl) hfr, Nat.le_trans (Nat.le_of_ble_eq_true rfl) hlo⟩) ⟨pw_blind, fun U hU hW => ⟨rfl, pw_in hU pn_P (va_K.moved hW.alike hK) pn_D⟩⟩ rfl rfl hl.1 rfl (lv_room (Nat.le_of_ble_eq_true rfl)) d_BoundedTrees_startEmpty_26 ⟨Nat.zero_le _, Nat.zero_le _⟩) hP hD hS hA (fun H locs hP hD hS => ?_)
    have hP : va_P D CL (wa [(q_t, .inr (0, [.ref q_t_graph, .ref q_t_between, .ref q_t_branch, .ref q_t_branches, .int t_nodes, .int t_bound])), (q_t_branches, .inl (cG, 49, .inr (.inr (.inr (.inr (fun i => some (ra_t_branches i)))))))] (wa (gsL 49 64 cJ ra_t_branches t_branches) [])) H := hP
    have hD : va_D A (wa [(q_t, .inr (0, [.ref q_t_graph, .ref q_t_between, .ref q_t_branch, .ref q_t_branches, .int t_nodes, .int t_bound])), (q_t_branches, .inl (cG, 49, .inr (.inr (.inr (.inr (fun i => some (ra_t_branches i)))))))] (wa (gsL 49 64 cJ ra_t_branches t_branches) [])) := hD
    obtain ⟨hg1, hf⟩ := gd_e hf
    refine ga_ld hx hb hK hP 1 2 rfl rfl (inb_e hg1) d_BoundedTrees_startEmpty_29 ?_
    refine lv_ldc2 (v := 1152921504606846976) hx hb hown (hts _ m_2_219) d_BoundedTrees_startEmpty_30 ?_
    obtain ⟨c3, hq2, hf⟩ := bk1_e hf
    refine cl_one (va_runS (As := [.ref (ra_t_branches r2.toNatClampNeg), .long (1152921504606846976 : Int64)]) (rest := []) ⟨hx, hb, hml, hown, hts⟩ (c_Arr_fill1 l D cI cJ cG cZ (ra_t_branches r2.toNatClampNeg) (t_branches r2.toNatClampNeg) 64 (1152921504606846976 : Int64) hq2 H.size) (va_cwS 2 hts (gi_S m_2_224 m_2_139 m_1_12 wi_Arr_fill1) rfl rfl rfl hd_Arr_fill1 ⟨Nat.le_trans (Nat.le_of_ble_eq_true rfl) hfr, Nat.le_trans (Nat.le_of_ble_eq_true rfl) hlo⟩) ⟨pw_blind, fun U hU hW => ⟨rfl, pw_in hU (fun k q hk => by cases k with | zero => (cases hk; exact hP (2 + r2.toNatClampNeg) _ (gg0 rfl (inb_lt hg1))) | succ k => simp at hk) (va_K.moved hW.alike hK) va_D.one⟩⟩ rfl rfl hl.1 rfl (lv_room (Nat.le_of_ble_eq_true rfl)) d_BoundedTrees_startEmpty_33 ⟨Nat.zero_le _, Nat.zero_le _⟩) hP hD hS hA (gg0 rfl (inb_lt hg1)) (gt0 rfl (inb_lt hg1)) (fun H locs hP hD hS => ?_)
    have hP : va_P D CL (wa [(q_t, .inr (0, [.ref q_t_graph, .ref q_t_between, .ref q_t_branch, .ref q_t_branches, .int t_nodes, .int t_bound])), (q_t_branches, .inl (cG, 49, .inr (.inr (.inr (.inr (fun i => some (ra_t_branches i)))))))] (wa (gsL 49 64 cJ ra_t_branches (stGL t_branches r2.toNatClampNeg c3)) [])) H := hP
    have hD : va_D A (wa [(q_t, .inr (0, [.ref q_t_graph, .ref q_t_between, .ref q_t_branch, .ref q_t_branches, .int t_nodes, .int t_bound])), (q_t_branches, .inl (cG, 49, .inr (.inr (.inr (.inr (fun i => some (ra_t_branches i)))))))] (wa (gsL 49 64 cJ ra_t_branches (stGL t_branches r2.toNatClampNeg c3)) [])) := hD
    refine lv_aload_n hx hb d_BoundedTrees_startEmpty_36 rfl (lv_at hl 0 rfl) ?_
    refine va_get (D := D) (ci := 0) (v := .ref q_t_branches) (C := R_BoundedTrees) (T := F_BoundedTrees) (N := 6) hx hb hts i_BoundedTrees hown hK hP 0 rfl rfl 3 (by decide) (hts _ m_1_165) (fun _ h9 => h9) rfl d_BoundedTrees_startEmpty_37 ?_
    refine lv_iload_n hx hb d_BoundedTrees_startEmpty_40 rfl (lv_at hl 2 rfl) ?_
    refine lv_iload_n hx hb d_BoundedTrees_startEmpty_41 rfl (lv_at hl 1 rfl) ?_
    obtain ⟨r4, hq3, hf⟩ := bk1_e hf
    refine cl_nil (va_runS (As := [.int v2, .int v1]) (rest := [.ref q_t_branches]) ⟨hx, hb, hml, hown, hts⟩ (c_BoundedTrees_row l D cI cJ cG cZ v2 v1 hq3 H.size) (va_cwS 2 hts (gi_S m_2_235 m_2_236 m_1_6 wi_BoundedTrees_row) rfl rfl rfl hd_BoundedTrees_row ⟨Nat.le_trans (Nat.le_of_ble_eq_true rfl) hfr, Nat.le_trans (Nat.le_of_ble_eq_true rfl) hlo⟩) ⟨pw_blind, fun U hU hW => ⟨rfl, pw_in hU pn_P (va_K.moved hW.alike hK) pn_D⟩⟩ rfl rfl hl.1 rfl (lv_room (Nat.le_of_ble_eq_true rfl)) d_BoundedTrees_startEmpty_42 ⟨Nat.zero_le _, Nat.zero_le _⟩) hP hD hS hA (fun H locs hP hD hS => ?_)
    have hP : va_P D CL (wa [(q_t, .inr (0, [.ref q_t_graph, .ref q_t_between, .ref q_t_branch, .ref q_t_branches, .int t_nodes, .int t_bound])), (q_t_branches, .inl (cG, 49, .inr (.inr (.inr (.inr (fun i => some (ra_t_branches i)))))))] (wa (gsL 49 64 cJ ra_t_branches (stGL t_branches r2.toNatClampNeg c3)) [])) H := hP
    have hD : va_D A (wa [(q_t, .inr (0, [.ref q_t_graph, .ref q_t_between, .ref q_t_branch, .ref q_t_branches, .int t_nodes, .int t_bound])), (q_t_branches, .inl (cG, 49, .inr (.inr (.inr (.inr (fun i => some (ra_t_branches i)))))))] (wa (gsL 49 64 cJ ra_t_branches (stGL t_branches r2.toNatClampNeg c3)) [])) := hD
    obtain ⟨hg2, hf⟩ := gd_e hf
    refine ga_ld hx hb hK hP 1 2 rfl rfl (inb_e hg2) d_BoundedTrees_startEmpty_45 ?_
    refine lv_iconst (v := 0) hx hb d_BoundedTrees_startEmpty_46 (by decide) ?_
    refine lv_lconst (v := 0) hx hb d_BoundedTrees_startEmpty_47 (by decide) ?_
    obtain ⟨hg3, hf⟩ := gd_e hf
    refine va_last hx hb hK hP hD hS (2 + r4.toNatClampNeg) 1 (gg0 rfl (inb_lt hg2)) rfl (inb_e hg3) d_BoundedTrees_startEmpty_48 (fun H locs hP hD hS => ?_)
    have hW9 : List.set (wa [(q_t, .inr (0, [.ref q_t_graph, .ref q_t_between, .ref q_t_branch, .ref q_t_branches, .int t_nodes, .int t_bound])), (q_t_branches, .inl (cG, 49, .inr (.inr (.inr (.inr (fun i => some (ra_t_branches i)))))))] (wa (gsL 49 64 cJ ra_t_branches (stGL t_branches r2.toNatClampNeg c3)) [])) (2 + r4.toNatClampNeg) (ra_t_branches r4.toNatClampNeg, .inl (cJ, 64, .inr (.inl (vp_updL ((stGL t_branches r2.toNatClampNeg c3) r4.toNatClampNeg) (0 : Int32).toNatClampNeg (0 : Int64))))) = (wa [(q_t, .inr (0, [.ref q_t_graph, .ref q_t_between, .ref q_t_branch, .ref q_t_branches, .int t_nodes, .int t_bound])), (q_t_branches, .inl (cG, 49, .inr (.inr (.inr (.inr (fun i => some (ra_t_branches i)))))))] (wa (gsL 49 64 cJ ra_t_branches (upGL (stGL t_branches r2.toNatClampNeg c3) r4.toNatClampNeg (0 : Int32).toNatClampNeg (0 : Int64))) [])) := gt0 rfl (inb_lt hg2)
    rw [hW9] at hP hD
    obtain ⟨x5, ex5⟩ : ∃ y : Int32, y = v2 + (1 : Int32) := ⟨_, rfl⟩
    have hf := bn_e ex5 hf
    refine lv_iinc (v := x5) (lv' := [(2, .int x5), (0, .ref q_t), (1, .int v1)]) hx hb d_BoundedTrees_startEmpty_49 hl (k := 2) rfl (by rw [ex5]; rfl) (by decide) rfl (fun ls hl => ?_)
    refine lv_goto (tgt := 12) hx hb d_BoundedTrees_startEmpty_52 (by decide) ?_
    exact hk12 v1 x5 (upGL (stGL t_branches r2.toNatClampNeg c3) r4.toNatClampNeg (0 : Int32).toNatClampNeg (0 : Int64)) _ _ _ hP hD hS (lv_sub hl [1, 2, 0] rfl) hf
set_option maxRecDepth 100000 in
set_option maxHeartbeats 4000000 in
theorem w_BoundedTrees_startEmpty_12_l {p : Program} {l : Launch} {e : Env} {R : Room} {s : State} {m : MethodId} {args : Array Value} {below : List Frame} {meth : Method} {c : Code} {D : va_G} {cI cJ cG cZ : ClassId} {A : Nat → Prop} {Q : State → Prop} {q_t q_t_graph q_t_between q_t_branch q_t_branches : Nat} {ra_t_branches : Nat → Nat} {t_nodes : Int32} {t_bound : Int32} {N : Nat} {RR : (Nat → Nat → Int64)} (C0 : CX p R s m args meth c b_BoundedTrees_startEmpty 3 R_BoundedTrees lw_g D CL (TYs cI cJ cG cZ) A 1 24) (hret : ∀ (pc : Nat) (ls : Array Slot) (H : Heap) (locs : List Loc) (t_branches : Nat → Nat → Int64), decode b_BoundedTrees_startEmpty pc = .ok (.return_, 1) → va_P D CL (wa [(q_t, .inr (0, [.ref q_t_graph, .ref q_t_between, .ref q_t_branch, .ref q_t_branches, .int t_nodes, .int t_bound])), (q_t_branches, .inl (cG, 49, .inr (.inr (.inr (.inr (fun i => some (ra_t_branches i)))))))] (wa (gsL 49 64 cJ ra_t_branches t_branches) [])) H → va_D A (wa [(q_t, .inr (0, [.ref q_t_graph, .ref q_t_between, .ref q_t_branch, .ref q_t_branches, .int t_nodes, .int t_bound])), (q_t_branches, .inl (cG, 49, .inr (.inr (.inr (.inr (fun i => some (ra_t_branches i)))))))] (wa (gsL 49 64 cJ ra_t_branches t_branches) [])) → va_S A s.heap H locs → some (t_branches) = some RR → W p l e R s m args below meth c H locs 0 0 Q (F0 m pc ls [])) (k2 : Int32 → (Nat → Nat → Int64) → Option ((Nat → Nat → Int64))) (hk2 : ∀ (v1 : Int32) (t_branches : Nat → Nat → Int64) (H : Heap) (locs : List Loc) (ls : Array Slot), va_P D CL (wa [(q_t, .inr (0, [.ref q_t_graph, .ref q_t_between, .ref q_t_branch, .ref q_t_branches, .int t_nodes, .int t_bound])), (q_t_branches, .inl (cG, 49, .inr (.inr (.inr (.inr (fun i => some (ra_t_branches i)))))))] (wa (gsL 49 64 cJ ra_t_branches t_branches) [])) H → va_D A (wa [(q_t, .inr (0, [.ref q_t_graph, .ref q_t_between, .ref q_t_branch, .ref q_t_branches, .int t_nodes, .int t_bound])), (q_t_branches, .inl (cG, 49, .inr (.inr (.inr (.inr (fun i => some (ra_t_branches i)))))))] (wa (gsL 49 64 cJ ra_t_branches t_branches) [])) → va_S A s.heap H locs → lv_has ls 3 [(0, .ref q_t), (1, .int v1)] → k2 v1 t_branches = some RR → W p l e R s m args below meth c H locs 0 0 Q (F0 m 2 ls [])) : ∀ (n : Nat) (v1 : Int32) (v2 : Int32) (t_branches : Nat → Nat → Int64) (H : Heap) (locs : List Loc) (ls : Array Slot), va_P D CL (wa [(q_t, .inr (0, [.ref q_t_graph, .ref q_t_between, .ref q_t_branch, .ref q_t_branches, .int t_nodes, .int t_bound])), (q_t_branches, .inl (cG, 49, .inr (.inr (.inr (.inr (fun i => some (ra_t_branches i)))))))] (wa (gsL 49 64 cJ ra_t_branches t_branches) [])) H → va_D A (wa [(q_t, .inr (0, [.ref q_t_graph, .ref q_t_between, .ref q_t_branch, .ref q_t_branches, .int t_nodes, .int t_bound])), (q_t_branches, .inl (cG, 49, .inr (.inr (.inr (.inr (fun i => some (ra_t_branches i)))))))] (wa (gsL 49 64 cJ ra_t_branches t_branches) [])) → va_S A s.heap H locs → lv_has ls 3 [(0, .ref q_t), (1, .int v1), (2, .int v2)] → lo3 (g_BoundedTrees_startEmpty_12 N t_bound k2) n v1 v2 t_branches = some RR → W p l e R s m args below meth c H locs 0 0 Q (F0 m 12 ls []) := by
  intro n
  induction n with
  | zero =>
    intro v1 v2 t_branches H locs ls hP hD hS hl hf
    exact absurd hf (by simp [lo3])
  | succ n ih =>
    intro v1 v2 t_branches H locs ls hP hD hS hl hf
    exact w_BoundedTrees_startEmpty_12 C0 hret k2 hk2 (lo3 (g_BoundedTrees_startEmpty_12 N t_bound k2) n) ih v1 v2 t_branches H locs ls hP hD hS hl hf
set_option maxRecDepth 100000 in
set_option maxHeartbeats 4000000 in
theorem w_BoundedTrees_startEmpty_2 {p : Program} {l : Launch} {e : Env} {R : Room} {s : State} {m : MethodId} {args : Array Value} {below : List Frame} {meth : Method} {c : Code} {D : va_G} {cI cJ cG cZ : ClassId} {A : Nat → Prop} {Q : State → Prop} {q_t q_t_graph q_t_between q_t_branch q_t_branches : Nat} {ra_t_branches : Nat → Nat} {t_nodes : Int32} {t_bound : Int32} {N : Nat} {RR : (Nat → Nat → Int64)} (C0 : CX p R s m args meth c b_BoundedTrees_startEmpty 3 R_BoundedTrees lw_g D CL (TYs cI cJ cG cZ) A 1 24) (hret : ∀ (pc : Nat) (ls : Array Slot) (H : Heap) (locs : List Loc) (t_branches : Nat → Nat → Int64), decode b_BoundedTrees_startEmpty pc = .ok (.return_, 1) → va_P D CL (wa [(q_t, .inr (0, [.ref q_t_graph, .ref q_t_between, .ref q_t_branch, .ref q_t_branches, .int t_nodes, .int t_bound])), (q_t_branches, .inl (cG, 49, .inr (.inr (.inr (.inr (fun i => some (ra_t_branches i)))))))] (wa (gsL 49 64 cJ ra_t_branches t_branches) [])) H → va_D A (wa [(q_t, .inr (0, [.ref q_t_graph, .ref q_t_between, .ref q_t_branch, .ref q_t_branches, .int t_nodes, .int t_bound])), (q_t_branches, .inl (cG, 49, .inr (.inr (.inr (.inr (fun i => some (ra_t_branches i)))))))] (wa (gsL 49 64 cJ ra_t_branches t_branches) [])) → va_S A s.heap H locs → some (t_branches) = some RR → W p l e R s m args below meth c H locs 0 0 Q (F0 m pc ls [])) (k2 : Int32 → (Nat → Nat → Int64) → Option ((Nat → Nat → Int64))) (hk2 : ∀ (v1 : Int32) (t_branches : Nat → Nat → Int64) (H : Heap) (locs : List Loc) (ls : Array Slot), va_P D CL (wa [(q_t, .inr (0, [.ref q_t_graph, .ref q_t_between, .ref q_t_branch, .ref q_t_branches, .int t_nodes, .int t_bound])), (q_t_branches, .inl (cG, 49, .inr (.inr (.inr (.inr (fun i => some (ra_t_branches i)))))))] (wa (gsL 49 64 cJ ra_t_branches t_branches) [])) H → va_D A (wa [(q_t, .inr (0, [.ref q_t_graph, .ref q_t_between, .ref q_t_branch, .ref q_t_branches, .int t_nodes, .int t_bound])), (q_t_branches, .inl (cG, 49, .inr (.inr (.inr (.inr (fun i => some (ra_t_branches i)))))))] (wa (gsL 49 64 cJ ra_t_branches t_branches) [])) → va_S A s.heap H locs → lv_has ls 3 [(0, .ref q_t), (1, .int v1)] → k2 v1 t_branches = some RR → W p l e R s m args below meth c H locs 0 0 Q (F0 m 2 ls [])) : ∀ (v1 : Int32) (t_branches : Nat → Nat → Int64) (H : Heap) (locs : List Loc) (ls : Array Slot), va_P D CL (wa [(q_t, .inr (0, [.ref q_t_graph, .ref q_t_between, .ref q_t_branch, .ref q_t_branches, .int t_nodes, .int t_bound])), (q_t_branches, .inl (cG, 49, .inr (.inr (.inr (.inr (fun i => some (ra_t_branches i)))))))] (wa (gsL 49 64 cJ ra_t_branches t_branches) [])) H → va_D A (wa [(q_t, .inr (0, [.ref q_t_graph, .ref q_t_between, .ref q_t_branch, .ref q_t_branches, .int t_nodes, .int t_bound])), (q_t_branches, .inl (cG, 49, .inr (.inr (.inr (.inr (fun i => some (ra_t_branches i)))))))] (wa (gsL 49 64 cJ ra_t_branches t_branches) [])) → va_S A s.heap H locs → lv_has ls 3 [(0, .ref q_t), (1, .int v1)] → g_BoundedTrees_startEmpty_2 N t_nodes t_bound k2 v1 t_branches = some RR → W p l e R s m args below meth c H locs 0 0 Q (F0 m 2 ls []) := by
  intro v1 t_branches H locs ls hP hD hS hl hf
  obtain ⟨hx, hb, hml, hown, hts, hK, hA, hfr, hlo, hlk⟩ := id C0
  unfold g_BoundedTrees_startEmpty_2 at hf
  refine lv_iload_n hx hb d_BoundedTrees_startEmpty_2 rfl (lv_at hl 1 rfl) ?_
  refine lv_aload_n hx hb d_BoundedTrees_startEmpty_3 rfl (lv_at hl 0 rfl) ?_
  refine va_get (D := D) (ci := 0) (v := .int t_nodes) (C := R_BoundedTrees) (T := F_BoundedTrees) (N := 6) hx hb hts i_BoundedTrees hown hK hP 0 rfl rfl 4 (by decide) (hts _ m_1_166) (fun _ h9 => h9) rfl d_BoundedTrees_startEmpty_4 ?_
  refine lv_icmp_ge (tgt := 61) hx hb d_BoundedTrees_startEmpty_7 (by decide) (fun hc1 => ?_) (fun hc1 => ?_)
  · have hf := if_t hc1 hf
    exact hret 61 _ _ _ t_branches d_BoundedTrees_startEmpty_61 hP hD hS hf
  · have hf := if_f hc1 hf
    refine lv_iconst (v := 0) hx hb d_BoundedTrees_startEmpty_10 (by decide) ?_
    refine lv_istore_n (lv' := [(2, .int (0 : Int32)), (0, .ref q_t), (1, .int v1)]) hx hb d_BoundedTrees_startEmpty_11 rfl hl (by decide) rfl (fun ls hl => ?_)
    exact w_BoundedTrees_startEmpty_12_l C0 hret k2 hk2 N v1 (0 : Int32) t_branches _ _ _ hP hD hS (lv_sub hl [1, 2, 0] rfl) hf
set_option maxRecDepth 100000 in
set_option maxHeartbeats 4000000 in
theorem w_BoundedTrees_startEmpty_2_l {p : Program} {l : Launch} {e : Env} {R : Room} {s : State} {m : MethodId} {args : Array Value} {below : List Frame} {meth : Method} {c : Code} {D : va_G} {cI cJ cG cZ : ClassId} {A : Nat → Prop} {Q : State → Prop} {q_t q_t_graph q_t_between q_t_branch q_t_branches : Nat} {ra_t_branches : Nat → Nat} {t_nodes : Int32} {t_bound : Int32} {N : Nat} {RR : (Nat → Nat → Int64)} (C0 : CX p R s m args meth c b_BoundedTrees_startEmpty 3 R_BoundedTrees lw_g D CL (TYs cI cJ cG cZ) A 1 24) (hret : ∀ (pc : Nat) (ls : Array Slot) (H : Heap) (locs : List Loc) (t_branches : Nat → Nat → Int64), decode b_BoundedTrees_startEmpty pc = .ok (.return_, 1) → va_P D CL (wa [(q_t, .inr (0, [.ref q_t_graph, .ref q_t_between, .ref q_t_branch, .ref q_t_branches, .int t_nodes, .int t_bound])), (q_t_branches, .inl (cG, 49, .inr (.inr (.inr (.inr (fun i => some (ra_t_branches i)))))))] (wa (gsL 49 64 cJ ra_t_branches t_branches) [])) H → va_D A (wa [(q_t, .inr (0, [.ref q_t_graph, .ref q_t_between, .ref q_t_branch, .ref q_t_branches, .int t_nodes, .int t_bound])), (q_t_branches, .inl (cG, 49, .inr (.inr (.inr (.inr (fun i => some (ra_t_branches i)))))))] (wa (gsL 49 64 cJ ra_t_branches t_branches) [])) → va_S A s.heap H locs → some (t_branches) = some RR → W p l e R s m args below meth c H locs 0 0 Q (F0 m pc ls []))  : ∀ (n : Nat) (v1 : Int32) (t_branches : Nat → Nat → Int64) (H : Heap) (locs : List Loc) (ls : Array Slot), va_P D CL (wa [(q_t, .inr (0, [.ref q_t_graph, .ref q_t_between, .ref q_t_branch, .ref q_t_branches, .int t_nodes, .int t_bound])), (q_t_branches, .inl (cG, 49, .inr (.inr (.inr (.inr (fun i => some (ra_t_branches i)))))))] (wa (gsL 49 64 cJ ra_t_branches t_branches) [])) H → va_D A (wa [(q_t, .inr (0, [.ref q_t_graph, .ref q_t_between, .ref q_t_branch, .ref q_t_branches, .int t_nodes, .int t_bound])), (q_t_branches, .inl (cG, 49, .inr (.inr (.inr (.inr (fun i => some (ra_t_branches i)))))))] (wa (gsL 49 64 cJ ra_t_branches t_branches) [])) → va_S A s.heap H locs → lv_has ls 3 [(0, .ref q_t), (1, .int v1)] → lo2 (g_BoundedTrees_startEmpty_2 N t_nodes t_bound) n v1 t_branches = some RR → W p l e R s m args below meth c H locs 0 0 Q (F0 m 2 ls []) := by
  intro n
  induction n with
  | zero =>
    intro v1 t_branches H locs ls hP hD hS hl hf
    exact absurd hf (by simp [lo2])
  | succ n ih =>
    intro v1 t_branches H locs ls hP hD hS hl hf
    exact w_BoundedTrees_startEmpty_2 C0 hret  (lo2 (g_BoundedTrees_startEmpty_2 N t_nodes t_bound) n) ih v1 t_branches H locs ls hP hD hS hl hf
set_option maxRecDepth 100000 in
set_option maxHeartbeats 4000000 in
theorem w_BoundedTrees_startEmpty_e {p : Program} {l : Launch} {e : Env} {R : Room} {s : State} {m : MethodId} {args : Array Value} {below : List Frame} {meth : Method} {c : Code} {D : va_G} {cI cJ cG cZ : ClassId} {A : Nat → Prop} {Q : State → Prop} {q_t q_t_graph q_t_between q_t_branch q_t_branches : Nat} {ra_t_branches : Nat → Nat} {t_nodes : Int32} {t_bound : Int32} {t_branches0 : Nat → Nat → Int64} {N : Nat} {RR : (Nat → Nat → Int64)} (C0 : CX p R s m args meth c b_BoundedTrees_startEmpty 3 R_BoundedTrees lw_g D CL (TYs cI cJ cG cZ) A 1 24) (hret : ∀ (pc : Nat) (ls : Array Slot) (H : Heap) (locs : List Loc) (t_branches : Nat → Nat → Int64), decode b_BoundedTrees_startEmpty pc = .ok (.return_, 1) → va_P D CL (wa [(q_t, .inr (0, [.ref q_t_graph, .ref q_t_between, .ref q_t_branch, .ref q_t_branches, .int t_nodes, .int t_bound])), (q_t_branches, .inl (cG, 49, .inr (.inr (.inr (.inr (fun i => some (ra_t_branches i)))))))] (wa (gsL 49 64 cJ ra_t_branches t_branches) [])) H → va_D A (wa [(q_t, .inr (0, [.ref q_t_graph, .ref q_t_between, .ref q_t_branch, .ref q_t_branches, .int t_nodes, .int t_bound])), (q_t_branches, .inl (cG, 49, .inr (.inr (.inr (.inr (fun i => some (ra_t_branches i)))))))] (wa (gsL 49 64 cJ ra_t_branches t_branches) [])) → va_S A s.heap H locs → some (t_branches) = some RR → W p l e R s m args below meth c H locs 0 0 Q (F0 m pc ls [])) : ∀ (H : Heap) (locs : List Loc) (ls : Array Slot), va_P D CL (wa [(q_t, .inr (0, [.ref q_t_graph, .ref q_t_between, .ref q_t_branch, .ref q_t_branches, .int t_nodes, .int t_bound])), (q_t_branches, .inl (cG, 49, .inr (.inr (.inr (.inr (fun i => some (ra_t_branches i)))))))] (wa (gsL 49 64 cJ ra_t_branches t_branches0) [])) H → va_D A (wa [(q_t, .inr (0, [.ref q_t_graph, .ref q_t_between, .ref q_t_branch, .ref q_t_branches, .int t_nodes, .int t_bound])), (q_t_branches, .inl (cG, 49, .inr (.inr (.inr (.inr (fun i => some (ra_t_branches i)))))))] (wa (gsL 49 64 cJ ra_t_branches t_branches0) [])) → va_S A s.heap H locs → lv_has ls 3 [(0, .ref q_t)] → f_BoundedTrees_startEmpty N t_nodes t_bound t_branches0 = some RR → W p l e R s m args below meth c H locs 0 0 Q (F0 m 0 ls []) := by
  intro H locs ls hP hD hS hl hf
  obtain ⟨hx, hb, hml, hown, hts, hK, hA, hfr, hlo, hlk⟩ := id C0
  unfold f_BoundedTrees_startEmpty at hf
  refine lv_iconst (v := 0) hx hb d_BoundedTrees_startEmpty_0 (by decide) ?_
  refine lv_istore_n (lv' := [(1, .int (0 : Int32)), (0, .ref q_t)]) hx hb d_BoundedTrees_startEmpty_1 rfl hl (by decide) rfl (fun ls hl => ?_)
  exact w_BoundedTrees_startEmpty_2_l C0 hret N (0 : Int32) t_branches0 _ _ _ hP hD hS (lv_sub hl [1, 0] rfl) hf
set_option maxRecDepth 100000 in
set_option maxHeartbeats 4000000 in
theorem c_BoundedTrees_startEmpty (l : Launch) (D : va_G) (cI cJ cG cZ : ClassId) (q_t q_t_graph q_t_between q_t_branch q_t_branches : Nat) (ra_t_branches : Nat → Nat) (t_nodes : Int32) (t_bound : Int32) (t_branches0 : Nat → Nat → Int64) {N : Nat} {t_branches' : Nat → Nat → Int64} (hf : f_BoundedTrees_startEmpty N t_nodes t_bound t_branches0 = some (t_branches')) : MeG l D CL (TYs cI cJ cG cZ) y_BoundedTrees_startEmpty ws_BoundedTrees_startEmpty (rm_BoundedTrees_startEmpty) [.ref q_t] (wa [(q_t, .inr (0, [.ref q_t_graph, .ref q_t_between, .ref q_t_branch, .ref q_t_branches, .int t_nodes, .int t_bound])), (q_t_branches, .inl (cG, 49, .inr (.inr (.inr (.inr (fun i => some (ra_t_branches i)))))))] (wa (gsL 49 64 cJ ra_t_branches t_branches0) [])) none (wa [(q_t, .inr (0, [.ref q_t_graph, .ref q_t_between, .ref q_t_branch, .ref q_t_branches, .int t_nodes, .int t_bound])), (q_t_branches, .inl (cG, 49, .inr (.inr (.inr (.inr (fun i => some (ra_t_branches i)))))))] (wa (gsL 49 64 cJ ra_t_branches t_branches') [])) := by
  intro sz
  refine Met.ofW (cc := b_BoundedTrees_startEmpty) (maxL := 3) (ret := none) (by decide) rfl ?_
  intro p e s m args below meth c s₁ B hml hv
  obtain ⟨rfl, hsz, hP, hK, hD0⟩ := hv
  subst hsz
  have hD := hD0.self (sz := s.heap.size)
  generalize hAe : va_A (wa [(q_t, .inr (0, [.ref q_t_graph, .ref q_t_between, .ref q_t_branch, .ref q_t_branches, .int t_nodes, .int t_bound])), (q_t_branches, .inl (cG, 49, .inr (.inr (.inr (.inr (fun i => some (ra_t_branches i)))))))] (wa (gsL 49 64 cJ ra_t_branches t_branches0) [])) s.heap.size = A at hD ⊢
  have C0 : CX p (headSpec ws_BoundedTrees_startEmpty (rm_BoundedTrees_startEmpty)).room s m _ meth c b_BoundedTrees_startEmpty 3 R_BoundedTrees lw_g D CL (TYs cI cJ cG cZ) A 1 24 := ⟨B.exec, B.bytes, hml, findClass_of_methodNamed B.named, fun w h => atoms_spec (ws := ws_BoundedTrees_startEmpty) B.pre w (List.mem_cons_of_mem _ h), hK, fun q h => by rw [← hAe]; exact Or.inr h, Nat.le_of_ble_eq_true rfl, Nat.le_of_ble_eq_true rfl, B.notSynchronized⟩
  have hl := lv_entry ([.ref q_t]) (n := 3) (Nat.le_of_ble_eq_true rfl)
  rw [lg_entry_eq]
  generalize (lg_sl ([.ref q_t]) ++ List.replicate (3 - (lg_sl ([.ref q_t])).length) Slot.unset).toArray = ls at hl ⊢
  have hl : lv_has ls 3 [(0, .ref q_t)] := hl
  exact w_BoundedTrees_startEmpty_e C0 (fun pc ls H locs t_branches hdg hP hD hS e => by cases e; exact W.vret B.exec B.bytes B.returns (fun t ht hW => ⟨⟨rfl, by rw [ht]; exact hP, va_K.moved hW.alike hK, hD⟩, hS.F ht⟩) hS.2.2 hdg) _ _ _ hP hD va_S.rf (lv_sub hl [0] rfl) hf
abbrev b_BoundedTrees_isBelow : ByteArray := prog_2_method_4_code
def y_BoundedTrees_isBelow : MethodName := ⟨R_BoundedTrees, "isBelow", "(II)Z"⟩
def ws_BoundedTrees_isBelow : List Cond := .code y_BoundedTrees_isBelow b_BoundedTrees_isBelow 2 (some .boolean) :: lw_g
theorem wi_BoundedTrees_isBelow : ∀ w ∈ ws_BoundedTrees_isBelow, w ∈ lw_g := wi_of m_3_4
abbrev rm_BoundedTrees_isBelow : Room := { frames := 0, cells := 0, slots := 0, locals := 0 }
theorem hd_BoundedTrees_isBelow : y_BoundedTrees_isBelow.cls ≠ "java/lang/invoke/MethodHandle" ∧ y_BoundedTrees_isBelow.cls ≠ "java/lang/invoke/VarHandle" ∧ (parseMethodDescriptor y_BoundedTrees_isBelow.desc).map (fun d => d.parameters.length) = some 2 := by decide +kernel
theorem d_BoundedTrees_isBelow_0 : decode b_BoundedTrees_isBelow 0 = .ok (.iload_n 0, 1) := by decide +kernel
theorem d_BoundedTrees_isBelow_1 : decode b_BoundedTrees_isBelow 1 = .ok (.ifCond .le 17, 3) := by decide +kernel
theorem d_BoundedTrees_isBelow_4 : decode b_BoundedTrees_isBelow 4 = .ok (.iload_n 1, 1) := by decide +kernel
theorem d_BoundedTrees_isBelow_5 : decode b_BoundedTrees_isBelow 5 = .ok (.iload_n 0, 1) := by decide +kernel
theorem d_BoundedTrees_isBelow_6 : decode b_BoundedTrees_isBelow 6 = .ok (.iconst 1, 1) := by decide +kernel
theorem d_BoundedTrees_isBelow_7 : decode b_BoundedTrees_isBelow 7 = .ok (.isub, 1) := by decide +kernel
theorem d_BoundedTrees_isBelow_8 : decode b_BoundedTrees_isBelow 8 = .ok (.ishr, 1) := by decide +kernel
theorem d_BoundedTrees_isBelow_9 : decode b_BoundedTrees_isBelow 9 = .ok (.iconst 1, 1) := by decide +kernel
theorem d_BoundedTrees_isBelow_10 : decode b_BoundedTrees_isBelow 10 = .ok (.iand, 1) := by decide +kernel
theorem d_BoundedTrees_isBelow_11 : decode b_BoundedTrees_isBelow 11 = .ok (.ifCond .eq 7, 3) := by decide +kernel
theorem d_BoundedTrees_isBelow_14 : decode b_BoundedTrees_isBelow 14 = .ok (.iconst 1, 1) := by decide +kernel
theorem d_BoundedTrees_isBelow_15 : decode b_BoundedTrees_isBelow 15 = .ok (.goto 4, 3) := by decide +kernel
theorem d_BoundedTrees_isBelow_18 : decode b_BoundedTrees_isBelow 18 = .ok (.iconst 0, 1) := by decide +kernel
theorem d_BoundedTrees_isBelow_19 : decode b_BoundedTrees_isBelow 19 = .ok (.ireturn, 1) := by decide +kernel
def f_BoundedTrees_isBelow (p0 : Int32) (p1 : Int32) : Option (Int32) :=
  if p0 ≤ 0 then
    some ((0 : Int32))
  else
    if ((p1 >>> ((p0 - (1 : Int32)) &&& 31)) &&& (1 : Int32)) = 0 then
      some ((0 : Int32))
    else
      some ((1 : Int32))
set_option maxRecDepth 100000 in
set_option maxHeartbeats 4000000 in
theorem w_BoundedTrees_isBelow_e {p : Program} {l : Launch} {e : Env} {R : Room} {s : State} {m : MethodId} {args : Array Value} {below : List Frame} {meth : Method} {c : Code} {D : va_G} {cI cJ cG cZ : ClassId} {A : Nat → Prop} {Q : State → Prop} {p0 : Int32} {p1 : Int32} {RR : Int32} (C0 : CX p R s m args meth c b_BoundedTrees_isBelow 2 R_BoundedTrees lw_g D CL (TYs cI cJ cG cZ) A 0 0) (hret : ∀ (pc : Nat) (ls : Array Slot) (H : Heap) (locs : List Loc) (v : Int32) , decode b_BoundedTrees_isBelow pc = .ok (.ireturn, 1) → narrow .boolean (.int v) = .int v → va_P D CL [] H → va_D A [] → va_S A s.heap H locs → some (v) = some RR → W p l e R s m args below meth c H locs 0 0 Q (F0 m pc ls [.int v])) : ∀ (H : Heap) (locs : List Loc) (ls : Array Slot), va_P D CL [] H → va_D A [] → va_S A s.heap H locs → lv_has ls 2 [(0, .int p0), (1, .int p1)] → f_BoundedTrees_isBelow p0 p1 = some RR → W p l e R s m args below meth c H locs 0 0 Q (F0 m 0 ls []) := by
  intro H locs ls hP hD hS hl hf
  obtain ⟨hx, hb, hml, hown, hts, hK, hA, hfr, hlo, hlk⟩ := id C0
  unfold f_BoundedTrees_isBelow at hf
  refine lv_iload_n hx hb d_BoundedTrees_isBelow_0 rfl (lv_at hl 0 rfl) ?_
  refine lv_if_le (tgt := 18) hx hb d_BoundedTrees_isBelow_1 (by decide) (fun hc1 => ?_) (fun hc1 => ?_)
  · have hf := if_t hc1 hf
    refine lv_iconst (v := 0) hx hb d_BoundedTrees_isBelow_18 (by decide) ?_
    exact hret 19 _ _ _ (0 : Int32) d_BoundedTrees_isBelow_19 rfl hP hD hS hf
  · have hf := if_f hc1 hf
    refine lv_iload_n hx hb d_BoundedTrees_isBelow_4 rfl (lv_at hl 1 rfl) ?_
    refine lv_iload_n hx hb d_BoundedTrees_isBelow_5 rfl (lv_at hl 0 rfl) ?_
    refine lv_iconst (v := 1) hx hb d_BoundedTrees_isBelow_6 (by decide) ?_
    refine lv_isub hx hb d_BoundedTrees_isBelow_7 ?_
    refine lv_ishr hx hb d_BoundedTrees_isBelow_8 ?_
    refine lv_iconst (v := 1) hx hb d_BoundedTrees_isBelow_9 (by decide) ?_
    refine lv_iand hx hb d_BoundedTrees_isBelow_10 ?_
    refine lv_if_eq (tgt := 18) hx hb d_BoundedTrees_isBelow_11 (by decide) (fun hc2 => ?_) (fun hc2 => ?_)
    · have hf := if_t hc2 hf
      refine lv_iconst (v := 0) hx hb d_BoundedTrees_isBelow_18 (by decide) ?_
      exact hret 19 _ _ _ (0 : Int32) d_BoundedTrees_isBelow_19 rfl hP hD hS hf
    · have hf := if_f hc2 hf
      refine lv_iconst (v := 1) hx hb d_BoundedTrees_isBelow_14 (by decide) ?_
      refine lv_goto (tgt := 19) hx hb d_BoundedTrees_isBelow_15 (by decide) ?_
      exact hret 19 _ _ _ (1 : Int32) d_BoundedTrees_isBelow_19 rfl hP hD hS hf
set_option maxRecDepth 100000 in
set_option maxHeartbeats 4000000 in
theorem c_BoundedTrees_isBelow (l : Launch) (D : va_G) (cI cJ cG cZ : ClassId) (p0 : Int32) (p1 : Int32) {r : Int32} (hf : f_BoundedTrees_isBelow p0 p1 = some (r)) : MeG l D CL (TYs cI cJ cG cZ) y_BoundedTrees_isBelow ws_BoundedTrees_isBelow (rm_BoundedTrees_isBelow) [.int p0, .int p1] [] (some (.int r)) [] := by
  intro sz
  refine Met.ofW (cc := b_BoundedTrees_isBelow) (maxL := 2) (ret := (some .boolean)) (by decide) rfl ?_
  intro p e s m args below meth c s₁ B hml hv
  obtain ⟨rfl, hsz, hP, hK, hD0⟩ := hv
  subst hsz
  have hD := hD0.self (sz := s.heap.size)
  generalize hAe : va_A [] s.heap.size = A at hD ⊢
  have C0 : CX p (headSpec ws_BoundedTrees_isBelow (rm_BoundedTrees_isBelow)).room s m _ meth c b_BoundedTrees_isBelow 2 R_BoundedTrees lw_g D CL (TYs cI cJ cG cZ) A 0 0 := ⟨B.exec, B.bytes, hml, findClass_of_methodNamed B.named, fun w h => atoms_spec (ws := ws_BoundedTrees_isBelow) B.pre w (List.mem_cons_of_mem _ h), hK, fun q h => by rw [← hAe]; exact Or.inr h, Nat.le_of_ble_eq_true rfl, Nat.le_of_ble_eq_true rfl, B.notSynchronized⟩
  have hl := lv_entry ([.int p0, .int p1]) (n := 2) (Nat.le_of_ble_eq_true rfl)
  rw [lg_entry_eq]
  generalize (lg_sl ([.int p0, .int p1]) ++ List.replicate (2 - (lg_sl ([.int p0, .int p1])).length) Slot.unset).toArray = ls at hl ⊢
  have hl : lv_has ls 2 [(0, .int p0), (1, .int p1)] := hl
  exact w_BoundedTrees_isBelow_e C0 (fun pc ls H locs v hdg hz hP hD hS e => by cases e; exact W.zret B.exec B.bytes B.returns hz (fun t ht hW => ⟨⟨rfl, by rw [ht]; exact hP, va_K.moved hW.alike hK, hD⟩, hS.F ht⟩) hS.2.2 hdg) _ _ _ hP hD va_S.rf (lv_sub hl [0, 1] rfl) hf
