abbrev b_TreeCount_begin : ByteArray := prog_8_method_2_code
def y_TreeCount_begin : MethodName := ⟨R_TreeCount, "begin", "(LRootedTrees$Labels;)V"⟩
def ws_TreeCount_begin : List Cond := .code y_TreeCount_begin b_TreeCount_begin 3 none :: lw_g
theorem wi_TreeCount_begin : ∀ w ∈ ws_TreeCount_begin, w ∈ lw_g := wi_of m_2_134
abbrev rm_TreeCount_begin : Room := { frames := 1, cells := 0, slots := 0, locals := 60 }
theorem hd_TreeCount_begin : y_TreeCount_begin.cls = R_TreeCount ∧ y_TreeCount_begin.cls ≠ "java/lang/invoke/MethodHandle" ∧ y_TreeCount_begin.cls ≠ "java/lang/invoke/VarHandle" ∧ (parseMethodDescriptor y_TreeCount_begin.desc).map (fun d => d.parameters.length) = some 1 := by decide +kernel
theorem d_TreeCount_begin_0 : decode b_TreeCount_begin 0 = .ok (.aload_n 1, 1) := by decide +kernel
theorem d_TreeCount_begin_1 : decode b_TreeCount_begin 1 = .ok (.getfield 26, 3) := by decide +kernel
theorem d_TreeCount_begin_4 : decode b_TreeCount_begin 4 = .ok (.iconst 0, 1) := by decide +kernel
theorem d_TreeCount_begin_5 : decode b_TreeCount_begin 5 = .ok (.aload_n 0, 1) := by decide +kernel
theorem d_TreeCount_begin_6 : decode b_TreeCount_begin 6 = .ok (.getfield 9, 3) := by decide +kernel
theorem d_TreeCount_begin_9 : decode b_TreeCount_begin 9 = .ok (.iconst 0, 1) := by decide +kernel
theorem d_TreeCount_begin_10 : decode b_TreeCount_begin 10 = .ok (.bipush 10, 2) := by decide +kernel
theorem d_TreeCount_begin_12 : decode b_TreeCount_begin 12 = .ok (.invokestatic 31, 3) := by decide +kernel
theorem d_TreeCount_begin_15 : decode b_TreeCount_begin 15 = .ok (.iconst 0, 1) := by decide +kernel
theorem d_TreeCount_begin_16 : decode b_TreeCount_begin 16 = .ok (.istore_n 2, 1) := by decide +kernel
theorem d_TreeCount_begin_17 : decode b_TreeCount_begin 17 = .ok (.iload_n 2, 1) := by decide +kernel
theorem d_TreeCount_begin_18 : decode b_TreeCount_begin 18 = .ok (.bipush 10, 2) := by decide +kernel
theorem d_TreeCount_begin_20 : decode b_TreeCount_begin 20 = .ok (.if_icmp .ge 19, 3) := by decide +kernel
theorem d_TreeCount_begin_23 : decode b_TreeCount_begin 23 = .ok (.aload_n 0, 1) := by decide +kernel
theorem d_TreeCount_begin_24 : decode b_TreeCount_begin 24 = .ok (.getfield 17, 3) := by decide +kernel
theorem d_TreeCount_begin_27 : decode b_TreeCount_begin 27 = .ok (.iload_n 2, 1) := by decide +kernel
theorem d_TreeCount_begin_28 : decode b_TreeCount_begin 28 = .ok (.aaload, 1) := by decide +kernel
theorem d_TreeCount_begin_29 : decode b_TreeCount_begin 29 = .ok (.lconst 0, 1) := by decide +kernel
theorem d_TreeCount_begin_30 : decode b_TreeCount_begin 30 = .ok (.invokestatic 37, 3) := by decide +kernel
theorem d_TreeCount_begin_33 : decode b_TreeCount_begin 33 = .ok (.iinc 2 1, 3) := by decide +kernel
theorem d_TreeCount_begin_36 : decode b_TreeCount_begin 36 = .ok (.goto (-19), 3) := by decide +kernel
theorem d_TreeCount_begin_39 : decode b_TreeCount_begin 39 = .ok (.return_, 1) := by decide +kernel
def g_TreeCount_begin_17 (N : Nat) (k17 : Int32 → (Nat → Int32) → (Nat → Nat → Int64) → Option ((Nat → Int32) × (Nat → Nat → Int64))) (v2 : Int32) (t_groupOf : Nat → Int32) (t_links : Nat → Nat → Int64) : Option ((Nat → Int32) × (Nat → Nat → Int64)) :=
  if (10 : Int32) ≤ v2 then
    some (t_groupOf, t_links)
  else
    gd (inb v2 10) <|
    bk1 (f_Arr_fill1 N (0 : Int64) (t_links v2.toNatClampNeg) 10) fun c1 =>
    bn (v2 + (1 : Int32)) fun x2 =>
    k17 x2 t_groupOf (stGL t_links v2.toNatClampNeg c1)
def f_TreeCount_begin (N : Nat) (a1_label : Nat → Int32) (t_groupOf0 : Nat → Int32) (t_links0 : Nat → Nat → Int64) : Option ((Nat → Int32) × (Nat → Nat → Int64)) :=
  gd (cpok (0 : Int32) (0 : Int32) (10 : Int32) 10 10) <|
  lo3 (g_TreeCount_begin_17 N) N (0 : Int32) (va_cpy a1_label t_groupOf0 (0 : Int32).toNatClampNeg (0 : Int32).toNatClampNeg (10 : Int32).toNatClampNeg) t_links0
set_option maxRecDepth 100000 in
set_option maxHeartbeats 4000000 in
theorem w_TreeCount_begin_17 {p : Program} {l : Launch} {e : Env} {R : Room} {s : State} {m : MethodId} {args : Array Value} {below : List Frame} {meth : Method} {c : Code} {D : va_G} {cI cJ cG cZ : ClassId} {A : Nat → Prop} {Q : State → Prop} {q_a1 q_a1_label q_t q_t_groupOf q_t_links q_t_rows q_t_minor : Nat} {ra_t_links : Nat → Nat} {a1_nodes : Int32} {a1_groups : Int32} {a1_label : Nat → Int32} {N : Nat} {RR : (Nat → Int32) × (Nat → Nat → Int64)} (C0 : CX p R s m args meth c b_TreeCount_begin 3 R_TreeCount lw_g D CL (TYs cI cJ cG cZ) A 1 60) (hret : ∀ (pc : Nat) (ls : Array Slot) (H : Heap) (locs : List Loc) (t_groupOf : Nat → Int32) (t_links : Nat → Nat → Int64), decode b_TreeCount_begin pc = .ok (.return_, 1) → va_P D CL (wa [(q_a1, .inr (4, [.ref q_a1_label, .int a1_nodes, .int a1_groups])), (q_t, .inr (5, [.ref q_t_groupOf, .ref q_t_links, .ref q_t_rows, .ref q_t_minor])), (q_a1_label, .inl (cI, 10, .inl a1_label)), (q_t_groupOf, .inl (cI, 10, .inl t_groupOf)), (q_t_links, .inl (cG, 10, .inr (.inr (.inr (.inr (fun i => some (ra_t_links i)))))))] (wa (gsL 10 10 cJ ra_t_links t_links) [])) H → va_D A (wa [(q_a1, .inr (4, [.ref q_a1_label, .int a1_nodes, .int a1_groups])), (q_t, .inr (5, [.ref q_t_groupOf, .ref q_t_links, .ref q_t_rows, .ref q_t_minor])), (q_a1_label, .inl (cI, 10, .inl a1_label)), (q_t_groupOf, .inl (cI, 10, .inl t_groupOf)), (q_t_links, .inl (cG, 10, .inr (.inr (.inr (.inr (fun i => some (ra_t_links i)))))))] (wa (gsL 10 10 cJ ra_t_links t_links) [])) → va_S A s.heap H locs → some (t_groupOf, t_links) = some RR → W p l e R s m args below meth c H locs 0 0 Q (F0 m pc ls [])) (k17 : Int32 → (Nat → Int32) → (Nat → Nat → Int64) → Option ((Nat → Int32) × (Nat → Nat → Int64))) (hk17 : ∀ (v2 : Int32) (t_groupOf : Nat → Int32) (t_links : Nat → Nat → Int64) (H : Heap) (locs : List Loc) (ls : Array Slot), va_P D CL (wa [(q_a1, .inr (4, [.ref q_a1_label, .int a1_nodes, .int a1_groups])), (q_t, .inr (5, [.ref q_t_groupOf, .ref q_t_links, .ref q_t_rows, .ref q_t_minor])), (q_a1_label, .inl (cI, 10, .inl a1_label)), (q_t_groupOf, .inl (cI, 10, .inl t_groupOf)), (q_t_links, .inl (cG, 10, .inr (.inr (.inr (.inr (fun i => some (ra_t_links i)))))))] (wa (gsL 10 10 cJ ra_t_links t_links) [])) H → va_D A (wa [(q_a1, .inr (4, [.ref q_a1_label, .int a1_nodes, .int a1_groups])), (q_t, .inr (5, [.ref q_t_groupOf, .ref q_t_links, .ref q_t_rows, .ref q_t_minor])), (q_a1_label, .inl (cI, 10, .inl a1_label)), (q_t_groupOf, .inl (cI, 10, .inl t_groupOf)), (q_t_links, .inl (cG, 10, .inr (.inr (.inr (.inr (fun i => some (ra_t_links i)))))))] (wa (gsL 10 10 cJ ra_t_links t_links) [])) → va_S A s.heap H locs → lv_has ls 3 [(0, .ref q_t), (2, .int v2)] → k17 v2 t_groupOf t_links = some RR → W p l e R s m args below meth c H locs 0 0 Q (F0 m 17 ls [])) : ∀ (v2 : Int32) (t_groupOf : Nat → Int32) (t_links : Nat → Nat → Int64) (H : Heap) (locs : List Loc) (ls : Array Slot), va_P D CL (wa [(q_a1, .inr (4, [.ref q_a1_label, .int a1_nodes, .int a1_groups])), (q_t, .inr (5, [.ref q_t_groupOf, .ref q_t_links, .ref q_t_rows, .ref q_t_minor])), (q_a1_label, .inl (cI, 10, .inl a1_label)), (q_t_groupOf, .inl (cI, 10, .inl t_groupOf)), (q_t_links, .inl (cG, 10, .inr (.inr (.inr (.inr (fun i => some (ra_t_links i)))))))] (wa (gsL 10 10 cJ ra_t_links t_links) [])) H → va_D A (wa [(q_a1, .inr (4, [.ref q_a1_label, .int a1_nodes, .int a1_groups])), (q_t, .inr (5, [.ref q_t_groupOf, .ref q_t_links, .ref q_t_rows, .ref q_t_minor])), (q_a1_label, .inl (cI, 10, .inl a1_label)), (q_t_groupOf, .inl (cI, 10, .inl t_groupOf)), (q_t_links, .inl (cG, 10, .inr (.inr (.inr (.inr (fun i => some (ra_t_links i)))))))] (wa (gsL 10 10 cJ ra_t_links t_links) [])) → va_S A s.heap H locs → lv_has ls 3 [(0, .ref q_t), (2, .int v2)] → g_TreeCount_begin_17 N k17 v2 t_groupOf t_links = some RR → W p l e R s m args below meth c H locs 0 0 Q (F0 m 17 ls []) := by
  intro v2 t_groupOf t_links H locs ls hP hD hS hl hf
  obtain ⟨hx, hb, hml, hown, hts, hK, hA, hfr, hlo, hlk⟩ := id C0
  unfold g_TreeCount_begin_17 at hf
  refine lv_iload_n hx hb d_TreeCount_begin_17 rfl (lv_at hl 1 rfl) ?_
  refine lv_bipush (v := 10) hx hb d_TreeCount_begin_18 (by decide) ?_
  refine lv_icmp_ge (tgt := 39) hx hb d_TreeCount_begin_20 (by decide) (fun hc1 => ?_) (fun hc1 => ?_)
  · have hf := if_t hc1 hf
    exact hret 39 _ _ _ t_groupOf t_links d_TreeCount_begin_39 hP hD hS hf
  · have hf := if_f hc1 hf
    refine lv_aload_n hx hb d_TreeCount_begin_23 rfl (lv_at hl 0 rfl) ?_
    refine va_get (D := D) (ci := 5) (v := .ref q_t_links) (C := R_TreeCount) (T := F_TreeCount) (N := 4) hx hb hts i_TreeCount hown hK hP 1 rfl rfl 1 (by decide) (hts _ m_1_117) (fun _ h9 => h9) rfl d_TreeCount_begin_24 ?_
    refine lv_iload_n hx hb d_TreeCount_begin_27 rfl (lv_at hl 1 rfl) ?_
    obtain ⟨hg1, hf⟩ := gd_e hf
    refine ga_ld hx hb hK hP 4 2 rfl rfl (inb_e hg1) d_TreeCount_begin_28 ?_
    refine lv_lconst (v := 0) hx hb d_TreeCount_begin_29 (by decide) ?_
    obtain ⟨c1, hq1, hf⟩ := bk1_e hf
    refine cl_one (va_runS (As := [.ref (ra_t_links v2.toNatClampNeg), .long (0 : Int64)]) (rest := []) ⟨hx, hb, hml, hown, hts⟩ (c_Arr_fill1 l D cI cJ cG cZ (ra_t_links v2.toNatClampNeg) (t_links v2.toNatClampNeg) 10 (0 : Int64) hq1 H.size) (va_cwS 2 hts (gi_S m_2_138 m_2_139 m_1_12 wi_Arr_fill1) rfl rfl rfl hd_Arr_fill1 ⟨Nat.le_trans (Nat.le_of_ble_eq_true rfl) hfr, Nat.le_trans (Nat.le_of_ble_eq_true rfl) hlo⟩) ⟨pw_blind, fun U hU hW => ⟨rfl, pw_in hU (fun k q hk => by cases k with | zero => (cases hk; exact hP (5 + v2.toNatClampNeg) _ (gg0 rfl (inb_lt hg1))) | succ k => simp at hk) (va_K.moved hW.alike hK) va_D.one⟩⟩ rfl rfl hl.1 rfl (lv_room (Nat.le_of_ble_eq_true rfl)) d_TreeCount_begin_30 ⟨Nat.zero_le _, Nat.zero_le _⟩) hP hD hS hA (gg0 rfl (inb_lt hg1)) (gt0 rfl (inb_lt hg1)) (fun H locs hP hD hS => ?_)
    have hP : va_P D CL (wa [(q_a1, .inr (4, [.ref q_a1_label, .int a1_nodes, .int a1_groups])), (q_t, .inr (5, [.ref q_t_groupOf, .ref q_t_links, .ref q_t_rows, .ref q_t_minor])), (q_a1_label, .inl (cI, 10, .inl a1_label)), (q_t_groupOf, .inl (cI, 10, .inl t_groupOf)), (q_t_links, .inl (cG, 10, .inr (.inr (.inr (.inr (fun i => some (ra_t_links i)))))))] (wa (gsL 10 10 cJ ra_t_links (stGL t_links v2.toNatClampNeg c1)) [])) H := hP
    have hD : va_D A (wa [(q_a1, .inr (4, [.ref q_a1_label, .int a1_nodes, .int a1_groups])), (q_t, .inr (5, [.ref q_t_groupOf, .ref q_t_links, .ref q_t_rows, .ref q_t_minor])), (q_a1_label, .inl (cI, 10, .inl a1_label)), (q_t_groupOf, .inl (cI, 10, .inl t_groupOf)), (q_t_links, .inl (cG, 10, .inr (.inr (.inr (.inr (fun i => some (ra_t_links i)))))))] (wa (gsL 10 10 cJ ra_t_links (stGL t_links v2.toNatClampNeg c1)) [])) := hD
    obtain ⟨x2, ex2⟩ : ∃ y : Int32, y = v2 + (1 : Int32) := ⟨_, rfl⟩
    have hf := bn_e ex2 hf
    refine lv_iinc (v := x2) (lv' := [(2, .int x2), (0, .ref q_t)]) hx hb d_TreeCount_begin_33 hl (k := 1) rfl (by rw [ex2]; rfl) (by decide) rfl (fun ls hl => ?_)
    refine lv_goto (tgt := 17) hx hb d_TreeCount_begin_36 (by decide) ?_
    exact hk17 x2 t_groupOf (stGL t_links v2.toNatClampNeg c1) _ _ _ hP hD hS (lv_sub hl [1, 0] rfl) hf
set_option maxRecDepth 100000 in
set_option maxHeartbeats 4000000 in
theorem w_TreeCount_begin_17_l {p : Program} {l : Launch} {e : Env} {R : Room} {s : State} {m : MethodId} {args : Array Value} {below : List Frame} {meth : Method} {c : Code} {D : va_G} {cI cJ cG cZ : ClassId} {A : Nat → Prop} {Q : State → Prop} {q_a1 q_a1_label q_t q_t_groupOf q_t_links q_t_rows q_t_minor : Nat} {ra_t_links : Nat → Nat} {a1_nodes : Int32} {a1_groups : Int32} {a1_label : Nat → Int32} {N : Nat} {RR : (Nat → Int32) × (Nat → Nat → Int64)} (C0 : CX p R s m args meth c b_TreeCount_begin 3 R_TreeCount lw_g D CL (TYs cI cJ cG cZ) A 1 60) (hret : ∀ (pc : Nat) (ls : Array Slot) (H : Heap) (locs : List Loc) (t_groupOf : Nat → Int32) (t_links : Nat → Nat → Int64), decode b_TreeCount_begin pc = .ok (.return_, 1) → va_P D CL (wa [(q_a1, .inr (4, [.ref q_a1_label, .int a1_nodes, .int a1_groups])), (q_t, .inr (5, [.ref q_t_groupOf, .ref q_t_links, .ref q_t_rows, .ref q_t_minor])), (q_a1_label, .inl (cI, 10, .inl a1_label)), (q_t_groupOf, .inl (cI, 10, .inl t_groupOf)), (q_t_links, .inl (cG, 10, .inr (.inr (.inr (.inr (fun i => some (ra_t_links i)))))))] (wa (gsL 10 10 cJ ra_t_links t_links) [])) H → va_D A (wa [(q_a1, .inr (4, [.ref q_a1_label, .int a1_nodes, .int a1_groups])), (q_t, .inr (5, [.ref q_t_groupOf, .ref q_t_links, .ref q_t_rows, .ref q_t_minor])), (q_a1_label, .inl (cI, 10, .inl a1_label)), (q_t_groupOf, .inl (cI, 10, .inl t_groupOf)), (q_t_links, .inl (cG, 10, .inr (.inr (.inr (.inr (fun i => some (ra_t_links i)))))))] (wa (gsL 10 10 cJ ra_t_links t_links) [])) → va_S A s.heap H locs → some (t_groupOf, t_links) = some RR → W p l e R s m args below meth c H locs 0 0 Q (F0 m pc ls []))  : ∀ (n : Nat) (v2 : Int32) (t_groupOf : Nat → Int32) (t_links : Nat → Nat → Int64) (H : Heap) (locs : List Loc) (ls : Array Slot), va_P D CL (wa [(q_a1, .inr (4, [.ref q_a1_label, .int a1_nodes, .int a1_groups])), (q_t, .inr (5, [.ref q_t_groupOf, .ref q_t_links, .ref q_t_rows, .ref q_t_minor])), (q_a1_label, .inl (cI, 10, .inl a1_label)), (q_t_groupOf, .inl (cI, 10, .inl t_groupOf)), (q_t_links, .inl (cG, 10, .inr (.inr (.inr (.inr (fun i => some (ra_t_links i)))))))] (wa (gsL 10 10 cJ ra_t_links t_links) [])) H → va_D A (wa [(q_a1, .inr (4, [.ref q_a1_label, .int a1_nodes, .int a1_groups])), (q_t, .inr (5, [.ref q_t_groupOf, .ref q_t_links, .ref q_t_rows, .ref q_t_minor])), (q_a1_label, .inl (cI, 10, .inl a1_label)), (q_t_groupOf, .inl (cI, 10, .inl t_groupOf)), (q_t_links, .inl (cG, 10, .inr (.inr (.inr (.inr (fun i => some (ra_t_links i)))))))] (wa (gsL 10 10 cJ ra_t_links t_links) [])) → va_S A s.heap H locs → lv_has ls 3 [(0, .ref q_t), (2, .int v2)] → lo3 (g_TreeCount_begin_17 N) n v2 t_groupOf t_links = some RR → W p l e R s m args below meth c H locs 0 0 Q (F0 m 17 ls []) := by
  intro n
  induction n with
  | zero =>
    intro v2 t_groupOf t_links H locs ls hP hD hS hl hf
    exact absurd hf (by simp [lo3])
  | succ n ih =>
    intro v2 t_groupOf t_links H locs ls hP hD hS hl hf
    exact w_TreeCount_begin_17 C0 hret  (lo3 (g_TreeCount_begin_17 N) n) ih v2 t_groupOf t_links H locs ls hP hD hS hl hf
set_option maxRecDepth 100000 in
set_option maxHeartbeats 4000000 in
theorem w_TreeCount_begin_e {p : Program} {l : Launch} {e : Env} {R : Room} {s : State} {m : MethodId} {args : Array Value} {below : List Frame} {meth : Method} {c : Code} {D : va_G} {cI cJ cG cZ : ClassId} {A : Nat → Prop} {Q : State → Prop} {q_a1 q_a1_label q_t q_t_groupOf q_t_links q_t_rows q_t_minor : Nat} {ra_t_links : Nat → Nat} {a1_nodes : Int32} {a1_groups : Int32} {a1_label : Nat → Int32} {t_groupOf0 : Nat → Int32} {t_links0 : Nat → Nat → Int64} {N : Nat} {RR : (Nat → Int32) × (Nat → Nat → Int64)} (C0 : CX p R s m args meth c b_TreeCount_begin 3 R_TreeCount lw_g D CL (TYs cI cJ cG cZ) A 1 60) (hret : ∀ (pc : Nat) (ls : Array Slot) (H : Heap) (locs : List Loc) (t_groupOf : Nat → Int32) (t_links : Nat → Nat → Int64), decode b_TreeCount_begin pc = .ok (.return_, 1) → va_P D CL (wa [(q_a1, .inr (4, [.ref q_a1_label, .int a1_nodes, .int a1_groups])), (q_t, .inr (5, [.ref q_t_groupOf, .ref q_t_links, .ref q_t_rows, .ref q_t_minor])), (q_a1_label, .inl (cI, 10, .inl a1_label)), (q_t_groupOf, .inl (cI, 10, .inl t_groupOf)), (q_t_links, .inl (cG, 10, .inr (.inr (.inr (.inr (fun i => some (ra_t_links i)))))))] (wa (gsL 10 10 cJ ra_t_links t_links) [])) H → va_D A (wa [(q_a1, .inr (4, [.ref q_a1_label, .int a1_nodes, .int a1_groups])), (q_t, .inr (5, [.ref q_t_groupOf, .ref q_t_links, .ref q_t_rows, .ref q_t_minor])), (q_a1_label, .inl (cI, 10, .inl a1_label)), (q_t_groupOf, .inl (cI, 10, .inl t_groupOf)), (q_t_links, .inl (cG, 10, .inr (.inr (.inr (.inr (fun i => some (ra_t_links i)))))))] (wa (gsL 10 10 cJ ra_t_links t_links) [])) → va_S A s.heap H locs → some (t_groupOf, t_links) = some RR → W p l e R s m args below meth c H locs 0 0 Q (F0 m pc ls [])) : ∀ (H : Heap) (locs : List Loc) (ls : Array Slot), va_P D CL (wa [(q_a1, .inr (4, [.ref q_a1_label, .int a1_nodes, .int a1_groups])), (q_t, .inr (5, [.ref q_t_groupOf, .ref q_t_links, .ref q_t_rows, .ref q_t_minor])), (q_a1_label, .inl (cI, 10, .inl a1_label)), (q_t_groupOf, .inl (cI, 10, .inl t_groupOf0)), (q_t_links, .inl (cG, 10, .inr (.inr (.inr (.inr (fun i => some (ra_t_links i)))))))] (wa (gsL 10 10 cJ ra_t_links t_links0) [])) H → va_D A (wa [(q_a1, .inr (4, [.ref q_a1_label, .int a1_nodes, .int a1_groups])), (q_t, .inr (5, [.ref q_t_groupOf, .ref q_t_links, .ref q_t_rows, .ref q_t_minor])), (q_a1_label, .inl (cI, 10, .inl a1_label)), (q_t_groupOf, .inl (cI, 10, .inl t_groupOf0)), (q_t_links, .inl (cG, 10, .inr (.inr (.inr (.inr (fun i => some (ra_t_links i)))))))] (wa (gsL 10 10 cJ ra_t_links t_links0) [])) → va_S A s.heap H locs → lv_has ls 3 [(0, .ref q_t), (1, .ref q_a1)] → f_TreeCount_begin N a1_label t_groupOf0 t_links0 = some RR → W p l e R s m args below meth c H locs 0 0 Q (F0 m 0 ls []) := by
  intro H locs ls hP hD hS hl hf
  obtain ⟨hx, hb, hml, hown, hts, hK, hA, hfr, hlo, hlk⟩ := id C0
  unfold f_TreeCount_begin at hf
  refine lv_aload_n hx hb d_TreeCount_begin_0 rfl (lv_at hl 1 rfl) ?_
  refine va_get (D := D) (ci := 4) (v := .ref q_a1_label) (C := R_Labels) (T := F_Labels) (N := 3) hx hb hts i_Labels hown hK hP 0 rfl rfl 0 (by decide) (hts _ m_1_96) (fun _ h9 => h9) rfl d_TreeCount_begin_1 ?_
  refine lv_iconst (v := 0) hx hb d_TreeCount_begin_4 (by decide) ?_
  refine lv_aload_n hx hb d_TreeCount_begin_5 rfl (lv_at hl 0 rfl) ?_
  refine va_get (D := D) (ci := 5) (v := .ref q_t_groupOf) (C := R_TreeCount) (T := F_TreeCount) (N := 4) hx hb hts i_TreeCount hown hK hP 1 rfl rfl 0 (by decide) (hts _ m_1_116) (fun _ h9 => h9) rfl d_TreeCount_begin_6 ?_
  refine lv_iconst (v := 0) hx hb d_TreeCount_begin_9 (by decide) ?_
  refine lv_bipush (v := 10) hx hb d_TreeCount_begin_10 (by decide) ?_
  obtain ⟨hg1, hf⟩ := gd_e hf
  obtain ⟨hz1, hz2, hz3, hz4, hz5⟩ := cpok_e hg1
  refine va_copyi hx hb (hml.trans hl.1.symm) hown (hts _ m_2_135) (hts _ m_2_137) (hts _ m_2_136) (hts _ m_1_11) hK hP hD hS 2 3 0 0 rfl rfl rfl rfl rfl hz1 hz2 hz3 hz4 hz5 (fun _ _ => rfl) (Nat.le_trans (Nat.le_of_ble_eq_true rfl) hfr) (Nat.le_trans (Nat.le_of_ble_eq_true rfl) hlo) d_TreeCount_begin_12 (fun H locs hP hD hS => ?_)
  have hP : va_P D CL (wa [(q_a1, .inr (4, [.ref q_a1_label, .int a1_nodes, .int a1_groups])), (q_t, .inr (5, [.ref q_t_groupOf, .ref q_t_links, .ref q_t_rows, .ref q_t_minor])), (q_a1_label, .inl (cI, 10, .inl a1_label)), (q_t_groupOf, .inl (cI, 10, .inl (va_cpy a1_label t_groupOf0 (0 : Int32).toNatClampNeg (0 : Int32).toNatClampNeg (10 : Int32).toNatClampNeg))), (q_t_links, .inl (cG, 10, .inr (.inr (.inr (.inr (fun i => some (ra_t_links i)))))))] (wa (gsL 10 10 cJ ra_t_links t_links0) [])) H := hP
  have hD : va_D A (wa [(q_a1, .inr (4, [.ref q_a1_label, .int a1_nodes, .int a1_groups])), (q_t, .inr (5, [.ref q_t_groupOf, .ref q_t_links, .ref q_t_rows, .ref q_t_minor])), (q_a1_label, .inl (cI, 10, .inl a1_label)), (q_t_groupOf, .inl (cI, 10, .inl (va_cpy a1_label t_groupOf0 (0 : Int32).toNatClampNeg (0 : Int32).toNatClampNeg (10 : Int32).toNatClampNeg))), (q_t_links, .inl (cG, 10, .inr (.inr (.inr (.inr (fun i => some (ra_t_links i)))))))] (wa (gsL 10 10 cJ ra_t_links t_links0) [])) := hD
  refine lv_iconst (v := 0) hx hb d_TreeCount_begin_15 (by decide) ?_
  refine lv_istore_n (lv' := [(2, .int (0 : Int32)), (0, .ref q_t), (1, .ref q_a1)]) hx hb d_TreeCount_begin_16 rfl hl (by decide) rfl (fun ls hl => ?_)
  exact w_TreeCount_begin_17_l C0 hret N (0 : Int32) (va_cpy a1_label t_groupOf0 (0 : Int32).toNatClampNeg (0 : Int32).toNatClampNeg (10 : Int32).toNatClampNeg) t_links0 _ _ _ hP hD hS (lv_sub hl [1, 0] rfl) hf
set_option maxRecDepth 100000 in
set_option maxHeartbeats 4000000 in
theorem c_TreeCount_begin (l : Launch) (D : va_G) (cI cJ cG cZ : ClassId) (q_a1 q_a1_label q_t q_t_groupOf q_t_links q_t_rows q_t_minor : Nat) (ra_t_links : Nat → Nat) (a1_nodes : Int32) (a1_groups : Int32) (a1_label : Nat → Int32) (t_groupOf0 : Nat → Int32) (t_links0 : Nat → Nat → Int64) {N : Nat} {t_groupOf' : Nat → Int32} {t_links' : Nat → Nat → Int64} (hf : f_TreeCount_begin N a1_label t_groupOf0 t_links0 = some (t_groupOf', t_links')) : MeG l D CL (TYs cI cJ cG cZ) y_TreeCount_begin ws_TreeCount_begin (rm_TreeCount_begin) [.ref q_t, .ref q_a1] (wa [(q_a1, .inr (4, [.ref q_a1_label, .int a1_nodes, .int a1_groups])), (q_t, .inr (5, [.ref q_t_groupOf, .ref q_t_links, .ref q_t_rows, .ref q_t_minor])), (q_a1_label, .inl (cI, 10, .inl a1_label)), (q_t_groupOf, .inl (cI, 10, .inl t_groupOf0)), (q_t_links, .inl (cG, 10, .inr (.inr (.inr (.inr (fun i => some (ra_t_links i)))))))] (wa (gsL 10 10 cJ ra_t_links t_links0) [])) none (wa [(q_a1, .inr (4, [.ref q_a1_label, .int a1_nodes, .int a1_groups])), (q_t, .inr (5, [.ref q_t_groupOf, .ref q_t_links, .ref q_t_rows, .ref q_t_minor])), (q_a1_label, .inl (cI, 10, .inl a1_label)), (q_t_groupOf, .inl (cI, 10, .inl t_groupOf')), (q_t_links, .inl (cG, 10, .inr (.inr (.inr (.inr (fun i => some (ra_t_links i)))))))] (wa (gsL 10 10 cJ ra_t_links t_links') [])) := by
  intro sz
  refine Met.ofW (cc := b_TreeCount_begin) (maxL := 3) (ret := none) (by decide) rfl ?_
  intro p e s m args below meth c s₁ B hml hv
  obtain ⟨rfl, hsz, hP, hK, hD0⟩ := hv
  subst hsz
  have hD := hD0.self (sz := s.heap.size)
  generalize hAe : va_A (wa [(q_a1, .inr (4, [.ref q_a1_label, .int a1_nodes, .int a1_groups])), (q_t, .inr (5, [.ref q_t_groupOf, .ref q_t_links, .ref q_t_rows, .ref q_t_minor])), (q_a1_label, .inl (cI, 10, .inl a1_label)), (q_t_groupOf, .inl (cI, 10, .inl t_groupOf0)), (q_t_links, .inl (cG, 10, .inr (.inr (.inr (.inr (fun i => some (ra_t_links i)))))))] (wa (gsL 10 10 cJ ra_t_links t_links0) [])) s.heap.size = A at hD ⊢
  have C0 : CX p (headSpec ws_TreeCount_begin (rm_TreeCount_begin)).room s m _ meth c b_TreeCount_begin 3 R_TreeCount lw_g D CL (TYs cI cJ cG cZ) A 1 60 := ⟨B.exec, B.bytes, hml, findClass_of_methodNamed B.named, fun w h => atoms_spec (ws := ws_TreeCount_begin) B.pre w (List.mem_cons_of_mem _ h), hK, fun q h => by rw [← hAe]; exact Or.inr h, Nat.le_of_ble_eq_true rfl, Nat.le_of_ble_eq_true rfl, B.notSynchronized⟩
  have hl := lv_entry ([.ref q_t, .ref q_a1]) (n := 3) (Nat.le_of_ble_eq_true rfl)
  rw [lg_entry_eq]
  generalize (lg_sl ([.ref q_t, .ref q_a1]) ++ List.replicate (3 - (lg_sl ([.ref q_t, .ref q_a1])).length) Slot.unset).toArray = ls at hl ⊢
  have hl : lv_has ls 3 [(0, .ref q_t), (1, .ref q_a1)] := hl
  exact w_TreeCount_begin_e C0 (fun pc ls H locs t_groupOf t_links hdg hP hD hS e => by cases e; exact W.vret B.exec B.bytes B.returns (fun t ht hW => ⟨⟨rfl, by rw [ht]; exact hP, va_K.moved hW.alike hK, hD⟩, hS.F ht⟩) hS.2.2 hdg) _ _ _ hP hD va_S.rf (lv_sub hl [0, 1] rfl) hf
abbrev b_TreeCount_link : ByteArray := prog_8_method_3_code
def y_TreeCount_link : MethodName := ⟨R_TreeCount, "link", "(II)V"⟩
def ws_TreeCount_link : List Cond := .code y_TreeCount_link b_TreeCount_link 5 none :: lw_g
theorem wi_TreeCount_link : ∀ w ∈ ws_TreeCount_link, w ∈ lw_g := wi_of m_2_144
abbrev rm_TreeCount_link : Room := { frames := 0, cells := 0, slots := 0, locals := 0 }
theorem hd_TreeCount_link : y_TreeCount_link.cls = R_TreeCount ∧ y_TreeCount_link.cls ≠ "java/lang/invoke/MethodHandle" ∧ y_TreeCount_link.cls ≠ "java/lang/invoke/VarHandle" ∧ (parseMethodDescriptor y_TreeCount_link.desc).map (fun d => d.parameters.length) = some 2 := by decide +kernel
theorem d_TreeCount_link_0 : decode b_TreeCount_link 0 = .ok (.aload_n 0, 1) := by decide +kernel
theorem d_TreeCount_link_1 : decode b_TreeCount_link 1 = .ok (.getfield 9, 3) := by decide +kernel
theorem d_TreeCount_link_4 : decode b_TreeCount_link 4 = .ok (.iload_n 1, 1) := by decide +kernel
theorem d_TreeCount_link_5 : decode b_TreeCount_link 5 = .ok (.iaload, 1) := by decide +kernel
theorem d_TreeCount_link_6 : decode b_TreeCount_link 6 = .ok (.istore_n 3, 1) := by decide +kernel
theorem d_TreeCount_link_7 : decode b_TreeCount_link 7 = .ok (.aload_n 0, 1) := by decide +kernel
theorem d_TreeCount_link_8 : decode b_TreeCount_link 8 = .ok (.getfield 9, 3) := by decide +kernel
theorem d_TreeCount_link_11 : decode b_TreeCount_link 11 = .ok (.iload_n 2, 1) := by decide +kernel
theorem d_TreeCount_link_12 : decode b_TreeCount_link 12 = .ok (.iaload, 1) := by decide +kernel
theorem d_TreeCount_link_13 : decode b_TreeCount_link 13 = .ok (.istore 4, 2) := by decide +kernel
theorem d_TreeCount_link_15 : decode b_TreeCount_link 15 = .ok (.iload_n 3, 1) := by decide +kernel
theorem d_TreeCount_link_16 : decode b_TreeCount_link 16 = .ok (.iload 4, 2) := by decide +kernel
theorem d_TreeCount_link_18 : decode b_TreeCount_link 18 = .ok (.if_icmp .eq 55, 3) := by decide +kernel
theorem d_TreeCount_link_21 : decode b_TreeCount_link 21 = .ok (.aload_n 0, 1) := by decide +kernel
theorem d_TreeCount_link_22 : decode b_TreeCount_link 22 = .ok (.getfield 17, 3) := by decide +kernel
theorem d_TreeCount_link_25 : decode b_TreeCount_link 25 = .ok (.iload_n 3, 1) := by decide +kernel
theorem d_TreeCount_link_26 : decode b_TreeCount_link 26 = .ok (.aaload, 1) := by decide +kernel
theorem d_TreeCount_link_27 : decode b_TreeCount_link 27 = .ok (.iload_n 3, 1) := by decide +kernel
theorem d_TreeCount_link_28 : decode b_TreeCount_link 28 = .ok (.dup2, 1) := by decide +kernel
theorem d_TreeCount_link_29 : decode b_TreeCount_link 29 = .ok (.laload, 1) := by decide +kernel
theorem d_TreeCount_link_30 : decode b_TreeCount_link 30 = .ok (.lconst 1, 1) := by decide +kernel
theorem d_TreeCount_link_31 : decode b_TreeCount_link 31 = .ok (.ladd, 1) := by decide +kernel
theorem d_TreeCount_link_32 : decode b_TreeCount_link 32 = .ok (.lastore, 1) := by decide +kernel
theorem d_TreeCount_link_33 : decode b_TreeCount_link 33 = .ok (.aload_n 0, 1) := by decide +kernel
theorem d_TreeCount_link_34 : decode b_TreeCount_link 34 = .ok (.getfield 17, 3) := by decide +kernel
theorem d_TreeCount_link_37 : decode b_TreeCount_link 37 = .ok (.iload 4, 2) := by decide +kernel
theorem d_TreeCount_link_39 : decode b_TreeCount_link 39 = .ok (.aaload, 1) := by decide +kernel
theorem d_TreeCount_link_40 : decode b_TreeCount_link 40 = .ok (.iload 4, 2) := by decide +kernel
theorem d_TreeCount_link_42 : decode b_TreeCount_link 42 = .ok (.dup2, 1) := by decide +kernel
theorem d_TreeCount_link_43 : decode b_TreeCount_link 43 = .ok (.laload, 1) := by decide +kernel
theorem d_TreeCount_link_44 : decode b_TreeCount_link 44 = .ok (.lconst 1, 1) := by decide +kernel
theorem d_TreeCount_link_45 : decode b_TreeCount_link 45 = .ok (.ladd, 1) := by decide +kernel
theorem d_TreeCount_link_46 : decode b_TreeCount_link 46 = .ok (.lastore, 1) := by decide +kernel
theorem d_TreeCount_link_47 : decode b_TreeCount_link 47 = .ok (.aload_n 0, 1) := by decide +kernel
theorem d_TreeCount_link_48 : decode b_TreeCount_link 48 = .ok (.getfield 17, 3) := by decide +kernel
theorem d_TreeCount_link_51 : decode b_TreeCount_link 51 = .ok (.iload_n 3, 1) := by decide +kernel
theorem d_TreeCount_link_52 : decode b_TreeCount_link 52 = .ok (.aaload, 1) := by decide +kernel
theorem d_TreeCount_link_53 : decode b_TreeCount_link 53 = .ok (.iload 4, 2) := by decide +kernel
theorem d_TreeCount_link_55 : decode b_TreeCount_link 55 = .ok (.dup2, 1) := by decide +kernel
theorem d_TreeCount_link_56 : decode b_TreeCount_link 56 = .ok (.laload, 1) := by decide +kernel
theorem d_TreeCount_link_57 : decode b_TreeCount_link 57 = .ok (.lconst 1, 1) := by decide +kernel
theorem d_TreeCount_link_58 : decode b_TreeCount_link 58 = .ok (.lsub, 1) := by decide +kernel
theorem d_TreeCount_link_59 : decode b_TreeCount_link 59 = .ok (.lastore, 1) := by decide +kernel
theorem d_TreeCount_link_60 : decode b_TreeCount_link 60 = .ok (.aload_n 0, 1) := by decide +kernel
theorem d_TreeCount_link_61 : decode b_TreeCount_link 61 = .ok (.getfield 17, 3) := by decide +kernel
theorem d_TreeCount_link_64 : decode b_TreeCount_link 64 = .ok (.iload 4, 2) := by decide +kernel
theorem d_TreeCount_link_66 : decode b_TreeCount_link 66 = .ok (.aaload, 1) := by decide +kernel
theorem d_TreeCount_link_67 : decode b_TreeCount_link 67 = .ok (.iload_n 3, 1) := by decide +kernel
theorem d_TreeCount_link_68 : decode b_TreeCount_link 68 = .ok (.dup2, 1) := by decide +kernel
theorem d_TreeCount_link_69 : decode b_TreeCount_link 69 = .ok (.laload, 1) := by decide +kernel
theorem d_TreeCount_link_70 : decode b_TreeCount_link 70 = .ok (.lconst 1, 1) := by decide +kernel
theorem d_TreeCount_link_71 : decode b_TreeCount_link 71 = .ok (.lsub, 1) := by decide +kernel
theorem d_TreeCount_link_72 : decode b_TreeCount_link 72 = .ok (.lastore, 1) := by decide +kernel
theorem d_TreeCount_link_73 : decode b_TreeCount_link 73 = .ok (.return_, 1) := by decide +kernel
def f_TreeCount_link (p1 : Int32) (p2 : Int32) (t_groupOf : Nat → Int32) (t_links0 : Nat → Nat → Int64) : Option ((Nat → Nat → Int64)) :=
  gd (inb p1 10) <|
  bn (t_groupOf p1.toNatClampNeg) fun x1 =>
  gd (inb p2 10) <|
  bn (t_groupOf p2.toNatClampNeg) fun x2 =>
  if x1 = x2 then
    some (t_links0)
  else
    gd (inb x1 10) <|
    gd (inb x1 10) <|
    gd (inb x1 10) <|
    gd (inb x2 10) <|
    gd (inb x2 10) <|
    gd (inb x2 10) <|
    gd (inb x1 10) <|
    gd (inb x2 10) <|
    gd (inb x2 10) <|
    gd (inb x2 10) <|
    gd (inb x1 10) <|
    gd (inb x1 10) <|
    some (upGL (upGL (upGL (upGL t_links0 x1.toNatClampNeg x1.toNatClampNeg ((t_links0 x1.toNatClampNeg x1.toNatClampNeg) + (1 : Int64))) x2.toNatClampNeg x2.toNatClampNeg (((upGL t_links0 x1.toNatClampNeg x1.toNatClampNeg ((t_links0 x1.toNatClampNeg x1.toNatClampNeg) + (1 : Int64))) x2.toNatClampNeg x2.toNatClampNeg) + (1 : Int64))) x1.toNatClampNeg x2.toNatClampNeg (((upGL (upGL t_links0 x1.toNatClampNeg x1.toNatClampNeg ((t_links0 x1.toNatClampNeg x1.toNatClampNeg) + (1 : Int64))) x2.toNatClampNeg x2.toNatClampNeg (((upGL t_links0 x1.toNatClampNeg x1.toNatClampNeg ((t_links0 x1.toNatClampNeg x1.toNatClampNeg) + (1 : Int64))) x2.toNatClampNeg x2.toNatClampNeg) + (1 : Int64))) x1.toNatClampNeg x2.toNatClampNeg) - (1 : Int64))) x2.toNatClampNeg x1.toNatClampNeg (((upGL (upGL (upGL t_links0 x1.toNatClampNeg x1.toNatClampNeg ((t_links0 x1.toNatClampNeg x1.toNatClampNeg) + (1 : Int64))) x2.toNatClampNeg x2.toNatClampNeg (((upGL t_links0 x1.toNatClampNeg x1.toNatClampNeg ((t_links0 x1.toNatClampNeg x1.toNatClampNeg) + (1 : Int64))) x2.toNatClampNeg x2.toNatClampNeg) + (1 : Int64))) x1.toNatClampNeg x2.toNatClampNeg (((upGL (upGL t_links0 x1.toNatClampNeg x1.toNatClampNeg ((t_links0 x1.toNatClampNeg x1.toNatClampNeg) + (1 : Int64))) x2.toNatClampNeg x2.toNatClampNeg (((upGL t_links0 x1.toNatClampNeg x1.toNatClampNeg ((t_links0 x1.toNatClampNeg x1.toNatClampNeg) + (1 : Int64))) x2.toNatClampNeg x2.toNatClampNeg) + (1 : Int64))) x1.toNatClampNeg x2.toNatClampNeg) - (1 : Int64))) x2.toNatClampNeg x1.toNatClampNeg) - (1 : Int64)))
set_option maxRecDepth 100000 in
set_option maxHeartbeats 4000000 in
theorem w_TreeCount_link_e {p : Program} {l : Launch} {e : Env} {R : Room} {s : State} {m : MethodId} {args : Array Value} {below : List Frame} {meth : Method} {c : Code} {D : va_G} {cI cJ cG cZ : ClassId} {A : Nat → Prop} {Q : State → Prop} {q_t q_t_groupOf q_t_links q_t_rows q_t_minor : Nat} {ra_t_links : Nat → Nat} {t_groupOf : Nat → Int32} {t_links0 : Nat → Nat → Int64} {p1 : Int32} {p2 : Int32} {RR : (Nat → Nat → Int64)} (C0 : CX p R s m args meth c b_TreeCount_link 5 R_TreeCount lw_g D CL (TYs cI cJ cG cZ) A 0 0) (hret : ∀ (pc : Nat) (ls : Array Slot) (H : Heap) (locs : List Loc) (t_links : Nat → Nat → Int64), decode b_TreeCount_link pc = .ok (.return_, 1) → va_P D CL (wa [(q_t, .inr (5, [.ref q_t_groupOf, .ref q_t_links, .ref q_t_rows, .ref q_t_minor])), (q_t_groupOf, .inl (cI, 10, .inl t_groupOf)), (q_t_links, .inl (cG, 10, .inr (.inr (.inr (.inr (fun i => some (ra_t_links i)))))))] (wa (gsL 10 10 cJ ra_t_links t_links) [])) H → va_D A (wa [(q_t, .inr (5, [.ref q_t_groupOf, .ref q_t_links, .ref q_t_rows, .ref q_t_minor])), (q_t_groupOf, .inl (cI, 10, .inl t_groupOf)), (q_t_links, .inl (cG, 10, .inr (.inr (.inr (.inr (fun i => some (ra_t_links i)))))))] (wa (gsL 10 10 cJ ra_t_links t_links) [])) → va_S A s.heap H locs → some (t_links) = some RR → W p l e R s m args below meth c H locs 0 0 Q (F0 m pc ls [])) : ∀ (H : Heap) (locs : List Loc) (ls : Array Slot), va_P D CL (wa [(q_t, .inr (5, [.ref q_t_groupOf, .ref q_t_links, .ref q_t_rows, .ref q_t_minor])), (q_t_groupOf, .inl (cI, 10, .inl t_groupOf)), (q_t_links, .inl (cG, 10, .inr (.inr (.inr (.inr (fun i => some (ra_t_links i)))))))] (wa (gsL 10 10 cJ ra_t_links t_links0) [])) H → va_D A (wa [(q_t, .inr (5, [.ref q_t_groupOf, .ref q_t_links, .ref q_t_rows, .ref q_t_minor])), (q_t_groupOf, .inl (cI, 10, .inl t_groupOf)), (q_t_links, .inl (cG, 10, .inr (.inr (.inr (.inr (fun i => some (ra_t_links i)))))))] (wa (gsL 10 10 cJ ra_t_links t_links0) [])) → va_S A s.heap H locs → lv_has ls 5 [(0, .ref q_t), (1, .int p1), (2, .int p2)] → f_TreeCount_link p1 p2 t_groupOf t_links0 = some RR → W p l e R s m args below meth c H locs 0 0 Q (F0 m 0 ls []) := by
  intro H locs ls hP hD hS hl hf
  obtain ⟨hx, hb, hml, hown, hts, hK, hA, hfr, hlo, hlk⟩ := id C0
  unfold f_TreeCount_link at hf
  refine lv_aload_n hx hb d_TreeCount_link_0 rfl (lv_at hl 0 rfl) ?_
  refine va_get (D := D) (ci := 5) (v := .ref q_t_groupOf) (C := R_TreeCount) (T := F_TreeCount) (N := 4) hx hb hts i_TreeCount hown hK hP 0 rfl rfl 0 (by decide) (hts _ m_1_116) (fun _ h9 => h9) rfl d_TreeCount_link_1 ?_
  refine lv_iload_n hx hb d_TreeCount_link_4 rfl (lv_at hl 1 rfl) ?_
  obtain ⟨hg1, hf⟩ := gd_e hf
  refine va_iald hx hb hK hP 1 0 rfl rfl (inb_e hg1) d_TreeCount_link_5 ?_
  refine lv_topi (fun x1 ex1 => ?_)
  have hf := bn_e ex1 hf
  refine lv_istore_n (lv' := [(3, .int x1), (0, .ref q_t), (1, .int p1), (2, .int p2)]) hx hb d_TreeCount_link_6 rfl hl (by decide) rfl (fun ls hl => ?_)
  refine lv_aload_n hx hb d_TreeCount_link_7 rfl (lv_at hl 1 rfl) ?_
  refine va_get (D := D) (ci := 5) (v := .ref q_t_groupOf) (C := R_TreeCount) (T := F_TreeCount) (N := 4) hx hb hts i_TreeCount hown hK hP 0 rfl rfl 0 (by decide) (hts _ m_1_116) (fun _ h9 => h9) rfl d_TreeCount_link_8 ?_
  refine lv_iload_n hx hb d_TreeCount_link_11 rfl (lv_at hl 3 rfl) ?_
  obtain ⟨hg2, hf⟩ := gd_e hf
  refine va_iald hx hb hK hP 1 0 rfl rfl (inb_e hg2) d_TreeCount_link_12 ?_
  refine lv_topi (fun x2 ex2 => ?_)
  have hf := bn_e ex2 hf
  refine lv_istore (lv' := [(4, .int x2), (3, .int x1), (0, .ref q_t), (1, .int p1), (2, .int p2)]) hx hb d_TreeCount_link_13 hl (by decide) rfl (fun ls hl => ?_)
  refine lv_iload_n hx hb d_TreeCount_link_15 rfl (lv_at hl 1 rfl) ?_
  refine lv_iload hx hb d_TreeCount_link_16 (lv_at hl 0 rfl) ?_
  refine lv_icmp_eq (tgt := 73) hx hb d_TreeCount_link_18 (by decide) (fun hc1 => ?_) (fun hc1 => ?_)
  · have hf := if_t hc1 hf
    exact hret 73 _ _ _ t_links0 d_TreeCount_link_73 hP hD hS hf
  · have hf := if_f hc1 hf
    refine lv_aload_n hx hb d_TreeCount_link_21 rfl (lv_at hl 2 rfl) ?_
    refine va_get (D := D) (ci := 5) (v := .ref q_t_links) (C := R_TreeCount) (T := F_TreeCount) (N := 4) hx hb hts i_TreeCount hown hK hP 0 rfl rfl 1 (by decide) (hts _ m_1_117) (fun _ h9 => h9) rfl d_TreeCount_link_22 ?_
    refine lv_iload_n hx hb d_TreeCount_link_25 rfl (lv_at hl 1 rfl) ?_
    obtain ⟨hg3, hf⟩ := gd_e hf
    refine ga_ld hx hb hK hP 2 2 rfl rfl (inb_e hg3) d_TreeCount_link_26 ?_
    refine lv_iload_n hx hb d_TreeCount_link_27 rfl (lv_at hl 1 rfl) ?_
    refine lv_dup2_11 hx hb d_TreeCount_link_28 rfl rfl ?_
    obtain ⟨hg4, hf⟩ := gd_e hf
    refine va_lald hx hb hK hP (3 + x1.toNatClampNeg) 1 (gg0 rfl (inb_lt hg3)) rfl (inb_e hg4) d_TreeCount_link_29 ?_
    refine lv_lconst (v := 1) hx hb d_TreeCount_link_30 (by decide) ?_
    refine lv_ladd hx hb d_TreeCount_link_31 ?_
    obtain ⟨hg5, hf⟩ := gd_e hf
    refine va_last hx hb hK hP hD hS (3 + x1.toNatClampNeg) 1 (gg0 rfl (inb_lt hg3)) rfl (inb_e hg5) d_TreeCount_link_32 (fun H locs hP hD hS => ?_)
    have hW9 : List.set (wa [(q_t, .inr (5, [.ref q_t_groupOf, .ref q_t_links, .ref q_t_rows, .ref q_t_minor])), (q_t_groupOf, .inl (cI, 10, .inl t_groupOf)), (q_t_links, .inl (cG, 10, .inr (.inr (.inr (.inr (fun i => some (ra_t_links i)))))))] (wa (gsL 10 10 cJ ra_t_links t_links0) [])) (3 + x1.toNatClampNeg) (ra_t_links x1.toNatClampNeg, .inl (cJ, 10, .inr (.inl (vp_updL (t_links0 x1.toNatClampNeg) x1.toNatClampNeg ((t_links0 x1.toNatClampNeg x1.toNatClampNeg) + (1 : Int64)))))) = (wa [(q_t, .inr (5, [.ref q_t_groupOf, .ref q_t_links, .ref q_t_rows, .ref q_t_minor])), (q_t_groupOf, .inl (cI, 10, .inl t_groupOf)), (q_t_links, .inl (cG, 10, .inr (.inr (.inr (.inr (fun i => some (ra_t_links i)))))))] (wa (gsL 10 10 cJ ra_t_links (upGL t_links0 x1.toNatClampNeg x1.toNatClampNeg ((t_links0 x1.toNatClampNeg x1.toNatClampNeg) + (1 : Int64)))) [])) := gt0 rfl (inb_lt hg3)
    rw [hW9] at hP hD
    refine lv_aload_n hx hb d_TreeCount_link_33 rfl (lv_at hl 2 rfl) ?_
    refine va_get (D := D) (ci := 5) (v := .ref q_t_links) (C := R_TreeCount) (T := F_TreeCount) (N := 4) hx hb hts i_TreeCount hown hK hP 0 rfl rfl 1 (by decide) (hts _ m_1_117) (fun _ h9 => h9) rfl d_TreeCount_link_34 ?_
    refine lv_iload hx hb d_TreeCount_link_37 (lv_at hl 0 rfl) ?_
    obtain ⟨hg6, hf⟩ := gd_e hf
    refine ga_ld hx hb hK hP 2 2 rfl rfl (inb_e hg6) d_TreeCount_link_39 ?_
    refine lv_iload hx hb d_TreeCount_link_40 (lv_at hl 0 rfl) ?_
    refine lv_dup2_11 hx hb d_TreeCount_link_42 rfl rfl ?_
    obtain ⟨hg7, hf⟩ := gd_e hf
    refine va_lald hx hb hK hP (3 + x2.toNatClampNeg) 1 (gg0 rfl (inb_lt hg6)) rfl (inb_e hg7) d_TreeCount_link_43 ?_
    refine lv_lconst (v := 1) hx hb d_TreeCount_link_44 (by decide) ?_
    refine lv_ladd hx hb d_TreeCount_link_45 ?_
    obtain ⟨hg8, hf⟩ := gd_e hf
    refine va_last hx hb hK hP hD hS (3 + x2.toNatClampNeg) 1 (gg0 rfl (inb_lt hg6)) rfl (inb_e hg8) d_TreeCount_link_46 (fun H locs hP hD hS => ?_)
    have hW9 : List.set (wa [(q_t, .inr (5, [.ref q_t_groupOf, .ref q_t_links, .ref q_t_rows, .ref q_t_minor])), (q_t_groupOf, .inl (cI, 10, .inl t_groupOf)), (q_t_links, .inl (cG, 10, .inr (.inr (.inr (.inr (fun i => some (ra_t_links i)))))))] (wa (gsL 10 10 cJ ra_t_links (upGL t_links0 x1.toNatClampNeg x1.toNatClampNeg ((t_links0 x1.toNatClampNeg x1.toNatClampNeg) + (1 : Int64)))) [])) (3 + x2.toNatClampNeg) (ra_t_links x2.toNatClampNeg, .inl (cJ, 10, .inr (.inl (vp_updL ((upGL t_links0 x1.toNatClampNeg x1.toNatClampNeg ((t_links0 x1.toNatClampNeg x1.toNatClampNeg) + (1 : Int64))) x2.toNatClampNeg) x2.toNatClampNeg (((upGL t_links0 x1.toNatClampNeg x1.toNatClampNeg ((t_links0 x1.toNatClampNeg x1.toNatClampNeg) + (1 : Int64))) x2.toNatClampNeg x2.toNatClampNeg) + (1 : Int64)))))) = (wa [(q_t, .inr (5, [.ref q_t_groupOf, .ref q_t_links, .ref q_t_rows, .ref q_t_minor])), (q_t_groupOf, .inl (cI, 10, .inl t_groupOf)), (q_t_links, .inl (cG, 10, .inr (.inr (.inr (.inr (fun i => some (ra_t_links i)))))))] (wa (gsL 10 10 cJ ra_t_links (upGL (upGL t_links0 x1.toNatClampNeg x1.toNatClampNeg ((t_links0 x1.toNatClampNeg x1.toNatClampNeg) + (1 : Int64))) x2.toNatClampNeg x2.toNatClampNeg (((upGL t_links0 x1.toNatClampNeg x1.toNatClampNeg ((t_links0 x1.toNatClampNeg x1.toNatClampNeg) + (1 : Int64))) x2.toNatClampNeg x2.toNatClampNeg) + (1 : Int64)))) [])) := gt0 rfl (inb_lt hg6)
    rw [hW9] at hP hD
    refine lv_aload_n hx hb d_TreeCount_link_47 rfl (lv_at hl 2 rfl) ?_
    refine va_get (D := D) (ci := 5) (v := .ref q_t_links) (C := R_TreeCount) (T := F_TreeCount) (N := 4) hx hb hts i_TreeCount hown hK hP 0 rfl rfl 1 (by decide) (hts _ m_1_117) (fun _ h9 => h9) rfl d_TreeCount_link_48 ?_
    refine lv_iload_n hx hb d_TreeCount_link_51 rfl (lv_at hl 1 rfl) ?_
    obtain ⟨hg9, hf⟩ := gd_e hf
    refine ga_ld hx hb hK hP 2 2 rfl rfl (inb_e hg9) d_TreeCount_link_52 ?_
    refine lv_iload hx hb d_TreeCount_link_53 (lv_at hl 0 rfl) ?_
    refine lv_dup2_11 hx hb d_TreeCount_link_55 rfl rfl ?_
    obtain ⟨hg10, hf⟩ := gd_e hf
    refine va_lald hx hb hK hP (3 + x1.toNatClampNeg) 1 (gg0 rfl (inb_lt hg9)) rfl (inb_e hg10) d_TreeCount_link_56 ?_
    refine lv_lconst (v := 1) hx hb d_TreeCount_link_57 (by decide) ?_
    refine lv_lsub hx hb d_TreeCount_link_58 ?_
    obtain ⟨hg11, hf⟩ := gd_e hf
    refine va_last hx hb hK hP hD hS (3 + x1.toNatClampNeg) 1 (gg0 rfl (inb_lt hg9)) rfl (inb_e hg11) d_TreeCount_link_59 (fun H locs hP hD hS => ?_)
    have hW9 : List.set (wa [(q_t, .inr (5, [.ref q_t_groupOf, .ref q_t_links, .ref q_t_rows, .ref q_t_minor])), (q_t_groupOf, .inl (cI, 10, .inl t_groupOf)), (q_t_links, .inl (cG, 10, .inr (.inr (.inr (.inr (fun i => some (ra_t_links i)))))))] (wa (gsL 10 10 cJ ra_t_links (upGL (upGL t_links0 x1.toNatClampNeg x1.toNatClampNeg ((t_links0 x1.toNatClampNeg x1.toNatClampNeg) + (1 : Int64))) x2.toNatClampNeg x2.toNatClampNeg (((upGL t_links0 x1.toNatClampNeg x1.toNatClampNeg ((t_links0 x1.toNatClampNeg x1.toNatClampNeg) + (1 : Int64))) x2.toNatClampNeg x2.toNatClampNeg) + (1 : Int64)))) [])) (3 + x1.toNatClampNeg) (ra_t_links x1.toNatClampNeg, .inl (cJ, 10, .inr (.inl (vp_updL ((upGL (upGL t_links0 x1.toNatClampNeg x1.toNatClampNeg ((t_links0 x1.toNatClampNeg x1.toNatClampNeg) + (1 : Int64))) x2.toNatClampNeg x2.toNatClampNeg (((upGL t_links0 x1.toNatClampNeg x1.toNatClampNeg ((t_links0 x1.toNatClampNeg x1.toNatClampNeg) + (1 : Int64))) x2.toNatClampNeg x2.toNatClampNeg) + (1 : Int64))) x1.toNatClampNeg) x2.toNatClampNeg (((upGL (upGL t_links0 x1.toNatClampNeg x1.toNatClampNeg ((t_links0 x1.toNatClampNeg x1.toNatClampNeg) + (1 : Int64))) x2.toNatClampNeg x2.toNatClampNeg (((upGL t_links0 x1.toNatClampNeg x1.toNatClampNeg ((t_links0 x1.toNatClampNeg x1.toNatClampNeg) + (1 : Int64))) x2.toNatClampNeg x2.toNatClampNeg) + (1 : Int64))) x1.toNatClampNeg x2.toNatClampNeg) - (1 : Int64)))))) = (wa [(q_t, .inr (5, [.ref q_t_groupOf, .ref q_t_links, .ref q_t_rows, .ref q_t_minor])), (q_t_groupOf, .inl (cI, 10, .inl t_groupOf)), (q_t_links, .inl (cG, 10, .inr (.inr (.inr (.inr (fun i => some (ra_t_links i)))))))] (wa (gsL 10 10 cJ ra_t_links (upGL (upGL (upGL t_links0 x1.toNatClampNeg x1.toNatClampNeg ((t_links0 x1.toNatClampNeg x1.toNatClampNeg) + (1 : Int64))) x2.toNatClampNeg x2.toNatClampNeg (((upGL t_links0 x1.toNatClampNeg x1.toNatClampNeg ((t_links0 x1.toNatClampNeg x1.toNatClampNeg) + (1 : Int64))) x2.toNatClampNeg x2.toNatClampNeg) + (1 : Int64))) x1.toNatClampNeg x2.toNatClampNeg (((upGL (upGL t_links0 x1.toNatClampNeg x1.toNatClampNeg ((t_links0 x1.toNatClampNeg x1.toNatClampNeg) + (1 : Int64))) x2.toNatClampNeg x2.toNatClampNeg (((upGL t_links0 x1.toNatClampNeg x1.toNatClampNeg ((t_links0 x1.toNatClampNeg x1.toNatClampNeg) + (1 : Int64))) x2.toNatClampNeg x2.toNatClampNeg) + (1 : Int64))) x1.toNatClampNeg x2.toNatClampNeg) - (1 : Int64)))) [])) := gt0 rfl (inb_lt hg9)
    rw [hW9] at hP hD
    refine lv_aload_n hx hb d_TreeCount_link_60 rfl (lv_at hl 2 rfl) ?_
    refine va_get (D := D) (ci := 5) (v := .ref q_t_links) (C := R_TreeCount) (T := F_TreeCount) (N := 4) hx hb hts i_TreeCount hown hK hP 0 rfl rfl 1 (by decide) (hts _ m_1_117) (fun _ h9 => h9) rfl d_TreeCount_link_61 ?_
    refine lv_iload hx hb d_TreeCount_link_64 (lv_at hl 0 rfl) ?_
    obtain ⟨hg12, hf⟩ := gd_e hf
    refine ga_ld hx hb hK hP 2 2 rfl rfl (inb_e hg12) d_TreeCount_link_66 ?_
    refine lv_iload_n hx hb d_TreeCount_link_67 rfl (lv_at hl 1 rfl) ?_
    refine lv_dup2_11 hx hb d_TreeCount_link_68 rfl rfl ?_
    obtain ⟨hg13, hf⟩ := gd_e hf
    refine va_lald hx hb hK hP (3 + x2.toNatClampNeg) 1 (gg0 rfl (inb_lt hg12)) rfl (inb_e hg13) d_TreeCount_link_69 ?_
    refine lv_lconst (v := 1) hx hb d_TreeCount_link_70 (by decide) ?_
    refine lv_lsub hx hb d_TreeCount_link_71 ?_
    obtain ⟨hg14, hf⟩ := gd_e hf
    refine va_last hx hb hK hP hD hS (3 + x2.toNatClampNeg) 1 (gg0 rfl (inb_lt hg12)) rfl (inb_e hg14) d_TreeCount_link_72 (fun H locs hP hD hS => ?_)
    have hW9 : List.set (wa [(q_t, .inr (5, [.ref q_t_groupOf, .ref q_t_links, .ref q_t_rows, .ref q_t_minor])), (q_t_groupOf, .inl (cI, 10, .inl t_groupOf)), (q_t_links, .inl (cG, 10, .inr (.inr (.inr (.inr (fun i => some (ra_t_links i)))))))] (wa (gsL 10 10 cJ ra_t_links (upGL (upGL (upGL t_links0 x1.toNatClampNeg x1.toNatClampNeg ((t_links0 x1.toNatClampNeg x1.toNatClampNeg) + (1 : Int64))) x2.toNatClampNeg x2.toNatClampNeg (((upGL t_links0 x1.toNatClampNeg x1.toNatClampNeg ((t_links0 x1.toNatClampNeg x1.toNatClampNeg) + (1 : Int64))) x2.toNatClampNeg x2.toNatClampNeg) + (1 : Int64))) x1.toNatClampNeg x2.toNatClampNeg (((upGL (upGL t_links0 x1.toNatClampNeg x1.toNatClampNeg ((t_links0 x1.toNatClampNeg x1.toNatClampNeg) + (1 : Int64))) x2.toNatClampNeg x2.toNatClampNeg (((upGL t_links0 x1.toNatClampNeg x1.toNatClampNeg ((t_links0 x1.toNatClampNeg x1.toNatClampNeg) + (1 : Int64))) x2.toNatClampNeg x2.toNatClampNeg) + (1 : Int64))) x1.toNatClampNeg x2.toNatClampNeg) - (1 : Int64)))) [])) (3 + x2.toNatClampNeg) (ra_t_links x2.toNatClampNeg, .inl (cJ, 10, .inr (.inl (vp_updL ((upGL (upGL (upGL t_links0 x1.toNatClampNeg x1.toNatClampNeg ((t_links0 x1.toNatClampNeg x1.toNatClampNeg) + (1 : Int64))) x2.toNatClampNeg x2.toNatClampNeg (((upGL t_links0 x1.toNatClampNeg x1.toNatClampNeg ((t_links0 x1.toNatClampNeg x1.toNatClampNeg) + (1 : Int64))) x2.toNatClampNeg x2.toNatClampNeg) + (1 : Int64))) x1.toNatClampNeg x2.toNatClampNeg (((upGL (upGL t_links0 x1.toNatClampNeg x1.toNatClampNeg ((t_links0 x1.toNatClampNeg x1.toNatClampNeg) + (1 : Int64))) x2.toNatClampNeg x2.toNatClampNeg (((upGL t_links0 x1.toNatClampNeg x1.toNatClampNeg ((t_links0 x1.toNatClampNeg x1.toNatClampNeg) + (1 : Int64))) x2.toNatClampNeg x2.toNatClampNeg) + (1 : Int64))) x1.toNatClampNeg x2.toNatClampNeg) - (1 : Int64))) x2.toNatClampNeg) x1.toNatClampNeg (((upGL (upGL (upGL t_links0 x1.toNatClampNeg x1.toNatClampNeg ((t_links0 x1.toNatClampNeg x1.toNatClampNeg) + (1 : Int64))) x2.toNatClampNeg x2.toNatClampNeg (((upGL t_links0 x1.toNatClampNeg x1.toNatClampNeg ((t_links0 x1.toNatClampNeg x1.toNatClampNeg) + (1 : Int64))) x2.toNatClampNeg x2.toNatClampNeg) + (1 : Int64))) x1.toNatClampNeg x2.toNatClampNeg (((upGL (upGL t_links0 x1.toNatClampNeg x1.toNatClampNeg ((t_links0 x1.toNatClampNeg x1.toNatClampNeg) + (1 : Int64))) x2.toNatClampNeg x2.toNatClampNeg (((upGL t_links0 x1.toNatClampNeg x1.toNatClampNeg ((t_links0 x1.toNatClampNeg x1.toNatClampNeg) + (1 : Int64))) x2.toNatClampNeg x2.toNatClampNeg) + (1 : Int64))) x1.toNatClampNeg x2.toNatClampNeg) - (1 : Int64))) x2.toNatClampNeg x1.toNatClampNeg) - (1 : Int64)))))) = (wa [(q_t, .inr (5, [.ref q_t_groupOf, .ref q_t_links, .ref q_t_rows, .ref q_t_minor])), (q_t_groupOf, .inl (cI, 10, .inl t_groupOf)), (q_t_links, .inl (cG, 10, .inr (.inr (.inr (.inr (fun i => some (ra_t_links i)))))))] (wa (gsL 10 10 cJ ra_t_links (upGL (upGL (upGL (upGL t_links0 x1.toNatClampNeg x1.toNatClampNeg ((t_links0 x1.toNatClampNeg x1.toNatClampNeg) + (1 : Int64))) x2.toNatClampNeg x2.toNatClampNeg (((upGL t_links0 x1.toNatClampNeg x1.toNatClampNeg ((t_links0 x1.toNatClampNeg x1.toNatClampNeg) + (1 : Int64))) x2.toNatClampNeg x2.toNatClampNeg) + (1 : Int64))) x1.toNatClampNeg x2.toNatClampNeg (((upGL (upGL t_links0 x1.toNatClampNeg x1.toNatClampNeg ((t_links0 x1.toNatClampNeg x1.toNatClampNeg) + (1 : Int64))) x2.toNatClampNeg x2.toNatClampNeg (((upGL t_links0 x1.toNatClampNeg x1.toNatClampNeg ((t_links0 x1.toNatClampNeg x1.toNatClampNeg) + (1 : Int64))) x2.toNatClampNeg x2.toNatClampNeg) + (1 : Int64))) x1.toNatClampNeg x2.toNatClampNeg) - (1 : Int64))) x2.toNatClampNeg x1.toNatClampNeg (((upGL (upGL (upGL t_links0 x1.toNatClampNeg x1.toNatClampNeg ((t_links0 x1.toNatClampNeg x1.toNatClampNeg) + (1 : Int64))) x2.toNatClampNeg x2.toNatClampNeg (((upGL t_links0 x1.toNatClampNeg x1.toNatClampNeg ((t_links0 x1.toNatClampNeg x1.toNatClampNeg) + (1 : Int64))) x2.toNatClampNeg x2.toNatClampNeg) + (1 : Int64))) x1.toNatClampNeg x2.toNatClampNeg (((upGL (upGL t_links0 x1.toNatClampNeg x1.toNatClampNeg ((t_links0 x1.toNatClampNeg x1.toNatClampNeg) + (1 : Int64))) x2.toNatClampNeg x2.toNatClampNeg (((upGL t_links0 x1.toNatClampNeg x1.toNatClampNeg ((t_links0 x1.toNatClampNeg x1.toNatClampNeg) + (1 : Int64))) x2.toNatClampNeg x2.toNatClampNeg) + (1 : Int64))) x1.toNatClampNeg x2.toNatClampNeg) - (1 : Int64))) x2.toNatClampNeg x1.toNatClampNeg) - (1 : Int64)))) [])) := gt0 rfl (inb_lt hg12)
    rw [hW9] at hP hD
    exact hret 73 _ _ _ (upGL (upGL (upGL (upGL t_links0 x1.toNatClampNeg x1.toNatClampNeg ((t_links0 x1.toNatClampNeg x1.toNatClampNeg) + (1 : Int64))) x2.toNatClampNeg x2.toNatClampNeg (((upGL t_links0 x1.toNatClampNeg x1.toNatClampNeg ((t_links0 x1.toNatClampNeg x1.toNatClampNeg) + (1 : Int64))) x2.toNatClampNeg x2.toNatClampNeg) + (1 : Int64))) x1.toNatClampNeg x2.toNatClampNeg (((upGL (upGL t_links0 x1.toNatClampNeg x1.toNatClampNeg ((t_links0 x1.toNatClampNeg x1.toNatClampNeg) + (1 : Int64))) x2.toNatClampNeg x2.toNatClampNeg (((upGL t_links0 x1.toNatClampNeg x1.toNatClampNeg ((t_links0 x1.toNatClampNeg x1.toNatClampNeg) + (1 : Int64))) x2.toNatClampNeg x2.toNatClampNeg) + (1 : Int64))) x1.toNatClampNeg x2.toNatClampNeg) - (1 : Int64))) x2.toNatClampNeg x1.toNatClampNeg (((upGL (upGL (upGL t_links0 x1.toNatClampNeg x1.toNatClampNeg ((t_links0 x1.toNatClampNeg x1.toNatClampNeg) + (1 : Int64))) x2.toNatClampNeg x2.toNatClampNeg (((upGL t_links0 x1.toNatClampNeg x1.toNatClampNeg ((t_links0 x1.toNatClampNeg x1.toNatClampNeg) + (1 : Int64))) x2.toNatClampNeg x2.toNatClampNeg) + (1 : Int64))) x1.toNatClampNeg x2.toNatClampNeg (((upGL (upGL t_links0 x1.toNatClampNeg x1.toNatClampNeg ((t_links0 x1.toNatClampNeg x1.toNatClampNeg) + (1 : Int64))) x2.toNatClampNeg x2.toNatClampNeg (((upGL t_links0 x1.toNatClampNeg x1.toNatClampNeg ((t_links0 x1.toNatClampNeg x1.toNatClampNeg) + (1 : Int64))) x2.toNatClampNeg x2.toNatClampNeg) + (1 : Int64))) x1.toNatClampNeg x2.toNatClampNeg) - (1 : Int64))) x2.toNatClampNeg x1.toNatClampNeg) - (1 : Int64))) d_TreeCount_link_73 hP hD hS hf
set_option maxRecDepth 100000 in
set_option maxHeartbeats 4000000 in
theorem c_TreeCount_link (l : Launch) (D : va_G) (cI cJ cG cZ : ClassId) (q_t q_t_groupOf q_t_links q_t_rows q_t_minor : Nat) (ra_t_links : Nat → Nat) (t_groupOf : Nat → Int32) (t_links0 : Nat → Nat → Int64) (p1 : Int32) (p2 : Int32) {t_links' : Nat → Nat → Int64} (hf : f_TreeCount_link p1 p2 t_groupOf t_links0 = some (t_links')) : MeG l D CL (TYs cI cJ cG cZ) y_TreeCount_link ws_TreeCount_link (rm_TreeCount_link) [.ref q_t, .int p1, .int p2] (wa [(q_t, .inr (5, [.ref q_t_groupOf, .ref q_t_links, .ref q_t_rows, .ref q_t_minor])), (q_t_groupOf, .inl (cI, 10, .inl t_groupOf)), (q_t_links, .inl (cG, 10, .inr (.inr (.inr (.inr (fun i => some (ra_t_links i)))))))] (wa (gsL 10 10 cJ ra_t_links t_links0) [])) none (wa [(q_t, .inr (5, [.ref q_t_groupOf, .ref q_t_links, .ref q_t_rows, .ref q_t_minor])), (q_t_groupOf, .inl (cI, 10, .inl t_groupOf)), (q_t_links, .inl (cG, 10, .inr (.inr (.inr (.inr (fun i => some (ra_t_links i)))))))] (wa (gsL 10 10 cJ ra_t_links t_links') [])) := by
  intro sz
  refine Met.ofW (cc := b_TreeCount_link) (maxL := 5) (ret := none) (by decide) rfl ?_
  intro p e s m args below meth c s₁ B hml hv
  obtain ⟨rfl, hsz, hP, hK, hD0⟩ := hv
  subst hsz
  have hD := hD0.self (sz := s.heap.size)
  generalize hAe : va_A (wa [(q_t, .inr (5, [.ref q_t_groupOf, .ref q_t_links, .ref q_t_rows, .ref q_t_minor])), (q_t_groupOf, .inl (cI, 10, .inl t_groupOf)), (q_t_links, .inl (cG, 10, .inr (.inr (.inr (.inr (fun i => some (ra_t_links i)))))))] (wa (gsL 10 10 cJ ra_t_links t_links0) [])) s.heap.size = A at hD ⊢
  have C0 : CX p (headSpec ws_TreeCount_link (rm_TreeCount_link)).room s m _ meth c b_TreeCount_link 5 R_TreeCount lw_g D CL (TYs cI cJ cG cZ) A 0 0 := ⟨B.exec, B.bytes, hml, findClass_of_methodNamed B.named, fun w h => atoms_spec (ws := ws_TreeCount_link) B.pre w (List.mem_cons_of_mem _ h), hK, fun q h => by rw [← hAe]; exact Or.inr h, Nat.le_of_ble_eq_true rfl, Nat.le_of_ble_eq_true rfl, B.notSynchronized⟩
  have hl := lv_entry ([.ref q_t, .int p1, .int p2]) (n := 5) (Nat.le_of_ble_eq_true rfl)
  rw [lg_entry_eq]
  generalize (lg_sl ([.ref q_t, .int p1, .int p2]) ++ List.replicate (5 - (lg_sl ([.ref q_t, .int p1, .int p2])).length) Slot.unset).toArray = ls at hl ⊢
  have hl : lv_has ls 5 [(0, .ref q_t), (1, .int p1), (2, .int p2)] := hl
  exact w_TreeCount_link_e C0 (fun pc ls H locs t_links hdg hP hD hS e => by cases e; exact W.vret B.exec B.bytes B.returns (fun t ht hW => ⟨⟨rfl, by rw [ht]; exact hP, va_K.moved hW.alike hK, hD⟩, hS.F ht⟩) hS.2.2 hdg) _ _ _ hP hD va_S.rf (lv_sub hl [0, 1, 2] rfl) hf
