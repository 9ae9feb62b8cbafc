abbrev b_Graph_addArc : ByteArray := prog_5_method_3_code
def y_Graph_addArc : MethodName := ⟨R_Graph, "addArc", "(III)I"⟩
def ws_Graph_addArc : List Cond := .code y_Graph_addArc b_Graph_addArc 5 (some .int) :: lw_g
theorem wi_Graph_addArc : ∀ w ∈ ws_Graph_addArc, w ∈ lw_g := wi_of m_2_31
abbrev rm_Graph_addArc : Room := { frames := 2, cells := 0, slots := 0, locals := 44 }
theorem hd_Graph_addArc : y_Graph_addArc.cls = R_Graph ∧ y_Graph_addArc.cls ≠ "java/lang/invoke/MethodHandle" ∧ y_Graph_addArc.cls ≠ "java/lang/invoke/VarHandle" ∧ (parseMethodDescriptor y_Graph_addArc.desc).map (fun d => d.parameters.length) = some 3 := by decide +kernel
theorem d_Graph_addArc_0 : decode b_Graph_addArc 0 = .ok (.aload_n 0, 1) := by decide +kernel
theorem d_Graph_addArc_1 : decode b_Graph_addArc 1 = .ok (.getfield 28, 3) := by decide +kernel
theorem d_Graph_addArc_4 : decode b_Graph_addArc 4 = .ok (.istore 4, 2) := by decide +kernel
theorem d_Graph_addArc_6 : decode b_Graph_addArc 6 = .ok (.aload_n 0, 1) := by decide +kernel
theorem d_Graph_addArc_7 : decode b_Graph_addArc 7 = .ok (.dup, 1) := by decide +kernel
theorem d_Graph_addArc_8 : decode b_Graph_addArc 8 = .ok (.getfield 28, 3) := by decide +kernel
theorem d_Graph_addArc_11 : decode b_Graph_addArc 11 = .ok (.iconst 1, 1) := by decide +kernel
theorem d_Graph_addArc_12 : decode b_Graph_addArc 12 = .ok (.iadd, 1) := by decide +kernel
theorem d_Graph_addArc_13 : decode b_Graph_addArc 13 = .ok (.putfield 28, 3) := by decide +kernel
theorem d_Graph_addArc_16 : decode b_Graph_addArc 16 = .ok (.aload_n 0, 1) := by decide +kernel
theorem d_Graph_addArc_17 : decode b_Graph_addArc 17 = .ok (.getfield 9, 3) := by decide +kernel
theorem d_Graph_addArc_20 : decode b_Graph_addArc 20 = .ok (.iload 4, 2) := by decide +kernel
theorem d_Graph_addArc_22 : decode b_Graph_addArc 22 = .ok (.iload_n 1, 1) := by decide +kernel
theorem d_Graph_addArc_23 : decode b_Graph_addArc 23 = .ok (.iastore, 1) := by decide +kernel
theorem d_Graph_addArc_24 : decode b_Graph_addArc 24 = .ok (.aload_n 0, 1) := by decide +kernel
theorem d_Graph_addArc_25 : decode b_Graph_addArc 25 = .ok (.getfield 15, 3) := by decide +kernel
theorem d_Graph_addArc_28 : decode b_Graph_addArc 28 = .ok (.iload 4, 2) := by decide +kernel
theorem d_Graph_addArc_30 : decode b_Graph_addArc 30 = .ok (.iload_n 2, 1) := by decide +kernel
theorem d_Graph_addArc_31 : decode b_Graph_addArc 31 = .ok (.iastore, 1) := by decide +kernel
theorem d_Graph_addArc_32 : decode b_Graph_addArc 32 = .ok (.aload_n 0, 1) := by decide +kernel
theorem d_Graph_addArc_33 : decode b_Graph_addArc 33 = .ok (.getfield 18, 3) := by decide +kernel
theorem d_Graph_addArc_36 : decode b_Graph_addArc 36 = .ok (.iload 4, 2) := by decide +kernel
theorem d_Graph_addArc_38 : decode b_Graph_addArc 38 = .ok (.iload_n 3, 1) := by decide +kernel
theorem d_Graph_addArc_39 : decode b_Graph_addArc 39 = .ok (.iastore, 1) := by decide +kernel
theorem d_Graph_addArc_40 : decode b_Graph_addArc 40 = .ok (.aload_n 0, 1) := by decide +kernel
theorem d_Graph_addArc_41 : decode b_Graph_addArc 41 = .ok (.dup, 1) := by decide +kernel
theorem d_Graph_addArc_42 : decode b_Graph_addArc 42 = .ok (.getfield 31, 3) := by decide +kernel
theorem d_Graph_addArc_45 : decode b_Graph_addArc 45 = .ok (.lconst 1, 1) := by decide +kernel
theorem d_Graph_addArc_46 : decode b_Graph_addArc 46 = .ok (.iload 4, 2) := by decide +kernel
theorem d_Graph_addArc_48 : decode b_Graph_addArc 48 = .ok (.lshl, 1) := by decide +kernel
theorem d_Graph_addArc_49 : decode b_Graph_addArc 49 = .ok (.lor, 1) := by decide +kernel
theorem d_Graph_addArc_50 : decode b_Graph_addArc 50 = .ok (.putfield 31, 3) := by decide +kernel
theorem d_Graph_addArc_53 : decode b_Graph_addArc 53 = .ok (.aload_n 0, 1) := by decide +kernel
theorem d_Graph_addArc_54 : decode b_Graph_addArc 54 = .ok (.iload 4, 2) := by decide +kernel
theorem d_Graph_addArc_56 : decode b_Graph_addArc 56 = .ok (.invokevirtual 35, 3) := by decide +kernel
theorem d_Graph_addArc_59 : decode b_Graph_addArc 59 = .ok (.iload 4, 2) := by decide +kernel
theorem d_Graph_addArc_61 : decode b_Graph_addArc 61 = .ok (.ireturn, 1) := by decide +kernel
def f_Graph_addArc (N : Nat) (p1 : Int32) (p2 : Int32) (p3 : Int32) (t_numbered0 : Int32) (t_size0 : Int32) (t_present0 : Int64) (t_from0 : Nat → Int32) (t_to0 : Nat → Int32) (t_weight0 : Nat → Int32) (t_order0 : Nat → Int32) : Option (Int32 × Int32 × (Nat → Int32) × (Nat → Int32) × (Nat → Int32) × Int64 × (Nat → Int32) × Int32) :=
  bn (t_numbered0 + (1 : Int32)) fun x1 =>
  gd (inb t_numbered0 30) <|
  gd (inb t_numbered0 30) <|
  gd (inb t_numbered0 30) <|
  bn (t_present0 ||| ((1 : Int64) <<< (t_numbered0.toInt64 &&& 63))) fun x2 =>
  bk2 (f_Graph_putInOrder N t_numbered0 t_size0 t_order0 (upd t_weight0 t_numbered0.toNatClampNeg p3)) fun c3 c4 =>
  some (t_numbered0, x1, upd t_from0 t_numbered0.toNatClampNeg p1, upd t_to0 t_numbered0.toNatClampNeg p2, upd t_weight0 t_numbered0.toNatClampNeg p3, x2, c3, c4)
set_option maxRecDepth 100000 in
set_option maxHeartbeats 4000000 in
theorem w_Graph_addArc_e {p : Program} {l : Launch} {e : Env} {R : Room} {s : State} {m : MethodId} {args : Array Value} {below : List Frame} {meth : Method} {c : Code} {D : va_G} {cI cJ cG cZ : ClassId} {A : Nat → Prop} {Q : State → Prop} {q_t q_t_from q_t_to q_t_weight q_t_order : Nat} {t_nodes : Int32} {t_numbered0 : Int32} {t_size0 : Int32} {t_present0 : Int64} {t_from0 : Nat → Int32} {t_to0 : Nat → Int32} {t_weight0 : Nat → Int32} {t_order0 : Nat → Int32} {p1 : Int32} {p2 : Int32} {p3 : Int32} {N : Nat} {RR : Int32 × Int32 × (Nat → Int32) × (Nat → Int32) × (Nat → Int32) × Int64 × (Nat → Int32) × Int32} (C0 : CX p R s m args meth c b_Graph_addArc 5 R_Graph lw_g D CL (TYs cI cJ cG cZ) A 2 44) (hret : ∀ (pc : Nat) (ls : Array Slot) (H : Heap) (locs : List Loc) (v : Int32) (t_numbered : Int32) (t_from : Nat → Int32) (t_to : Nat → Int32) (t_weight : Nat → Int32) (t_present : Int64) (t_order : Nat → Int32) (t_size : Int32), decode b_Graph_addArc pc = .ok (.ireturn, 1) → va_P D CL [(q_t, .inr (2, [.ref q_t_from, .ref q_t_to, .ref q_t_weight, .ref q_t_order, .int t_nodes, .int t_numbered, .int t_size, .long t_present])), (q_t_from, .inl (cI, 30, .inl t_from)), (q_t_to, .inl (cI, 30, .inl t_to)), (q_t_weight, .inl (cI, 30, .inl t_weight)), (q_t_order, .inl (cI, 30, .inl t_order))] H → va_D A [(q_t, .inr (2, [.ref q_t_from, .ref q_t_to, .ref q_t_weight, .ref q_t_order, .int t_nodes, .int t_numbered, .int t_size, .long t_present])), (q_t_from, .inl (cI, 30, .inl t_from)), (q_t_to, .inl (cI, 30, .inl t_to)), (q_t_weight, .inl (cI, 30, .inl t_weight)), (q_t_order, .inl (cI, 30, .inl t_order))] → va_S A s.heap H locs → some (v, t_numbered, t_from, t_to, t_weight, t_present, t_order, t_size) = some RR → W p l e R s m args below meth c H locs 0 0 Q (F0 m pc ls [.int v])) : ∀ (H : Heap) (locs : List Loc) (ls : Array Slot), va_P D CL [(q_t, .inr (2, [.ref q_t_from, .ref q_t_to, .ref q_t_weight, .ref q_t_order, .int t_nodes, .int t_numbered0, .int t_size0, .long t_present0])), (q_t_from, .inl (cI, 30, .inl t_from0)), (q_t_to, .inl (cI, 30, .inl t_to0)), (q_t_weight, .inl (cI, 30, .inl t_weight0)), (q_t_order, .inl (cI, 30, .inl t_order0))] H → va_D A [(q_t, .inr (2, [.ref q_t_from, .ref q_t_to, .ref q_t_weight, .ref q_t_order, .int t_nodes, .int t_numbered0, .int t_size0, .long t_present0])), (q_t_from, .inl (cI, 30, .inl t_from0)), (q_t_to, .inl (cI, 30, .inl t_to0)), (q_t_weight, .inl (cI, 30, .inl t_weight0)), (q_t_order, .inl (cI, 30, .inl t_order0))] → va_S A s.heap H locs → lv_has ls 5 [(0, .ref q_t), (1, .int p1), (2, .int p2), (3, .int p3)] → f_Graph_addArc N p1 p2 p3 t_numbered0 t_size0 t_present0 t_from0 t_to0 t_weight0 t_order0 = some RR → W p l e R s m args below meth c H locs 0 0 Q (F0 m 0 ls []) := by
  intro H locs ls hP hD hS hl hf
  obtain ⟨hx, hb, hml, hown, hts, hK, hA, hfr, hlo, hlk⟩ := id C0
  unfold f_Graph_addArc at hf
  refine lv_aload_n hx hb d_Graph_addArc_0 rfl (lv_at hl 0 rfl) ?_
  refine va_get (D := D) (ci := 2) (v := .int t_numbered0) (C := R_Graph) (T := F_Graph) (N := 8) hx hb hts i_Graph hown hK hP 0 rfl rfl 5 (by decide) (hts _ m_1_55) (fun _ h9 => h9) rfl d_Graph_addArc_1 ?_
  refine lv_istore (lv' := [(4, .int t_numbered0), (0, .ref q_t), (1, .int p1), (2, .int p2), (3, .int p3)]) hx hb d_Graph_addArc_4 hl (by decide) rfl (fun ls hl => ?_)
  refine lv_aload_n hx hb d_Graph_addArc_6 rfl (lv_at hl 1 rfl) ?_
  refine lv_dup hx hb d_Graph_addArc_7 rfl ?_
  refine va_get (D := D) (ci := 2) (v := .int t_numbered0) (C := R_Graph) (T := F_Graph) (N := 8) hx hb hts i_Graph hown hK hP 0 rfl rfl 5 (by decide) (hts _ m_1_55) (fun _ h9 => h9) rfl d_Graph_addArc_8 ?_
  refine lv_iconst (v := 1) hx hb d_Graph_addArc_11 (by decide) ?_
  refine lv_iadd hx hb d_Graph_addArc_12 ?_
  refine lv_topi (fun x1 ex1 => ?_)
  have hf := bn_e ex1 hf
  refine va_put (D := D) (ci := 2) (v := .int x1) (ty := .int) (C := R_Graph) (T := F_Graph) (N := 8) hx hb hts i_Graph t_Graph to_Graph n_Graph hown hK hP hD hS 0 rfl rfl 5 (by decide) (hts _ m_1_55) (fun _ h9 => h9) rfl (by decide +kernel) rfl rfl (Nat.le_of_ble_eq_true rfl) d_Graph_addArc_13 (fun H locs hP hD hS => ?_)
  have hP : va_P D CL [(q_t, .inr (2, [.ref q_t_from, .ref q_t_to, .ref q_t_weight, .ref q_t_order, .int t_nodes, .int x1, .int t_size0, .long t_present0])), (q_t_from, .inl (cI, 30, .inl t_from0)), (q_t_to, .inl (cI, 30, .inl t_to0)), (q_t_weight, .inl (cI, 30, .inl t_weight0)), (q_t_order, .inl (cI, 30, .inl t_order0))] H := hP
  have hD : va_D A [(q_t, .inr (2, [.ref q_t_from, .ref q_t_to, .ref q_t_weight, .ref q_t_order, .int t_nodes, .int x1, .int t_size0, .long t_present0])), (q_t_from, .inl (cI, 30, .inl t_from0)), (q_t_to, .inl (cI, 30, .inl t_to0)), (q_t_weight, .inl (cI, 30, .inl t_weight0)), (q_t_order, .inl (cI, 30, .inl t_order0))] := hD
  refine lv_aload_n hx hb d_Graph_addArc_16 rfl (lv_at hl 1 rfl) ?_
  refine va_get (D := D) (ci := 2) (v := .ref q_t_from) (C := R_Graph) (T := F_Graph) (N := 8) hx hb hts i_Graph hown hK hP 0 rfl rfl 0 (by decide) (hts _ m_1_29) (fun _ h9 => h9) rfl d_Graph_addArc_17 ?_
  refine lv_iload hx hb d_Graph_addArc_20 (lv_at hl 0 rfl) ?_
  refine lv_iload_n hx hb d_Graph_addArc_22 rfl (lv_at hl 2 rfl) ?_
  obtain ⟨hg1, hf⟩ := gd_e hf
  refine va_iast hx hb hK hP hD hS 1 0 rfl rfl (inb_e hg1) d_Graph_addArc_23 (fun H locs hP hD hS => ?_)
  have hP : va_P D CL [(q_t, .inr (2, [.ref q_t_from, .ref q_t_to, .ref q_t_weight, .ref q_t_order, .int t_nodes, .int x1, .int t_size0, .long t_present0])), (q_t_from, .inl (cI, 30, .inl (upd t_from0 t_numbered0.toNatClampNeg p1))), (q_t_to, .inl (cI, 30, .inl t_to0)), (q_t_weight, .inl (cI, 30, .inl t_weight0)), (q_t_order, .inl (cI, 30, .inl t_order0))] H := hP
  have hD : va_D A [(q_t, .inr (2, [.ref q_t_from, .ref q_t_to, .ref q_t_weight, .ref q_t_order, .int t_nodes, .int x1, .int t_size0, .long t_present0])), (q_t_from, .inl (cI, 30, .inl (upd t_from0 t_numbered0.toNatClampNeg p1))), (q_t_to, .inl (cI, 30, .inl t_to0)), (q_t_weight, .inl (cI, 30, .inl t_weight0)), (q_t_order, .inl (cI, 30, .inl t_order0))] := hD
  refine lv_aload_n hx hb d_Graph_addArc_24 rfl (lv_at hl 1 rfl) ?_
  refine va_get (D := D) (ci := 2) (v := .ref q_t_to) (C := R_Graph) (T := F_Graph) (N := 8) hx hb hts i_Graph hown hK hP 0 rfl rfl 1 (by decide) (hts _ m_1_34) (fun _ h9 => h9) rfl d_Graph_addArc_25 ?_
  refine lv_iload hx hb d_Graph_addArc_28 (lv_at hl 0 rfl) ?_
  refine lv_iload_n hx hb d_Graph_addArc_30 rfl (lv_at hl 3 rfl) ?_
  obtain ⟨hg2, hf⟩ := gd_e hf
  refine va_iast hx hb hK hP hD hS 2 0 rfl rfl (inb_e hg2) d_Graph_addArc_31 (fun H locs hP hD hS => ?_)
  have hP : va_P D CL [(q_t, .inr (2, [.ref q_t_from, .ref q_t_to, .ref q_t_weight, .ref q_t_order, .int t_nodes, .int x1, .int t_size0, .long t_present0])), (q_t_from, .inl (cI, 30, .inl (upd t_from0 t_numbered0.toNatClampNeg p1))), (q_t_to, .inl (cI, 30, .inl (upd t_to0 t_numbered0.toNatClampNeg p2))), (q_t_weight, .inl (cI, 30, .inl t_weight0)), (q_t_order, .inl (cI, 30, .inl t_order0))] H := hP
  have hD : va_D A [(q_t, .inr (2, [.ref q_t_from, .ref q_t_to, .ref q_t_weight, .ref q_t_order, .int t_nodes, .int x1, .int t_size0, .long t_present0])), (q_t_from, .inl (cI, 30, .inl (upd t_from0 t_numbered0.toNatClampNeg p1))), (q_t_to, .inl (cI, 30, .inl (upd t_to0 t_numbered0.toNatClampNeg p2))), (q_t_weight, .inl (cI, 30, .inl t_weight0)), (q_t_order, .inl (cI, 30, .inl t_order0))] := hD
  refine lv_aload_n hx hb d_Graph_addArc_32 rfl (lv_at hl 1 rfl) ?_
  refine va_get (D := D) (ci := 2) (v := .ref q_t_weight) (C := R_Graph) (T := F_Graph) (N := 8) hx hb hts i_Graph hown hK hP 0 rfl rfl 2 (by decide) (hts _ m_1_39) (fun _ h9 => h9) rfl d_Graph_addArc_33 ?_
  refine lv_iload hx hb d_Graph_addArc_36 (lv_at hl 0 rfl) ?_
  refine lv_iload_n hx hb d_Graph_addArc_38 rfl (lv_at hl 4 rfl) ?_
  obtain ⟨hg3, hf⟩ := gd_e hf
  refine va_iast hx hb hK hP hD hS 3 0 rfl rfl (inb_e hg3) d_Graph_addArc_39 (fun H locs hP hD hS => ?_)
  have hP : va_P D CL [(q_t, .inr (2, [.ref q_t_from, .ref q_t_to, .ref q_t_weight, .ref q_t_order, .int t_nodes, .int x1, .int t_size0, .long t_present0])), (q_t_from, .inl (cI, 30, .inl (upd t_from0 t_numbered0.toNatClampNeg p1))), (q_t_to, .inl (cI, 30, .inl (upd t_to0 t_numbered0.toNatClampNeg p2))), (q_t_weight, .inl (cI, 30, .inl (upd t_weight0 t_numbered0.toNatClampNeg p3))), (q_t_order, .inl (cI, 30, .inl t_order0))] H := hP
  have hD : va_D A [(q_t, .inr (2, [.ref q_t_from, .ref q_t_to, .ref q_t_weight, .ref q_t_order, .int t_nodes, .int x1, .int t_size0, .long t_present0])), (q_t_from, .inl (cI, 30, .inl (upd t_from0 t_numbered0.toNatClampNeg p1))), (q_t_to, .inl (cI, 30, .inl (upd t_to0 t_numbered0.toNatClampNeg p2))), (q_t_weight, .inl (cI, 30, .inl (upd t_weight0 t_numbered0.toNatClampNeg p3))), (q_t_order, .inl (cI, 30, .inl t_order0))] := hD
  refine lv_aload_n hx hb d_Graph_addArc_40 rfl (lv_at hl 1 rfl) ?_
  refine lv_dup hx hb d_Graph_addArc_41 rfl ?_
  refine va_get (D := D) (ci := 2) (v := .long t_present0) (C := R_Graph) (T := F_Graph) (N := 8) hx hb hts i_Graph hown hK hP 0 rfl rfl 7 (by decide) (hts _ m_1_63) (fun _ h9 => h9) rfl d_Graph_addArc_42 ?_
  refine lv_lconst (v := 1) hx hb d_Graph_addArc_45 (by decide) ?_
  refine lv_iload hx hb d_Graph_addArc_46 (lv_at hl 0 rfl) ?_
  refine lv_lshl (v := (1 : Int64) <<< (t_numbered0.toInt64 &&& 63)) hx hb d_Graph_addArc_48 rfl ?_
  refine lv_lor hx hb d_Graph_addArc_49 ?_
  refine lv_topl (fun x2 ex2 => ?_)
  have hf := bn_e ex2 hf
  refine va_put (D := D) (ci := 2) (v := .long x2) (ty := .long) (C := R_Graph) (T := F_Graph) (N := 8) hx hb hts i_Graph t_Graph to_Graph n_Graph hown hK hP hD hS 0 rfl rfl 7 (by decide) (hts _ m_1_63) (fun _ h9 => h9) rfl (by decide +kernel) rfl rfl (Nat.le_of_ble_eq_true rfl) d_Graph_addArc_50 (fun H locs hP hD hS => ?_)
  have hP : va_P D CL [(q_t, .inr (2, [.ref q_t_from, .ref q_t_to, .ref q_t_weight, .ref q_t_order, .int t_nodes, .int x1, .int t_size0, .long x2])), (q_t_from, .inl (cI, 30, .inl (upd t_from0 t_numbered0.toNatClampNeg p1))), (q_t_to, .inl (cI, 30, .inl (upd t_to0 t_numbered0.toNatClampNeg p2))), (q_t_weight, .inl (cI, 30, .inl (upd t_weight0 t_numbered0.toNatClampNeg p3))), (q_t_order, .inl (cI, 30, .inl t_order0))] H := hP
  have hD : va_D A [(q_t, .inr (2, [.ref q_t_from, .ref q_t_to, .ref q_t_weight, .ref q_t_order, .int t_nodes, .int x1, .int t_size0, .long x2])), (q_t_from, .inl (cI, 30, .inl (upd t_from0 t_numbered0.toNatClampNeg p1))), (q_t_to, .inl (cI, 30, .inl (upd t_to0 t_numbered0.toNatClampNeg p2))), (q_t_weight, .inl (cI, 30, .inl (upd t_weight0 t_numbered0.toNatClampNeg p3))), (q_t_order, .inl (cI, 30, .inl t_order0))] := hD
  refine lv_aload_n hx hb d_Graph_addArc_53 rfl (lv_at hl 1 rfl) ?_
  refine lv_iload hx hb d_Graph_addArc_54 (lv_at hl 0 rfl) ?_
  obtain ⟨c3, c4, hq1, hf⟩ := bk2_e hf
  refine cl_go (wr := [(q_t_from, .inl (cI, 30, .inl (upd t_from0 t_numbered0.toNatClampNeg p1))), (q_t_to, .inl (cI, 30, .inl (upd t_to0 t_numbered0.toNatClampNeg p2)))]) (W1 := [(q_t, .inr (2, [.ref q_t_from, .ref q_t_to, .ref q_t_weight, .ref q_t_order, .int t_nodes, .int x1, .int c4, .long x2])), (q_t_from, .inl (cI, 30, .inl (upd t_from0 t_numbered0.toNatClampNeg p1))), (q_t_to, .inl (cI, 30, .inl (upd t_to0 t_numbered0.toNatClampNeg p2))), (q_t_weight, .inl (cI, 30, .inl (upd t_weight0 t_numbered0.toNatClampNeg p3))), (q_t_order, .inl (cI, 30, .inl c3))]) (va_runV (As := [.int t_numbered0]) (rest := []) ⟨hx, hb, hml, hown, hts⟩ (c_Graph_putInOrder l D cI cJ cG cZ q_t q_t_from q_t_to q_t_weight q_t_order t_nodes x1 t_size0 x2 t_order0 (upd t_weight0 t_numbered0.toNatClampNeg p3) t_numbered0 hq1 H.size) (cwV 1 hts (gi_V m_2_32 m_2_34 m_0_0 m_1_2 wi_Graph_putInOrder) rfl rfl rfl hd_Graph_putInOrder ⟨Nat.le_trans (Nat.le_of_ble_eq_true rfl) hfr, Nat.le_trans (Nat.le_of_ble_eq_true rfl) hlo⟩) ⟨pw_blind, va_recv hK hP (ci := 2) (q0 := 0) rfl rfl, fun U hU hW => ⟨rfl, pw_in hU (hP.sub [0, 4, 3] rfl) (va_K.moved hW.alike hK) ((hD.sub [0, 4, 3] rfl rfl).weaken (fun _ _ _ _ => trivial))⟩⟩ rfl rfl hl.1 rfl (lv_room (Nat.le_of_ble_eq_true rfl)) d_Graph_addArc_56 ⟨Nat.zero_le _, Nat.zero_le _⟩) hP hD hS hA [0, 4, 3] [1, 2] rfl rfl rfl rfl [2, 0, 1, 4, 3] rfl rfl (fun H locs hP hD hS => ?_)
  have hP : va_P D CL [(q_t, .inr (2, [.ref q_t_from, .ref q_t_to, .ref q_t_weight, .ref q_t_order, .int t_nodes, .int x1, .int c4, .long x2])), (q_t_from, .inl (cI, 30, .inl (upd t_from0 t_numbered0.toNatClampNeg p1))), (q_t_to, .inl (cI, 30, .inl (upd t_to0 t_numbered0.toNatClampNeg p2))), (q_t_weight, .inl (cI, 30, .inl (upd t_weight0 t_numbered0.toNatClampNeg p3))), (q_t_order, .inl (cI, 30, .inl c3))] H := hP
  have hD : va_D A [(q_t, .inr (2, [.ref q_t_from, .ref q_t_to, .ref q_t_weight, .ref q_t_order, .int t_nodes, .int x1, .int c4, .long x2])), (q_t_from, .inl (cI, 30, .inl (upd t_from0 t_numbered0.toNatClampNeg p1))), (q_t_to, .inl (cI, 30, .inl (upd t_to0 t_numbered0.toNatClampNeg p2))), (q_t_weight, .inl (cI, 30, .inl (upd t_weight0 t_numbered0.toNatClampNeg p3))), (q_t_order, .inl (cI, 30, .inl c3))] := hD
  refine lv_iload hx hb d_Graph_addArc_59 (lv_at hl 0 rfl) ?_
  exact hret 61 _ _ _ t_numbered0 x1 (upd t_from0 t_numbered0.toNatClampNeg p1) (upd t_to0 t_numbered0.toNatClampNeg p2) (upd t_weight0 t_numbered0.toNatClampNeg p3) x2 c3 c4 d_Graph_addArc_61 hP hD hS hf
set_option maxRecDepth 100000 in
set_option maxHeartbeats 4000000 in
theorem c_Graph_addArc (l : Launch) (D : va_G) (cI cJ cG cZ : ClassId) (q_t q_t_from q_t_to q_t_weight q_t_order : Nat) (t_nodes : Int32) (t_numbered0 : Int32) (t_size0 : Int32) (t_present0 : Int64) (t_from0 : Nat → Int32) (t_to0 : Nat → Int32) (t_weight0 : Nat → Int32) (t_order0 : Nat → Int32) (p1 : Int32) (p2 : Int32) (p3 : Int32) {N : Nat} {r : Int32} {t_numbered' : Int32} {t_from' : Nat → Int32} {t_to' : Nat → Int32} {t_weight' : Nat → Int32} {t_present' : Int64} {t_order' : Nat → Int32} {t_size' : Int32} (hf : f_Graph_addArc N p1 p2 p3 t_numbered0 t_size0 t_present0 t_from0 t_to0 t_weight0 t_order0 = some (r, t_numbered', t_from', t_to', t_weight', t_present', t_order', t_size')) : MeG l D CL (TYs cI cJ cG cZ) y_Graph_addArc ws_Graph_addArc (rm_Graph_addArc) [.ref q_t, .int p1, .int p2, .int p3] [(q_t, .inr (2, [.ref q_t_from, .ref q_t_to, .ref q_t_weight, .ref q_t_order, .int t_nodes, .int t_numbered0, .int t_size0, .long t_present0])), (q_t_from, .inl (cI, 30, .inl t_from0)), (q_t_to, .inl (cI, 30, .inl t_to0)), (q_t_weight, .inl (cI, 30, .inl t_weight0)), (q_t_order, .inl (cI, 30, .inl t_order0))] (some (.int r)) [(q_t, .inr (2, [.ref q_t_from, .ref q_t_to, .ref q_t_weight, .ref q_t_order, .int t_nodes, .int t_numbered', .int t_size', .long t_present'])), (q_t_from, .inl (cI, 30, .inl t_from')), (q_t_to, .inl (cI, 30, .inl t_to')), (q_t_weight, .inl (cI, 30, .inl t_weight')), (q_t_order, .inl (cI, 30, .inl t_order'))] := by
  intro sz
  refine Met.ofW (cc := b_Graph_addArc) (maxL := 5) (ret := (some .int)) (by decide) rfl ?_
  intro p e s m args below meth c s₁ B hml hv
  obtain ⟨rfl, hsz, hP, hK, hD0⟩ := hv
  subst hsz
  have hD := hD0.self (sz := s.heap.size)
  generalize hAe : va_A [(q_t, .inr (2, [.ref q_t_from, .ref q_t_to, .ref q_t_weight, .ref q_t_order, .int t_nodes, .int t_numbered0, .int t_size0, .long t_present0])), (q_t_from, .inl (cI, 30, .inl t_from0)), (q_t_to, .inl (cI, 30, .inl t_to0)), (q_t_weight, .inl (cI, 30, .inl t_weight0)), (q_t_order, .inl (cI, 30, .inl t_order0))] s.heap.size = A at hD ⊢
  have C0 : CX p (headSpec ws_Graph_addArc (rm_Graph_addArc)).room s m _ meth c b_Graph_addArc 5 R_Graph lw_g D CL (TYs cI cJ cG cZ) A 2 44 := ⟨B.exec, B.bytes, hml, findClass_of_methodNamed B.named, fun w h => atoms_spec (ws := ws_Graph_addArc) B.pre w (List.mem_cons_of_mem _ h), hK, fun q h => by rw [← hAe]; exact Or.inr h, Nat.le_of_ble_eq_true rfl, Nat.le_of_ble_eq_true rfl, B.notSynchronized⟩
  have hl := lv_entry ([.ref q_t, .int p1, .int p2, .int p3]) (n := 5) (Nat.le_of_ble_eq_true rfl)
  rw [lg_entry_eq]
  generalize (lg_sl ([.ref q_t, .int p1, .int p2, .int p3]) ++ List.replicate (5 - (lg_sl ([.ref q_t, .int p1, .int p2, .int p3])).length) Slot.unset).toArray = ls at hl ⊢
  have hl : lv_has ls 5 [(0, .ref q_t), (1, .int p1), (2, .int p2), (3, .int p3)] := hl
  exact w_Graph_addArc_e C0 (fun pc ls H locs v t_numbered t_from t_to t_weight t_present t_order t_size hdg hP hD hS e => by cases e; exact W.iret B.exec B.bytes B.returns (fun t ht hW => ⟨⟨rfl, by rw [ht]; exact hP, va_K.moved hW.alike hK, hD⟩, hS.F ht⟩) hS.2.2 hdg) _ _ _ hP hD va_S.rf (lv_sub hl [0, 1, 2, 3] rfl) hf
abbrev b_Graph_takeOutOfOrder : ByteArray := prog_5_method_14_code
def y_Graph_takeOutOfOrder : MethodName := ⟨R_Graph, "takeOutOfOrder", "(I)V"⟩
def ws_Graph_takeOutOfOrder : List Cond := .code y_Graph_takeOutOfOrder b_Graph_takeOutOfOrder 4 none :: lw_g
theorem wi_Graph_takeOutOfOrder : ∀ w ∈ ws_Graph_takeOutOfOrder, w ∈ lw_g := wi_of m_2_58
abbrev rm_Graph_takeOutOfOrder : Room := { frames := 0, cells := 0, slots := 0, locals := 0 }
theorem hd_Graph_takeOutOfOrder : y_Graph_takeOutOfOrder.cls = R_Graph ∧ y_Graph_takeOutOfOrder.cls ≠ "java/lang/invoke/MethodHandle" ∧ y_Graph_takeOutOfOrder.cls ≠ "java/lang/invoke/VarHandle" ∧ (parseMethodDescriptor y_Graph_takeOutOfOrder.desc).map (fun d => d.parameters.length) = some 1 := by decide +kernel
theorem d_Graph_takeOutOfOrder_0 : decode b_Graph_takeOutOfOrder 0 = .ok (.iconst 0, 1) := by decide +kernel
theorem d_Graph_takeOutOfOrder_1 : decode b_Graph_takeOutOfOrder 1 = .ok (.istore_n 2, 1) := by decide +kernel
theorem d_Graph_takeOutOfOrder_2 : decode b_Graph_takeOutOfOrder 2 = .ok (.iconst 0, 1) := by decide +kernel
theorem d_Graph_takeOutOfOrder_3 : decode b_Graph_takeOutOfOrder 3 = .ok (.istore_n 3, 1) := by decide +kernel
theorem d_Graph_takeOutOfOrder_4 : decode b_Graph_takeOutOfOrder 4 = .ok (.iload_n 3, 1) := by decide +kernel
theorem d_Graph_takeOutOfOrder_5 : decode b_Graph_takeOutOfOrder 5 = .ok (.aload_n 0, 1) := by decide +kernel
theorem d_Graph_takeOutOfOrder_6 : decode b_Graph_takeOutOfOrder 6 = .ok (.getfield 44, 3) := by decide +kernel
theorem d_Graph_takeOutOfOrder_9 : decode b_Graph_takeOutOfOrder 9 = .ok (.if_icmp .ge 34, 3) := by decide +kernel
theorem d_Graph_takeOutOfOrder_12 : decode b_Graph_takeOutOfOrder 12 = .ok (.aload_n 0, 1) := by decide +kernel
theorem d_Graph_takeOutOfOrder_13 : decode b_Graph_takeOutOfOrder 13 = .ok (.getfield 21, 3) := by decide +kernel
theorem d_Graph_takeOutOfOrder_16 : decode b_Graph_takeOutOfOrder 16 = .ok (.iload_n 3, 1) := by decide +kernel
theorem d_Graph_takeOutOfOrder_17 : decode b_Graph_takeOutOfOrder 17 = .ok (.iaload, 1) := by decide +kernel
theorem d_Graph_takeOutOfOrder_18 : decode b_Graph_takeOutOfOrder 18 = .ok (.iload_n 1, 1) := by decide +kernel
theorem d_Graph_takeOutOfOrder_19 : decode b_Graph_takeOutOfOrder 19 = .ok (.if_icmp .eq 18, 3) := by decide +kernel
theorem d_Graph_takeOutOfOrder_22 : decode b_Graph_takeOutOfOrder 22 = .ok (.aload_n 0, 1) := by decide +kernel
theorem d_Graph_takeOutOfOrder_23 : decode b_Graph_takeOutOfOrder 23 = .ok (.getfield 21, 3) := by decide +kernel
theorem d_Graph_takeOutOfOrder_26 : decode b_Graph_takeOutOfOrder 26 = .ok (.iload_n 2, 1) := by decide +kernel
theorem d_Graph_takeOutOfOrder_27 : decode b_Graph_takeOutOfOrder 27 = .ok (.aload_n 0, 1) := by decide +kernel
theorem d_Graph_takeOutOfOrder_28 : decode b_Graph_takeOutOfOrder 28 = .ok (.getfield 21, 3) := by decide +kernel
theorem d_Graph_takeOutOfOrder_31 : decode b_Graph_takeOutOfOrder 31 = .ok (.iload_n 3, 1) := by decide +kernel
theorem d_Graph_takeOutOfOrder_32 : decode b_Graph_takeOutOfOrder 32 = .ok (.iaload, 1) := by decide +kernel
theorem d_Graph_takeOutOfOrder_33 : decode b_Graph_takeOutOfOrder 33 = .ok (.iastore, 1) := by decide +kernel
theorem d_Graph_takeOutOfOrder_34 : decode b_Graph_takeOutOfOrder 34 = .ok (.iinc 2 1, 3) := by decide +kernel
theorem d_Graph_takeOutOfOrder_37 : decode b_Graph_takeOutOfOrder 37 = .ok (.iinc 3 1, 3) := by decide +kernel
theorem d_Graph_takeOutOfOrder_40 : decode b_Graph_takeOutOfOrder 40 = .ok (.goto (-36), 3) := by decide +kernel
theorem d_Graph_takeOutOfOrder_43 : decode b_Graph_takeOutOfOrder 43 = .ok (.aload_n 0, 1) := by decide +kernel
theorem d_Graph_takeOutOfOrder_44 : decode b_Graph_takeOutOfOrder 44 = .ok (.iload_n 2, 1) := by decide +kernel
theorem d_Graph_takeOutOfOrder_45 : decode b_Graph_takeOutOfOrder 45 = .ok (.putfield 44, 3) := by decide +kernel
theorem d_Graph_takeOutOfOrder_48 : decode b_Graph_takeOutOfOrder 48 = .ok (.return_, 1) := by decide +kernel
def g_Graph_takeOutOfOrder_4 (p1 : Int32) (k4 : Int32 → Int32 → (Nat → Int32) → Int32 → Option ((Nat → Int32) × Int32)) (v2 : Int32) (v3 : Int32) (t_order : Nat → Int32) (t_size : Int32) : Option ((Nat → Int32) × Int32) :=
  if t_size ≤ v3 then
    some (t_order, v2)
  else
    gd (inb v3 30) <|
    if (t_order v3.toNatClampNeg) = p1 then
      bn (v3 + (1 : Int32)) fun x1 =>
      k4 v2 x1 t_order t_size
    else
      gd (inb v3 30) <|
      gd (inb v2 30) <|
      bn (v2 + (1 : Int32)) fun x2 =>
      bn (v3 + (1 : Int32)) fun x3 =>
      k4 x2 x3 (upd t_order v2.toNatClampNeg (t_order v3.toNatClampNeg)) t_size
def f_Graph_takeOutOfOrder (N : Nat) (p1 : Int32) (t_size0 : Int32) (t_order0 : Nat → Int32) : Option ((Nat → Int32) × Int32) :=
  lo4 (g_Graph_takeOutOfOrder_4 p1) N (0 : Int32) (0 : Int32) t_order0 t_size0
set_option maxRecDepth 100000 in
set_option maxHeartbeats 4000000 in
theorem w_Graph_takeOutOfOrder_4 {p : Program} {l : Launch} {e : Env} {R : Room} {s : State} {m : MethodId} {args : Array Value} {below : List Frame} {meth : Method} {c : Code} {D : va_G} {cI cJ cG cZ : ClassId} {A : Nat → Prop} {Q : State → Prop} {q_t q_t_from q_t_to q_t_weight q_t_order : Nat} {t_nodes : Int32} {t_numbered : Int32} {t_present : Int64} {p1 : Int32} {RR : (Nat → Int32) × Int32} (C0 : CX p R s m args meth c b_Graph_takeOutOfOrder 4 R_Graph lw_g D CL (TYs cI cJ cG cZ) A 0 0) (hret : ∀ (pc : Nat) (ls : Array Slot) (H : Heap) (locs : List Loc) (t_order : Nat → Int32) (t_size : Int32), decode b_Graph_takeOutOfOrder pc = .ok (.return_, 1) → va_P D CL [(q_t, .inr (2, [.ref q_t_from, .ref q_t_to, .ref q_t_weight, .ref q_t_order, .int t_nodes, .int t_numbered, .int t_size, .long t_present])), (q_t_order, .inl (cI, 30, .inl t_order))] H → va_D A [(q_t, .inr (2, [.ref q_t_from, .ref q_t_to, .ref q_t_weight, .ref q_t_order, .int t_nodes, .int t_numbered, .int t_size, .long t_present])), (q_t_order, .inl (cI, 30, .inl t_order))] → va_S A s.heap H locs → some (t_order, t_size) = some RR → W p l e R s m args below meth c H locs 0 0 Q (F0 m pc ls [])) (k4 : Int32 → Int32 → (Nat → Int32) → Int32 → Option ((Nat → Int32) × Int32)) (hk4 : ∀ (v2 : Int32) (v3 : Int32) (t_order : Nat → Int32) (t_size : Int32) (H : Heap) (locs : List Loc) (ls : Array Slot), va_P D CL [(q_t, .inr (2, [.ref q_t_from, .ref q_t_to, .ref q_t_weight, .ref q_t_order, .int t_nodes, .int t_numbered, .int t_size, .long t_present])), (q_t_order, .inl (cI, 30, .inl t_order))] H → va_D A [(q_t, .inr (2, [.ref q_t_from, .ref q_t_to, .ref q_t_weight, .ref q_t_order, .int t_nodes, .int t_numbered, .int t_size, .long t_present])), (q_t_order, .inl (cI, 30, .inl t_order))] → va_S A s.heap H locs → lv_has ls 4 [(0, .ref q_t), (1, .int p1), (2, .int v2), (3, .int v3)] → k4 v2 v3 t_order t_size = some RR → W p l e R s m args below meth c H locs 0 0 Q (F0 m 4 ls [])) : ∀ (v2 : Int32) (v3 : Int32) (t_order : Nat → Int32) (t_size : Int32) (H : Heap) (locs : List Loc) (ls : Array Slot), va_P D CL [(q_t, .inr (2, [.ref q_t_from, .ref q_t_to, .ref q_t_weight, .ref q_t_order, .int t_nodes, .int t_numbered, .int t_size, .long t_present])), (q_t_order, .inl (cI, 30, .inl t_order))] H → va_D A [(q_t, .inr (2, [.ref q_t_from, .ref q_t_to, .ref q_t_weight, .ref q_t_order, .int t_nodes, .int t_numbered, .int t_size, .long t_present])), (q_t_order, .inl (cI, 30, .inl t_order))] → va_S A s.heap H locs → lv_has ls 4 [(0, .ref q_t), (1, .int p1), (2, .int v2), (3, .int v3)] → g_Graph_takeOutOfOrder_4 p1 k4 v2 v3 t_order t_size = some RR → W p l e R s m args below meth c H locs 0 0 Q (F0 m 4 ls []) := by
  intro v2 v3 t_order t_size H locs ls hP hD hS hl hf
  obtain ⟨hx, hb, hml, hown, hts, hK, hA, hfr, hlo, hlk⟩ := id C0
  unfold g_Graph_takeOutOfOrder_4 at hf
  refine lv_iload_n hx hb d_Graph_takeOutOfOrder_4 rfl (lv_at hl 3 rfl) ?_
  refine lv_aload_n hx hb d_Graph_takeOutOfOrder_5 rfl (lv_at hl 0 rfl) ?_
  refine va_get (D := D) (ci := 2) (v := .int t_size) (C := R_Graph) (T := F_Graph) (N := 8) hx hb hts i_Graph hown hK hP 0 rfl rfl 6 (by decide) (hts _ m_1_60) (fun _ h9 => h9) rfl d_Graph_takeOutOfOrder_6 ?_
  refine lv_icmp_ge (tgt := 43) hx hb d_Graph_takeOutOfOrder_9 (by decide) (fun hc1 => ?_) (fun hc1 => ?_)
  · have hf := if_t hc1 hf
    refine lv_aload_n hx hb d_Graph_takeOutOfOrder_43 rfl (lv_at hl 0 rfl) ?_
    refine lv_iload_n hx hb d_Graph_takeOutOfOrder_44 rfl (lv_at hl 2 rfl) ?_
    refine va_put (D := D) (ci := 2) (v := .int v2) (ty := .int) (C := R_Graph) (T := F_Graph) (N := 8) hx hb hts i_Graph t_Graph to_Graph n_Graph hown hK hP hD hS 0 rfl rfl 6 (by decide) (hts _ m_1_60) (fun _ h9 => h9) rfl (by decide +kernel) rfl rfl (Nat.le_of_ble_eq_true rfl) d_Graph_takeOutOfOrder_45 (fun H locs hP hD hS => ?_)
    have hP : va_P D CL [(q_t, .inr (2, [.ref q_t_from, .ref q_t_to, .ref q_t_weight, .ref q_t_order, .int t_nodes, .int t_numbered, .int v2, .long t_present])), (q_t_order, .inl (cI, 30, .inl t_order))] H := hP
    have hD : va_D A [(q_t, .inr (2, [.ref q_t_from, .ref q_t_to, .ref q_t_weight, .ref q_t_order, .int t_nodes, .int t_numbered, .int v2, .long t_present])), (q_t_order, .inl (cI, 30, .inl t_order))] := hD
    exact hret 48 _ _ _ t_order v2 d_Graph_takeOutOfOrder_48 hP hD hS hf
  · have hf := if_f hc1 hf
    refine lv_aload_n hx hb d_Graph_takeOutOfOrder_12 rfl (lv_at hl 0 rfl) ?_
    refine va_get (D := D) (ci := 2) (v := .ref q_t_order) (C := R_Graph) (T := F_Graph) (N := 8) hx hb hts i_Graph hown hK hP 0 rfl rfl 3 (by decide) (hts _ m_1_44) (fun _ h9 => h9) rfl d_Graph_takeOutOfOrder_13 ?_
    refine lv_iload_n hx hb d_Graph_takeOutOfOrder_16 rfl (lv_at hl 3 rfl) ?_
    obtain ⟨hg1, hf⟩ := gd_e hf
    refine va_iald hx hb hK hP 1 0 rfl rfl (inb_e hg1) d_Graph_takeOutOfOrder_17 ?_
    refine lv_iload_n hx hb d_Graph_takeOutOfOrder_18 rfl (lv_at hl 1 rfl) ?_
    refine lv_icmp_eq (tgt := 37) hx hb d_Graph_takeOutOfOrder_19 (by decide) (fun hc2 => ?_) (fun hc2 => ?_)
    · have hf := if_t hc2 hf
      obtain ⟨x1, ex1⟩ : ∃ y : Int32, y = v3 + (1 : Int32) := ⟨_, rfl⟩
      have hf := bn_e ex1 hf
      refine lv_iinc (v := x1) (lv' := [(3, .int x1), (0, .ref q_t), (1, .int p1), (2, .int v2)]) hx hb d_Graph_takeOutOfOrder_37 hl (k := 3) rfl (by rw [ex1]; rfl) (by decide) rfl (fun ls hl => ?_)
      refine lv_goto (tgt := 4) hx hb d_Graph_takeOutOfOrder_40 (by decide) ?_
      exact hk4 v2 x1 t_order t_size _ _ _ hP hD hS (lv_sub hl [1, 2, 3, 0] rfl) hf
    · have hf := if_f hc2 hf
      refine lv_aload_n hx hb d_Graph_takeOutOfOrder_22 rfl (lv_at hl 0 rfl) ?_
      refine va_get (D := D) (ci := 2) (v := .ref q_t_order) (C := R_Graph) (T := F_Graph) (N := 8) hx hb hts i_Graph hown hK hP 0 rfl rfl 3 (by decide) (hts _ m_1_44) (fun _ h9 => h9) rfl d_Graph_takeOutOfOrder_23 ?_
      refine lv_iload_n hx hb d_Graph_takeOutOfOrder_26 rfl (lv_at hl 2 rfl) ?_
      refine lv_aload_n hx hb d_Graph_takeOutOfOrder_27 rfl (lv_at hl 0 rfl) ?_
      refine va_get (D := D) (ci := 2) (v := .ref q_t_order) (C := R_Graph) (T := F_Graph) (N := 8) hx hb hts i_Graph hown hK hP 0 rfl rfl 3 (by decide) (hts _ m_1_44) (fun _ h9 => h9) rfl d_Graph_takeOutOfOrder_28 ?_
      refine lv_iload_n hx hb d_Graph_takeOutOfOrder_31 rfl (lv_at hl 3 rfl) ?_
      obtain ⟨hg2, hf⟩ := gd_e hf
      refine va_iald hx hb hK hP 1 0 rfl rfl (inb_e hg2) d_Graph_takeOutOfOrder_32 ?_
      obtain ⟨hg3, hf⟩ := gd_e hf
      refine va_iast hx hb hK hP hD hS 1 0 rfl rfl (inb_e hg3) d_Graph_takeOutOfOrder_33 (fun H locs hP hD hS => ?_)
      have hP : va_P D CL [(q_t, .inr (2, [.ref q_t_from, .ref q_t_to, .ref q_t_weight, .ref q_t_order, .int t_nodes, .int t_numbered, .int t_size, .long t_present])), (q_t_order, .inl (cI, 30, .inl (upd t_order v2.toNatClampNeg (t_order v3.toNatClampNeg))))] H := hP
      have hD : va_D A [(q_t, .inr (2, [.ref q_t_from, .ref q_t_to, .ref q_t_weight, .ref q_t_order, .int t_nodes, .int t_numbered, .int t_size, .long t_present])), (q_t_order, .inl (cI, 30, .inl (upd t_order v2.toNatClampNeg (t_order v3.toNatClampNeg))))] := hD
      obtain ⟨x2, ex2⟩ : ∃ y : Int32, y = v2 + (1 : Int32) := ⟨_, rfl⟩
      have hf := bn_e ex2 hf
      refine lv_iinc (v := x2) (lv' := [(2, .int x2), (0, .ref q_t), (1, .int p1), (3, .int v3)]) hx hb d_Graph_takeOutOfOrder_34 hl (k := 2) rfl (by rw [ex2]; rfl) (by decide) rfl (fun ls hl => ?_)
      obtain ⟨x3, ex3⟩ : ∃ y : Int32, y = v3 + (1 : Int32) := ⟨_, rfl⟩
      have hf := bn_e ex3 hf
      refine lv_iinc (v := x3) (lv' := [(3, .int x3), (2, .int x2), (0, .ref q_t), (1, .int p1)]) hx hb d_Graph_takeOutOfOrder_37 hl (k := 3) rfl (by rw [ex3]; rfl) (by decide) rfl (fun ls hl => ?_)
      refine lv_goto (tgt := 4) hx hb d_Graph_takeOutOfOrder_40 (by decide) ?_
      exact hk4 x2 x3 (upd t_order v2.toNatClampNeg (t_order v3.toNatClampNeg)) t_size _ _ _ hP hD hS (lv_sub hl [2, 3, 1, 0] rfl) hf
set_option maxRecDepth 100000 in
set_option maxHeartbeats 4000000 in
theorem w_Graph_takeOutOfOrder_4_l {p : Program} {l : Launch} {e : Env} {R : Room} {s : State} {m : MethodId} {args : Array Value} {below : List Frame} {meth : Method} {c : Code} {D : va_G} {cI cJ cG cZ : ClassId} {A : Nat → Prop} {Q : State → Prop} {q_t q_t_from q_t_to q_t_weight q_t_order : Nat} {t_nodes : Int32} {t_numbered : Int32} {t_present : Int64} {p1 : Int32} {RR : (Nat → Int32) × Int32} (C0 : CX p R s m args meth c b_Graph_takeOutOfOrder 4 R_Graph lw_g D CL (TYs cI cJ cG cZ) A 0 0) (hret : ∀ (pc : Nat) (ls : Array Slot) (H : Heap) (locs : List Loc) (t_order : Nat → Int32) (t_size : Int32), decode b_Graph_takeOutOfOrder pc = .ok (.return_, 1) → va_P D CL [(q_t, .inr (2, [.ref q_t_from, .ref q_t_to, .ref q_t_weight, .ref q_t_order, .int t_nodes, .int t_numbered, .int t_size, .long t_present])), (q_t_order, .inl (cI, 30, .inl t_order))] H → va_D A [(q_t, .inr (2, [.ref q_t_from, .ref q_t_to, .ref q_t_weight, .ref q_t_order, .int t_nodes, .int t_numbered, .int t_size, .long t_present])), (q_t_order, .inl (cI, 30, .inl t_order))] → va_S A s.heap H locs → some (t_order, t_size) = some RR → W p l e R s m args below meth c H locs 0 0 Q (F0 m pc ls []))  : ∀ (n : Nat) (v2 : Int32) (v3 : Int32) (t_order : Nat → Int32) (t_size : Int32) (H : Heap) (locs : List Loc) (ls : Array Slot), va_P D CL [(q_t, .inr (2, [.ref q_t_from, .ref q_t_to, .ref q_t_weight, .ref q_t_order, .int t_nodes, .int t_numbered, .int t_size, .long t_present])), (q_t_order, .inl (cI, 30, .inl t_order))] H → va_D A [(q_t, .inr (2, [.ref q_t_from, .ref q_t_to, .ref q_t_weight, .ref q_t_order, .int t_nodes, .int t_numbered, .int t_size, .long t_present])), (q_t_order, .inl (cI, 30, .inl t_order))] → va_S A s.heap H locs → lv_has ls 4 [(0, .ref q_t), (1, .int p1), (2, .int v2), (3, .int v3)] → lo4 (g_Graph_takeOutOfOrder_4 p1) n v2 v3 t_order t_size = some RR → W p l e R s m args below meth c H locs 0 0 Q (F0 m 4 ls []) := by
  intro n
  induction n with
  | zero =>
    intro v2 v3 t_order t_size H locs ls hP hD hS hl hf
    exact absurd hf (by simp [lo4])
  | succ n ih =>
    intro v2 v3 t_order t_size H locs ls hP hD hS hl hf
    exact w_Graph_takeOutOfOrder_4 C0 hret  (lo4 (g_Graph_takeOutOfOrder_4 p1) n) ih v2 v3 t_order t_size H locs ls hP hD hS hl hf
set_option maxRecDepth 100000 in
set_option maxHeartbeats 4000000 in
theorem w_Graph_takeOutOfOrder_e {p : Program} {l : Launch} {e : Env} {R : Room} {s : State} {m : MethodId} {args : Array Value} {below : List Frame} {meth : Method} {c : Code} {D : va_G} {cI cJ cG cZ : ClassId} {A : Nat → Prop} {Q : State → Prop} {q_t q_t_from q_t_to q_t_weight q_t_order : Nat} {t_nodes : Int32} {t_numbered : Int32} {t_size0 : Int32} {t_present : Int64} {t_order0 : Nat → Int32} {p1 : Int32} {N : Nat} {RR : (Nat → Int32) × Int32} (C0 : CX p R s m args meth c b_Graph_takeOutOfOrder 4 R_Graph lw_g D CL (TYs cI cJ cG cZ) A 0 0) (hret : ∀ (pc : Nat) (ls : Array Slot) (H : Heap) (locs : List Loc) (t_order : Nat → Int32) (t_size : Int32), decode b_Graph_takeOutOfOrder pc = .ok (.return_, 1) → va_P D CL [(q_t, .inr (2, [.ref q_t_from, .ref q_t_to, .ref q_t_weight, .ref q_t_order, .int t_nodes, .int t_numbered, .int t_size, .long t_present])), (q_t_order, .inl (cI, 30, .inl t_order))] H → va_D A [(q_t, .inr (2, [.ref q_t_from, .ref q_t_to, .ref q_t_weight, .ref q_t_order, .int t_nodes, .int t_numbered, .int t_size, .long t_present])), (q_t_order, .inl (cI, 30, .inl t_order))] → va_S A s.heap H locs → some (t_order, t_size) = some RR → W p l e R s m args below meth c H locs 0 0 Q (F0 m pc ls [])) : ∀ (H : Heap) (locs : List Loc) (ls : Array Slot), va_P D CL [(q_t, .inr (2, [.ref q_t_from, .ref q_t_to, .ref q_t_weight, .ref q_t_order, .int t_nodes, .int t_numbered, .int t_size0, .long t_present])), (q_t_order, .inl (cI, 30, .inl t_order0))] H → va_D A [(q_t, .inr (2, [.ref q_t_from, .ref q_t_to, .ref q_t_weight, .ref q_t_order, .int t_nodes, .int t_numbered, .int t_size0, .long t_present])), (q_t_order, .inl (cI, 30, .inl t_order0))] → va_S A s.heap H locs → lv_has ls 4 [(0, .ref q_t), (1, .int p1)] → f_Graph_takeOutOfOrder N p1 t_size0 t_order0 = some RR → W p l e R s m args below meth c H locs 0 0 Q (F0 m 0 ls []) := by
  intro H locs ls hP hD hS hl hf
  obtain ⟨hx, hb, hml, hown, hts, hK, hA, hfr, hlo, hlk⟩ := id C0
  unfold f_Graph_takeOutOfOrder at hf
  refine lv_iconst (v := 0) hx hb d_Graph_takeOutOfOrder_0 (by decide) ?_
  refine lv_istore_n (lv' := [(2, .int (0 : Int32)), (0, .ref q_t), (1, .int p1)]) hx hb d_Graph_takeOutOfOrder_1 rfl hl (by decide) rfl (fun ls hl => ?_)
  refine lv_iconst (v := 0) hx hb d_Graph_takeOutOfOrder_2 (by decide) ?_
  refine lv_istore_n (lv' := [(3, .int (0 : Int32)), (2, .int (0 : Int32)), (0, .ref q_t), (1, .int p1)]) hx hb d_Graph_takeOutOfOrder_3 rfl hl (by decide) rfl (fun ls hl => ?_)
  exact w_Graph_takeOutOfOrder_4_l C0 hret N (0 : Int32) (0 : Int32) t_order0 t_size0 _ _ _ hP hD hS (lv_sub hl [2, 3, 1, 0] rfl) hf
set_option maxRecDepth 100000 in
set_option maxHeartbeats 4000000 in
theorem c_Graph_takeOutOfOrder (l : Launch) (D : va_G) (cI cJ cG cZ : ClassId) (q_t q_t_from q_t_to q_t_weight q_t_order : Nat) (t_nodes : Int32) (t_numbered : Int32) (t_size0 : Int32) (t_present : Int64) (t_order0 : Nat → Int32) (p1 : Int32) {N : Nat} {t_order' : Nat → Int32} {t_size' : Int32} (hf : f_Graph_takeOutOfOrder N p1 t_size0 t_order0 = some (t_order', t_size')) : MeG l D CL (TYs cI cJ cG cZ) y_Graph_takeOutOfOrder ws_Graph_takeOutOfOrder (rm_Graph_takeOutOfOrder) [.ref q_t, .int p1] [(q_t, .inr (2, [.ref q_t_from, .ref q_t_to, .ref q_t_weight, .ref q_t_order, .int t_nodes, .int t_numbered, .int t_size0, .long t_present])), (q_t_order, .inl (cI, 30, .inl t_order0))] none [(q_t, .inr (2, [.ref q_t_from, .ref q_t_to, .ref q_t_weight, .ref q_t_order, .int t_nodes, .int t_numbered, .int t_size', .long t_present])), (q_t_order, .inl (cI, 30, .inl t_order'))] := by
  intro sz
  refine Met.ofW (cc := b_Graph_takeOutOfOrder) (maxL := 4) (ret := none) (by decide) rfl ?_
  intro p e s m args below meth c s₁ B hml hv
  obtain ⟨rfl, hsz, hP, hK, hD0⟩ := hv
  subst hsz
  have hD := hD0.self (sz := s.heap.size)
  generalize hAe : va_A [(q_t, .inr (2, [.ref q_t_from, .ref q_t_to, .ref q_t_weight, .ref q_t_order, .int t_nodes, .int t_numbered, .int t_size0, .long t_present])), (q_t_order, .inl (cI, 30, .inl t_order0))] s.heap.size = A at hD ⊢
  have C0 : CX p (headSpec ws_Graph_takeOutOfOrder (rm_Graph_takeOutOfOrder)).room s m _ meth c b_Graph_takeOutOfOrder 4 R_Graph lw_g D CL (TYs cI cJ cG cZ) A 0 0 := ⟨B.exec, B.bytes, hml, findClass_of_methodNamed B.named, fun w h => atoms_spec (ws := ws_Graph_takeOutOfOrder) B.pre w (List.mem_cons_of_mem _ h), hK, fun q h => by rw [← hAe]; exact Or.inr h, Nat.le_of_ble_eq_true rfl, Nat.le_of_ble_eq_true rfl, B.notSynchronized⟩
  have hl := lv_entry ([.ref q_t, .int p1]) (n := 4) (Nat.le_of_ble_eq_true rfl)
  rw [lg_entry_eq]
  generalize (lg_sl ([.ref q_t, .int p1]) ++ List.replicate (4 - (lg_sl ([.ref q_t, .int p1])).length) Slot.unset).toArray = ls at hl ⊢
  have hl : lv_has ls 4 [(0, .ref q_t), (1, .int p1)] := hl
  exact w_Graph_takeOutOfOrder_e C0 (fun pc ls H locs t_order t_size hdg hP hD hS e => by cases e; exact W.vret B.exec B.bytes B.returns (fun t ht hW => ⟨⟨rfl, by rw [ht]; exact hP, va_K.moved hW.alike hK, hD⟩, hS.F ht⟩) hS.2.2 hdg) _ _ _ hP hD va_S.rf (lv_sub hl [0, 1] rfl) hf
abbrev b_Graph_reweigh : ByteArray := prog_5_method_4_code
def y_Graph_reweigh : MethodName := ⟨R_Graph, "reweigh", "(II)I"⟩
def ws_Graph_reweigh : List Cond := .code y_Graph_reweigh b_Graph_reweigh 4 (some .int) :: lw_g
theorem wi_Graph_reweigh : ∀ w ∈ ws_Graph_reweigh, w ∈ lw_g := wi_of m_2_54
abbrev rm_Graph_reweigh : Room := { frames := 2, cells := 0, slots := 0, locals := 44 }
theorem hd_Graph_reweigh : y_Graph_reweigh.cls = R_Graph ∧ y_Graph_reweigh.cls ≠ "java/lang/invoke/MethodHandle" ∧ y_Graph_reweigh.cls ≠ "java/lang/invoke/VarHandle" ∧ (parseMethodDescriptor y_Graph_reweigh.desc).map (fun d => d.parameters.length) = some 2 := by decide +kernel
theorem d_Graph_reweigh_0 : decode b_Graph_reweigh 0 = .ok (.aload_n 0, 1) := by decide +kernel
theorem d_Graph_reweigh_1 : decode b_Graph_reweigh 1 = .ok (.getfield 18, 3) := by decide +kernel
theorem d_Graph_reweigh_4 : decode b_Graph_reweigh 4 = .ok (.iload_n 1, 1) := by decide +kernel
theorem d_Graph_reweigh_5 : decode b_Graph_reweigh 5 = .ok (.iaload, 1) := by decide +kernel
theorem d_Graph_reweigh_6 : decode b_Graph_reweigh 6 = .ok (.istore_n 3, 1) := by decide +kernel
theorem d_Graph_reweigh_7 : decode b_Graph_reweigh 7 = .ok (.aload_n 0, 1) := by decide +kernel
theorem d_Graph_reweigh_8 : decode b_Graph_reweigh 8 = .ok (.iload_n 1, 1) := by decide +kernel
theorem d_Graph_reweigh_9 : decode b_Graph_reweigh 9 = .ok (.invokevirtual 39, 3) := by decide +kernel
theorem d_Graph_reweigh_12 : decode b_Graph_reweigh 12 = .ok (.aload_n 0, 1) := by decide +kernel
theorem d_Graph_reweigh_13 : decode b_Graph_reweigh 13 = .ok (.getfield 18, 3) := by decide +kernel
theorem d_Graph_reweigh_16 : decode b_Graph_reweigh 16 = .ok (.iload_n 1, 1) := by decide +kernel
theorem d_Graph_reweigh_17 : decode b_Graph_reweigh 17 = .ok (.iload_n 2, 1) := by decide +kernel
theorem d_Graph_reweigh_18 : decode b_Graph_reweigh 18 = .ok (.iastore, 1) := by decide +kernel
theorem d_Graph_reweigh_19 : decode b_Graph_reweigh 19 = .ok (.aload_n 0, 1) := by decide +kernel
theorem d_Graph_reweigh_20 : decode b_Graph_reweigh 20 = .ok (.iload_n 1, 1) := by decide +kernel
theorem d_Graph_reweigh_21 : decode b_Graph_reweigh 21 = .ok (.invokevirtual 35, 3) := by decide +kernel
theorem d_Graph_reweigh_24 : decode b_Graph_reweigh 24 = .ok (.iload_n 3, 1) := by decide +kernel
theorem d_Graph_reweigh_25 : decode b_Graph_reweigh 25 = .ok (.ireturn, 1) := by decide +kernel
def f_Graph_reweigh (N : Nat) (p1 : Int32) (p2 : Int32) (t_size0 : Int32) (t_weight0 : Nat → Int32) (t_order0 : Nat → Int32) : Option (Int32 × (Nat → Int32) × Int32 × (Nat → Int32)) :=
  gd (inb p1 30) <|
  bn (t_weight0 p1.toNatClampNeg) fun x1 =>
  bk2 (f_Graph_takeOutOfOrder N p1 t_size0 t_order0) fun c2 c3 =>
  gd (inb p1 30) <|
  bk2 (f_Graph_putInOrder N p1 c3 c2 (upd t_weight0 p1.toNatClampNeg p2)) fun c4 c5 =>
  some (x1, c4, c5, upd t_weight0 p1.toNatClampNeg p2)
set_option maxRecDepth 100000 in
set_option maxHeartbeats 4000000 in
theorem w_Graph_reweigh_e {p : Program} {l : Launch} {e : Env} {R : Room} {s : State} {m : MethodId} {args : Array Value} {below : List Frame} {meth : Method} {c : Code} {D : va_G} {cI cJ cG cZ : ClassId} {A : Nat → Prop} {Q : State → Prop} {q_t q_t_from q_t_to q_t_weight q_t_order : Nat} {t_nodes : Int32} {t_numbered : Int32} {t_size0 : Int32} {t_present : Int64} {t_weight0 : Nat → Int32} {t_order0 : Nat → Int32} {p1 : Int32} {p2 : Int32} {N : Nat} {RR : Int32 × (Nat → Int32) × Int32 × (Nat → Int32)} (C0 : CX p R s m args meth c b_Graph_reweigh 4 R_Graph lw_g D CL (TYs cI cJ cG cZ) A 2 44) (hret : ∀ (pc : Nat) (ls : Array Slot) (H : Heap) (locs : List Loc) (v : Int32) (t_order : Nat → Int32) (t_size : Int32) (t_weight : Nat → Int32), decode b_Graph_reweigh pc = .ok (.ireturn, 1) → va_P D CL [(q_t, .inr (2, [.ref q_t_from, .ref q_t_to, .ref q_t_weight, .ref q_t_order, .int t_nodes, .int t_numbered, .int t_size, .long t_present])), (q_t_weight, .inl (cI, 30, .inl t_weight)), (q_t_order, .inl (cI, 30, .inl t_order))] H → va_D A [(q_t, .inr (2, [.ref q_t_from, .ref q_t_to, .ref q_t_weight, .ref q_t_order, .int t_nodes, .int t_numbered, .int t_size, .long t_present])), (q_t_weight, .inl (cI, 30, .inl t_weight)), (q_t_order, .inl (cI, 30, .inl t_order))] → va_S A s.heap H locs → some (v, t_order, t_size, t_weight) = some RR → W p l e R s m args below meth c H locs 0 0 Q (F0 m pc ls [.int v])) : ∀ (H : Heap) (locs : List Loc) (ls : Array Slot), va_P D CL [(q_t, .inr (2, [.ref q_t_from, .ref q_t_to, .ref q_t_weight, .ref q_t_order, .int t_nodes, .int t_numbered, .int t_size0, .long t_present])), (q_t_weight, .inl (cI, 30, .inl t_weight0)), (q_t_order, .inl (cI, 30, .inl t_order0))] H → va_D A [(q_t, .inr (2, [.ref q_t_from, .ref q_t_to, .ref q_t_weight, .ref q_t_order, .int t_nodes, .int t_numbered, .int t_size0, .long t_present])), (q_t_weight, .inl (cI, 30, .inl t_weight0)), (q_t_order, .inl (cI, 30, .inl t_order0))] → va_S A s.heap H locs → lv_has ls 4 [(0, .ref q_t), (1, .int p1), (2, .int p2)] → f_Graph_reweigh N p1 p2 t_size0 t_weight0 t_order0 = some RR → W p l e R s m args below meth c H locs 0 0 Q (F0 m 0 ls []) := by
  intro H locs ls hP hD hS hl hf
  obtain ⟨hx, hb, hml, hown, hts, hK, hA, hfr, hlo, hlk⟩ := id C0
  unfold f_Graph_reweigh at hf
  refine lv_aload_n hx hb d_Graph_reweigh_0 rfl (lv_at hl 0 rfl) ?_
  refine va_get (D := D) (ci := 2) (v := .ref q_t_weight) (C := R_Graph) (T := F_Graph) (N := 8) hx hb hts i_Graph hown hK hP 0 rfl rfl 2 (by decide) (hts _ m_1_39) (fun _ h9 => h9) rfl d_Graph_reweigh_1 ?_
  refine lv_iload_n hx hb d_Graph_reweigh_4 rfl (lv_at hl 1 rfl) ?_
  obtain ⟨hg1, hf⟩ := gd_e hf
  refine va_iald hx hb hK hP 1 0 rfl rfl (inb_e hg1) d_Graph_reweigh_5 ?_
  refine lv_topi (fun x1 ex1 => ?_)
  have hf := bn_e ex1 hf
  refine lv_istore_n (lv' := [(3, .int x1), (0, .ref q_t), (1, .int p1), (2, .int p2)]) hx hb d_Graph_reweigh_6 rfl hl (by decide) rfl (fun ls hl => ?_)
  refine lv_aload_n hx hb d_Graph_reweigh_7 rfl (lv_at hl 1 rfl) ?_
  refine lv_iload_n hx hb d_Graph_reweigh_8 rfl (lv_at hl 2 rfl) ?_
  obtain ⟨c2, c3, hq1, hf⟩ := bk2_e hf
  refine cl_go (wr := [(q_t_weight, .inl (cI, 30, .inl t_weight0))]) (W1 := [(q_t, .inr (2, [.ref q_t_from, .ref q_t_to, .ref q_t_weight, .ref q_t_order, .int t_nodes, .int t_numbered, .int c3, .long t_present])), (q_t_weight, .inl (cI, 30, .inl t_weight0)), (q_t_order, .inl (cI, 30, .inl c2))]) (va_runV (As := [.int p1]) (rest := []) ⟨hx, hb, hml, hown, hts⟩ (c_Graph_takeOutOfOrder l D cI cJ cG cZ q_t q_t_from q_t_to q_t_weight q_t_order t_nodes t_numbered t_size0 t_present t_order0 p1 hq1 H.size) (cwV 1 hts (gi_V m_2_55 m_2_57 m_0_2 m_1_2 wi_Graph_takeOutOfOrder) rfl rfl rfl hd_Graph_takeOutOfOrder ⟨Nat.le_trans (Nat.le_of_ble_eq_true rfl) hfr, Nat.le_trans (Nat.le_of_ble_eq_true rfl) hlo⟩) ⟨pw_blind, va_recv hK hP (ci := 2) (q0 := 0) rfl rfl, fun U hU hW => ⟨rfl, pw_in hU (hP.sub [0, 2] rfl) (va_K.moved hW.alike hK) ((hD.sub [0, 2] rfl rfl).weaken (fun _ _ _ _ => trivial))⟩⟩ rfl rfl hl.1 rfl (lv_room (Nat.le_of_ble_eq_true rfl)) d_Graph_reweigh_9 ⟨Nat.zero_le _, Nat.zero_le _⟩) hP hD hS hA [0, 2] [1] rfl rfl rfl rfl [1, 0, 2] rfl rfl (fun H locs hP hD hS => ?_)
  have hP : va_P D CL [(q_t, .inr (2, [.ref q_t_from, .ref q_t_to, .ref q_t_weight, .ref q_t_order, .int t_nodes, .int t_numbered, .int c3, .long t_present])), (q_t_weight, .inl (cI, 30, .inl t_weight0)), (q_t_order, .inl (cI, 30, .inl c2))] H := hP
  have hD : va_D A [(q_t, .inr (2, [.ref q_t_from, .ref q_t_to, .ref q_t_weight, .ref q_t_order, .int t_nodes, .int t_numbered, .int c3, .long t_present])), (q_t_weight, .inl (cI, 30, .inl t_weight0)), (q_t_order, .inl (cI, 30, .inl c2))] := hD
  refine lv_aload_n hx hb d_Graph_reweigh_12 rfl (lv_at hl 1 rfl) ?_
  refine va_get (D := D) (ci := 2) (v := .ref q_t_weight) (C := R_Graph) (T := F_Graph) (N := 8) hx hb hts i_Graph hown hK hP 0 rfl rfl 2 (by decide) (hts _ m_1_39) (fun _ h9 => h9) rfl d_Graph_reweigh_13 ?_
  refine lv_iload_n hx hb d_Graph_reweigh_16 rfl (lv_at hl 2 rfl) ?_
  refine lv_iload_n hx hb d_Graph_reweigh_17 rfl (lv_at hl 3 rfl) ?_
  obtain ⟨hg2, hf⟩ := gd_e hf
  refine va_iast hx hb hK hP hD hS 1 0 rfl rfl (inb_e hg2) d_Graph_reweigh_18 (fun H locs hP hD hS => ?_)
  have hP : va_P D CL [(q_t, .inr (2, [.ref q_t_from, .ref q_t_to, .ref q_t_weight, .ref q_t_order, .int t_nodes, .int t_numbered, .int c3, .long t_present])), (q_t_weight, .inl (cI, 30, .inl (upd t_weight0 p1.toNatClampNeg p2))), (q_t_order, .inl (cI, 30, .inl c2))] H := hP
  have hD : va_D A [(q_t, .inr (2, [.ref q_t_from, .ref q_t_to, .ref q_t_weight, .ref q_t_order, .int t_nodes, .int t_numbered, .int c3, .long t_present])), (q_t_weight, .inl (cI, 30, .inl (upd t_weight0 p1.toNatClampNeg p2))), (q_t_order, .inl (cI, 30, .inl c2))] := hD
  refine lv_aload_n hx hb d_Graph_reweigh_19 rfl (lv_at hl 1 rfl) ?_
  refine lv_iload_n hx hb d_Graph_reweigh_20 rfl (lv_at hl 2 rfl) ?_
  obtain ⟨c4, c5, hq2, hf⟩ := bk2_e hf
  refine cl_go (wr := []) (W1 := [(q_t, .inr (2, [.ref q_t_from, .ref q_t_to, .ref q_t_weight, .ref q_t_order, .int t_nodes, .int t_numbered, .int c5, .long t_present])), (q_t_weight, .inl (cI, 30, .inl (upd t_weight0 p1.toNatClampNeg p2))), (q_t_order, .inl (cI, 30, .inl c4))]) (va_runV (As := [.int p1]) (rest := []) ⟨hx, hb, hml, hown, hts⟩ (c_Graph_putInOrder l D cI cJ cG cZ q_t q_t_from q_t_to q_t_weight q_t_order t_nodes t_numbered c3 t_present c2 (upd t_weight0 p1.toNatClampNeg p2) p1 hq2 H.size) (cwV 1 hts (gi_V m_2_32 m_2_34 m_0_0 m_1_2 wi_Graph_putInOrder) rfl rfl rfl hd_Graph_putInOrder ⟨Nat.le_trans (Nat.le_of_ble_eq_true rfl) hfr, Nat.le_trans (Nat.le_of_ble_eq_true rfl) hlo⟩) ⟨pw_blind, va_recv hK hP (ci := 2) (q0 := 0) rfl rfl, fun U hU hW => ⟨rfl, pw_in hU (hP.sub [0, 2, 1] rfl) (va_K.moved hW.alike hK) ((hD.sub [0, 2, 1] rfl rfl).weaken (fun _ _ _ _ => trivial))⟩⟩ rfl rfl hl.1 rfl (lv_room (Nat.le_of_ble_eq_true rfl)) d_Graph_reweigh_21 ⟨Nat.zero_le _, Nat.zero_le _⟩) hP hD hS hA [0, 2, 1] [] rfl rfl rfl rfl [0, 2, 1] rfl rfl (fun H locs hP hD hS => ?_)
  have hP : va_P D CL [(q_t, .inr (2, [.ref q_t_from, .ref q_t_to, .ref q_t_weight, .ref q_t_order, .int t_nodes, .int t_numbered, .int c5, .long t_present])), (q_t_weight, .inl (cI, 30, .inl (upd t_weight0 p1.toNatClampNeg p2))), (q_t_order, .inl (cI, 30, .inl c4))] H := hP
  have hD : va_D A [(q_t, .inr (2, [.ref q_t_from, .ref q_t_to, .ref q_t_weight, .ref q_t_order, .int t_nodes, .int t_numbered, .int c5, .long t_present])), (q_t_weight, .inl (cI, 30, .inl (upd t_weight0 p1.toNatClampNeg p2))), (q_t_order, .inl (cI, 30, .inl c4))] := hD
  refine lv_iload_n hx hb d_Graph_reweigh_24 rfl (lv_at hl 0 rfl) ?_
  exact hret 25 _ _ _ x1 c4 c5 (upd t_weight0 p1.toNatClampNeg p2) d_Graph_reweigh_25 hP hD hS hf
set_option maxRecDepth 100000 in
set_option maxHeartbeats 4000000 in
theorem c_Graph_reweigh (l : Launch) (D : va_G) (cI cJ cG cZ : ClassId) (q_t q_t_from q_t_to q_t_weight q_t_order : Nat) (t_nodes : Int32) (t_numbered : Int32) (t_size0 : Int32) (t_present : Int64) (t_weight0 : Nat → Int32) (t_order0 : Nat → Int32) (p1 : Int32) (p2 : Int32) {N : Nat} {r : Int32} {t_order' : Nat → Int32} {t_size' : Int32} {t_weight' : Nat → Int32} (hf : f_Graph_reweigh N p1 p2 t_size0 t_weight0 t_order0 = some (r, t_order', t_size', t_weight')) : MeG l D CL (TYs cI cJ cG cZ) y_Graph_reweigh ws_Graph_reweigh (rm_Graph_reweigh) [.ref q_t, .int p1, .int p2] [(q_t, .inr (2, [.ref q_t_from, .ref q_t_to, .ref q_t_weight, .ref q_t_order, .int t_nodes, .int t_numbered, .int t_size0, .long t_present])), (q_t_weight, .inl (cI, 30, .inl t_weight0)), (q_t_order, .inl (cI, 30, .inl t_order0))] (some (.int r)) [(q_t, .inr (2, [.ref q_t_from, .ref q_t_to, .ref q_t_weight, .ref q_t_order, .int t_nodes, .int t_numbered, .int t_size', .long t_present])), (q_t_weight, .inl (cI, 30, .inl t_weight')), (q_t_order, .inl (cI, 30, .inl t_order'))] := by
  intro sz
  refine Met.ofW (cc := b_Graph_reweigh) (maxL := 4) (ret := (some .int)) (by decide) rfl ?_
  intro p e s m args below meth c s₁ B hml hv
  obtain ⟨rfl, hsz, hP, hK, hD0⟩ := hv
  subst hsz
  have hD := hD0.self (sz := s.heap.size)
  generalize hAe : va_A [(q_t, .inr (2, [.ref q_t_from, .ref q_t_to, .ref q_t_weight, .ref q_t_order, .int t_nodes, .int t_numbered, .int t_size0, .long t_present])), (q_t_weight, .inl (cI, 30, .inl t_weight0)), (q_t_order, .inl (cI, 30, .inl t_order0))] s.heap.size = A at hD ⊢
  have C0 : CX p (headSpec ws_Graph_reweigh (rm_Graph_reweigh)).room s m _ meth c b_Graph_reweigh 4 R_Graph lw_g D CL (TYs cI cJ cG cZ) A 2 44 := ⟨B.exec, B.bytes, hml, findClass_of_methodNamed B.named, fun w h => atoms_spec (ws := ws_Graph_reweigh) B.pre w (List.mem_cons_of_mem _ h), hK, fun q h => by rw [← hAe]; exact Or.inr h, Nat.le_of_ble_eq_true rfl, Nat.le_of_ble_eq_true rfl, B.notSynchronized⟩
  have hl := lv_entry ([.ref q_t, .int p1, .int p2]) (n := 4) (Nat.le_of_ble_eq_true rfl)
  rw [lg_entry_eq]
  generalize (lg_sl ([.ref q_t, .int p1, .int p2]) ++ List.replicate (4 - (lg_sl ([.ref q_t, .int p1, .int p2])).length) Slot.unset).toArray = ls at hl ⊢
  have hl : lv_has ls 4 [(0, .ref q_t), (1, .int p1), (2, .int p2)] := hl
  exact w_Graph_reweigh_e C0 (fun pc ls H locs v t_order t_size t_weight hdg hP hD hS e => by cases e; exact W.iret B.exec B.bytes B.returns (fun t ht hW => ⟨⟨rfl, by rw [ht]; exact hP, va_K.moved hW.alike hK, hD⟩, hS.F ht⟩) hS.2.2 hdg) _ _ _ hP hD va_S.rf (lv_sub hl [0, 1, 2] rfl) hf
