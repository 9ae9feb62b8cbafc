abbrev b_TreesFromRoot_isLoose : ByteArray := prog_9_method_10_code
def y_TreesFromRoot_isLoose : MethodName := ⟨R_TreesFromRoot, "isLoose", "(I)Z"⟩
def ws_TreesFromRoot_isLoose : List Cond := .code y_TreesFromRoot_isLoose b_TreesFromRoot_isLoose 2 (some .boolean) :: lw_g
theorem wi_TreesFromRoot_isLoose : ∀ w ∈ ws_TreesFromRoot_isLoose, w ∈ lw_g := wi_of m_3_58
abbrev rm_TreesFromRoot_isLoose : Room := { frames := 0, cells := 0, slots := 0, locals := 0 }
theorem hd_TreesFromRoot_isLoose : y_TreesFromRoot_isLoose.cls = R_TreesFromRoot ∧ y_TreesFromRoot_isLoose.cls ≠ "java/lang/invoke/MethodHandle" ∧ y_TreesFromRoot_isLoose.cls ≠ "java/lang/invoke/VarHandle" ∧ (parseMethodDescriptor y_TreesFromRoot_isLoose.desc).map (fun d => d.parameters.length) = some 1 := by decide +kernel
theorem d_TreesFromRoot_isLoose_0 : decode b_TreesFromRoot_isLoose 0 = .ok (.iload_n 1, 1) := by decide +kernel
theorem d_TreesFromRoot_isLoose_1 : decode b_TreesFromRoot_isLoose 1 = .ok (.aload_n 0, 1) := by decide +kernel
theorem d_TreesFromRoot_isLoose_2 : decode b_TreesFromRoot_isLoose 2 = .ok (.getfield 78, 3) := by decide +kernel
theorem d_TreesFromRoot_isLoose_5 : decode b_TreesFromRoot_isLoose 5 = .ok (.if_icmp .eq 16, 3) := by decide +kernel
theorem d_TreesFromRoot_isLoose_8 : decode b_TreesFromRoot_isLoose 8 = .ok (.aload_n 0, 1) := by decide +kernel
theorem d_TreesFromRoot_isLoose_9 : decode b_TreesFromRoot_isLoose 9 = .ok (.getfield 32, 3) := by decide +kernel
theorem d_TreesFromRoot_isLoose_12 : decode b_TreesFromRoot_isLoose 12 = .ok (.iload_n 1, 1) := by decide +kernel
theorem d_TreesFromRoot_isLoose_13 : decode b_TreesFromRoot_isLoose 13 = .ok (.iaload, 1) := by decide +kernel
theorem d_TreesFromRoot_isLoose_14 : decode b_TreesFromRoot_isLoose 14 = .ok (.ifCond .ge 7, 3) := by decide +kernel
theorem d_TreesFromRoot_isLoose_17 : decode b_TreesFromRoot_isLoose 17 = .ok (.iconst 1, 1) := by decide +kernel
theorem d_TreesFromRoot_isLoose_18 : decode b_TreesFromRoot_isLoose 18 = .ok (.goto 4, 3) := by decide +kernel
theorem d_TreesFromRoot_isLoose_21 : decode b_TreesFromRoot_isLoose 21 = .ok (.iconst 0, 1) := by decide +kernel
theorem d_TreesFromRoot_isLoose_22 : decode b_TreesFromRoot_isLoose 22 = .ok (.ireturn, 1) := by decide +kernel
def f_TreesFromRoot_isLoose (p1 : Int32) (t_root : Int32) (t_group : Nat → Int32) : Option (Int32) :=
  if p1 = t_root then
    some ((0 : Int32))
  else
    gd (inb p1 10) <|
    if 0 ≤ (t_group p1.toNatClampNeg) then
      some ((0 : Int32))
    else
      some ((1 : Int32))
set_option maxRecDepth 100000 in
set_option maxHeartbeats 4000000 in
theorem w_TreesFromRoot_isLoose_e {p : Program} {l : Launch} {e : Env} {R : Room} {s : State} {m : MethodId} {args : Array Value} {below : List Frame} {meth : Method} {c : Code} {D : va_G} {cI cJ cG cZ : ClassId} {A : Nat → Prop} {Q : State → Prop} {q_t q_t_graph q_t_tail q_t_head q_t_cost q_t_leastInto q_t_before q_t_group : Nat} {t_nodes : Int32} {t_arcs : Int32} {t_root : Int32} {t_group : Nat → Int32} {p1 : Int32} {RR : Int32} (C0 : CX p R s m args meth c b_TreesFromRoot_isLoose 2 R_TreesFromRoot lw_g D CL (TYs cI cJ cG cZ) A 0 0) (hret : ∀ (pc : Nat) (ls : Array Slot) (H : Heap) (locs : List Loc) (v : Int32) , decode b_TreesFromRoot_isLoose pc = .ok (.ireturn, 1) → narrow .boolean (.int v) = .int v → va_P D CL [(q_t, .inr (6, [.ref q_t_graph, .ref q_t_tail, .ref q_t_head, .ref q_t_cost, .ref q_t_leastInto, .ref q_t_before, .ref q_t_group, .int t_nodes, .int t_arcs, .int t_root])), (q_t_group, .inl (cI, 10, .inl t_group))] H → va_D A [(q_t, .inr (6, [.ref q_t_graph, .ref q_t_tail, .ref q_t_head, .ref q_t_cost, .ref q_t_leastInto, .ref q_t_before, .ref q_t_group, .int t_nodes, .int t_arcs, .int t_root])), (q_t_group, .inl (cI, 10, .inl t_group))] → va_S A s.heap H locs → some (v) = some RR → W p l e R s m args below meth c H locs 0 0 Q (F0 m pc ls [.int v])) : ∀ (H : Heap) (locs : List Loc) (ls : Array Slot), va_P D CL [(q_t, .inr (6, [.ref q_t_graph, .ref q_t_tail, .ref q_t_head, .ref q_t_cost, .ref q_t_leastInto, .ref q_t_before, .ref q_t_group, .int t_nodes, .int t_arcs, .int t_root])), (q_t_group, .inl (cI, 10, .inl t_group))] H → va_D A [(q_t, .inr (6, [.ref q_t_graph, .ref q_t_tail, .ref q_t_head, .ref q_t_cost, .ref q_t_leastInto, .ref q_t_before, .ref q_t_group, .int t_nodes, .int t_arcs, .int t_root])), (q_t_group, .inl (cI, 10, .inl t_group))] → va_S A s.heap H locs → lv_has ls 2 [(0, .ref q_t), (1, .int p1)] → f_TreesFromRoot_isLoose p1 t_root t_group = some RR → W p l e R s m args below meth c H locs 0 0 Q (F0 m 0 ls []) := by
  intro H locs ls hP hD hS hl hf
  obtain ⟨hx, hb, hml, hown, hts, hK, hA, hfr, hlo, hlk⟩ := id C0
  unfold f_TreesFromRoot_isLoose at hf
  refine lv_iload_n hx hb d_TreesFromRoot_isLoose_0 rfl (lv_at hl 1 rfl) ?_
  refine lv_aload_n hx hb d_TreesFromRoot_isLoose_1 rfl (lv_at hl 0 rfl) ?_
  refine va_get (D := D) (ci := 6) (v := .int t_root) (C := R_TreesFromRoot) (T := F_TreesFromRoot) (N := 10) hx hb hts i_TreesFromRoot hown hK hP 0 rfl rfl 9 (by decide) (hts _ m_1_196) (fun _ h9 => h9) rfl d_TreesFromRoot_isLoose_2 ?_
  refine lv_icmp_eq (tgt := 21) hx hb d_TreesFromRoot_isLoose_5 (by decide) (fun hc1 => ?_) (fun hc1 => ?_)
  · have hf := if_t hc1 hf
    refine lv_iconst (v := 0) hx hb d_TreesFromRoot_isLoose_21 (by decide) ?_
    exact hret 22 _ _ _ (0 : Int32) d_TreesFromRoot_isLoose_22 rfl hP hD hS hf
  · have hf := if_f hc1 hf
    refine lv_aload_n hx hb d_TreesFromRoot_isLoose_8 rfl (lv_at hl 0 rfl) ?_
    refine va_get (D := D) (ci := 6) (v := .ref q_t_group) (C := R_TreesFromRoot) (T := F_TreesFromRoot) (N := 10) hx hb hts i_TreesFromRoot hown hK hP 0 rfl rfl 6 (by decide) (hts _ m_1_193) (fun _ h9 => h9) rfl d_TreesFromRoot_isLoose_9 ?_
    refine lv_iload_n hx hb d_TreesFromRoot_isLoose_12 rfl (lv_at hl 1 rfl) ?_
    obtain ⟨hg1, hf⟩ := gd_e hf
    refine va_iald hx hb hK hP 1 0 rfl rfl (inb_e hg1) d_TreesFromRoot_isLoose_13 ?_
    refine lv_if_ge (tgt := 21) hx hb d_TreesFromRoot_isLoose_14 (by decide) (fun hc2 => ?_) (fun hc2 => ?_)
    · have hf := if_t hc2 hf
      refine lv_iconst (v := 0) hx hb d_TreesFromRoot_isLoose_21 (by decide) ?_
      exact hret 22 _ _ _ (0 : Int32) d_TreesFromRoot_isLoose_22 rfl hP hD hS hf
    · have hf := if_f hc2 hf
      refine lv_iconst (v := 1) hx hb d_TreesFromRoot_isLoose_17 (by decide) ?_
      refine lv_goto (tgt := 22) hx hb d_TreesFromRoot_isLoose_18 (by decide) ?_
      exact hret 22 _ _ _ (1 : Int32) d_TreesFromRoot_isLoose_22 rfl hP hD hS hf
set_option maxRecDepth 100000 in
set_option maxHeartbeats 4000000 in
theorem c_TreesFromRoot_isLoose (l : Launch) (D : va_G) (cI cJ cG cZ : ClassId) (q_t q_t_graph q_t_tail q_t_head q_t_cost q_t_leastInto q_t_before q_t_group : Nat) (t_nodes : Int32) (t_arcs : Int32) (t_root : Int32) (t_group : Nat → Int32) (p1 : Int32) {r : Int32} (hf : f_TreesFromRoot_isLoose p1 t_root t_group = some (r)) : MeG l D CL (TYs cI cJ cG cZ) y_TreesFromRoot_isLoose ws_TreesFromRoot_isLoose (rm_TreesFromRoot_isLoose) [.ref q_t, .int p1] [(q_t, .inr (6, [.ref q_t_graph, .ref q_t_tail, .ref q_t_head, .ref q_t_cost, .ref q_t_leastInto, .ref q_t_before, .ref q_t_group, .int t_nodes, .int t_arcs, .int t_root])), (q_t_group, .inl (cI, 10, .inl t_group))] (some (.int r)) [(q_t, .inr (6, [.ref q_t_graph, .ref q_t_tail, .ref q_t_head, .ref q_t_cost, .ref q_t_leastInto, .ref q_t_before, .ref q_t_group, .int t_nodes, .int t_arcs, .int t_root])), (q_t_group, .inl (cI, 10, .inl t_group))] := by
  intro sz
  refine Met.ofW (cc := b_TreesFromRoot_isLoose) (maxL := 2) (ret := (some .boolean)) (by decide) rfl ?_
  intro p e s m args below meth c s₁ B hml hv
  obtain ⟨rfl, hsz, hP, hK, hD0⟩ := hv
  subst hsz
  have hD := hD0.self (sz := s.heap.size)
  generalize hAe : va_A [(q_t, .inr (6, [.ref q_t_graph, .ref q_t_tail, .ref q_t_head, .ref q_t_cost, .ref q_t_leastInto, .ref q_t_before, .ref q_t_group, .int t_nodes, .int t_arcs, .int t_root])), (q_t_group, .inl (cI, 10, .inl t_group))] s.heap.size = A at hD ⊢
  have C0 : CX p (headSpec ws_TreesFromRoot_isLoose (rm_TreesFromRoot_isLoose)).room s m _ meth c b_TreesFromRoot_isLoose 2 R_TreesFromRoot lw_g D CL (TYs cI cJ cG cZ) A 0 0 := ⟨B.exec, B.bytes, hml, findClass_of_methodNamed B.named, fun w h => atoms_spec (ws := ws_TreesFromRoot_isLoose) B.pre w (List.mem_cons_of_mem _ h), hK, fun q h => by rw [← hAe]; exact Or.inr h, Nat.le_of_ble_eq_true rfl, Nat.le_of_ble_eq_true rfl, B.notSynchronized⟩
  have hl := lv_entry ([.ref q_t, .int p1]) (n := 2) (Nat.le_of_ble_eq_true rfl)
  rw [lg_entry_eq]
  generalize (lg_sl ([.ref q_t, .int p1]) ++ List.replicate (2 - (lg_sl ([.ref q_t, .int p1])).length) Slot.unset).toArray = ls at hl ⊢
  have hl : lv_has ls 2 [(0, .ref q_t), (1, .int p1)] := hl
  exact w_TreesFromRoot_isLoose_e C0 (fun pc ls H locs v hdg hz hP hD hS e => by cases e; exact W.zret B.exec B.bytes B.returns hz (fun t ht hW => ⟨⟨rfl, by rw [ht]; exact hP, va_K.moved hW.alike hK, hD⟩, hS.F ht⟩) hS.2.2 hdg) _ _ _ hP hD va_S.rf (lv_sub hl [0, 1] rfl) hf
abbrev b_TreesFromRoot_markRing : ByteArray := prog_9_method_11_code
def y_TreesFromRoot_markRing : MethodName := ⟨R_TreesFromRoot, "markRing", "(II)V"⟩
def ws_TreesFromRoot_markRing : List Cond := .code y_TreesFromRoot_markRing b_TreesFromRoot_markRing 5 none :: lw_g
theorem wi_TreesFromRoot_markRing : ∀ w ∈ ws_TreesFromRoot_markRing, w ∈ lw_g := wi_of m_3_62
abbrev rm_TreesFromRoot_markRing : Room := { frames := 1, cells := 0, slots := 0, locals := 21 }
theorem hd_TreesFromRoot_markRing : y_TreesFromRoot_markRing.cls = R_TreesFromRoot ∧ y_TreesFromRoot_markRing.cls ≠ "java/lang/invoke/MethodHandle" ∧ y_TreesFromRoot_markRing.cls ≠ "java/lang/invoke/VarHandle" ∧ (parseMethodDescriptor y_TreesFromRoot_markRing.desc).map (fun d => d.parameters.length) = some 2 := by decide +kernel
theorem d_TreesFromRoot_markRing_0 : decode b_TreesFromRoot_markRing 0 = .ok (.iload_n 1, 1) := by decide +kernel
theorem d_TreesFromRoot_markRing_1 : decode b_TreesFromRoot_markRing 1 = .ok (.istore_n 3, 1) := by decide +kernel
theorem d_TreesFromRoot_markRing_2 : decode b_TreesFromRoot_markRing 2 = .ok (.iconst 0, 1) := by decide +kernel
theorem d_TreesFromRoot_markRing_3 : decode b_TreesFromRoot_markRing 3 = .ok (.istore 4, 2) := by decide +kernel
theorem d_TreesFromRoot_markRing_5 : decode b_TreesFromRoot_markRing 5 = .ok (.iload 4, 2) := by decide +kernel
theorem d_TreesFromRoot_markRing_7 : decode b_TreesFromRoot_markRing 7 = .ok (.aload_n 0, 1) := by decide +kernel
theorem d_TreesFromRoot_markRing_8 : decode b_TreesFromRoot_markRing 8 = .ok (.getfield 71, 3) := by decide +kernel
theorem d_TreesFromRoot_markRing_11 : decode b_TreesFromRoot_markRing 11 = .ok (.if_icmp .ge 31, 3) := by decide +kernel
theorem d_TreesFromRoot_markRing_14 : decode b_TreesFromRoot_markRing 14 = .ok (.aload_n 0, 1) := by decide +kernel
theorem d_TreesFromRoot_markRing_15 : decode b_TreesFromRoot_markRing 15 = .ok (.iload_n 3, 1) := by decide +kernel
theorem d_TreesFromRoot_markRing_16 : decode b_TreesFromRoot_markRing 16 = .ok (.invokevirtual 96, 3) := by decide +kernel
theorem d_TreesFromRoot_markRing_19 : decode b_TreesFromRoot_markRing 19 = .ok (.ifCond .eq 23, 3) := by decide +kernel
theorem d_TreesFromRoot_markRing_22 : decode b_TreesFromRoot_markRing 22 = .ok (.aload_n 0, 1) := by decide +kernel
theorem d_TreesFromRoot_markRing_23 : decode b_TreesFromRoot_markRing 23 = .ok (.getfield 32, 3) := by decide +kernel
theorem d_TreesFromRoot_markRing_26 : decode b_TreesFromRoot_markRing 26 = .ok (.iload_n 3, 1) := by decide +kernel
theorem d_TreesFromRoot_markRing_27 : decode b_TreesFromRoot_markRing 27 = .ok (.iload_n 2, 1) := by decide +kernel
theorem d_TreesFromRoot_markRing_28 : decode b_TreesFromRoot_markRing 28 = .ok (.iastore, 1) := by decide +kernel
theorem d_TreesFromRoot_markRing_29 : decode b_TreesFromRoot_markRing 29 = .ok (.aload_n 0, 1) := by decide +kernel
theorem d_TreesFromRoot_markRing_30 : decode b_TreesFromRoot_markRing 30 = .ok (.getfield 29, 3) := by decide +kernel
theorem d_TreesFromRoot_markRing_33 : decode b_TreesFromRoot_markRing 33 = .ok (.iload_n 3, 1) := by decide +kernel
theorem d_TreesFromRoot_markRing_34 : decode b_TreesFromRoot_markRing 34 = .ok (.iaload, 1) := by decide +kernel
theorem d_TreesFromRoot_markRing_35 : decode b_TreesFromRoot_markRing 35 = .ok (.istore_n 3, 1) := by decide +kernel
theorem d_TreesFromRoot_markRing_36 : decode b_TreesFromRoot_markRing 36 = .ok (.iinc 4 1, 3) := by decide +kernel
theorem d_TreesFromRoot_markRing_39 : decode b_TreesFromRoot_markRing 39 = .ok (.goto (-34), 3) := by decide +kernel
theorem d_TreesFromRoot_markRing_42 : decode b_TreesFromRoot_markRing 42 = .ok (.return_, 1) := by decide +kernel
def g_TreesFromRoot_markRing_5 (p2 : Int32) (t_nodes : Int32) (t_root : Int32) (t_before : Nat → Int32) (k5 : Int32 → Int32 → (Nat → Int32) → Option ((Nat → Int32))) (v3 : Int32) (v4 : Int32) (t_group : Nat → Int32) : Option ((Nat → Int32)) :=
  if t_nodes ≤ v4 then
    some (t_group)
  else
    bk1 (f_TreesFromRoot_isLoose v3 t_root t_group) fun r1 =>
    if r1 = 0 then
      some (t_group)
    else
      gd (inb v3 10) <|
      gd (inb v3 10) <|
      bn (t_before v3.toNatClampNeg) fun x2 =>
      bn (v4 + (1 : Int32)) fun x3 =>
      k5 x2 x3 (upd t_group v3.toNatClampNeg p2)
def f_TreesFromRoot_markRing (N : Nat) (p1 : Int32) (p2 : Int32) (t_nodes : Int32) (t_root : Int32) (t_group0 : Nat → Int32) (t_before : Nat → Int32) : Option ((Nat → Int32)) :=
  lo3 (g_TreesFromRoot_markRing_5 p2 t_nodes t_root t_before) N p1 (0 : Int32) t_group0
set_option maxRecDepth 100000 in
set_option maxHeartbeats 4000000 in
theorem w_TreesFromRoot_markRing_5 {p : Program} {l : Launch} {e : Env} {R : Room} {s : State} {m : MethodId} {args : Array Value} {below : List Frame} {meth : Method} {c : Code} {D : va_G} {cI cJ cG cZ : ClassId} {A : Nat → Prop} {Q : State → Prop} {q_t q_t_graph q_t_tail q_t_head q_t_cost q_t_leastInto q_t_before q_t_group : Nat} {t_nodes : Int32} {t_arcs : Int32} {t_root : Int32} {t_before : Nat → Int32} {p2 : Int32} {RR : (Nat → Int32)} (C0 : CX p R s m args meth c b_TreesFromRoot_markRing 5 R_TreesFromRoot lw_g D CL (TYs cI cJ cG cZ) A 1 21) (hret : ∀ (pc : Nat) (ls : Array Slot) (H : Heap) (locs : List Loc) (t_group : Nat → Int32), decode b_TreesFromRoot_markRing pc = .ok (.return_, 1) → va_P D CL [(q_t, .inr (6, [.ref q_t_graph, .ref q_t_tail, .ref q_t_head, .ref q_t_cost, .ref q_t_leastInto, .ref q_t_before, .ref q_t_group, .int t_nodes, .int t_arcs, .int t_root])), (q_t_group, .inl (cI, 10, .inl t_group)), (q_t_before, .inl (cI, 10, .inl t_before))] H → va_D A [(q_t, .inr (6, [.ref q_t_graph, .ref q_t_tail, .ref q_t_head, .ref q_t_cost, .ref q_t_leastInto, .ref q_t_before, .ref q_t_group, .int t_nodes, .int t_arcs, .int t_root])), (q_t_group, .inl (cI, 10, .inl t_group)), (q_t_before, .inl (cI, 10, .inl t_before))] → va_S A s.heap H locs → some (t_group) = some RR → W p l e R s m args below meth c H locs 0 0 Q (F0 m pc ls [])) (k5 : Int32 → Int32 → (Nat → Int32) → Option ((Nat → Int32))) (hk5 : ∀ (v3 : Int32) (v4 : Int32) (t_group : Nat → Int32) (H : Heap) (locs : List Loc) (ls : Array Slot), va_P D CL [(q_t, .inr (6, [.ref q_t_graph, .ref q_t_tail, .ref q_t_head, .ref q_t_cost, .ref q_t_leastInto, .ref q_t_before, .ref q_t_group, .int t_nodes, .int t_arcs, .int t_root])), (q_t_group, .inl (cI, 10, .inl t_group)), (q_t_before, .inl (cI, 10, .inl t_before))] H → va_D A [(q_t, .inr (6, [.ref q_t_graph, .ref q_t_tail, .ref q_t_head, .ref q_t_cost, .ref q_t_leastInto, .ref q_t_before, .ref q_t_group, .int t_nodes, .int t_arcs, .int t_root])), (q_t_group, .inl (cI, 10, .inl t_group)), (q_t_before, .inl (cI, 10, .inl t_before))] → va_S A s.heap H locs → lv_has ls 5 [(0, .ref q_t), (2, .int p2), (3, .int v3), (4, .int v4)] → k5 v3 v4 t_group = some RR → W p l e R s m args below meth c H locs 0 0 Q (F0 m 5 ls [])) : ∀ (v3 : Int32) (v4 : Int32) (t_group : Nat → Int32) (H : Heap) (locs : List Loc) (ls : Array Slot), va_P D CL [(q_t, .inr (6, [.ref q_t_graph, .ref q_t_tail, .ref q_t_head, .ref q_t_cost, .ref q_t_leastInto, .ref q_t_before, .ref q_t_group, .int t_nodes, .int t_arcs, .int t_root])), (q_t_group, .inl (cI, 10, .inl t_group)), (q_t_before, .inl (cI, 10, .inl t_before))] H → va_D A [(q_t, .inr (6, [.ref q_t_graph, .ref q_t_tail, .ref q_t_head, .ref q_t_cost, .ref q_t_leastInto, .ref q_t_before, .ref q_t_group, .int t_nodes, .int t_arcs, .int t_root])), (q_t_group, .inl (cI, 10, .inl t_group)), (q_t_before, .inl (cI, 10, .inl t_before))] → va_S A s.heap H locs → lv_has ls 5 [(0, .ref q_t), (2, .int p2), (3, .int v3), (4, .int v4)] → g_TreesFromRoot_markRing_5 p2 t_nodes t_root t_before k5 v3 v4 t_group = some RR → W p l e R s m args below meth c H locs 0 0 Q (F0 m 5 ls []) := by
  intro v3 v4 t_group H locs ls hP hD hS hl hf
  obtain ⟨hx, hb, hml, hown, hts, hK, hA, hfr, hlo, hlk⟩ := id C0
  unfold g_TreesFromRoot_markRing_5 at hf
  refine lv_iload hx hb d_TreesFromRoot_markRing_5 (lv_at hl 3 rfl) ?_
  refine lv_aload_n hx hb d_TreesFromRoot_markRing_7 rfl (lv_at hl 0 rfl) ?_
  refine va_get (D := D) (ci := 6) (v := .int t_nodes) (C := R_TreesFromRoot) (T := F_TreesFromRoot) (N := 10) hx hb hts i_TreesFromRoot hown hK hP 0 rfl rfl 7 (by decide) (hts _ m_1_194) (fun _ h9 => h9) rfl d_TreesFromRoot_markRing_8 ?_
  refine lv_icmp_ge (tgt := 42) hx hb d_TreesFromRoot_markRing_11 (by decide) (fun hc1 => ?_) (fun hc1 => ?_)
  · have hf := if_t hc1 hf
    exact hret 42 _ _ _ t_group d_TreesFromRoot_markRing_42 hP hD hS hf
  · have hf := if_f hc1 hf
    refine lv_aload_n hx hb d_TreesFromRoot_markRing_14 rfl (lv_at hl 0 rfl) ?_
    refine lv_iload_n hx hb d_TreesFromRoot_markRing_15 rfl (lv_at hl 2 rfl) ?_
    obtain ⟨r1, hq1, hf⟩ := bk1_e hf
    refine cl_go (wr := [(q_t_before, .inl (cI, 10, .inl t_before))]) (W1 := [(q_t, .inr (6, [.ref q_t_graph, .ref q_t_tail, .ref q_t_head, .ref q_t_cost, .ref q_t_leastInto, .ref q_t_before, .ref q_t_group, .int t_nodes, .int t_arcs, .int t_root])), (q_t_group, .inl (cI, 10, .inl t_group)), (q_t_before, .inl (cI, 10, .inl t_before))]) (va_runV (As := [.int v3]) (rest := []) ⟨hx, hb, hml, hown, hts⟩ (c_TreesFromRoot_isLoose l D cI cJ cG cZ q_t q_t_graph q_t_tail q_t_head q_t_cost q_t_leastInto q_t_before q_t_group t_nodes t_arcs t_root t_group v3 hq1 H.size) (cwV 1 hts (gi_V m_3_55 m_3_57 m_0_18 m_1_7 wi_TreesFromRoot_isLoose) rfl rfl rfl hd_TreesFromRoot_isLoose ⟨Nat.le_trans (Nat.le_of_ble_eq_true rfl) hfr, Nat.le_trans (Nat.le_of_ble_eq_true rfl) hlo⟩) ⟨pw_blind, va_recv hK hP (ci := 6) (q0 := 0) rfl rfl, fun U hU hW => ⟨rfl, pw_in hU (hP.sub [0, 1] rfl) (va_K.moved hW.alike hK) ((hD.sub [0, 1] rfl rfl).weaken (fun _ _ _ _ => trivial))⟩⟩ rfl rfl hl.1 rfl (lv_room (Nat.le_of_ble_eq_true rfl)) d_TreesFromRoot_markRing_16 ⟨Nat.zero_le _, Nat.zero_le _⟩) hP hD hS hA [0, 1] [2] rfl rfl rfl rfl [1, 2, 0] rfl rfl (fun H locs hP hD hS => ?_)
    have hP : va_P D CL [(q_t, .inr (6, [.ref q_t_graph, .ref q_t_tail, .ref q_t_head, .ref q_t_cost, .ref q_t_leastInto, .ref q_t_before, .ref q_t_group, .int t_nodes, .int t_arcs, .int t_root])), (q_t_group, .inl (cI, 10, .inl t_group)), (q_t_before, .inl (cI, 10, .inl t_before))] H := hP
    have hD : va_D A [(q_t, .inr (6, [.ref q_t_graph, .ref q_t_tail, .ref q_t_head, .ref q_t_cost, .ref q_t_leastInto, .ref q_t_before, .ref q_t_group, .int t_nodes, .int t_arcs, .int t_root])), (q_t_group, .inl (cI, 10, .inl t_group)), (q_t_before, .inl (cI, 10, .inl t_before))] := hD
    refine lv_if_eq (tgt := 42) hx hb d_TreesFromRoot_markRing_19 (by decide) (fun hc2 => ?_) (fun hc2 => ?_)
    · have hf := if_t hc2 hf
      exact hret 42 _ _ _ t_group d_TreesFromRoot_markRing_42 hP hD hS hf
    · have hf := if_f hc2 hf
      refine lv_aload_n hx hb d_TreesFromRoot_markRing_22 rfl (lv_at hl 0 rfl) ?_
      refine va_get (D := D) (ci := 6) (v := .ref q_t_group) (C := R_TreesFromRoot) (T := F_TreesFromRoot) (N := 10) hx hb hts i_TreesFromRoot hown hK hP 0 rfl rfl 6 (by decide) (hts _ m_1_193) (fun _ h9 => h9) rfl d_TreesFromRoot_markRing_23 ?_
      refine lv_iload_n hx hb d_TreesFromRoot_markRing_26 rfl (lv_at hl 2 rfl) ?_
      refine lv_iload_n hx hb d_TreesFromRoot_markRing_27 rfl (lv_at hl 1 rfl) ?_
      obtain ⟨hg1, hf⟩ := gd_e hf
      refine va_iast hx hb hK hP hD hS 1 0 rfl rfl (inb_e hg1) d_TreesFromRoot_markRing_28 (fun H locs hP hD hS => ?_)
      have hP : va_P D CL [(q_t, .inr (6, [.ref q_t_graph, .ref q_t_tail, .ref q_t_head, .ref q_t_cost, .ref q_t_leastInto, .ref q_t_before, .ref q_t_group, .int t_nodes, .int t_arcs, .int t_root])), (q_t_group, .inl (cI, 10, .inl (upd t_group v3.toNatClampNeg p2))), (q_t_before, .inl (cI, 10, .inl t_before))] H := hP
      have hD : va_D A [(q_t, .inr (6, [.ref q_t_graph, .ref q_t_tail, .ref q_t_head, .ref q_t_cost, .ref q_t_leastInto, .ref q_t_before, .ref q_t_group, .int t_nodes, .int t_arcs, .int t_root])), (q_t_group, .inl (cI, 10, .inl (upd t_group v3.toNatClampNeg p2))), (q_t_before, .inl (cI, 10, .inl t_before))] := hD
      refine lv_aload_n hx hb d_TreesFromRoot_markRing_29 rfl (lv_at hl 0 rfl) ?_
      refine va_get (D := D) (ci := 6) (v := .ref q_t_before) (C := R_TreesFromRoot) (T := F_TreesFromRoot) (N := 10) hx hb hts i_TreesFromRoot hown hK hP 0 rfl rfl 5 (by decide) (hts _ m_1_192) (fun _ h9 => h9) rfl d_TreesFromRoot_markRing_30 ?_
      refine lv_iload_n hx hb d_TreesFromRoot_markRing_33 rfl (lv_at hl 2 rfl) ?_
      obtain ⟨hg2, hf⟩ := gd_e hf
      refine va_iald hx hb hK hP 2 0 rfl rfl (inb_e hg2) d_TreesFromRoot_markRing_34 ?_
      refine lv_topi (fun x2 ex2 => ?_)
      have hf := bn_e ex2 hf
      refine lv_istore_n (lv' := [(3, .int x2), (0, .ref q_t), (2, .int p2), (4, .int v4)]) hx hb d_TreesFromRoot_markRing_35 rfl hl (by decide) rfl (fun ls hl => ?_)
      obtain ⟨x3, ex3⟩ : ∃ y : Int32, y = v4 + (1 : Int32) := ⟨_, rfl⟩
      have hf := bn_e ex3 hf
      refine lv_iinc (v := x3) (lv' := [(4, .int x3), (3, .int x2), (0, .ref q_t), (2, .int p2)]) hx hb d_TreesFromRoot_markRing_36 hl (k := 3) rfl (by rw [ex3]; rfl) (by decide) rfl (fun ls hl => ?_)
      refine lv_goto (tgt := 5) hx hb d_TreesFromRoot_markRing_39 (by decide) ?_
      exact hk5 x2 x3 (upd t_group v3.toNatClampNeg p2) _ _ _ hP hD hS (lv_sub hl [2, 3, 1, 0] rfl) hf
set_option maxRecDepth 100000 in
set_option maxHeartbeats 4000000 in
theorem w_TreesFromRoot_markRing_5_l {p : Program} {l : Launch} {e : Env} {R : Room} {s : State} {m : MethodId} {args : Array Value} {below : List Frame} {meth : Method} {c : Code} {D : va_G} {cI cJ cG cZ : ClassId} {A : Nat → Prop} {Q : State → Prop} {q_t q_t_graph q_t_tail q_t_head q_t_cost q_t_leastInto q_t_before q_t_group : Nat} {t_nodes : Int32} {t_arcs : Int32} {t_root : Int32} {t_before : Nat → Int32} {p2 : Int32} {RR : (Nat → Int32)} (C0 : CX p R s m args meth c b_TreesFromRoot_markRing 5 R_TreesFromRoot lw_g D CL (TYs cI cJ cG cZ) A 1 21) (hret : ∀ (pc : Nat) (ls : Array Slot) (H : Heap) (locs : List Loc) (t_group : Nat → Int32), decode b_TreesFromRoot_markRing pc = .ok (.return_, 1) → va_P D CL [(q_t, .inr (6, [.ref q_t_graph, .ref q_t_tail, .ref q_t_head, .ref q_t_cost, .ref q_t_leastInto, .ref q_t_before, .ref q_t_group, .int t_nodes, .int t_arcs, .int t_root])), (q_t_group, .inl (cI, 10, .inl t_group)), (q_t_before, .inl (cI, 10, .inl t_before))] H → va_D A [(q_t, .inr (6, [.ref q_t_graph, .ref q_t_tail, .ref q_t_head, .ref q_t_cost, .ref q_t_leastInto, .ref q_t_before, .ref q_t_group, .int t_nodes, .int t_arcs, .int t_root])), (q_t_group, .inl (cI, 10, .inl t_group)), (q_t_before, .inl (cI, 10, .inl t_before))] → va_S A s.heap H locs → some (t_group) = some RR → W p l e R s m args below meth c H locs 0 0 Q (F0 m pc ls []))  : ∀ (n : Nat) (v3 : Int32) (v4 : Int32) (t_group : Nat → Int32) (H : Heap) (locs : List Loc) (ls : Array Slot), va_P D CL [(q_t, .inr (6, [.ref q_t_graph, .ref q_t_tail, .ref q_t_head, .ref q_t_cost, .ref q_t_leastInto, .ref q_t_before, .ref q_t_group, .int t_nodes, .int t_arcs, .int t_root])), (q_t_group, .inl (cI, 10, .inl t_group)), (q_t_before, .inl (cI, 10, .inl t_before))] H → va_D A [(q_t, .inr (6, [.ref q_t_graph, .ref q_t_tail, .ref q_t_head, .ref q_t_cost, .ref q_t_leastInto, .ref q_t_before, .ref q_t_group, .int t_nodes, .int t_arcs, .int t_root])), (q_t_group, .inl (cI, 10, .inl t_group)), (q_t_before, .inl (cI, 10, .inl t_before))] → va_S A s.heap H locs → lv_has ls 5 [(0, .ref q_t), (2, .int p2), (3, .int v3), (4, .int v4)] → lo3 (g_TreesFromRoot_markRing_5 p2 t_nodes t_root t_before) n v3 v4 t_group = some RR → W p l e R s m args below meth c H locs 0 0 Q (F0 m 5 ls []) := by
  intro n
  induction n with
  | zero =>
    intro v3 v4 t_group H locs ls hP hD hS hl hf
    exact absurd hf (by simp [lo3])
  | succ n ih =>
    intro v3 v4 t_group H locs ls hP hD hS hl hf
    exact w_TreesFromRoot_markRing_5 C0 hret  (lo3 (g_TreesFromRoot_markRing_5 p2 t_nodes t_root t_before) n) ih v3 v4 t_group H locs ls hP hD hS hl hf
set_option maxRecDepth 100000 in
set_option maxHeartbeats 4000000 in
theorem w_TreesFromRoot_markRing_e {p : Program} {l : Launch} {e : Env} {R : Room} {s : State} {m : MethodId} {args : Array Value} {below : List Frame} {meth : Method} {c : Code} {D : va_G} {cI cJ cG cZ : ClassId} {A : Nat → Prop} {Q : State → Prop} {q_t q_t_graph q_t_tail q_t_head q_t_cost q_t_leastInto q_t_before q_t_group : Nat} {t_nodes : Int32} {t_arcs : Int32} {t_root : Int32} {t_group0 : Nat → Int32} {t_before : Nat → Int32} {p1 : Int32} {p2 : Int32} {N : Nat} {RR : (Nat → Int32)} (C0 : CX p R s m args meth c b_TreesFromRoot_markRing 5 R_TreesFromRoot lw_g D CL (TYs cI cJ cG cZ) A 1 21) (hret : ∀ (pc : Nat) (ls : Array Slot) (H : Heap) (locs : List Loc) (t_group : Nat → Int32), decode b_TreesFromRoot_markRing pc = .ok (.return_, 1) → va_P D CL [(q_t, .inr (6, [.ref q_t_graph, .ref q_t_tail, .ref q_t_head, .ref q_t_cost, .ref q_t_leastInto, .ref q_t_before, .ref q_t_group, .int t_nodes, .int t_arcs, .int t_root])), (q_t_group, .inl (cI, 10, .inl t_group)), (q_t_before, .inl (cI, 10, .inl t_before))] H → va_D A [(q_t, .inr (6, [.ref q_t_graph, .ref q_t_tail, .ref q_t_head, .ref q_t_cost, .ref q_t_leastInto, .ref q_t_before, .ref q_t_group, .int t_nodes, .int t_arcs, .int t_root])), (q_t_group, .inl (cI, 10, .inl t_group)), (q_t_before, .inl (cI, 10, .inl t_before))] → va_S A s.heap H locs → some (t_group) = some RR → W p l e R s m args below meth c H locs 0 0 Q (F0 m pc ls [])) : ∀ (H : Heap) (locs : List Loc) (ls : Array Slot), va_P D CL [(q_t, .inr (6, [.ref q_t_graph, .ref q_t_tail, .ref q_t_head, .ref q_t_cost, .ref q_t_leastInto, .ref q_t_before, .ref q_t_group, .int t_nodes, .int t_arcs, .int t_root])), (q_t_group, .inl (cI, 10, .inl t_group0)), (q_t_before, .inl (cI, 10, .inl t_before))] H → va_D A [(q_t, .inr (6, [.ref q_t_graph, .ref q_t_tail, .ref q_t_head, .ref q_t_cost, .ref q_t_leastInto, .ref q_t_before, .ref q_t_group, .int t_nodes, .int t_arcs, .int t_root])), (q_t_group, .inl (cI, 10, .inl t_group0)), (q_t_before, .inl (cI, 10, .inl t_before))] → va_S A s.heap H locs → lv_has ls 5 [(0, .ref q_t), (1, .int p1), (2, .int p2)] → f_TreesFromRoot_markRing N p1 p2 t_nodes t_root t_group0 t_before = some RR → W p l e R s m args below meth c H locs 0 0 Q (F0 m 0 ls []) := by
  intro H locs ls hP hD hS hl hf
  obtain ⟨hx, hb, hml, hown, hts, hK, hA, hfr, hlo, hlk⟩ := id C0
  unfold f_TreesFromRoot_markRing at hf
  refine lv_iload_n hx hb d_TreesFromRoot_markRing_0 rfl (lv_at hl 1 rfl) ?_
  refine lv_istore_n (lv' := [(3, .int p1), (0, .ref q_t), (1, .int p1), (2, .int p2)]) hx hb d_TreesFromRoot_markRing_1 rfl hl (by decide) rfl (fun ls hl => ?_)
  refine lv_iconst (v := 0) hx hb d_TreesFromRoot_markRing_2 (by decide) ?_
  refine lv_istore (lv' := [(4, .int (0 : Int32)), (3, .int p1), (0, .ref q_t), (1, .int p1), (2, .int p2)]) hx hb d_TreesFromRoot_markRing_3 hl (by decide) rfl (fun ls hl => ?_)
  exact w_TreesFromRoot_markRing_5_l C0 hret N p1 (0 : Int32) t_group0 _ _ _ hP hD hS (lv_sub hl [2, 4, 1, 0] rfl) hf
set_option maxRecDepth 100000 in
set_option maxHeartbeats 4000000 in
theorem c_TreesFromRoot_markRing (l : Launch) (D : va_G) (cI cJ cG cZ : ClassId) (q_t q_t_graph q_t_tail q_t_head q_t_cost q_t_leastInto q_t_before q_t_group : Nat) (t_nodes : Int32) (t_arcs : Int32) (t_root : Int32) (t_group0 : Nat → Int32) (t_before : Nat → Int32) (p1 : Int32) (p2 : Int32) {N : Nat} {t_group' : Nat → Int32} (hf : f_TreesFromRoot_markRing N p1 p2 t_nodes t_root t_group0 t_before = some (t_group')) : MeG l D CL (TYs cI cJ cG cZ) y_TreesFromRoot_markRing ws_TreesFromRoot_markRing (rm_TreesFromRoot_markRing) [.ref q_t, .int p1, .int p2] [(q_t, .inr (6, [.ref q_t_graph, .ref q_t_tail, .ref q_t_head, .ref q_t_cost, .ref q_t_leastInto, .ref q_t_before, .ref q_t_group, .int t_nodes, .int t_arcs, .int t_root])), (q_t_group, .inl (cI, 10, .inl t_group0)), (q_t_before, .inl (cI, 10, .inl t_before))] none [(q_t, .inr (6, [.ref q_t_graph, .ref q_t_tail, .ref q_t_head, .ref q_t_cost, .ref q_t_leastInto, .ref q_t_before, .ref q_t_group, .int t_nodes, .int t_arcs, .int t_root])), (q_t_group, .inl (cI, 10, .inl t_group')), (q_t_before, .inl (cI, 10, .inl t_before))] := by
  intro sz
  refine Met.ofW (cc := b_TreesFromRoot_markRing) (maxL := 5) (ret := none) (by decide) rfl ?_
  intro p e s m args below meth c s₁ B hml hv
  obtain ⟨rfl, hsz, hP, hK, hD0⟩ := hv
  subst hsz
  have hD := hD0.self (sz := s.heap.size)
  generalize hAe : va_A [(q_t, .inr (6, [.ref q_t_graph, .ref q_t_tail, .ref q_t_head, .ref q_t_cost, .ref q_t_leastInto, .ref q_t_before, .ref q_t_group, .int t_nodes, .int t_arcs, .int t_root])), (q_t_group, .inl (cI, 10, .inl t_group0)), (q_t_before, .inl (cI, 10, .inl t_before))] s.heap.size = A at hD ⊢
  have C0 : CX p (headSpec ws_TreesFromRoot_markRing (rm_TreesFromRoot_markRing)).room s m _ meth c b_TreesFromRoot_markRing 5 R_TreesFromRoot lw_g D CL (TYs cI cJ cG cZ) A 1 21 := ⟨B.exec, B.bytes, hml, findClass_of_methodNamed B.named, fun w h => atoms_spec (ws := ws_TreesFromRoot_markRing) B.pre w (List.mem_cons_of_mem _ h), hK, fun q h => by rw [← hAe]; exact Or.inr h, Nat.le_of_ble_eq_true rfl, Nat.le_of_ble_eq_true rfl, B.notSynchronized⟩
  have hl := lv_entry ([.ref q_t, .int p1, .int p2]) (n := 5) (Nat.le_of_ble_eq_true rfl)
  rw [lg_entry_eq]
  generalize (lg_sl ([.ref q_t, .int p1, .int p2]) ++ List.replicate (5 - (lg_sl ([.ref q_t, .int p1, .int p2])).length) Slot.unset).toArray = ls at hl ⊢
  have hl : lv_has ls 5 [(0, .ref q_t), (1, .int p1), (2, .int p2)] := hl
  exact w_TreesFromRoot_markRing_e C0 (fun pc ls H locs t_group hdg hP hD hS e => by cases e; exact W.vret B.exec B.bytes B.returns (fun t ht hW => ⟨⟨rfl, by rw [ht]; exact hP, va_K.moved hW.alike hK, hD⟩, hS.F ht⟩) hS.2.2 hdg) _ _ _ hP hD va_S.rf (lv_sub hl [0, 1, 2] rfl) hf
