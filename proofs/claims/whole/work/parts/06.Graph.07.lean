abbrev b_Graph_isIn : ByteArray := prog_5_method_11_code
def y_Graph_isIn : MethodName := ⟨R_Graph, "isIn", "(JI)Z"⟩
def ws_Graph_isIn : List Cond := .code y_Graph_isIn b_Graph_isIn 3 (some .boolean) :: lw_g
theorem wi_Graph_isIn : ∀ w ∈ ws_Graph_isIn, w ∈ lw_g := wi_of m_2_50
abbrev rm_Graph_isIn : Room := { frames := 0, cells := 0, slots := 0, locals := 0 }
theorem hd_Graph_isIn : y_Graph_isIn.cls ≠ "java/lang/invoke/MethodHandle" ∧ y_Graph_isIn.cls ≠ "java/lang/invoke/VarHandle" ∧ (parseMethodDescriptor y_Graph_isIn.desc).map (fun d => d.parameters.length) = some 2 := by decide +kernel
theorem d_Graph_isIn_0 : decode b_Graph_isIn 0 = .ok (.lload_n 0, 1) := by decide +kernel
theorem d_Graph_isIn_1 : decode b_Graph_isIn 1 = .ok (.iload_n 2, 1) := by decide +kernel
theorem d_Graph_isIn_2 : decode b_Graph_isIn 2 = .ok (.lshr, 1) := by decide +kernel
theorem d_Graph_isIn_3 : decode b_Graph_isIn 3 = .ok (.lconst 1, 1) := by decide +kernel
theorem d_Graph_isIn_4 : decode b_Graph_isIn 4 = .ok (.land, 1) := by decide +kernel
theorem d_Graph_isIn_5 : decode b_Graph_isIn 5 = .ok (.lconst 0, 1) := by decide +kernel
theorem d_Graph_isIn_6 : decode b_Graph_isIn 6 = .ok (.lcmp, 1) := by decide +kernel
theorem d_Graph_isIn_7 : decode b_Graph_isIn 7 = .ok (.ifCond .eq 7, 3) := by decide +kernel
theorem d_Graph_isIn_10 : decode b_Graph_isIn 10 = .ok (.iconst 1, 1) := by decide +kernel
theorem d_Graph_isIn_11 : decode b_Graph_isIn 11 = .ok (.goto 4, 3) := by decide +kernel
theorem d_Graph_isIn_14 : decode b_Graph_isIn 14 = .ok (.iconst 0, 1) := by decide +kernel
theorem d_Graph_isIn_15 : decode b_Graph_isIn 15 = .ok (.ireturn, 1) := by decide +kernel
def f_Graph_isIn (p0 : Int64) (p2 : Int32) : Option (Int32) :=
  if (lg_cmp ((p0 >>> (p2.toInt64 &&& 63)) &&& (1 : Int64)) (0 : Int64)) = 0 then
    some ((0 : Int32))
  else
    some ((1 : Int32))
set_option maxRecDepth 100000 in
set_option maxHeartbeats 4000000 in
theorem w_Graph_isIn_e {p : Program} {l : Launch} {e : Env} {R : Room} {s : State} {m : MethodId} {args : Array Value} {below : List Frame} {meth : Method} {c : Code} {D : va_G} {cI cJ cG cZ : ClassId} {A : Nat → Prop} {Q : State → Prop} {p0 : Int64} {p2 : Int32} {RR : Int32} (C0 : CX p R s m args meth c b_Graph_isIn 3 R_Graph lw_g D CL (TYs cI cJ cG cZ) A 0 0) (hret : ∀ (pc : Nat) (ls : Array Slot) (H : Heap) (locs : List Loc) (v : Int32) , decode b_Graph_isIn pc = .ok (.ireturn, 1) → narrow .boolean (.int v) = .int v → va_P D CL [] H → va_D A [] → va_S A s.heap H locs → some (v) = some RR → W p l e R s m args below meth c H locs 0 0 Q (F0 m pc ls [.int v])) : ∀ (H : Heap) (locs : List Loc) (ls : Array Slot), va_P D CL [] H → va_D A [] → va_S A s.heap H locs → lv_has ls 3 [(0, .long p0), (2, .int p2)] → f_Graph_isIn p0 p2 = some RR → W p l e R s m args below meth c H locs 0 0 Q (F0 m 0 ls []) := by
  intro H locs ls hP hD hS hl hf
  obtain ⟨hx, hb, hml, hown, hts, hK, hA, hfr, hlo, hlk⟩ := id C0
  unfold f_Graph_isIn at hf
  refine lv_lload_n hx hb d_Graph_isIn_0 rfl (lv_at hl 0 rfl) ?_
  refine lv_iload_n hx hb d_Graph_isIn_1 rfl (lv_at hl 1 rfl) ?_
  refine lv_lshr (v := p0 >>> (p2.toInt64 &&& 63)) hx hb d_Graph_isIn_2 rfl ?_
  refine lv_lconst (v := 1) hx hb d_Graph_isIn_3 (by decide) ?_
  refine lv_land hx hb d_Graph_isIn_4 ?_
  refine lv_lconst (v := 0) hx hb d_Graph_isIn_5 (by decide) ?_
  refine W.lcmp hx hb d_Graph_isIn_6 ?_
  refine lv_if_eq (tgt := 14) hx hb d_Graph_isIn_7 (by decide) (fun c1 => ?_) (fun c1 => ?_)
  · have hf := if_t c1 hf
    refine lv_iconst (v := 0) hx hb d_Graph_isIn_14 (by decide) ?_
    exact hret 15 _ _ _ (0 : Int32) d_Graph_isIn_15 rfl hP hD hS hf
  · have hf := if_f c1 hf
    refine lv_iconst (v := 1) hx hb d_Graph_isIn_10 (by decide) ?_
    refine lv_goto (tgt := 15) hx hb d_Graph_isIn_11 (by decide) ?_
    exact hret 15 _ _ _ (1 : Int32) d_Graph_isIn_15 rfl hP hD hS hf
set_option maxRecDepth 100000 in
set_option maxHeartbeats 4000000 in
theorem c_Graph_isIn (l : Launch) (D : va_G) (cI cJ cG cZ : ClassId) (p0 : Int64) (p2 : Int32) {r : Int32} (hf : f_Graph_isIn p0 p2 = some (r)) : MeG l D CL (TYs cI cJ cG cZ) y_Graph_isIn ws_Graph_isIn (rm_Graph_isIn) [.long p0, .int p2] [] (some (.int r)) [] := by
  intro sz
  refine Met.ofW (cc := b_Graph_isIn) (maxL := 3) (ret := (some .boolean)) (by decide) rfl ?_
  intro p e s m args below meth c s₁ B hml hv
  obtain ⟨rfl, hsz, hP, hK, hD0⟩ := hv
  subst hsz
  have hD := hD0.self (sz := s.heap.size)
  generalize hAe : va_A [] s.heap.size = A at hD ⊢
  have C0 : CX p (headSpec ws_Graph_isIn (rm_Graph_isIn)).room s m _ meth c b_Graph_isIn 3 R_Graph lw_g D CL (TYs cI cJ cG cZ) A 0 0 := ⟨B.exec, B.bytes, hml, findClass_of_methodNamed B.named, fun w h => atoms_spec (ws := ws_Graph_isIn) B.pre w (List.mem_cons_of_mem _ h), hK, fun q h => by rw [← hAe]; exact Or.inr h, Nat.le_of_ble_eq_true rfl, Nat.le_of_ble_eq_true rfl, B.notSynchronized⟩
  have hl := lv_entry ([.long p0, .int p2]) (n := 3) (Nat.le_of_ble_eq_true rfl)
  rw [lg_entry_eq]
  generalize (lg_sl ([.long p0, .int p2]) ++ List.replicate (3 - (lg_sl ([.long p0, .int p2])).length) Slot.unset).toArray = ls at hl ⊢
  have hl : lv_has ls 3 [(0, .long p0), (2, .int p2)] := hl
  exact w_Graph_isIn_e C0 (fun pc ls H locs v hdg hz hP hD hS e => by cases e; exact W.zret B.exec B.bytes B.returns hz (fun t ht hW => ⟨⟨rfl, by rw [ht]; exact hP, va_K.moved hW.alike hK, hD⟩, hS.F ht⟩) hS.2.2 hdg) _ _ _ hP hD va_S.rf (lv_sub hl [0, 1] rfl) hf
abbrev b_Graph_hasArc : ByteArray := prog_5_method_8_code
def y_Graph_hasArc : MethodName := ⟨R_Graph, "hasArc", "(I)Z"⟩
def ws_Graph_hasArc : List Cond := .code y_Graph_hasArc b_Graph_hasArc 2 (some .boolean) :: lw_g
theorem wi_Graph_hasArc : ∀ w ∈ ws_Graph_hasArc, w ∈ lw_g := wi_of m_2_47
abbrev rm_Graph_hasArc : Room := { frames := 1, cells := 0, slots := 0, locals := 22 }
theorem hd_Graph_hasArc : y_Graph_hasArc.cls = R_Graph ∧ y_Graph_hasArc.cls ≠ "java/lang/invoke/MethodHandle" ∧ y_Graph_hasArc.cls ≠ "java/lang/invoke/VarHandle" ∧ (parseMethodDescriptor y_Graph_hasArc.desc).map (fun d => d.parameters.length) = some 1 := by decide +kernel
theorem d_Graph_hasArc_0 : decode b_Graph_hasArc 0 = .ok (.iload_n 1, 1) := by decide +kernel
theorem d_Graph_hasArc_1 : decode b_Graph_hasArc 1 = .ok (.ifCond .lt 26, 3) := by decide +kernel
theorem d_Graph_hasArc_4 : decode b_Graph_hasArc 4 = .ok (.iload_n 1, 1) := by decide +kernel
theorem d_Graph_hasArc_5 : decode b_Graph_hasArc 5 = .ok (.aload_n 0, 1) := by decide +kernel
theorem d_Graph_hasArc_6 : decode b_Graph_hasArc 6 = .ok (.getfield 28, 3) := by decide +kernel
theorem d_Graph_hasArc_9 : decode b_Graph_hasArc 9 = .ok (.if_icmp .ge 18, 3) := by decide +kernel
theorem d_Graph_hasArc_12 : decode b_Graph_hasArc 12 = .ok (.aload_n 0, 1) := by decide +kernel
theorem d_Graph_hasArc_13 : decode b_Graph_hasArc 13 = .ok (.getfield 31, 3) := by decide +kernel
theorem d_Graph_hasArc_16 : decode b_Graph_hasArc 16 = .ok (.iload_n 1, 1) := by decide +kernel
theorem d_Graph_hasArc_17 : decode b_Graph_hasArc 17 = .ok (.invokestatic 47, 3) := by decide +kernel
theorem d_Graph_hasArc_20 : decode b_Graph_hasArc 20 = .ok (.ifCond .eq 7, 3) := by decide +kernel
theorem d_Graph_hasArc_23 : decode b_Graph_hasArc 23 = .ok (.iconst 1, 1) := by decide +kernel
theorem d_Graph_hasArc_24 : decode b_Graph_hasArc 24 = .ok (.goto 4, 3) := by decide +kernel
theorem d_Graph_hasArc_27 : decode b_Graph_hasArc 27 = .ok (.iconst 0, 1) := by decide +kernel
theorem d_Graph_hasArc_28 : decode b_Graph_hasArc 28 = .ok (.ireturn, 1) := by decide +kernel
def f_Graph_hasArc (p1 : Int32) (t_numbered : Int32) (t_present : Int64) : Option (Int32) :=
  if p1 < 0 then
    some ((0 : Int32))
  else
    if t_numbered ≤ p1 then
      some ((0 : Int32))
    else
      bk1 (f_Graph_isIn t_present p1) fun r1 =>
      if r1 = 0 then
        some ((0 : Int32))
      else
        some ((1 : Int32))
set_option maxRecDepth 100000 in
set_option maxHeartbeats 4000000 in
theorem w_Graph_hasArc_e {p : Program} {l : Launch} {e : Env} {R : Room} {s : State} {m : MethodId} {args : Array Value} {below : List Frame} {meth : Method} {c : Code} {D : va_G} {cI cJ cG cZ : ClassId} {A : Nat → Prop} {Q : State → Prop} {q_t q_t_from q_t_to q_t_weight q_t_order : Nat} {t_nodes : Int32} {t_numbered : Int32} {t_size : Int32} {t_present : Int64} {p1 : Int32} {RR : Int32} (C0 : CX p R s m args meth c b_Graph_hasArc 2 R_Graph lw_g D CL (TYs cI cJ cG cZ) A 1 22) (hret : ∀ (pc : Nat) (ls : Array Slot) (H : Heap) (locs : List Loc) (v : Int32) , decode b_Graph_hasArc pc = .ok (.ireturn, 1) → narrow .boolean (.int v) = .int v → va_P D CL [(q_t, .inr (2, [.ref q_t_from, .ref q_t_to, .ref q_t_weight, .ref q_t_order, .int t_nodes, .int t_numbered, .int t_size, .long t_present]))] H → va_D A [(q_t, .inr (2, [.ref q_t_from, .ref q_t_to, .ref q_t_weight, .ref q_t_order, .int t_nodes, .int t_numbered, .int t_size, .long t_present]))] → va_S A s.heap H locs → some (v) = some RR → W p l e R s m args below meth c H locs 0 0 Q (F0 m pc ls [.int v])) : ∀ (H : Heap) (locs : List Loc) (ls : Array Slot), va_P D CL [(q_t, .inr (2, [.ref q_t_from, .ref q_t_to, .ref q_t_weight, .ref q_t_order, .int t_nodes, .int t_numbered, .int t_size, .long t_present]))] H → va_D A [(q_t, .inr (2, [.ref q_t_from, .ref q_t_to, .ref q_t_weight, .ref q_t_order, .int t_nodes, .int t_numbered, .int t_size, .long t_present]))] → va_S A s.heap H locs → lv_has ls 2 [(0, .ref q_t), (1, .int p1)] → f_Graph_hasArc p1 t_numbered t_present = some RR → W p l e R s m args below meth c H locs 0 0 Q (F0 m 0 ls []) := by
  intro H locs ls hP hD hS hl hf
  obtain ⟨hx, hb, hml, hown, hts, hK, hA, hfr, hlo, hlk⟩ := id C0
  unfold f_Graph_hasArc at hf
  refine lv_iload_n hx hb d_Graph_hasArc_0 rfl (lv_at hl 1 rfl) ?_
  refine lv_if_lt (tgt := 27) hx hb d_Graph_hasArc_1 (by decide) (fun c1 => ?_) (fun c1 => ?_)
  · have hf := if_t c1 hf
    refine lv_iconst (v := 0) hx hb d_Graph_hasArc_27 (by decide) ?_
    exact hret 28 _ _ _ (0 : Int32) d_Graph_hasArc_28 rfl hP hD hS hf
  · have hf := if_f c1 hf
    refine lv_iload_n hx hb d_Graph_hasArc_4 rfl (lv_at hl 1 rfl) ?_
    refine lv_aload_n hx hb d_Graph_hasArc_5 rfl (lv_at hl 0 rfl) ?_
    refine va_get (D := D) (ci := 2) (v := .int t_numbered) (C := R_Graph) (T := F_Graph) (N := 8) hx hb hts i_Graph hown hK hP 0 rfl rfl 5 (by decide) (hts _ m_1_55) (fun _ h9 => h9) rfl d_Graph_hasArc_6 ?_
    refine lv_icmp_ge (tgt := 27) hx hb d_Graph_hasArc_9 (by decide) (fun c2 => ?_) (fun c2 => ?_)
    · have hf := if_t c2 hf
      refine lv_iconst (v := 0) hx hb d_Graph_hasArc_27 (by decide) ?_
      exact hret 28 _ _ _ (0 : Int32) d_Graph_hasArc_28 rfl hP hD hS hf
    · have hf := if_f c2 hf
      refine lv_aload_n hx hb d_Graph_hasArc_12 rfl (lv_at hl 0 rfl) ?_
      refine va_get (D := D) (ci := 2) (v := .long t_present) (C := R_Graph) (T := F_Graph) (N := 8) hx hb hts i_Graph hown hK hP 0 rfl rfl 7 (by decide) (hts _ m_1_63) (fun _ h9 => h9) rfl d_Graph_hasArc_13 ?_
      refine lv_iload_n hx hb d_Graph_hasArc_16 rfl (lv_at hl 1 rfl) ?_
      obtain ⟨r1, hq1, hf⟩ := bk1_e hf
      refine cl_nil (va_runS (As := [.long t_present, .int p1]) (rest := []) ⟨hx, hb, hml, hown, hts⟩ (c_Graph_isIn l D cI cJ cG cZ t_present p1 hq1 H.size) (va_cwS 2 hts (gi_S m_2_48 m_2_49 m_1_2 wi_Graph_isIn) rfl rfl rfl hd_Graph_isIn ⟨Nat.le_trans (Nat.le_of_ble_eq_true rfl) hfr, Nat.le_trans (Nat.le_of_ble_eq_true rfl) hlo⟩) ⟨pw_blind, fun U hU hW => ⟨rfl, pw_in hU pn_P (va_K.moved hW.alike hK) pn_D⟩⟩ rfl rfl hl.1 rfl (lv_room (Nat.le_of_ble_eq_true rfl)) d_Graph_hasArc_17 ⟨Nat.zero_le _, Nat.zero_le _⟩) hP hD hS hA (fun H locs hP hD hS => ?_)
      have hP : va_P D CL [(q_t, .inr (2, [.ref q_t_from, .ref q_t_to, .ref q_t_weight, .ref q_t_order, .int t_nodes, .int t_numbered, .int t_size, .long t_present]))] H := hP
      have hD : va_D A [(q_t, .inr (2, [.ref q_t_from, .ref q_t_to, .ref q_t_weight, .ref q_t_order, .int t_nodes, .int t_numbered, .int t_size, .long t_present]))] := hD
      refine lv_if_eq (tgt := 27) hx hb d_Graph_hasArc_20 (by decide) (fun c3 => ?_) (fun c3 => ?_)
      · have hf := if_t c3 hf
        refine lv_iconst (v := 0) hx hb d_Graph_hasArc_27 (by decide) ?_
        exact hret 28 _ _ _ (0 : Int32) d_Graph_hasArc_28 rfl hP hD hS hf
      · have hf := if_f c3 hf
        refine lv_iconst (v := 1) hx hb d_Graph_hasArc_23 (by decide) ?_
        refine lv_goto (tgt := 28) hx hb d_Graph_hasArc_24 (by decide) ?_
        exact hret 28 _ _ _ (1 : Int32) d_Graph_hasArc_28 rfl hP hD hS hf
set_option maxRecDepth 100000 in
set_option maxHeartbeats 4000000 in
theorem c_Graph_hasArc (l : Launch) (D : va_G) (cI cJ cG cZ : ClassId) (q_t q_t_from q_t_to q_t_weight q_t_order : Nat) (t_nodes : Int32) (t_numbered : Int32) (t_size : Int32) (t_present : Int64) (p1 : Int32) {r : Int32} (hf : f_Graph_hasArc p1 t_numbered t_present = some (r)) : MeG l D CL (TYs cI cJ cG cZ) y_Graph_hasArc ws_Graph_hasArc (rm_Graph_hasArc) [.ref q_t, .int p1] [(q_t, .inr (2, [.ref q_t_from, .ref q_t_to, .ref q_t_weight, .ref q_t_order, .int t_nodes, .int t_numbered, .int t_size, .long t_present]))] (some (.int r)) [(q_t, .inr (2, [.ref q_t_from, .ref q_t_to, .ref q_t_weight, .ref q_t_order, .int t_nodes, .int t_numbered, .int t_size, .long t_present]))] := by
  intro sz
  refine Met.ofW (cc := b_Graph_hasArc) (maxL := 2) (ret := (some .boolean)) (by decide) rfl ?_
  intro p e s m args below meth c s₁ B hml hv
  obtain ⟨rfl, hsz, hP, hK, hD0⟩ := hv
  subst hsz
  have hD := hD0.self (sz := s.heap.size)
  generalize hAe : va_A [(q_t, .inr (2, [.ref q_t_from, .ref q_t_to, .ref q_t_weight, .ref q_t_order, .int t_nodes, .int t_numbered, .int t_size, .long t_present]))] s.heap.size = A at hD ⊢
  have C0 : CX p (headSpec ws_Graph_hasArc (rm_Graph_hasArc)).room s m _ meth c b_Graph_hasArc 2 R_Graph lw_g D CL (TYs cI cJ cG cZ) A 1 22 := ⟨B.exec, B.bytes, hml, findClass_of_methodNamed B.named, fun w h => atoms_spec (ws := ws_Graph_hasArc) B.pre w (List.mem_cons_of_mem _ h), hK, fun q h => by rw [← hAe]; exact Or.inr h, Nat.le_of_ble_eq_true rfl, Nat.le_of_ble_eq_true rfl, B.notSynchronized⟩
  have hl := lv_entry ([.ref q_t, .int p1]) (n := 2) (Nat.le_of_ble_eq_true rfl)
  rw [lg_entry_eq]
  generalize (lg_sl ([.ref q_t, .int p1]) ++ List.replicate (2 - (lg_sl ([.ref q_t, .int p1])).length) Slot.unset).toArray = ls at hl ⊢
  have hl : lv_has ls 2 [(0, .ref q_t), (1, .int p1)] := hl
  exact w_Graph_hasArc_e C0 (fun pc ls H locs v hdg hz hP hD hS e => by cases e; exact W.zret B.exec B.bytes B.returns hz (fun t ht hW => ⟨⟨rfl, by rw [ht]; exact hP, va_K.moved hW.alike hK, hD⟩, hS.F ht⟩) hS.2.2 hdg) _ _ _ hP hD va_S.rf (lv_sub hl [0, 1] rfl) hf
