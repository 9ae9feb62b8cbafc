abbrev b_TreesFromRoot_weightIn : ByteArray := prog_9_method_2_code
def y_TreesFromRoot_weightIn : MethodName := ⟨R_TreesFromRoot, "weightIn", "(J)I"⟩
def ws_TreesFromRoot_weightIn : List Cond := .code y_TreesFromRoot_weightIn b_TreesFromRoot_weightIn 2 (some .int) :: lw_g
theorem wi_TreesFromRoot_weightIn : ∀ w ∈ ws_TreesFromRoot_weightIn, w ∈ lw_g := wi_of m_3_69
abbrev rm_TreesFromRoot_weightIn : Room := { frames := 0, cells := 0, slots := 0, locals := 0 }
theorem hd_TreesFromRoot_weightIn : y_TreesFromRoot_weightIn.cls ≠ "java/lang/invoke/MethodHandle" ∧ y_TreesFromRoot_weightIn.cls ≠ "java/lang/invoke/VarHandle" ∧ (parseMethodDescriptor y_TreesFromRoot_weightIn.desc).map (fun d => d.parameters.length) = some 1 := by decide +kernel
theorem d_TreesFromRoot_weightIn_0 : decode b_TreesFromRoot_weightIn 0 = .ok (.lload_n 0, 1) := by decide +kernel
theorem d_TreesFromRoot_weightIn_1 : decode b_TreesFromRoot_weightIn 1 = .ok (.bipush 45, 2) := by decide +kernel
theorem d_TreesFromRoot_weightIn_3 : decode b_TreesFromRoot_weightIn 3 = .ok (.lshr, 1) := by decide +kernel
theorem d_TreesFromRoot_weightIn_4 : decode b_TreesFromRoot_weightIn 4 = .ok (.l2i, 1) := by decide +kernel
theorem d_TreesFromRoot_weightIn_5 : decode b_TreesFromRoot_weightIn 5 = .ok (.ireturn, 1) := by decide +kernel
def f_TreesFromRoot_weightIn (p0 : Int64) : Option (Int32) :=
  some ((p0 >>> ((45 : Int32).toInt64 &&& 63)).toInt32)
set_option maxRecDepth 100000 in
set_option maxHeartbeats 4000000 in
theorem w_TreesFromRoot_weightIn_e {p : Program} {l : Launch} {e : Env} {R : Room} {s : State} {m : MethodId} {args : Array Value} {below : List Frame} {meth : Method} {c : Code} {D : va_G} {cI cJ cG cZ : ClassId} {A : Nat → Prop} {Q : State → Prop} {p0 : Int64} {RR : Int32} (C0 : CX p R s m args meth c b_TreesFromRoot_weightIn 2 R_TreesFromRoot lw_g D CL (TYs cI cJ cG cZ) A 0 0) (hret : ∀ (pc : Nat) (ls : Array Slot) (H : Heap) (locs : List Loc) (v : Int32) , decode b_TreesFromRoot_weightIn pc = .ok (.ireturn, 1) → va_P D CL [] H → va_D A [] → va_S A s.heap H locs → some (v) = some RR → W p l e R s m args below meth c H locs 0 0 Q (F0 m pc ls [.int v])) : ∀ (H : Heap) (locs : List Loc) (ls : Array Slot), va_P D CL [] H → va_D A [] → va_S A s.heap H locs → lv_has ls 2 [(0, .long p0)] → f_TreesFromRoot_weightIn p0 = some RR → W p l e R s m args below meth c H locs 0 0 Q (F0 m 0 ls []) := by
  intro H locs ls hP hD hS hl hf
  obtain ⟨hx, hb, hml, hown, hts, hK, hA, hfr, hlo, hlk⟩ := id C0
  unfold f_TreesFromRoot_weightIn at hf
  refine lv_lload_n hx hb d_TreesFromRoot_weightIn_0 rfl (lv_at hl 0 rfl) ?_
  refine lv_bipush (v := 45) hx hb d_TreesFromRoot_weightIn_1 (by decide) ?_
  refine lv_lshr (v := p0 >>> ((45 : Int32).toInt64 &&& 63)) hx hb d_TreesFromRoot_weightIn_3 rfl ?_
  refine lv_l2i (v := (p0 >>> ((45 : Int32).toInt64 &&& 63)).toInt32) hx hb d_TreesFromRoot_weightIn_4 rfl ?_
  exact hret 5 _ _ _ ((p0 >>> ((45 : Int32).toInt64 &&& 63)).toInt32) d_TreesFromRoot_weightIn_5 hP hD hS hf
set_option maxRecDepth 100000 in
set_option maxHeartbeats 4000000 in
theorem c_TreesFromRoot_weightIn (l : Launch) (D : va_G) (cI cJ cG cZ : ClassId) (p0 : Int64) {r : Int32} (hf : f_TreesFromRoot_weightIn p0 = some (r)) : MeG l D CL (TYs cI cJ cG cZ) y_TreesFromRoot_weightIn ws_TreesFromRoot_weightIn (rm_TreesFromRoot_weightIn) [.long p0] [] (some (.int r)) [] := by
  intro sz
  refine Met.ofW (cc := b_TreesFromRoot_weightIn) (maxL := 2) (ret := (some .int)) (by decide) rfl ?_
  intro p e s m args below meth c s₁ B hml hv
  obtain ⟨rfl, hsz, hP, hK, hD0⟩ := hv
  subst hsz
  have hD := hD0.self (sz := s.heap.size)
  generalize hAe : va_A [] s.heap.size = A at hD ⊢
  have C0 : CX p (headSpec ws_TreesFromRoot_weightIn (rm_TreesFromRoot_weightIn)).room s m _ meth c b_TreesFromRoot_weightIn 2 R_TreesFromRoot lw_g D CL (TYs cI cJ cG cZ) A 0 0 := ⟨B.exec, B.bytes, hml, findClass_of_methodNamed B.named, fun w h => atoms_spec (ws := ws_TreesFromRoot_weightIn) B.pre w (List.mem_cons_of_mem _ h), hK, fun q h => by rw [← hAe]; exact Or.inr h, Nat.le_of_ble_eq_true rfl, Nat.le_of_ble_eq_true rfl, B.notSynchronized⟩
  have hl := lv_entry ([.long p0]) (n := 2) (Nat.le_of_ble_eq_true rfl)
  rw [lg_entry_eq]
  generalize (lg_sl ([.long p0]) ++ List.replicate (2 - (lg_sl ([.long p0])).length) Slot.unset).toArray = ls at hl ⊢
  have hl : lv_has ls 2 [(0, .long p0)] := hl
  exact w_TreesFromRoot_weightIn_e C0 (fun pc ls H locs v hdg hP hD hS e => by cases e; exact W.iret B.exec B.bytes B.returns (fun t ht hW => ⟨⟨rfl, by rw [ht]; exact hP, va_K.moved hW.alike hK, hD⟩, hS.F ht⟩) hS.2.2 hdg) _ _ _ hP hD va_S.rf (lv_sub hl [0] rfl) hf
abbrev b_TreesFromRoot_fieldOf : ByteArray := prog_9_method_4_code
def y_TreesFromRoot_fieldOf : MethodName := ⟨R_TreesFromRoot, "fieldOf", "(II)I"⟩
def ws_TreesFromRoot_fieldOf : List Cond := .code y_TreesFromRoot_fieldOf b_TreesFromRoot_fieldOf 3 (some .int) :: lw_g
theorem wi_TreesFromRoot_fieldOf : ∀ w ∈ ws_TreesFromRoot_fieldOf, w ∈ lw_g := wi_of m_3_43
abbrev rm_TreesFromRoot_fieldOf : Room := { frames := 0, cells := 0, slots := 0, locals := 0 }
theorem hd_TreesFromRoot_fieldOf : y_TreesFromRoot_fieldOf.cls ≠ "java/lang/invoke/MethodHandle" ∧ y_TreesFromRoot_fieldOf.cls ≠ "java/lang/invoke/VarHandle" ∧ (parseMethodDescriptor y_TreesFromRoot_fieldOf.desc).map (fun d => d.parameters.length) = some 2 := by decide +kernel
theorem d_TreesFromRoot_fieldOf_0 : decode b_TreesFromRoot_fieldOf 0 = .ok (.iload_n 1, 1) := by decide +kernel
theorem d_TreesFromRoot_fieldOf_1 : decode b_TreesFromRoot_fieldOf 1 = .ok (.iload_n 0, 1) := by decide +kernel
theorem d_TreesFromRoot_fieldOf_2 : decode b_TreesFromRoot_fieldOf 2 = .ok (.if_icmp .ge 7, 3) := by decide +kernel
theorem d_TreesFromRoot_fieldOf_5 : decode b_TreesFromRoot_fieldOf 5 = .ok (.iload_n 1, 1) := by decide +kernel
theorem d_TreesFromRoot_fieldOf_6 : decode b_TreesFromRoot_fieldOf 6 = .ok (.goto 6, 3) := by decide +kernel
theorem d_TreesFromRoot_fieldOf_9 : decode b_TreesFromRoot_fieldOf 9 = .ok (.iload_n 1, 1) := by decide +kernel
theorem d_TreesFromRoot_fieldOf_10 : decode b_TreesFromRoot_fieldOf 10 = .ok (.iconst 1, 1) := by decide +kernel
theorem d_TreesFromRoot_fieldOf_11 : decode b_TreesFromRoot_fieldOf 11 = .ok (.isub, 1) := by decide +kernel
theorem d_TreesFromRoot_fieldOf_12 : decode b_TreesFromRoot_fieldOf 12 = .ok (.istore_n 2, 1) := by decide +kernel
theorem d_TreesFromRoot_fieldOf_13 : decode b_TreesFromRoot_fieldOf 13 = .ok (.bipush 8, 2) := by decide +kernel
theorem d_TreesFromRoot_fieldOf_15 : decode b_TreesFromRoot_fieldOf 15 = .ok (.iload_n 2, 1) := by decide +kernel
theorem d_TreesFromRoot_fieldOf_16 : decode b_TreesFromRoot_fieldOf 16 = .ok (.isub, 1) := by decide +kernel
theorem d_TreesFromRoot_fieldOf_17 : decode b_TreesFromRoot_fieldOf 17 = .ok (.iconst 5, 1) := by decide +kernel
theorem d_TreesFromRoot_fieldOf_18 : decode b_TreesFromRoot_fieldOf 18 = .ok (.imul, 1) := by decide +kernel
theorem d_TreesFromRoot_fieldOf_19 : decode b_TreesFromRoot_fieldOf 19 = .ok (.ireturn, 1) := by decide +kernel
def g_TreesFromRoot_fieldOf_12 (s0 : Int32) : Option (Int32) :=
  some (((8 : Int32) - s0) * (5 : Int32))
def f_TreesFromRoot_fieldOf (p0 : Int32) (p1 : Int32) : Option (Int32) :=
  if p0 ≤ p1 then
    g_TreesFromRoot_fieldOf_12 (p1 - (1 : Int32))
  else
    g_TreesFromRoot_fieldOf_12 p1
set_option maxRecDepth 100000 in
set_option maxHeartbeats 4000000 in
theorem w_TreesFromRoot_fieldOf_12 {p : Program} {l : Launch} {e : Env} {R : Room} {s : State} {m : MethodId} {args : Array Value} {below : List Frame} {meth : Method} {c : Code} {D : va_G} {cI cJ cG cZ : ClassId} {A : Nat → Prop} {Q : State → Prop} {RR : Int32} (C0 : CX p R s m args meth c b_TreesFromRoot_fieldOf 3 R_TreesFromRoot lw_g D CL (TYs cI cJ cG cZ) A 0 0) (hret : ∀ (pc : Nat) (ls : Array Slot) (H : Heap) (locs : List Loc) (v : Int32) , decode b_TreesFromRoot_fieldOf pc = .ok (.ireturn, 1) → va_P D CL [] H → va_D A [] → va_S A s.heap H locs → some (v) = some RR → W p l e R s m args below meth c H locs 0 0 Q (F0 m pc ls [.int v]))  : ∀ (s0 : Int32) (H : Heap) (locs : List Loc) (ls : Array Slot), va_P D CL [] H → va_D A [] → va_S A s.heap H locs → lv_has ls 3 [] → g_TreesFromRoot_fieldOf_12 s0 = some RR → W p l e R s m args below meth c H locs 0 0 Q (F0 m 12 ls [.int s0]) := by
  intro s0 H locs ls hP hD hS hl hf
  obtain ⟨hx, hb, hml, hown, hts, hK, hA, hfr, hlo, hlk⟩ := id C0
  unfold g_TreesFromRoot_fieldOf_12 at hf
  refine lv_istore_n (lv' := [(2, .int s0)]) hx hb d_TreesFromRoot_fieldOf_12 rfl hl (by decide) rfl (fun ls hl => ?_)
  refine lv_bipush (v := 8) hx hb d_TreesFromRoot_fieldOf_13 (by decide) ?_
  refine lv_iload_n hx hb d_TreesFromRoot_fieldOf_15 rfl (lv_at hl 0 rfl) ?_
  refine lv_isub hx hb d_TreesFromRoot_fieldOf_16 ?_
  refine lv_iconst (v := 5) hx hb d_TreesFromRoot_fieldOf_17 (by decide) ?_
  refine lv_imul hx hb d_TreesFromRoot_fieldOf_18 ?_
  exact hret 19 _ _ _ (((8 : Int32) - s0) * (5 : Int32)) d_TreesFromRoot_fieldOf_19 hP hD hS hf
set_option maxRecDepth 100000 in
set_option maxHeartbeats 4000000 in
theorem w_TreesFromRoot_fieldOf_e {p : Program} {l : Launch} {e : Env} {R : Room} {s : State} {m : MethodId} {args : Array Value} {below : List Frame} {meth : Method} {c : Code} {D : va_G} {cI cJ cG cZ : ClassId} {A : Nat → Prop} {Q : State → Prop} {p0 : Int32} {p1 : Int32} {RR : Int32} (C0 : CX p R s m args meth c b_TreesFromRoot_fieldOf 3 R_TreesFromRoot lw_g D CL (TYs cI cJ cG cZ) A 0 0) (hret : ∀ (pc : Nat) (ls : Array Slot) (H : Heap) (locs : List Loc) (v : Int32) , decode b_TreesFromRoot_fieldOf pc = .ok (.ireturn, 1) → va_P D CL [] H → va_D A [] → va_S A s.heap H locs → some (v) = some RR → W p l e R s m args below meth c H locs 0 0 Q (F0 m pc ls [.int v])) : ∀ (H : Heap) (locs : List Loc) (ls : Array Slot), va_P D CL [] H → va_D A [] → va_S A s.heap H locs → lv_has ls 3 [(0, .int p0), (1, .int p1)] → f_TreesFromRoot_fieldOf p0 p1 = some RR → W p l e R s m args below meth c H locs 0 0 Q (F0 m 0 ls []) := by
  intro H locs ls hP hD hS hl hf
  obtain ⟨hx, hb, hml, hown, hts, hK, hA, hfr, hlo, hlk⟩ := id C0
  unfold f_TreesFromRoot_fieldOf at hf
  refine lv_iload_n hx hb d_TreesFromRoot_fieldOf_0 rfl (lv_at hl 1 rfl) ?_
  refine lv_iload_n hx hb d_TreesFromRoot_fieldOf_1 rfl (lv_at hl 0 rfl) ?_
  refine lv_icmp_ge (tgt := 9) hx hb d_TreesFromRoot_fieldOf_2 (by decide) (fun hc1 => ?_) (fun hc1 => ?_)
  · have hf := if_t hc1 hf
    refine lv_iload_n hx hb d_TreesFromRoot_fieldOf_9 rfl (lv_at hl 1 rfl) ?_
    refine lv_iconst (v := 1) hx hb d_TreesFromRoot_fieldOf_10 (by decide) ?_
    refine lv_isub hx hb d_TreesFromRoot_fieldOf_11 ?_
    exact w_TreesFromRoot_fieldOf_12 C0 hret  (p1 - (1 : Int32)) _ _ _ hP hD hS (lv_sub hl [] rfl) hf
  · have hf := if_f hc1 hf
    refine lv_iload_n hx hb d_TreesFromRoot_fieldOf_5 rfl (lv_at hl 1 rfl) ?_
    refine lv_goto (tgt := 12) hx hb d_TreesFromRoot_fieldOf_6 (by decide) ?_
    exact w_TreesFromRoot_fieldOf_12 C0 hret  p1 _ _ _ hP hD hS (lv_sub hl [] rfl) hf
set_option maxRecDepth 100000 in
set_option maxHeartbeats 4000000 in
theorem c_TreesFromRoot_fieldOf (l : Launch) (D : va_G) (cI cJ cG cZ : ClassId) (p0 : Int32) (p1 : Int32) {r : Int32} (hf : f_TreesFromRoot_fieldOf p0 p1 = some (r)) : MeG l D CL (TYs cI cJ cG cZ) y_TreesFromRoot_fieldOf ws_TreesFromRoot_fieldOf (rm_TreesFromRoot_fieldOf) [.int p0, .int p1] [] (some (.int r)) [] := by
  intro sz
  refine Met.ofW (cc := b_TreesFromRoot_fieldOf) (maxL := 3) (ret := (some .int)) (by decide) rfl ?_
  intro p e s m args below meth c s₁ B hml hv
  obtain ⟨rfl, hsz, hP, hK, hD0⟩ := hv
  subst hsz
  have hD := hD0.self (sz := s.heap.size)
  generalize hAe : va_A [] s.heap.size = A at hD ⊢
  have C0 : CX p (headSpec ws_TreesFromRoot_fieldOf (rm_TreesFromRoot_fieldOf)).room s m _ meth c b_TreesFromRoot_fieldOf 3 R_TreesFromRoot lw_g D CL (TYs cI cJ cG cZ) A 0 0 := ⟨B.exec, B.bytes, hml, findClass_of_methodNamed B.named, fun w h => atoms_spec (ws := ws_TreesFromRoot_fieldOf) B.pre w (List.mem_cons_of_mem _ h), hK, fun q h => by rw [← hAe]; exact Or.inr h, Nat.le_of_ble_eq_true rfl, Nat.le_of_ble_eq_true rfl, B.notSynchronized⟩
  have hl := lv_entry ([.int p0, .int p1]) (n := 3) (Nat.le_of_ble_eq_true rfl)
  rw [lg_entry_eq]
  generalize (lg_sl ([.int p0, .int p1]) ++ List.replicate (3 - (lg_sl ([.int p0, .int p1])).length) Slot.unset).toArray = ls at hl ⊢
  have hl : lv_has ls 3 [(0, .int p0), (1, .int p1)] := hl
  exact w_TreesFromRoot_fieldOf_e C0 (fun pc ls H locs v hdg hP hD hS e => by cases e; exact W.iret B.exec B.bytes B.returns (fun t ht hW => ⟨⟨rfl, by rw [ht]; exact hP, va_K.moved hW.alike hK, hD⟩, hS.F ht⟩) hS.2.2 hdg) _ _ _ hP hD va_S.rf (lv_sub hl [0, 1] rfl) hf
abbrev b_TreesFromRoot_arcIn : ByteArray := prog_9_method_3_code
def y_TreesFromRoot_arcIn : MethodName := ⟨R_TreesFromRoot, "arcIn", "(JII)I"⟩
def ws_TreesFromRoot_arcIn : List Cond := .code y_TreesFromRoot_arcIn b_TreesFromRoot_arcIn 4 (some .int) :: lw_g
theorem wi_TreesFromRoot_arcIn : ∀ w ∈ ws_TreesFromRoot_arcIn, w ∈ lw_g := wi_of m_3_76
abbrev rm_TreesFromRoot_arcIn : Room := { frames := 1, cells := 0, slots := 0, locals := 22 }
theorem hd_TreesFromRoot_arcIn : y_TreesFromRoot_arcIn.cls ≠ "java/lang/invoke/MethodHandle" ∧ y_TreesFromRoot_arcIn.cls ≠ "java/lang/invoke/VarHandle" ∧ (parseMethodDescriptor y_TreesFromRoot_arcIn.desc).map (fun d => d.parameters.length) = some 3 := by decide +kernel
theorem d_TreesFromRoot_arcIn_0 : decode b_TreesFromRoot_arcIn 0 = .ok (.lload_n 0, 1) := by decide +kernel
theorem d_TreesFromRoot_arcIn_1 : decode b_TreesFromRoot_arcIn 1 = .ok (.iload_n 2, 1) := by decide +kernel
theorem d_TreesFromRoot_arcIn_2 : decode b_TreesFromRoot_arcIn 2 = .ok (.iload_n 3, 1) := by decide +kernel
theorem d_TreesFromRoot_arcIn_3 : decode b_TreesFromRoot_arcIn 3 = .ok (.invokestatic 35, 3) := by decide +kernel
theorem d_TreesFromRoot_arcIn_6 : decode b_TreesFromRoot_arcIn 6 = .ok (.lshr, 1) := by decide +kernel
theorem d_TreesFromRoot_arcIn_7 : decode b_TreesFromRoot_arcIn 7 = .ok (.l2i, 1) := by decide +kernel
theorem d_TreesFromRoot_arcIn_8 : decode b_TreesFromRoot_arcIn 8 = .ok (.bipush 31, 2) := by decide +kernel
theorem d_TreesFromRoot_arcIn_10 : decode b_TreesFromRoot_arcIn 10 = .ok (.iand, 1) := by decide +kernel
theorem d_TreesFromRoot_arcIn_11 : decode b_TreesFromRoot_arcIn 11 = .ok (.ireturn, 1) := by decide +kernel
def f_TreesFromRoot_arcIn (p0 : Int64) (p2 : Int32) (p3 : Int32) : Option (Int32) :=
  bk1 (f_TreesFromRoot_fieldOf p2 p3) fun r1 =>
  some (((p0 >>> (r1.toInt64 &&& 63)).toInt32) &&& (31 : Int32))
set_option maxRecDepth 100000 in
set_option maxHeartbeats 4000000 in
theorem w_TreesFromRoot_arcIn_e {p : Program} {l : Launch} {e : Env} {R : Room} {s : State} {m : MethodId} {args : Array Value} {below : List Frame} {meth : Method} {c : Code} {D : va_G} {cI cJ cG cZ : ClassId} {A : Nat → Prop} {Q : State → Prop} {p0 : Int64} {p2 : Int32} {p3 : Int32} {RR : Int32} (C0 : CX p R s m args meth c b_TreesFromRoot_arcIn 4 R_TreesFromRoot lw_g D CL (TYs cI cJ cG cZ) A 1 22) (hret : ∀ (pc : Nat) (ls : Array Slot) (H : Heap) (locs : List Loc) (v : Int32) , decode b_TreesFromRoot_arcIn pc = .ok (.ireturn, 1) → va_P D CL [] H → va_D A [] → va_S A s.heap H locs → some (v) = some RR → W p l e R s m args below meth c H locs 0 0 Q (F0 m pc ls [.int v])) : ∀ (H : Heap) (locs : List Loc) (ls : Array Slot), va_P D CL [] H → va_D A [] → va_S A s.heap H locs → lv_has ls 4 [(0, .long p0), (2, .int p2), (3, .int p3)] → f_TreesFromRoot_arcIn p0 p2 p3 = some RR → W p l e R s m args below meth c H locs 0 0 Q (F0 m 0 ls []) := by
  intro H locs ls hP hD hS hl hf
  obtain ⟨hx, hb, hml, hown, hts, hK, hA, hfr, hlo, hlk⟩ := id C0
  unfold f_TreesFromRoot_arcIn at hf
  refine lv_lload_n hx hb d_TreesFromRoot_arcIn_0 rfl (lv_at hl 0 rfl) ?_
  refine lv_iload_n hx hb d_TreesFromRoot_arcIn_1 rfl (lv_at hl 1 rfl) ?_
  refine lv_iload_n hx hb d_TreesFromRoot_arcIn_2 rfl (lv_at hl 2 rfl) ?_
  obtain ⟨r1, hq1, hf⟩ := bk1_e hf
  refine cl_nil (va_runS (As := [.int p2, .int p3]) (rest := [.long p0]) ⟨hx, hb, hml, hown, hts⟩ (c_TreesFromRoot_fieldOf l D cI cJ cG cZ p2 p3 hq1 H.size) (va_cwS 2 hts (gi_S m_3_41 m_3_42 m_1_7 wi_TreesFromRoot_fieldOf) rfl rfl rfl hd_TreesFromRoot_fieldOf ⟨Nat.le_trans (Nat.le_of_ble_eq_true rfl) hfr, Nat.le_trans (Nat.le_of_ble_eq_true rfl) hlo⟩) ⟨pw_blind, fun U hU hW => ⟨rfl, pw_in hU pn_P (va_K.moved hW.alike hK) pn_D⟩⟩ rfl rfl hl.1 rfl (lv_room (Nat.le_of_ble_eq_true rfl)) d_TreesFromRoot_arcIn_3 ⟨Nat.zero_le _, Nat.zero_le _⟩) hP hD hS hA (fun H locs hP hD hS => ?_)
  have hP : va_P D CL [] H := hP
  have hD : va_D A [] := hD
  refine lv_lshr (v := p0 >>> (r1.toInt64 &&& 63)) hx hb d_TreesFromRoot_arcIn_6 rfl ?_
  refine lv_l2i (v := (p0 >>> (r1.toInt64 &&& 63)).toInt32) hx hb d_TreesFromRoot_arcIn_7 rfl ?_
  refine lv_bipush (v := 31) hx hb d_TreesFromRoot_arcIn_8 (by decide) ?_
  refine lv_iand hx hb d_TreesFromRoot_arcIn_10 ?_
  exact hret 11 _ _ _ (((p0 >>> (r1.toInt64 &&& 63)).toInt32) &&& (31 : Int32)) d_TreesFromRoot_arcIn_11 hP hD hS hf
set_option maxRecDepth 100000 in
set_option maxHeartbeats 4000000 in
theorem c_TreesFromRoot_arcIn (l : Launch) (D : va_G) (cI cJ cG cZ : ClassId) (p0 : Int64) (p2 : Int32) (p3 : Int32) {r : Int32} (hf : f_TreesFromRoot_arcIn p0 p2 p3 = some (r)) : MeG l D CL (TYs cI cJ cG cZ) y_TreesFromRoot_arcIn ws_TreesFromRoot_arcIn (rm_TreesFromRoot_arcIn) [.long p0, .int p2, .int p3] [] (some (.int r)) [] := by
  intro sz
  refine Met.ofW (cc := b_TreesFromRoot_arcIn) (maxL := 4) (ret := (some .int)) (by decide) rfl ?_
  intro p e s m args below meth c s₁ B hml hv
  obtain ⟨rfl, hsz, hP, hK, hD0⟩ := hv
  subst hsz
  have hD := hD0.self (sz := s.heap.size)
  generalize hAe : va_A [] s.heap.size = A at hD ⊢
  have C0 : CX p (headSpec ws_TreesFromRoot_arcIn (rm_TreesFromRoot_arcIn)).room s m _ meth c b_TreesFromRoot_arcIn 4 R_TreesFromRoot lw_g D CL (TYs cI cJ cG cZ) A 1 22 := ⟨B.exec, B.bytes, hml, findClass_of_methodNamed B.named, fun w h => atoms_spec (ws := ws_TreesFromRoot_arcIn) B.pre w (List.mem_cons_of_mem _ h), hK, fun q h => by rw [← hAe]; exact Or.inr h, Nat.le_of_ble_eq_true rfl, Nat.le_of_ble_eq_true rfl, B.notSynchronized⟩
  have hl := lv_entry ([.long p0, .int p2, .int p3]) (n := 4) (Nat.le_of_ble_eq_true rfl)
  rw [lg_entry_eq]
  generalize (lg_sl ([.long p0, .int p2, .int p3]) ++ List.replicate (4 - (lg_sl ([.long p0, .int p2, .int p3])).length) Slot.unset).toArray = ls at hl ⊢
  have hl : lv_has ls 4 [(0, .long p0), (2, .int p2), (3, .int p3)] := hl
  exact w_TreesFromRoot_arcIn_e C0 (fun pc ls H locs v hdg hP hD hS e => by cases e; exact W.iret B.exec B.bytes B.returns (fun t ht hW => ⟨⟨rfl, by rw [ht]; exact hP, va_K.moved hW.alike hK, hD⟩, hS.F ht⟩) hS.2.2 hdg) _ _ _ hP hD va_S.rf (lv_sub hl [0, 1, 2] rfl) hf
