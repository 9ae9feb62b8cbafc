abbrev b_Cost_of : ByteArray := prog_3_method_2_code
def y_Cost_of : MethodName := ⟨R_Cost, "of", "(II)J"⟩
def ws_Cost_of : List Cond := .code y_Cost_of b_Cost_of 4 (some .long) :: lw_g
theorem wi_Cost_of : ∀ w ∈ ws_Cost_of, w ∈ lw_g := wi_of m_2_227
abbrev rm_Cost_of : Room := { frames := 0, cells := 0, slots := 0, locals := 0 }
theorem hd_Cost_of : y_Cost_of.cls ≠ "java/lang/invoke/MethodHandle" ∧ y_Cost_of.cls ≠ "java/lang/invoke/VarHandle" ∧ (parseMethodDescriptor y_Cost_of.desc).map (fun d => d.parameters.length) = some 2 := by decide +kernel
theorem d_Cost_of_0 : decode b_Cost_of 0 = .ok (.iload_n 0, 1) := by decide +kernel
theorem d_Cost_of_1 : decode b_Cost_of 1 = .ok (.i2l, 1) := by decide +kernel
theorem d_Cost_of_2 : decode b_Cost_of 2 = .ok (.iconst 5, 1) := by decide +kernel
theorem d_Cost_of_3 : decode b_Cost_of 3 = .ok (.lshl, 1) := by decide +kernel
theorem d_Cost_of_4 : decode b_Cost_of 4 = .ok (.lconst 1, 1) := by decide +kernel
theorem d_Cost_of_5 : decode b_Cost_of 5 = .ok (.ladd, 1) := by decide +kernel
theorem d_Cost_of_6 : decode b_Cost_of 6 = .ok (.lstore_n 2, 1) := by decide +kernel
theorem d_Cost_of_7 : decode b_Cost_of 7 = .ok (.lload_n 2, 1) := by decide +kernel
theorem d_Cost_of_8 : decode b_Cost_of 8 = .ok (.bipush 30, 2) := by decide +kernel
theorem d_Cost_of_10 : decode b_Cost_of 10 = .ok (.lshl, 1) := by decide +kernel
theorem d_Cost_of_11 : decode b_Cost_of 11 = .ok (.lconst 1, 1) := by decide +kernel
theorem d_Cost_of_12 : decode b_Cost_of 12 = .ok (.bipush 29, 2) := by decide +kernel
theorem d_Cost_of_14 : decode b_Cost_of 14 = .ok (.iload_n 1, 1) := by decide +kernel
theorem d_Cost_of_15 : decode b_Cost_of 15 = .ok (.isub, 1) := by decide +kernel
theorem d_Cost_of_16 : decode b_Cost_of 16 = .ok (.lshl, 1) := by decide +kernel
theorem d_Cost_of_17 : decode b_Cost_of 17 = .ok (.lsub, 1) := by decide +kernel
theorem d_Cost_of_18 : decode b_Cost_of 18 = .ok (.lreturn, 1) := by decide +kernel
def f_Cost_of (p0 : Int32) (p1 : Int32) : Option (Int64) :=
  bn ((p0.toInt64 <<< ((5 : Int32).toInt64 &&& 63)) + (1 : Int64)) fun x1 =>
  some ((x1 <<< ((30 : Int32).toInt64 &&& 63)) - ((1 : Int64) <<< (((29 : Int32) - p1).toInt64 &&& 63)))
set_option maxRecDepth 100000 in
set_option maxHeartbeats 4000000 in
theorem w_Cost_of_e {p : Program} {l : Launch} {e : Env} {R : Room} {s : State} {m : MethodId} {args : Array Value} {below : List Frame} {meth : Method} {c : Code} {D : va_G} {cI cJ cG cZ : ClassId} {A : Nat → Prop} {Q : State → Prop} {p0 : Int32} {p1 : Int32} {RR : Int64} (C0 : CX p R s m args meth c b_Cost_of 4 R_Cost lw_g D CL (TYs cI cJ cG cZ) A 0 0) (hret : ∀ (pc : Nat) (ls : Array Slot) (H : Heap) (locs : List Loc) (v : Int64) , decode b_Cost_of pc = .ok (.lreturn, 1) → va_P D CL [] H → va_D A [] → va_S A s.heap H locs → some (v) = some RR → W p l e R s m args below meth c H locs 0 0 Q (F0 m pc ls [.long v])) : ∀ (H : Heap) (locs : List Loc) (ls : Array Slot), va_P D CL [] H → va_D A [] → va_S A s.heap H locs → lv_has ls 4 [(0, .int p0), (1, .int p1)] → f_Cost_of p0 p1 = some RR → W p l e R s m args below meth c H locs 0 0 Q (F0 m 0 ls []) := by
  intro H locs ls hP hD hS hl hf
  obtain ⟨hx, hb, hml, hown, hts, hK, hA, hfr, hlo, hlk⟩ := id C0
  unfold f_Cost_of at hf
  refine lv_iload_n hx hb d_Cost_of_0 rfl (lv_at hl 0 rfl) ?_
  refine lv_i2l (v := p0.toInt64) hx hb d_Cost_of_1 rfl ?_
  refine lv_iconst (v := 5) hx hb d_Cost_of_2 (by decide) ?_
  refine lv_lshl (v := p0.toInt64 <<< ((5 : Int32).toInt64 &&& 63)) hx hb d_Cost_of_3 rfl ?_
  refine lv_lconst (v := 1) hx hb d_Cost_of_4 (by decide) ?_
  refine lv_ladd hx hb d_Cost_of_5 ?_
  refine lv_topl (fun x1 ex1 => ?_)
  have hf := bn_e ex1 hf
  refine lv_lstore_n (lv' := [(2, .long x1), (0, .int p0), (1, .int p1)]) hx hb d_Cost_of_6 rfl hl (by decide) rfl (fun ls hl => ?_)
  refine lv_lload_n hx hb d_Cost_of_7 rfl (lv_at hl 0 rfl) ?_
  refine lv_bipush (v := 30) hx hb d_Cost_of_8 (by decide) ?_
  refine lv_lshl (v := x1 <<< ((30 : Int32).toInt64 &&& 63)) hx hb d_Cost_of_10 rfl ?_
  refine lv_lconst (v := 1) hx hb d_Cost_of_11 (by decide) ?_
  refine lv_bipush (v := 29) hx hb d_Cost_of_12 (by decide) ?_
  refine lv_iload_n hx hb d_Cost_of_14 rfl (lv_at hl 2 rfl) ?_
  refine lv_isub hx hb d_Cost_of_15 ?_
  refine lv_lshl (v := (1 : Int64) <<< (((29 : Int32) - p1).toInt64 &&& 63)) hx hb d_Cost_of_16 rfl ?_
  refine lv_lsub hx hb d_Cost_of_17 ?_
  exact hret 18 _ _ _ ((x1 <<< ((30 : Int32).toInt64 &&& 63)) - ((1 : Int64) <<< (((29 : Int32) - p1).toInt64 &&& 63))) d_Cost_of_18 hP hD hS hf
set_option maxRecDepth 100000 in
set_option maxHeartbeats 4000000 in
theorem c_Cost_of (l : Launch) (D : va_G) (cI cJ cG cZ : ClassId) (p0 : Int32) (p1 : Int32) {r : Int64} (hf : f_Cost_of p0 p1 = some (r)) : MeG l D CL (TYs cI cJ cG cZ) y_Cost_of ws_Cost_of (rm_Cost_of) [.int p0, .int p1] [] (some (.long r)) [] := by
  intro sz
  refine Met.ofW (cc := b_Cost_of) (maxL := 4) (ret := (some .long)) (by decide) rfl ?_
  intro p e s m args below meth c s₁ B hml hv
  obtain ⟨rfl, hsz, hP, hK, hD0⟩ := hv
  subst hsz
  have hD := hD0.self (sz := s.heap.size)
  generalize hAe : va_A [] s.heap.size = A at hD ⊢
  have C0 : CX p (headSpec ws_Cost_of (rm_Cost_of)).room s m _ meth c b_Cost_of 4 R_Cost lw_g D CL (TYs cI cJ cG cZ) A 0 0 := ⟨B.exec, B.bytes, hml, findClass_of_methodNamed B.named, fun w h => atoms_spec (ws := ws_Cost_of) B.pre w (List.mem_cons_of_mem _ h), hK, fun q h => by rw [← hAe]; exact Or.inr h, Nat.le_of_ble_eq_true rfl, Nat.le_of_ble_eq_true rfl, B.notSynchronized⟩
  have hl := lv_entry ([.int p0, .int p1]) (n := 4) (Nat.le_of_ble_eq_true rfl)
  rw [lg_entry_eq]
  generalize (lg_sl ([.int p0, .int p1]) ++ List.replicate (4 - (lg_sl ([.int p0, .int p1])).length) Slot.unset).toArray = ls at hl ⊢
  have hl : lv_has ls 4 [(0, .int p0), (1, .int p1)] := hl
  exact w_Cost_of_e C0 (fun pc ls H locs v hdg hP hD hS e => by cases e; exact W.lret B.exec B.bytes B.returns (fun t ht hW => ⟨⟨rfl, by rw [ht]; exact hP, va_K.moved hW.alike hK, hD⟩, hS.F ht⟩) hS.2.2 hdg) _ _ _ hP hD va_S.rf (lv_sub hl [0, 1] rfl) hf
abbrev b_Cost_mirrored : ByteArray := prog_3_method_5_code
def y_Cost_mirrored : MethodName := ⟨R_Cost, "mirrored", "(J)J"⟩
def ws_Cost_mirrored : List Cond := .code y_Cost_mirrored b_Cost_mirrored 2 (some .long) :: lw_g
theorem wi_Cost_mirrored : ∀ w ∈ ws_Cost_mirrored, w ∈ lw_g := wi_of m_3_20
abbrev rm_Cost_mirrored : Room := { frames := 0, cells := 0, slots := 0, locals := 0 }
theorem hd_Cost_mirrored : y_Cost_mirrored.cls ≠ "java/lang/invoke/MethodHandle" ∧ y_Cost_mirrored.cls ≠ "java/lang/invoke/VarHandle" ∧ (parseMethodDescriptor y_Cost_mirrored.desc).map (fun d => d.parameters.length) = some 1 := by decide +kernel
theorem d_Cost_mirrored_0 : decode b_Cost_mirrored 0 = .ok (.lload_n 0, 1) := by decide +kernel
theorem d_Cost_mirrored_1 : decode b_Cost_mirrored 1 = .ok (.lneg, 1) := by decide +kernel
theorem d_Cost_mirrored_2 : decode b_Cost_mirrored 2 = .ok (.ldc2_w 15, 3) := by decide +kernel
theorem d_Cost_mirrored_5 : decode b_Cost_mirrored 5 = .ok (.land, 1) := by decide +kernel
theorem d_Cost_mirrored_6 : decode b_Cost_mirrored 6 = .ok (.lreturn, 1) := by decide +kernel
def f_Cost_mirrored (p0 : Int64) : Option (Int64) :=
  some ((-p0) &&& (1073741823 : Int64))
set_option maxRecDepth 100000 in
set_option maxHeartbeats 4000000 in
theorem w_Cost_mirrored_e {p : Program} {l : Launch} {e : Env} {R : Room} {s : State} {m : MethodId} {args : Array Value} {below : List Frame} {meth : Method} {c : Code} {D : va_G} {cI cJ cG cZ : ClassId} {A : Nat → Prop} {Q : State → Prop} {p0 : Int64} {RR : Int64} (C0 : CX p R s m args meth c b_Cost_mirrored 2 R_Cost lw_g D CL (TYs cI cJ cG cZ) A 0 0) (hret : ∀ (pc : Nat) (ls : Array Slot) (H : Heap) (locs : List Loc) (v : Int64) , decode b_Cost_mirrored pc = .ok (.lreturn, 1) → va_P D CL [] H → va_D A [] → va_S A s.heap H locs → some (v) = some RR → W p l e R s m args below meth c H locs 0 0 Q (F0 m pc ls [.long v])) : ∀ (H : Heap) (locs : List Loc) (ls : Array Slot), va_P D CL [] H → va_D A [] → va_S A s.heap H locs → lv_has ls 2 [(0, .long p0)] → f_Cost_mirrored p0 = some RR → W p l e R s m args below meth c H locs 0 0 Q (F0 m 0 ls []) := by
  intro H locs ls hP hD hS hl hf
  obtain ⟨hx, hb, hml, hown, hts, hK, hA, hfr, hlo, hlk⟩ := id C0
  unfold f_Cost_mirrored at hf
  refine lv_lload_n hx hb d_Cost_mirrored_0 rfl (lv_at hl 0 rfl) ?_
  refine lv_lneg hx hb d_Cost_mirrored_1 ?_
  refine lv_ldc2 (v := 1073741823) hx hb hown (hts _ m_3_21) d_Cost_mirrored_2 ?_
  refine lv_land hx hb d_Cost_mirrored_5 ?_
  exact hret 6 _ _ _ ((-p0) &&& (1073741823 : Int64)) d_Cost_mirrored_6 hP hD hS hf
set_option maxRecDepth 100000 in
set_option maxHeartbeats 4000000 in
theorem c_Cost_mirrored (l : Launch) (D : va_G) (cI cJ cG cZ : ClassId) (p0 : Int64) {r : Int64} (hf : f_Cost_mirrored p0 = some (r)) : MeG l D CL (TYs cI cJ cG cZ) y_Cost_mirrored ws_Cost_mirrored (rm_Cost_mirrored) [.long p0] [] (some (.long r)) [] := by
  intro sz
  refine Met.ofW (cc := b_Cost_mirrored) (maxL := 2) (ret := (some .long)) (by decide) rfl ?_
  intro p e s m args below meth c s₁ B hml hv
  obtain ⟨rfl, hsz, hP, hK, hD0⟩ := hv
  subst hsz
  have hD := hD0.self (sz := s.heap.size)
  generalize hAe : va_A [] s.heap.size = A at hD ⊢
  have C0 : CX p (headSpec ws_Cost_mirrored (rm_Cost_mirrored)).room s m _ meth c b_Cost_mirrored 2 R_Cost lw_g D CL (TYs cI cJ cG cZ) A 0 0 := ⟨B.exec, B.bytes, hml, findClass_of_methodNamed B.named, fun w h => atoms_spec (ws := ws_Cost_mirrored) B.pre w (List.mem_cons_of_mem _ h), hK, fun q h => by rw [← hAe]; exact Or.inr h, Nat.le_of_ble_eq_true rfl, Nat.le_of_ble_eq_true rfl, B.notSynchronized⟩
  have hl := lv_entry ([.long p0]) (n := 2) (Nat.le_of_ble_eq_true rfl)
  rw [lg_entry_eq]
  generalize (lg_sl ([.long p0]) ++ List.replicate (2 - (lg_sl ([.long p0])).length) Slot.unset).toArray = ls at hl ⊢
  have hl : lv_has ls 2 [(0, .long p0)] := hl
  exact w_Cost_mirrored_e C0 (fun pc ls H locs v hdg hP hD hS e => by cases e; exact W.lret B.exec B.bytes B.returns (fun t ht hW => ⟨⟨rfl, by rw [ht]; exact hP, va_K.moved hW.alike hK, hD⟩, hS.F ht⟩) hS.2.2 hdg) _ _ _ hP hD va_S.rf (lv_sub hl [0] rfl) hf
abbrev b_Cost_weightIn : ByteArray := prog_3_method_3_code
def y_Cost_weightIn : MethodName := ⟨R_Cost, "weightIn", "(J)I"⟩
def ws_Cost_weightIn : List Cond := .code y_Cost_weightIn b_Cost_weightIn 2 (some .int) :: lw_g
theorem wi_Cost_weightIn : ∀ w ∈ ws_Cost_weightIn, w ∈ lw_g := wi_of m_3_17
abbrev rm_Cost_weightIn : Room := { frames := 1, cells := 0, slots := 0, locals := 21 }
theorem hd_Cost_weightIn : y_Cost_weightIn.cls ≠ "java/lang/invoke/MethodHandle" ∧ y_Cost_weightIn.cls ≠ "java/lang/invoke/VarHandle" ∧ (parseMethodDescriptor y_Cost_weightIn.desc).map (fun d => d.parameters.length) = some 1 := by decide +kernel
theorem d_Cost_weightIn_0 : decode b_Cost_weightIn 0 = .ok (.lload_n 0, 1) := by decide +kernel
theorem d_Cost_weightIn_1 : decode b_Cost_weightIn 1 = .ok (.lload_n 0, 1) := by decide +kernel
theorem d_Cost_weightIn_2 : decode b_Cost_weightIn 2 = .ok (.invokestatic 11, 3) := by decide +kernel
theorem d_Cost_weightIn_5 : decode b_Cost_weightIn 5 = .ok (.ladd, 1) := by decide +kernel
theorem d_Cost_weightIn_6 : decode b_Cost_weightIn 6 = .ok (.bipush 35, 2) := by decide +kernel
theorem d_Cost_weightIn_8 : decode b_Cost_weightIn 8 = .ok (.lshr, 1) := by decide +kernel
theorem d_Cost_weightIn_9 : decode b_Cost_weightIn 9 = .ok (.l2i, 1) := by decide +kernel
theorem d_Cost_weightIn_10 : decode b_Cost_weightIn 10 = .ok (.ireturn, 1) := by decide +kernel
def f_Cost_weightIn (p0 : Int64) : Option (Int32) :=
  bk1 (f_Cost_mirrored p0) fun r1 =>
  some (((p0 + r1) >>> ((35 : Int32).toInt64 &&& 63)).toInt32)
set_option maxRecDepth 100000 in
set_option maxHeartbeats 4000000 in
theorem w_Cost_weightIn_e {p : Program} {l : Launch} {e : Env} {R : Room} {s : State} {m : MethodId} {args : Array Value} {below : List Frame} {meth : Method} {c : Code} {D : va_G} {cI cJ cG cZ : ClassId} {A : Nat → Prop} {Q : State → Prop} {p0 : Int64} {RR : Int32} (C0 : CX p R s m args meth c b_Cost_weightIn 2 R_Cost lw_g D CL (TYs cI cJ cG cZ) A 1 21) (hret : ∀ (pc : Nat) (ls : Array Slot) (H : Heap) (locs : List Loc) (v : Int32) , decode b_Cost_weightIn pc = .ok (.ireturn, 1) → va_P D CL [] H → va_D A [] → va_S A s.heap H locs → some (v) = some RR → W p l e R s m args below meth c H locs 0 0 Q (F0 m pc ls [.int v])) : ∀ (H : Heap) (locs : List Loc) (ls : Array Slot), va_P D CL [] H → va_D A [] → va_S A s.heap H locs → lv_has ls 2 [(0, .long p0)] → f_Cost_weightIn p0 = some RR → W p l e R s m args below meth c H locs 0 0 Q (F0 m 0 ls []) := by
  intro H locs ls hP hD hS hl hf
  obtain ⟨hx, hb, hml, hown, hts, hK, hA, hfr, hlo, hlk⟩ := id C0
  unfold f_Cost_weightIn at hf
  refine lv_lload_n hx hb d_Cost_weightIn_0 rfl (lv_at hl 0 rfl) ?_
  refine lv_lload_n hx hb d_Cost_weightIn_1 rfl (lv_at hl 0 rfl) ?_
  obtain ⟨r1, hq1, hf⟩ := bk1_e hf
  refine cl_nil (va_runS (As := [.long p0]) (rest := [.long p0]) ⟨hx, hb, hml, hown, hts⟩ (c_Cost_mirrored l D cI cJ cG cZ p0 hq1 H.size) (va_cwS 1 hts (gi_S m_3_18 m_3_19 m_1_13 wi_Cost_mirrored) rfl rfl rfl hd_Cost_mirrored ⟨Nat.le_trans (Nat.le_of_ble_eq_true rfl) hfr, Nat.le_trans (Nat.le_of_ble_eq_true rfl) hlo⟩) ⟨pw_blind, fun U hU hW => ⟨rfl, pw_in hU pn_P (va_K.moved hW.alike hK) pn_D⟩⟩ rfl rfl hl.1 rfl (lv_room (Nat.le_of_ble_eq_true rfl)) d_Cost_weightIn_2 ⟨Nat.zero_le _, Nat.zero_le _⟩) hP hD hS hA (fun H locs hP hD hS => ?_)
  have hP : va_P D CL [] H := hP
  have hD : va_D A [] := hD
  refine lv_ladd hx hb d_Cost_weightIn_5 ?_
  refine lv_bipush (v := 35) hx hb d_Cost_weightIn_6 (by decide) ?_
  refine lv_lshr (v := (p0 + r1) >>> ((35 : Int32).toInt64 &&& 63)) hx hb d_Cost_weightIn_8 rfl ?_
  refine lv_l2i (v := ((p0 + r1) >>> ((35 : Int32).toInt64 &&& 63)).toInt32) hx hb d_Cost_weightIn_9 rfl ?_
  exact hret 10 _ _ _ (((p0 + r1) >>> ((35 : Int32).toInt64 &&& 63)).toInt32) d_Cost_weightIn_10 hP hD hS hf
set_option maxRecDepth 100000 in
set_option maxHeartbeats 4000000 in
theorem c_Cost_weightIn (l : Launch) (D : va_G) (cI cJ cG cZ : ClassId) (p0 : Int64) {r : Int32} (hf : f_Cost_weightIn p0 = some (r)) : MeG l D CL (TYs cI cJ cG cZ) y_Cost_weightIn ws_Cost_weightIn (rm_Cost_weightIn) [.long p0] [] (some (.int r)) [] := by
  intro sz
  refine Met.ofW (cc := b_Cost_weightIn) (maxL := 2) (ret := (some .int)) (by decide) rfl ?_
  intro p e s m args below meth c s₁ B hml hv
  obtain ⟨rfl, hsz, hP, hK, hD0⟩ := hv
  subst hsz
  have hD := hD0.self (sz := s.heap.size)
  generalize hAe : va_A [] s.heap.size = A at hD ⊢
  have C0 : CX p (headSpec ws_Cost_weightIn (rm_Cost_weightIn)).room s m _ meth c b_Cost_weightIn 2 R_Cost lw_g D CL (TYs cI cJ cG cZ) A 1 21 := ⟨B.exec, B.bytes, hml, findClass_of_methodNamed B.named, fun w h => atoms_spec (ws := ws_Cost_weightIn) B.pre w (List.mem_cons_of_mem _ h), hK, fun q h => by rw [← hAe]; exact Or.inr h, Nat.le_of_ble_eq_true rfl, Nat.le_of_ble_eq_true rfl, B.notSynchronized⟩
  have hl := lv_entry ([.long p0]) (n := 2) (Nat.le_of_ble_eq_true rfl)
  rw [lg_entry_eq]
  generalize (lg_sl ([.long p0]) ++ List.replicate (2 - (lg_sl ([.long p0])).length) Slot.unset).toArray = ls at hl ⊢
  have hl : lv_has ls 2 [(0, .long p0)] := hl
  exact w_Cost_weightIn_e C0 (fun pc ls H locs v hdg hP hD hS e => by cases e; exact W.iret B.exec B.bytes B.returns (fun t ht hW => ⟨⟨rfl, by rw [ht]; exact hP, va_K.moved hW.alike hK, hD⟩, hS.F ht⟩) hS.2.2 hdg) _ _ _ hP hD va_S.rf (lv_sub hl [0] rfl) hf
abbrev b_Cost_setIn : ByteArray := prog_3_method_4_code
def y_Cost_setIn : MethodName := ⟨R_Cost, "setIn", "(J)J"⟩
def ws_Cost_setIn : List Cond := .code y_Cost_setIn b_Cost_setIn 7 (some .long) :: lw_g
theorem wi_Cost_setIn : ∀ w ∈ ws_Cost_setIn, w ∈ lw_g := wi_of m_3_28
abbrev rm_Cost_setIn : Room := { frames := 1, cells := 0, slots := 0, locals := 21 }
theorem hd_Cost_setIn : y_Cost_setIn.cls ≠ "java/lang/invoke/MethodHandle" ∧ y_Cost_setIn.cls ≠ "java/lang/invoke/VarHandle" ∧ (parseMethodDescriptor y_Cost_setIn.desc).map (fun d => d.parameters.length) = some 1 := by decide +kernel
theorem d_Cost_setIn_0 : decode b_Cost_setIn 0 = .ok (.lload_n 0, 1) := by decide +kernel
theorem d_Cost_setIn_1 : decode b_Cost_setIn 1 = .ok (.invokestatic 11, 3) := by decide +kernel
theorem d_Cost_setIn_4 : decode b_Cost_setIn 4 = .ok (.lstore_n 2, 1) := by decide +kernel
theorem d_Cost_setIn_5 : decode b_Cost_setIn 5 = .ok (.lconst 0, 1) := by decide +kernel
theorem d_Cost_setIn_6 : decode b_Cost_setIn 6 = .ok (.lstore 4, 2) := by decide +kernel
theorem d_Cost_setIn_8 : decode b_Cost_setIn 8 = .ok (.iconst 0, 1) := by decide +kernel
theorem d_Cost_setIn_9 : decode b_Cost_setIn 9 = .ok (.istore 6, 2) := by decide +kernel
theorem d_Cost_setIn_11 : decode b_Cost_setIn 11 = .ok (.iload 6, 2) := by decide +kernel
theorem d_Cost_setIn_13 : decode b_Cost_setIn 13 = .ok (.bipush 30, 2) := by decide +kernel
theorem d_Cost_setIn_15 : decode b_Cost_setIn 15 = .ok (.if_icmp .ge 32, 3) := by decide +kernel
theorem d_Cost_setIn_18 : decode b_Cost_setIn 18 = .ok (.lload_n 2, 1) := by decide +kernel
theorem d_Cost_setIn_19 : decode b_Cost_setIn 19 = .ok (.bipush 29, 2) := by decide +kernel
theorem d_Cost_setIn_21 : decode b_Cost_setIn 21 = .ok (.iload 6, 2) := by decide +kernel
theorem d_Cost_setIn_23 : decode b_Cost_setIn 23 = .ok (.isub, 1) := by decide +kernel
theorem d_Cost_setIn_24 : decode b_Cost_setIn 24 = .ok (.lshr, 1) := by decide +kernel
theorem d_Cost_setIn_25 : decode b_Cost_setIn 25 = .ok (.lconst 1, 1) := by decide +kernel
theorem d_Cost_setIn_26 : decode b_Cost_setIn 26 = .ok (.land, 1) := by decide +kernel
theorem d_Cost_setIn_27 : decode b_Cost_setIn 27 = .ok (.lconst 0, 1) := by decide +kernel
theorem d_Cost_setIn_28 : decode b_Cost_setIn 28 = .ok (.lcmp, 1) := by decide +kernel
theorem d_Cost_setIn_29 : decode b_Cost_setIn 29 = .ok (.ifCond .eq 12, 3) := by decide +kernel
theorem d_Cost_setIn_32 : decode b_Cost_setIn 32 = .ok (.lload 4, 2) := by decide +kernel
theorem d_Cost_setIn_34 : decode b_Cost_setIn 34 = .ok (.lconst 1, 1) := by decide +kernel
theorem d_Cost_setIn_35 : decode b_Cost_setIn 35 = .ok (.iload 6, 2) := by decide +kernel
theorem d_Cost_setIn_37 : decode b_Cost_setIn 37 = .ok (.lshl, 1) := by decide +kernel
theorem d_Cost_setIn_38 : decode b_Cost_setIn 38 = .ok (.lor, 1) := by decide +kernel
theorem d_Cost_setIn_39 : decode b_Cost_setIn 39 = .ok (.lstore 4, 2) := by decide +kernel
theorem d_Cost_setIn_41 : decode b_Cost_setIn 41 = .ok (.iinc 6 1, 3) := by decide +kernel
theorem d_Cost_setIn_44 : decode b_Cost_setIn 44 = .ok (.goto (-33), 3) := by decide +kernel
theorem d_Cost_setIn_47 : decode b_Cost_setIn 47 = .ok (.lload 4, 2) := by decide +kernel
theorem d_Cost_setIn_49 : decode b_Cost_setIn 49 = .ok (.lreturn, 1) := by decide +kernel
def g_Cost_setIn_11 (k11 : Int64 → Int64 → Int32 → Option (Int64)) (v2 : Int64) (v4 : Int64) (v6 : Int32) : Option (Int64) :=
  if (30 : Int32) ≤ v6 then
    some (v4)
  else
    if (lg_cmp ((v2 >>> (((29 : Int32) - v6).toInt64 &&& 63)) &&& (1 : Int64)) (0 : Int64)) = 0 then
      bn (v6 + (1 : Int32)) fun x1 =>
      k11 v2 v4 x1
    else
      bn (v4 ||| ((1 : Int64) <<< (v6.toInt64 &&& 63))) fun x2 =>
      bn (v6 + (1 : Int32)) fun x3 =>
      k11 v2 x2 x3
def f_Cost_setIn (N : Nat) (p0 : Int64) : Option (Int64) :=
  bk1 (f_Cost_mirrored p0) fun r1 =>
  lo3 (g_Cost_setIn_11) N r1 (0 : Int64) (0 : Int32)
set_option maxRecDepth 100000 in
set_option maxHeartbeats 4000000 in
theorem w_Cost_setIn_11 {p : Program} {l : Launch} {e : Env} {R : Room} {s : State} {m : MethodId} {args : Array Value} {below : List Frame} {meth : Method} {c : Code} {D : va_G} {cI cJ cG cZ : ClassId} {A : Nat → Prop} {Q : State → Prop} {RR : Int64} (C0 : CX p R s m args meth c b_Cost_setIn 7 R_Cost lw_g D CL (TYs cI cJ cG cZ) A 1 21) (hret : ∀ (pc : Nat) (ls : Array Slot) (H : Heap) (locs : List Loc) (v : Int64) , decode b_Cost_setIn pc = .ok (.lreturn, 1) → va_P D CL [] H → va_D A [] → va_S A s.heap H locs → some (v) = some RR → W p l e R s m args below meth c H locs 0 0 Q (F0 m pc ls [.long v])) (k11 : Int64 → Int64 → Int32 → Option (Int64)) (hk11 : ∀ (v2 : Int64) (v4 : Int64) (v6 : Int32) (H : Heap) (locs : List Loc) (ls : Array Slot), va_P D CL [] H → va_D A [] → va_S A s.heap H locs → lv_has ls 7 [(2, .long v2), (4, .long v4), (6, .int v6)] → k11 v2 v4 v6 = some RR → W p l e R s m args below meth c H locs 0 0 Q (F0 m 11 ls [])) : ∀ (v2 : Int64) (v4 : Int64) (v6 : Int32) (H : Heap) (locs : List Loc) (ls : Array Slot), va_P D CL [] H → va_D A [] → va_S A s.heap H locs → lv_has ls 7 [(2, .long v2), (4, .long v4), (6, .int v6)] → g_Cost_setIn_11 k11 v2 v4 v6 = some RR → W p l e R s m args below meth c H locs 0 0 Q (F0 m 11 ls []) := by
  intro v2 v4 v6 H locs ls hP hD hS hl hf
  obtain ⟨hx, hb, hml, hown, hts, hK, hA, hfr, hlo, hlk⟩ := id C0
  unfold g_Cost_setIn_11 at hf
  refine lv_iload hx hb d_Cost_setIn_11 (lv_at hl 2 rfl) ?_
  refine lv_bipush (v := 30) hx hb d_Cost_setIn_13 (by decide) ?_
  refine lv_icmp_ge (tgt := 47) hx hb d_Cost_setIn_15 (by decide) (fun hc1 => ?_) (fun hc1 => ?_)
  · have hf := if_t hc1 hf
    refine lv_lload hx hb d_Cost_setIn_47 (lv_at hl 1 rfl) ?_
    exact hret 49 _ _ _ v4 d_Cost_setIn_49 hP hD hS hf
  · have hf := if_f hc1 hf
    refine lv_lload_n hx hb d_Cost_setIn_18 rfl (lv_at hl 0 rfl) ?_
    refine lv_bipush (v := 29) hx hb d_Cost_setIn_19 (by decide) ?_
    refine lv_iload hx hb d_Cost_setIn_21 (lv_at hl 2 rfl) ?_
    refine lv_isub hx hb d_Cost_setIn_23 ?_
    refine lv_lshr (v := v2 >>> (((29 : Int32) - v6).toInt64 &&& 63)) hx hb d_Cost_setIn_24 rfl ?_
    refine lv_lconst (v := 1) hx hb d_Cost_setIn_25 (by decide) ?_
    refine lv_land hx hb d_Cost_setIn_26 ?_
    refine lv_lconst (v := 0) hx hb d_Cost_setIn_27 (by decide) ?_
    refine W.lcmp hx hb d_Cost_setIn_28 ?_
    refine lv_if_eq (tgt := 41) hx hb d_Cost_setIn_29 (by decide) (fun hc2 => ?_) (fun hc2 => ?_)
    · have hf := if_t hc2 hf
      obtain ⟨x1, ex1⟩ : ∃ y : Int32, y = v6 + (1 : Int32) := ⟨_, rfl⟩
      have hf := bn_e ex1 hf
      refine lv_iinc (v := x1) (lv' := [(6, .int x1), (2, .long v2), (4, .long v4)]) hx hb d_Cost_setIn_41 hl (k := 2) rfl (by rw [ex1]; rfl) (by decide) rfl (fun ls hl => ?_)
      refine lv_goto (tgt := 11) hx hb d_Cost_setIn_44 (by decide) ?_
      exact hk11 v2 v4 x1 _ _ _ hP hD hS (lv_sub hl [1, 2, 0] rfl) hf
    · have hf := if_f hc2 hf
      refine lv_lload hx hb d_Cost_setIn_32 (lv_at hl 1 rfl) ?_
      refine lv_lconst (v := 1) hx hb d_Cost_setIn_34 (by decide) ?_
      refine lv_iload hx hb d_Cost_setIn_35 (lv_at hl 2 rfl) ?_
      refine lv_lshl (v := (1 : Int64) <<< (v6.toInt64 &&& 63)) hx hb d_Cost_setIn_37 rfl ?_
      refine lv_lor hx hb d_Cost_setIn_38 ?_
      refine lv_topl (fun x2 ex2 => ?_)
      have hf := bn_e ex2 hf
      refine lv_lstore (lv' := [(4, .long x2), (2, .long v2), (6, .int v6)]) hx hb d_Cost_setIn_39 hl (by decide) rfl (fun ls hl => ?_)
      obtain ⟨x3, ex3⟩ : ∃ y : Int32, y = v6 + (1 : Int32) := ⟨_, rfl⟩
      have hf := bn_e ex3 hf
      refine lv_iinc (v := x3) (lv' := [(6, .int x3), (4, .long x2), (2, .long v2)]) hx hb d_Cost_setIn_41 hl (k := 2) rfl (by rw [ex3]; rfl) (by decide) rfl (fun ls hl => ?_)
      refine lv_goto (tgt := 11) hx hb d_Cost_setIn_44 (by decide) ?_
      exact hk11 v2 x2 x3 _ _ _ hP hD hS (lv_sub hl [2, 1, 0] rfl) hf
set_option maxRecDepth 100000 in
set_option maxHeartbeats 4000000 in
theorem w_Cost_setIn_11_l {p : Program} {l : Launch} {e : Env} {R : Room} {s : State} {m : MethodId} {args : Array Value} {below : List Frame} {meth : Method} {c : Code} {D : va_G} {cI cJ cG cZ : ClassId} {A : Nat → Prop} {Q : State → Prop} {RR : Int64} (C0 : CX p R s m args meth c b_Cost_setIn 7 R_Cost lw_g D CL (TYs cI cJ cG cZ) A 1 21) (hret : ∀ (pc : Nat) (ls : Array Slot) (H : Heap) (locs : List Loc) (v : Int64) , decode b_Cost_setIn pc = .ok (.lreturn, 1) → va_P D CL [] H → va_D A [] → va_S A s.heap H locs → some (v) = some RR → W p l e R s m args below meth c H locs 0 0 Q (F0 m pc ls [.long v]))  : ∀ (n : Nat) (v2 : Int64) (v4 : Int64) (v6 : Int32) (H : Heap) (locs : List Loc) (ls : Array Slot), va_P D CL [] H → va_D A [] → va_S A s.heap H locs → lv_has ls 7 [(2, .long v2), (4, .long v4), (6, .int v6)] → lo3 (g_Cost_setIn_11) n v2 v4 v6 = some RR → W p l e R s m args below meth c H locs 0 0 Q (F0 m 11 ls []) := by
  intro n
  induction n with
  | zero =>
    intro v2 v4 v6 H locs ls hP hD hS hl hf
    exact absurd hf (by simp [lo3])
  | succ n ih =>
    intro v2 v4 v6 H locs ls hP hD hS hl hf
    exact w_Cost_setIn_11 C0 hret  (lo3 (g_Cost_setIn_11) n) ih v2 v4 v6 H locs ls hP hD hS hl hf
set_option maxRecDepth 100000 in
set_option maxHeartbeats 4000000 in
theorem w_Cost_setIn_e {p : Program} {l : Launch} {e : Env} {R : Room} {s : State} {m : MethodId} {args : Array Value} {below : List Frame} {meth : Method} {c : Code} {D : va_G} {cI cJ cG cZ : ClassId} {A : Nat → Prop} {Q : State → Prop} {p0 : Int64} {N : Nat} {RR : Int64} (C0 : CX p R s m args meth c b_Cost_setIn 7 R_Cost lw_g D CL (TYs cI cJ cG cZ) A 1 21) (hret : ∀ (pc : Nat) (ls : Array Slot) (H : Heap) (locs : List Loc) (v : Int64) , decode b_Cost_setIn pc = .ok (.lreturn, 1) → va_P D CL [] H → va_D A [] → va_S A s.heap H locs → some (v) = some RR → W p l e R s m args below meth c H locs 0 0 Q (F0 m pc ls [.long v])) : ∀ (H : Heap) (locs : List Loc) (ls : Array Slot), va_P D CL [] H → va_D A [] → va_S A s.heap H locs → lv_has ls 7 [(0, .long p0)] → f_Cost_setIn N p0 = some RR → W p l e R s m args below meth c H locs 0 0 Q (F0 m 0 ls []) := by
  intro H locs ls hP hD hS hl hf
  obtain ⟨hx, hb, hml, hown, hts, hK, hA, hfr, hlo, hlk⟩ := id C0
  unfold f_Cost_setIn at hf
  refine lv_lload_n hx hb d_Cost_setIn_0 rfl (lv_at hl 0 rfl) ?_
  obtain ⟨r1, hq1, hf⟩ := bk1_e hf
  refine cl_nil (va_runS (As := [.long p0]) (rest := []) ⟨hx, hb, hml, hown, hts⟩ (c_Cost_mirrored l D cI cJ cG cZ p0 hq1 H.size) (va_cwS 1 hts (gi_S m_3_18 m_3_19 m_1_13 wi_Cost_mirrored) rfl rfl rfl hd_Cost_mirrored ⟨Nat.le_trans (Nat.le_of_ble_eq_true rfl) hfr, Nat.le_trans (Nat.le_of_ble_eq_true rfl) hlo⟩) ⟨pw_blind, fun U hU hW => ⟨rfl, pw_in hU pn_P (va_K.moved hW.alike hK) pn_D⟩⟩ rfl rfl hl.1 rfl (lv_room (Nat.le_of_ble_eq_true rfl)) d_Cost_setIn_1 ⟨Nat.zero_le _, Nat.zero_le _⟩) hP hD hS hA (fun H locs hP hD hS => ?_)
  have hP : va_P D CL [] H := hP
  have hD : va_D A [] := hD
  refine lv_lstore_n (lv' := [(2, .long r1), (0, .long p0)]) hx hb d_Cost_setIn_4 rfl hl (by decide) rfl (fun ls hl => ?_)
  refine lv_lconst (v := 0) hx hb d_Cost_setIn_5 (by decide) ?_
  refine lv_lstore (lv' := [(4, .long (0 : Int64)), (2, .long r1), (0, .long p0)]) hx hb d_Cost_setIn_6 hl (by decide) rfl (fun ls hl => ?_)
  refine lv_iconst (v := 0) hx hb d_Cost_setIn_8 (by decide) ?_
  refine lv_istore (lv' := [(6, .int (0 : Int32)), (4, .long (0 : Int64)), (2, .long r1), (0, .long p0)]) hx hb d_Cost_setIn_9 hl (by decide) rfl (fun ls hl => ?_)
  exact w_Cost_setIn_11_l C0 hret N r1 (0 : Int64) (0 : Int32) _ _ _ hP hD hS (lv_sub hl [2, 1, 0] rfl) hf
set_option maxRecDepth 100000 in
set_option maxHeartbeats 4000000 in
theorem c_Cost_setIn (l : Launch) (D : va_G) (cI cJ cG cZ : ClassId) (p0 : Int64) {N : Nat} {r : Int64} (hf : f_Cost_setIn N p0 = some (r)) : MeG l D CL (TYs cI cJ cG cZ) y_Cost_setIn ws_Cost_setIn (rm_Cost_setIn) [.long p0] [] (some (.long r)) [] := by
  intro sz
  refine Met.ofW (cc := b_Cost_setIn) (maxL := 7) (ret := (some .long)) (by decide) rfl ?_
  intro p e s m args below meth c s₁ B hml hv
  obtain ⟨rfl, hsz, hP, hK, hD0⟩ := hv
  subst hsz
  have hD := hD0.self (sz := s.heap.size)
  generalize hAe : va_A [] s.heap.size = A at hD ⊢
  have C0 : CX p (headSpec ws_Cost_setIn (rm_Cost_setIn)).room s m _ meth c b_Cost_setIn 7 R_Cost lw_g D CL (TYs cI cJ cG cZ) A 1 21 := ⟨B.exec, B.bytes, hml, findClass_of_methodNamed B.named, fun w h => atoms_spec (ws := ws_Cost_setIn) B.pre w (List.mem_cons_of_mem _ h), hK, fun q h => by rw [← hAe]; exact Or.inr h, Nat.le_of_ble_eq_true rfl, Nat.le_of_ble_eq_true rfl, B.notSynchronized⟩
  have hl := lv_entry ([.long p0]) (n := 7) (Nat.le_of_ble_eq_true rfl)
  rw [lg_entry_eq]
  generalize (lg_sl ([.long p0]) ++ List.replicate (7 - (lg_sl ([.long p0])).length) Slot.unset).toArray = ls at hl ⊢
  have hl : lv_has ls 7 [(0, .long p0)] := hl
  exact w_Cost_setIn_e C0 (fun pc ls H locs v hdg hP hD hS e => by cases e; exact W.lret B.exec B.bytes B.returns (fun t ht hW => ⟨⟨rfl, by rw [ht]; exact hP, va_K.moved hW.alike hK, hD⟩, hS.F ht⟩) hS.2.2 hdg) _ _ _ hP hD va_S.rf (lv_sub hl [0] rfl) hf
