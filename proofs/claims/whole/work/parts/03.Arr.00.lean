abbrev b_Arr_fill0 : ByteArray := prog_15_method_103_code
def y_Arr_fill0 : MethodName := ⟨R_Arr, "fill", "([II)V"⟩
def ws_Arr_fill0 : List Cond := .code y_Arr_fill0 b_Arr_fill0 4 none :: lw_g
theorem wi_Arr_fill0 : ∀ w ∈ ws_Arr_fill0, w ∈ lw_g := wi_of m_2_167
abbrev rm_Arr_fill0 : Room := { frames := 0, cells := 0, slots := 0, locals := 0 }
theorem hd_Arr_fill0 : y_Arr_fill0.cls ≠ "java/lang/invoke/MethodHandle" ∧ y_Arr_fill0.cls ≠ "java/lang/invoke/VarHandle" ∧ (parseMethodDescriptor y_Arr_fill0.desc).map (fun d => d.parameters.length) = some 2 := by decide +kernel
theorem d_Arr_fill0_0 : decode b_Arr_fill0 0 = .ok (.iconst 0, 1) := by decide +kernel
theorem d_Arr_fill0_1 : decode b_Arr_fill0 1 = .ok (.istore_n 2, 1) := by decide +kernel
theorem d_Arr_fill0_2 : decode b_Arr_fill0 2 = .ok (.aload_n 0, 1) := by decide +kernel
theorem d_Arr_fill0_3 : decode b_Arr_fill0 3 = .ok (.arraylength, 1) := by decide +kernel
theorem d_Arr_fill0_4 : decode b_Arr_fill0 4 = .ok (.istore_n 3, 1) := by decide +kernel
theorem d_Arr_fill0_5 : decode b_Arr_fill0 5 = .ok (.iload_n 2, 1) := by decide +kernel
theorem d_Arr_fill0_6 : decode b_Arr_fill0 6 = .ok (.iload_n 3, 1) := by decide +kernel
theorem d_Arr_fill0_7 : decode b_Arr_fill0 7 = .ok (.if_icmp .ge 13, 3) := by decide +kernel
theorem d_Arr_fill0_10 : decode b_Arr_fill0 10 = .ok (.aload_n 0, 1) := by decide +kernel
theorem d_Arr_fill0_11 : decode b_Arr_fill0 11 = .ok (.iload_n 2, 1) := by decide +kernel
theorem d_Arr_fill0_12 : decode b_Arr_fill0 12 = .ok (.iload_n 1, 1) := by decide +kernel
theorem d_Arr_fill0_13 : decode b_Arr_fill0 13 = .ok (.iastore, 1) := by decide +kernel
theorem d_Arr_fill0_14 : decode b_Arr_fill0 14 = .ok (.iinc 2 1, 3) := by decide +kernel
theorem d_Arr_fill0_17 : decode b_Arr_fill0 17 = .ok (.goto (-12), 3) := by decide +kernel
theorem d_Arr_fill0_20 : decode b_Arr_fill0 20 = .ok (.return_, 1) := by decide +kernel
def g_Arr_fill0_5 (p1 : Int32) (n_a0 : Nat) (k5 : Int32 → Int32 → (Nat → Int32) → Option ((Nat → Int32))) (v2 : Int32) (v3 : Int32) (a0 : Nat → Int32) : Option ((Nat → Int32)) :=
  if v3 ≤ v2 then
    some (a0)
  else
    gd (inb v2 n_a0) <|
    bn (v2 + (1 : Int32)) fun x1 =>
    k5 x1 v3 (upd a0 v2.toNatClampNeg p1)
def f_Arr_fill0 (N : Nat) (p1 : Int32) (a00 : Nat → Int32) (n_a0 : Nat) : Option ((Nat → Int32)) :=
  bn ((nI n_a0)) fun x1 =>
  lo3 (g_Arr_fill0_5 p1 n_a0) N (0 : Int32) x1 a00
set_option maxRecDepth 100000 in
set_option maxHeartbeats 4000000 in
theorem w_Arr_fill0_5 {p : Program} {l : Launch} {e : Env} {R : Room} {s : State} {m : MethodId} {args : Array Value} {below : List Frame} {meth : Method} {c : Code} {D : va_G} {cI cJ cG cZ : ClassId} {A : Nat → Prop} {Q : State → Prop} {q_a0 : Nat} {n_a0 : Nat} {p1 : Int32} {RR : (Nat → Int32)} (C0 : CX p R s m args meth c b_Arr_fill0 4 R_Arr lw_g D CL (TYs cI cJ cG cZ) A 0 0) (hret : ∀ (pc : Nat) (ls : Array Slot) (H : Heap) (locs : List Loc) (a0 : Nat → Int32), decode b_Arr_fill0 pc = .ok (.return_, 1) → va_P D CL [(q_a0, .inl (cI, n_a0, .inl a0))] H → va_D A [(q_a0, .inl (cI, n_a0, .inl a0))] → va_S A s.heap H locs → some (a0) = some RR → W p l e R s m args below meth c H locs 0 0 Q (F0 m pc ls [])) (k5 : Int32 → Int32 → (Nat → Int32) → Option ((Nat → Int32))) (hk5 : ∀ (v2 : Int32) (v3 : Int32) (a0 : Nat → Int32) (H : Heap) (locs : List Loc) (ls : Array Slot), va_P D CL [(q_a0, .inl (cI, n_a0, .inl a0))] H → va_D A [(q_a0, .inl (cI, n_a0, .inl a0))] → va_S A s.heap H locs → lv_has ls 4 [(0, .ref q_a0), (1, .int p1), (2, .int v2), (3, .int v3)] → k5 v2 v3 a0 = some RR → W p l e R s m args below meth c H locs 0 0 Q (F0 m 5 ls [])) : ∀ (v2 : Int32) (v3 : Int32) (a0 : Nat → Int32) (H : Heap) (locs : List Loc) (ls : Array Slot), va_P D CL [(q_a0, .inl (cI, n_a0, .inl a0))] H → va_D A [(q_a0, .inl (cI, n_a0, .inl a0))] → va_S A s.heap H locs → lv_has ls 4 [(0, .ref q_a0), (1, .int p1), (2, .int v2), (3, .int v3)] → g_Arr_fill0_5 p1 n_a0 k5 v2 v3 a0 = some RR → W p l e R s m args below meth c H locs 0 0 Q (F0 m 5 ls []) := by
  intro v2 v3 a0 H locs ls hP hD hS hl hf
  obtain ⟨hx, hb, hml, hown, hts, hK, hA, hfr, hlo, hlk⟩ := id C0
  unfold g_Arr_fill0_5 at hf
  refine lv_iload_n hx hb d_Arr_fill0_5 rfl (lv_at hl 2 rfl) ?_
  refine lv_iload_n hx hb d_Arr_fill0_6 rfl (lv_at hl 3 rfl) ?_
  refine lv_icmp_ge (tgt := 20) hx hb d_Arr_fill0_7 (by decide) (fun hc1 => ?_) (fun hc1 => ?_)
  · have hf := if_t hc1 hf
    exact hret 20 _ _ _ a0 d_Arr_fill0_20 hP hD hS hf
  · have hf := if_f hc1 hf
    refine lv_aload_n hx hb d_Arr_fill0_10 rfl (lv_at hl 0 rfl) ?_
    refine lv_iload_n hx hb d_Arr_fill0_11 rfl (lv_at hl 2 rfl) ?_
    refine lv_iload_n hx hb d_Arr_fill0_12 rfl (lv_at hl 1 rfl) ?_
    obtain ⟨hg1, hf⟩ := gd_e hf
    refine va_iast hx hb hK hP hD hS 0 0 rfl rfl (inb_e hg1) d_Arr_fill0_13 (fun H locs hP hD hS => ?_)
    have hP : va_P D CL [(q_a0, .inl (cI, n_a0, .inl (upd a0 v2.toNatClampNeg p1)))] H := hP
    have hD : va_D A [(q_a0, .inl (cI, n_a0, .inl (upd a0 v2.toNatClampNeg p1)))] := hD
    obtain ⟨x1, ex1⟩ : ∃ y : Int32, y = v2 + (1 : Int32) := ⟨_, rfl⟩
    have hf := bn_e ex1 hf
    refine lv_iinc (v := x1) (lv' := [(2, .int x1), (0, .ref q_a0), (1, .int p1), (3, .int v3)]) hx hb d_Arr_fill0_14 hl (k := 2) rfl (by rw [ex1]; rfl) (by decide) rfl (fun ls hl => ?_)
    refine lv_goto (tgt := 5) hx hb d_Arr_fill0_17 (by decide) ?_
    exact hk5 x1 v3 (upd a0 v2.toNatClampNeg p1) _ _ _ hP hD hS (lv_sub hl [1, 2, 0, 3] rfl) hf
set_option maxRecDepth 100000 in
set_option maxHeartbeats 4000000 in
theorem w_Arr_fill0_5_l {p : Program} {l : Launch} {e : Env} {R : Room} {s : State} {m : MethodId} {args : Array Value} {below : List Frame} {meth : Method} {c : Code} {D : va_G} {cI cJ cG cZ : ClassId} {A : Nat → Prop} {Q : State → Prop} {q_a0 : Nat} {n_a0 : Nat} {p1 : Int32} {RR : (Nat → Int32)} (C0 : CX p R s m args meth c b_Arr_fill0 4 R_Arr lw_g D CL (TYs cI cJ cG cZ) A 0 0) (hret : ∀ (pc : Nat) (ls : Array Slot) (H : Heap) (locs : List Loc) (a0 : Nat → Int32), decode b_Arr_fill0 pc = .ok (.return_, 1) → va_P D CL [(q_a0, .inl (cI, n_a0, .inl a0))] H → va_D A [(q_a0, .inl (cI, n_a0, .inl a0))] → va_S A s.heap H locs → some (a0) = some RR → W p l e R s m args below meth c H locs 0 0 Q (F0 m pc ls []))  : ∀ (n : Nat) (v2 : Int32) (v3 : Int32) (a0 : Nat → Int32) (H : Heap) (locs : List Loc) (ls : Array Slot), va_P D CL [(q_a0, .inl (cI, n_a0, .inl a0))] H → va_D A [(q_a0, .inl (cI, n_a0, .inl a0))] → va_S A s.heap H locs → lv_has ls 4 [(0, .ref q_a0), (1, .int p1), (2, .int v2), (3, .int v3)] → lo3 (g_Arr_fill0_5 p1 n_a0) n v2 v3 a0 = some RR → W p l e R s m args below meth c H locs 0 0 Q (F0 m 5 ls []) := by
  intro n
  induction n with
  | zero =>
    intro v2 v3 a0 H locs ls hP hD hS hl hf
    exact absurd hf (by simp [lo3])
  | succ n ih =>
    intro v2 v3 a0 H locs ls hP hD hS hl hf
    exact w_Arr_fill0_5 C0 hret  (lo3 (g_Arr_fill0_5 p1 n_a0) n) ih v2 v3 a0 H locs ls hP hD hS hl hf
set_option maxRecDepth 100000 in
set_option maxHeartbeats 4000000 in
theorem w_Arr_fill0_e {p : Program} {l : Launch} {e : Env} {R : Room} {s : State} {m : MethodId} {args : Array Value} {below : List Frame} {meth : Method} {c : Code} {D : va_G} {cI cJ cG cZ : ClassId} {A : Nat → Prop} {Q : State → Prop} {q_a0 : Nat} {a00 : Nat → Int32} {n_a0 : Nat} {p1 : Int32} {N : Nat} {RR : (Nat → Int32)} (C0 : CX p R s m args meth c b_Arr_fill0 4 R_Arr lw_g D CL (TYs cI cJ cG cZ) A 0 0) (hret : ∀ (pc : Nat) (ls : Array Slot) (H : Heap) (locs : List Loc) (a0 : Nat → Int32), decode b_Arr_fill0 pc = .ok (.return_, 1) → va_P D CL [(q_a0, .inl (cI, n_a0, .inl a0))] H → va_D A [(q_a0, .inl (cI, n_a0, .inl a0))] → va_S A s.heap H locs → some (a0) = some RR → W p l e R s m args below meth c H locs 0 0 Q (F0 m pc ls [])) : ∀ (H : Heap) (locs : List Loc) (ls : Array Slot), va_P D CL [(q_a0, .inl (cI, n_a0, .inl a00))] H → va_D A [(q_a0, .inl (cI, n_a0, .inl a00))] → va_S A s.heap H locs → lv_has ls 4 [(0, .ref q_a0), (1, .int p1)] → f_Arr_fill0 N p1 a00 n_a0 = some RR → W p l e R s m args below meth c H locs 0 0 Q (F0 m 0 ls []) := by
  intro H locs ls hP hD hS hl hf
  obtain ⟨hx, hb, hml, hown, hts, hK, hA, hfr, hlo, hlk⟩ := id C0
  unfold f_Arr_fill0 at hf
  refine lv_iconst (v := 0) hx hb d_Arr_fill0_0 (by decide) ?_
  refine lv_istore_n (lv' := [(2, .int (0 : Int32)), (0, .ref q_a0), (1, .int p1)]) hx hb d_Arr_fill0_1 rfl hl (by decide) rfl (fun ls hl => ?_)
  refine lv_aload_n hx hb d_Arr_fill0_2 rfl (lv_at hl 1 rfl) ?_
  refine va_alen (v := nI n_a0) hx hb hK hP 0 0 rfl rfl rfl d_Arr_fill0_3 ?_
  refine lv_topi (fun x1 ex1 => ?_)
  have hf := bn_e ex1 hf
  refine lv_istore_n (lv' := [(3, .int x1), (2, .int (0 : Int32)), (0, .ref q_a0), (1, .int p1)]) hx hb d_Arr_fill0_4 rfl hl (by decide) rfl (fun ls hl => ?_)
  exact w_Arr_fill0_5_l C0 hret N (0 : Int32) x1 a00 _ _ _ hP hD hS (lv_sub hl [2, 3, 1, 0] rfl) hf
set_option maxRecDepth 100000 in
set_option maxHeartbeats 4000000 in
theorem c_Arr_fill0 (l : Launch) (D : va_G) (cI cJ cG cZ : ClassId) (q_a0 : Nat) (a00 : Nat → Int32) (n_a0 : Nat) (p1 : Int32) {N : Nat} {a0' : Nat → Int32} (hf : f_Arr_fill0 N p1 a00 n_a0 = some (a0')) : MeG l D CL (TYs cI cJ cG cZ) y_Arr_fill0 ws_Arr_fill0 (rm_Arr_fill0) [.ref q_a0, .int p1] [(q_a0, .inl (cI, n_a0, .inl a00))] none [(q_a0, .inl (cI, n_a0, .inl a0'))] := by
  intro sz
  refine Met.ofW (cc := b_Arr_fill0) (maxL := 4) (ret := none) (by decide) rfl ?_
  intro p e s m args below meth c s₁ B hml hv
  obtain ⟨rfl, hsz, hP, hK, hD0⟩ := hv
  subst hsz
  have hD := hD0.self (sz := s.heap.size)
  generalize hAe : va_A [(q_a0, .inl (cI, n_a0, .inl a00))] s.heap.size = A at hD ⊢
  have C0 : CX p (headSpec ws_Arr_fill0 (rm_Arr_fill0)).room s m _ meth c b_Arr_fill0 4 R_Arr lw_g D CL (TYs cI cJ cG cZ) A 0 0 := ⟨B.exec, B.bytes, hml, findClass_of_methodNamed B.named, fun w h => atoms_spec (ws := ws_Arr_fill0) B.pre w (List.mem_cons_of_mem _ h), hK, fun q h => by rw [← hAe]; exact Or.inr h, Nat.le_of_ble_eq_true rfl, Nat.le_of_ble_eq_true rfl, B.notSynchronized⟩
  have hl := lv_entry ([.ref q_a0, .int p1]) (n := 4) (Nat.le_of_ble_eq_true rfl)
  rw [lg_entry_eq]
  generalize (lg_sl ([.ref q_a0, .int p1]) ++ List.replicate (4 - (lg_sl ([.ref q_a0, .int p1])).length) Slot.unset).toArray = ls at hl ⊢
  have hl : lv_has ls 4 [(0, .ref q_a0), (1, .int p1)] := hl
  exact w_Arr_fill0_e C0 (fun pc ls H locs a0 hdg hP hD hS e => by cases e; exact W.vret B.exec B.bytes B.returns (fun t ht hW => ⟨⟨rfl, by rw [ht]; exact hP, va_K.moved hW.alike hK, hD⟩, hS.F ht⟩) hS.2.2 hdg) _ _ _ hP hD va_S.rf (lv_sub hl [0, 1] rfl) hf
abbrev b_Arr_fill1 : ByteArray := prog_15_method_101_code
def y_Arr_fill1 : MethodName := ⟨R_Arr, "fill", "([JJ)V"⟩
def ws_Arr_fill1 : List Cond := .code y_Arr_fill1 b_Arr_fill1 5 none :: lw_g
theorem wi_Arr_fill1 : ∀ w ∈ ws_Arr_fill1, w ∈ lw_g := wi_of m_2_140
abbrev rm_Arr_fill1 : Room := { frames := 0, cells := 0, slots := 0, locals := 0 }
theorem hd_Arr_fill1 : y_Arr_fill1.cls ≠ "java/lang/invoke/MethodHandle" ∧ y_Arr_fill1.cls ≠ "java/lang/invoke/VarHandle" ∧ (parseMethodDescriptor y_Arr_fill1.desc).map (fun d => d.parameters.length) = some 2 := by decide +kernel
theorem d_Arr_fill1_0 : decode b_Arr_fill1 0 = .ok (.iconst 0, 1) := by decide +kernel
theorem d_Arr_fill1_1 : decode b_Arr_fill1 1 = .ok (.istore_n 3, 1) := by decide +kernel
theorem d_Arr_fill1_2 : decode b_Arr_fill1 2 = .ok (.aload_n 0, 1) := by decide +kernel
theorem d_Arr_fill1_3 : decode b_Arr_fill1 3 = .ok (.arraylength, 1) := by decide +kernel
theorem d_Arr_fill1_4 : decode b_Arr_fill1 4 = .ok (.istore 4, 2) := by decide +kernel
theorem d_Arr_fill1_6 : decode b_Arr_fill1 6 = .ok (.iload_n 3, 1) := by decide +kernel
theorem d_Arr_fill1_7 : decode b_Arr_fill1 7 = .ok (.iload 4, 2) := by decide +kernel
theorem d_Arr_fill1_9 : decode b_Arr_fill1 9 = .ok (.if_icmp .ge 13, 3) := by decide +kernel
theorem d_Arr_fill1_12 : decode b_Arr_fill1 12 = .ok (.aload_n 0, 1) := by decide +kernel
theorem d_Arr_fill1_13 : decode b_Arr_fill1 13 = .ok (.iload_n 3, 1) := by decide +kernel
theorem d_Arr_fill1_14 : decode b_Arr_fill1 14 = .ok (.lload_n 1, 1) := by decide +kernel
theorem d_Arr_fill1_15 : decode b_Arr_fill1 15 = .ok (.lastore, 1) := by decide +kernel
theorem d_Arr_fill1_16 : decode b_Arr_fill1 16 = .ok (.iinc 3 1, 3) := by decide +kernel
theorem d_Arr_fill1_19 : decode b_Arr_fill1 19 = .ok (.goto (-13), 3) := by decide +kernel
theorem d_Arr_fill1_22 : decode b_Arr_fill1 22 = .ok (.return_, 1) := by decide +kernel
def g_Arr_fill1_6 (p1 : Int64) (n_a0 : Nat) (k6 : Int32 → Int32 → (Nat → Int64) → Option ((Nat → Int64))) (v3 : Int32) (v4 : Int32) (a0 : Nat → Int64) : Option ((Nat → Int64)) :=
  if v4 ≤ v3 then
    some (a0)
  else
    gd (inb v3 n_a0) <|
    bn (v3 + (1 : Int32)) fun x1 =>
    k6 x1 v4 (vp_updL a0 v3.toNatClampNeg p1)
def f_Arr_fill1 (N : Nat) (p1 : Int64) (a00 : Nat → Int64) (n_a0 : Nat) : Option ((Nat → Int64)) :=
  bn ((nI n_a0)) fun x1 =>
  lo3 (g_Arr_fill1_6 p1 n_a0) N (0 : Int32) x1 a00
set_option maxRecDepth 100000 in
set_option maxHeartbeats 4000000 in
theorem w_Arr_fill1_6 {p : Program} {l : Launch} {e : Env} {R : Room} {s : State} {m : MethodId} {args : Array Value} {below : List Frame} {meth : Method} {c : Code} {D : va_G} {cI cJ cG cZ : ClassId} {A : Nat → Prop} {Q : State → Prop} {q_a0 : Nat} {n_a0 : Nat} {p1 : Int64} {RR : (Nat → Int64)} (C0 : CX p R s m args meth c b_Arr_fill1 5 R_Arr lw_g D CL (TYs cI cJ cG cZ) A 0 0) (hret : ∀ (pc : Nat) (ls : Array Slot) (H : Heap) (locs : List Loc) (a0 : Nat → Int64), decode b_Arr_fill1 pc = .ok (.return_, 1) → va_P D CL [(q_a0, .inl (cJ, n_a0, .inr (.inl a0)))] H → va_D A [(q_a0, .inl (cJ, n_a0, .inr (.inl a0)))] → va_S A s.heap H locs → some (a0) = some RR → W p l e R s m args below meth c H locs 0 0 Q (F0 m pc ls [])) (k6 : Int32 → Int32 → (Nat → Int64) → Option ((Nat → Int64))) (hk6 : ∀ (v3 : Int32) (v4 : Int32) (a0 : Nat → Int64) (H : Heap) (locs : List Loc) (ls : Array Slot), va_P D CL [(q_a0, .inl (cJ, n_a0, .inr (.inl a0)))] H → va_D A [(q_a0, .inl (cJ, n_a0, .inr (.inl a0)))] → va_S A s.heap H locs → lv_has ls 5 [(0, .ref q_a0), (1, .long p1), (3, .int v3), (4, .int v4)] → k6 v3 v4 a0 = some RR → W p l e R s m args below meth c H locs 0 0 Q (F0 m 6 ls [])) : ∀ (v3 : Int32) (v4 : Int32) (a0 : Nat → Int64) (H : Heap) (locs : List Loc) (ls : Array Slot), va_P D CL [(q_a0, .inl (cJ, n_a0, .inr (.inl a0)))] H → va_D A [(q_a0, .inl (cJ, n_a0, .inr (.inl a0)))] → va_S A s.heap H locs → lv_has ls 5 [(0, .ref q_a0), (1, .long p1), (3, .int v3), (4, .int v4)] → g_Arr_fill1_6 p1 n_a0 k6 v3 v4 a0 = some RR → W p l e R s m args below meth c H locs 0 0 Q (F0 m 6 ls []) := by
  intro v3 v4 a0 H locs ls hP hD hS hl hf
  obtain ⟨hx, hb, hml, hown, hts, hK, hA, hfr, hlo, hlk⟩ := id C0
  unfold g_Arr_fill1_6 at hf
  refine lv_iload_n hx hb d_Arr_fill1_6 rfl (lv_at hl 2 rfl) ?_
  refine lv_iload hx hb d_Arr_fill1_7 (lv_at hl 3 rfl) ?_
  refine lv_icmp_ge (tgt := 22) hx hb d_Arr_fill1_9 (by decide) (fun hc1 => ?_) (fun hc1 => ?_)
  · have hf := if_t hc1 hf
    exact hret 22 _ _ _ a0 d_Arr_fill1_22 hP hD hS hf
  · have hf := if_f hc1 hf
    refine lv_aload_n hx hb d_Arr_fill1_12 rfl (lv_at hl 0 rfl) ?_
    refine lv_iload_n hx hb d_Arr_fill1_13 rfl (lv_at hl 2 rfl) ?_
    refine lv_lload_n hx hb d_Arr_fill1_14 rfl (lv_at hl 1 rfl) ?_
    obtain ⟨hg1, hf⟩ := gd_e hf
    refine va_last hx hb hK hP hD hS 0 1 rfl rfl (inb_e hg1) d_Arr_fill1_15 (fun H locs hP hD hS => ?_)
    have hP : va_P D CL [(q_a0, .inl (cJ, n_a0, .inr (.inl (vp_updL a0 v3.toNatClampNeg p1))))] H := hP
    have hD : va_D A [(q_a0, .inl (cJ, n_a0, .inr (.inl (vp_updL a0 v3.toNatClampNeg p1))))] := hD
    obtain ⟨x1, ex1⟩ : ∃ y : Int32, y = v3 + (1 : Int32) := ⟨_, rfl⟩
    have hf := bn_e ex1 hf
    refine lv_iinc (v := x1) (lv' := [(3, .int x1), (0, .ref q_a0), (1, .long p1), (4, .int v4)]) hx hb d_Arr_fill1_16 hl (k := 2) rfl (by rw [ex1]; rfl) (by decide) rfl (fun ls hl => ?_)
    refine lv_goto (tgt := 6) hx hb d_Arr_fill1_19 (by decide) ?_
    exact hk6 x1 v4 (vp_updL a0 v3.toNatClampNeg p1) _ _ _ hP hD hS (lv_sub hl [1, 2, 0, 3] rfl) hf
set_option maxRecDepth 100000 in
set_option maxHeartbeats 4000000 in
theorem w_Arr_fill1_6_l {p : Program} {l : Launch} {e : Env} {R : Room} {s : State} {m : MethodId} {args : Array Value} {below : List Frame} {meth : Method} {c : Code} {D : va_G} {cI cJ cG cZ : ClassId} {A : Nat → Prop} {Q : State → Prop} {q_a0 : Nat} {n_a0 : Nat} {p1 : Int64} {RR : (Nat → Int64)} (C0 : CX p R s m args meth c b_Arr_fill1 5 R_Arr lw_g D CL (TYs cI cJ cG cZ) A 0 0) (hret : ∀ (pc : Nat) (ls : Array Slot) (H : Heap) (locs : List Loc) (a0 : Nat → Int64), decode b_Arr_fill1 pc = .ok (.return_, 1) → va_P D CL [(q_a0, .inl (cJ, n_a0, .inr (.inl a0)))] H → va_D A [(q_a0, .inl (cJ, n_a0, .inr (.inl a0)))] → va_S A s.heap H locs → some (a0) = some RR → W p l e R s m args below meth c H locs 0 0 Q (F0 m pc ls []))  : ∀ (n : Nat) (v3 : Int32) (v4 : Int32) (a0 : Nat → Int64) (H : Heap) (locs : List Loc) (ls : Array Slot), va_P D CL [(q_a0, .inl (cJ, n_a0, .inr (.inl a0)))] H → va_D A [(q_a0, .inl (cJ, n_a0, .inr (.inl a0)))] → va_S A s.heap H locs → lv_has ls 5 [(0, .ref q_a0), (1, .long p1), (3, .int v3), (4, .int v4)] → lo3 (g_Arr_fill1_6 p1 n_a0) n v3 v4 a0 = some RR → W p l e R s m args below meth c H locs 0 0 Q (F0 m 6 ls []) := by
  intro n
  induction n with
  | zero =>
    intro v3 v4 a0 H locs ls hP hD hS hl hf
    exact absurd hf (by simp [lo3])
  | succ n ih =>
    intro v3 v4 a0 H locs ls hP hD hS hl hf
    exact w_Arr_fill1_6 C0 hret  (lo3 (g_Arr_fill1_6 p1 n_a0) n) ih v3 v4 a0 H locs ls hP hD hS hl hf
set_option maxRecDepth 100000 in
set_option maxHeartbeats 4000000 in
theorem w_Arr_fill1_e {p : Program} {l : Launch} {e : Env} {R : Room} {s : State} {m : MethodId} {args : Array Value} {below : List Frame} {meth : Method} {c : Code} {D : va_G} {cI cJ cG cZ : ClassId} {A : Nat → Prop} {Q : State → Prop} {q_a0 : Nat} {a00 : Nat → Int64} {n_a0 : Nat} {p1 : Int64} {N : Nat} {RR : (Nat → Int64)} (C0 : CX p R s m args meth c b_Arr_fill1 5 R_Arr lw_g D CL (TYs cI cJ cG cZ) A 0 0) (hret : ∀ (pc : Nat) (ls : Array Slot) (H : Heap) (locs : List Loc) (a0 : Nat → Int64), decode b_Arr_fill1 pc = .ok (.return_, 1) → va_P D CL [(q_a0, .inl (cJ, n_a0, .inr (.inl a0)))] H → va_D A [(q_a0, .inl (cJ, n_a0, .inr (.inl a0)))] → va_S A s.heap H locs → some (a0) = some RR → W p l e R s m args below meth c H locs 0 0 Q (F0 m pc ls [])) : ∀ (H : Heap) (locs : List Loc) (ls : Array Slot), va_P D CL [(q_a0, .inl (cJ, n_a0, .inr (.inl a00)))] H → va_D A [(q_a0, .inl (cJ, n_a0, .inr (.inl a00)))] → va_S A s.heap H locs → lv_has ls 5 [(0, .ref q_a0), (1, .long p1)] → f_Arr_fill1 N p1 a00 n_a0 = some RR → W p l e R s m args below meth c H locs 0 0 Q (F0 m 0 ls []) := by
  intro H locs ls hP hD hS hl hf
  obtain ⟨hx, hb, hml, hown, hts, hK, hA, hfr, hlo, hlk⟩ := id C0
  unfold f_Arr_fill1 at hf
  refine lv_iconst (v := 0) hx hb d_Arr_fill1_0 (by decide) ?_
  refine lv_istore_n (lv' := [(3, .int (0 : Int32)), (0, .ref q_a0), (1, .long p1)]) hx hb d_Arr_fill1_1 rfl hl (by decide) rfl (fun ls hl => ?_)
  refine lv_aload_n hx hb d_Arr_fill1_2 rfl (lv_at hl 1 rfl) ?_
  refine va_alen (v := nI n_a0) hx hb hK hP 0 1 rfl rfl rfl d_Arr_fill1_3 ?_
  refine lv_topi (fun x1 ex1 => ?_)
  have hf := bn_e ex1 hf
  refine lv_istore (lv' := [(4, .int x1), (3, .int (0 : Int32)), (0, .ref q_a0), (1, .long p1)]) hx hb d_Arr_fill1_4 hl (by decide) rfl (fun ls hl => ?_)
  exact w_Arr_fill1_6_l C0 hret N (0 : Int32) x1 a00 _ _ _ hP hD hS (lv_sub hl [2, 3, 1, 0] rfl) hf
set_option maxRecDepth 100000 in
set_option maxHeartbeats 4000000 in
theorem c_Arr_fill1 (l : Launch) (D : va_G) (cI cJ cG cZ : ClassId) (q_a0 : Nat) (a00 : Nat → Int64) (n_a0 : Nat) (p1 : Int64) {N : Nat} {a0' : Nat → Int64} (hf : f_Arr_fill1 N p1 a00 n_a0 = some (a0')) : MeG l D CL (TYs cI cJ cG cZ) y_Arr_fill1 ws_Arr_fill1 (rm_Arr_fill1) [.ref q_a0, .long p1] [(q_a0, .inl (cJ, n_a0, .inr (.inl a00)))] none [(q_a0, .inl (cJ, n_a0, .inr (.inl a0')))] := by
  intro sz
  refine Met.ofW (cc := b_Arr_fill1) (maxL := 5) (ret := none) (by decide) rfl ?_
  intro p e s m args below meth c s₁ B hml hv
  obtain ⟨rfl, hsz, hP, hK, hD0⟩ := hv
  subst hsz
  have hD := hD0.self (sz := s.heap.size)
  generalize hAe : va_A [(q_a0, .inl (cJ, n_a0, .inr (.inl a00)))] s.heap.size = A at hD ⊢
  have C0 : CX p (headSpec ws_Arr_fill1 (rm_Arr_fill1)).room s m _ meth c b_Arr_fill1 5 R_Arr lw_g D CL (TYs cI cJ cG cZ) A 0 0 := ⟨B.exec, B.bytes, hml, findClass_of_methodNamed B.named, fun w h => atoms_spec (ws := ws_Arr_fill1) B.pre w (List.mem_cons_of_mem _ h), hK, fun q h => by rw [← hAe]; exact Or.inr h, Nat.le_of_ble_eq_true rfl, Nat.le_of_ble_eq_true rfl, B.notSynchronized⟩
  have hl := lv_entry ([.ref q_a0, .long p1]) (n := 5) (Nat.le_of_ble_eq_true rfl)
  rw [lg_entry_eq]
  generalize (lg_sl ([.ref q_a0, .long p1]) ++ List.replicate (5 - (lg_sl ([.ref q_a0, .long p1])).length) Slot.unset).toArray = ls at hl ⊢
  have hl : lv_has ls 5 [(0, .ref q_a0), (1, .long p1)] := hl
  exact w_Arr_fill1_e C0 (fun pc ls H locs a0 hdg hP hD hS e => by cases e; exact W.vret B.exec B.bytes B.returns (fun t ht hW => ⟨⟨rfl, by rw [ht]; exact hP, va_K.moved hW.alike hK, hD⟩, hS.F ht⟩) hS.2.2 hdg) _ _ _ hP hD va_S.rf (lv_sub hl [0, 1] rfl) hf
