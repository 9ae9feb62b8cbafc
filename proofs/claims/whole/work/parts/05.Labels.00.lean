abbrev b_Labels_separate : ByteArray := prog_7_method_2_code
def y_Labels_separate : MethodName := ⟨R_Labels, "separate", "(I)V"⟩
def ws_Labels_separate : List Cond := .code y_Labels_separate b_Labels_separate 3 none :: lw_g
theorem wi_Labels_separate : ∀ w ∈ ws_Labels_separate, w ∈ lw_g := wi_of m_2_91
abbrev rm_Labels_separate : Room := { frames := 0, cells := 0, slots := 0, locals := 0 }
theorem hd_Labels_separate : y_Labels_separate.cls = R_Labels ∧ y_Labels_separate.cls ≠ "java/lang/invoke/MethodHandle" ∧ y_Labels_separate.cls ≠ "java/lang/invoke/VarHandle" ∧ (parseMethodDescriptor y_Labels_separate.desc).map (fun d => d.parameters.length) = some 1 := by decide +kernel
theorem d_Labels_separate_0 : decode b_Labels_separate 0 = .ok (.aload_n 0, 1) := by decide +kernel
theorem d_Labels_separate_1 : decode b_Labels_separate 1 = .ok (.iload_n 1, 1) := by decide +kernel
theorem d_Labels_separate_2 : decode b_Labels_separate 2 = .ok (.putfield 15, 3) := by decide +kernel
theorem d_Labels_separate_5 : decode b_Labels_separate 5 = .ok (.aload_n 0, 1) := by decide +kernel
theorem d_Labels_separate_6 : decode b_Labels_separate 6 = .ok (.iload_n 1, 1) := by decide +kernel
theorem d_Labels_separate_7 : decode b_Labels_separate 7 = .ok (.putfield 19, 3) := by decide +kernel
theorem d_Labels_separate_10 : decode b_Labels_separate 10 = .ok (.iconst 0, 1) := by decide +kernel
theorem d_Labels_separate_11 : decode b_Labels_separate 11 = .ok (.istore_n 2, 1) := by decide +kernel
theorem d_Labels_separate_12 : decode b_Labels_separate 12 = .ok (.iload_n 2, 1) := by decide +kernel
theorem d_Labels_separate_13 : decode b_Labels_separate 13 = .ok (.iload_n 1, 1) := by decide +kernel
theorem d_Labels_separate_14 : decode b_Labels_separate 14 = .ok (.if_icmp .ge 16, 3) := by decide +kernel
theorem d_Labels_separate_17 : decode b_Labels_separate 17 = .ok (.aload_n 0, 1) := by decide +kernel
theorem d_Labels_separate_18 : decode b_Labels_separate 18 = .ok (.getfield 9, 3) := by decide +kernel
theorem d_Labels_separate_21 : decode b_Labels_separate 21 = .ok (.iload_n 2, 1) := by decide +kernel
theorem d_Labels_separate_22 : decode b_Labels_separate 22 = .ok (.iload_n 2, 1) := by decide +kernel
theorem d_Labels_separate_23 : decode b_Labels_separate 23 = .ok (.iastore, 1) := by decide +kernel
theorem d_Labels_separate_24 : decode b_Labels_separate 24 = .ok (.iinc 2 1, 3) := by decide +kernel
theorem d_Labels_separate_27 : decode b_Labels_separate 27 = .ok (.goto (-15), 3) := by decide +kernel
theorem d_Labels_separate_30 : decode b_Labels_separate 30 = .ok (.return_, 1) := by decide +kernel
def g_Labels_separate_12 (p1 : Int32) (k12 : Int32 → Int32 → Int32 → (Nat → Int32) → Option (Int32 × Int32 × (Nat → Int32))) (v2 : Int32) (t_nodes : Int32) (t_groups : Int32) (t_label : Nat → Int32) : Option (Int32 × Int32 × (Nat → Int32)) :=
  if p1 ≤ v2 then
    some (t_nodes, t_groups, t_label)
  else
    gd (inb v2 10) <|
    bn (v2 + (1 : Int32)) fun x1 =>
    k12 x1 t_nodes t_groups (upd t_label v2.toNatClampNeg v2)
def f_Labels_separate (N : Nat) (p1 : Int32) (t_label0 : Nat → Int32) : Option (Int32 × Int32 × (Nat → Int32)) :=
  lo4 (g_Labels_separate_12 p1) N (0 : Int32) p1 p1 t_label0
set_option maxRecDepth 100000 in
set_option maxHeartbeats 4000000 in
theorem w_Labels_separate_12 {p : Program} {l : Launch} {e : Env} {R : Room} {s : State} {m : MethodId} {args : Array Value} {below : List Frame} {meth : Method} {c : Code} {D : va_G} {cI cJ cG cZ : ClassId} {A : Nat → Prop} {Q : State → Prop} {q_t q_t_label : Nat} {p1 : Int32} {RR : Int32 × Int32 × (Nat → Int32)} (C0 : CX p R s m args meth c b_Labels_separate 3 R_Labels lw_g D CL (TYs cI cJ cG cZ) A 0 0) (hret : ∀ (pc : Nat) (ls : Array Slot) (H : Heap) (locs : List Loc) (t_nodes : Int32) (t_groups : Int32) (t_label : Nat → Int32), decode b_Labels_separate pc = .ok (.return_, 1) → va_P D CL [(q_t, .inr (4, [.ref q_t_label, .int t_nodes, .int t_groups])), (q_t_label, .inl (cI, 10, .inl t_label))] H → va_D A [(q_t, .inr (4, [.ref q_t_label, .int t_nodes, .int t_groups])), (q_t_label, .inl (cI, 10, .inl t_label))] → va_S A s.heap H locs → some (t_nodes, t_groups, t_label) = some RR → W p l e R s m args below meth c H locs 0 0 Q (F0 m pc ls [])) (k12 : Int32 → Int32 → Int32 → (Nat → Int32) → Option (Int32 × Int32 × (Nat → Int32))) (hk12 : ∀ (v2 : Int32) (t_nodes : Int32) (t_groups : Int32) (t_label : Nat → Int32) (H : Heap) (locs : List Loc) (ls : Array Slot), va_P D CL [(q_t, .inr (4, [.ref q_t_label, .int t_nodes, .int t_groups])), (q_t_label, .inl (cI, 10, .inl t_label))] H → va_D A [(q_t, .inr (4, [.ref q_t_label, .int t_nodes, .int t_groups])), (q_t_label, .inl (cI, 10, .inl t_label))] → va_S A s.heap H locs → lv_has ls 3 [(0, .ref q_t), (1, .int p1), (2, .int v2)] → k12 v2 t_nodes t_groups t_label = some RR → W p l e R s m args below meth c H locs 0 0 Q (F0 m 12 ls [])) : ∀ (v2 : Int32) (t_nodes : Int32) (t_groups : Int32) (t_label : Nat → Int32) (H : Heap) (locs : List Loc) (ls : Array Slot), va_P D CL [(q_t, .inr (4, [.ref q_t_label, .int t_nodes, .int t_groups])), (q_t_label, .inl (cI, 10, .inl t_label))] H → va_D A [(q_t, .inr (4, [.ref q_t_label, .int t_nodes, .int t_groups])), (q_t_label, .inl (cI, 10, .inl t_label))] → va_S A s.heap H locs → lv_has ls 3 [(0, .ref q_t), (1, .int p1), (2, .int v2)] → g_Labels_separate_12 p1 k12 v2 t_nodes t_groups t_label = some RR → W p l e R s m args below meth c H locs 0 0 Q (F0 m 12 ls []) := by
  intro v2 t_nodes t_groups t_label H locs ls hP hD hS hl hf
  obtain ⟨hx, hb, hml, hown, hts, hK, hA, hfr, hlo, hlk⟩ := id C0
  unfold g_Labels_separate_12 at hf
  refine lv_iload_n hx hb d_Labels_separate_12 rfl (lv_at hl 2 rfl) ?_
  refine lv_iload_n hx hb d_Labels_separate_13 rfl (lv_at hl 1 rfl) ?_
  refine lv_icmp_ge (tgt := 30) hx hb d_Labels_separate_14 (by decide) (fun hc1 => ?_) (fun hc1 => ?_)
  · have hf := if_t hc1 hf
    exact hret 30 _ _ _ t_nodes t_groups t_label d_Labels_separate_30 hP hD hS hf
  · have hf := if_f hc1 hf
    refine lv_aload_n hx hb d_Labels_separate_17 rfl (lv_at hl 0 rfl) ?_
    refine va_get (D := D) (ci := 4) (v := .ref q_t_label) (C := R_Labels) (T := F_Labels) (N := 3) hx hb hts i_Labels hown hK hP 0 rfl rfl 0 (by decide) (hts _ m_1_95) (fun _ h9 => h9) rfl d_Labels_separate_18 ?_
    refine lv_iload_n hx hb d_Labels_separate_21 rfl (lv_at hl 2 rfl) ?_
    refine lv_iload_n hx hb d_Labels_separate_22 rfl (lv_at hl 2 rfl) ?_
    obtain ⟨hg1, hf⟩ := gd_e hf
    refine va_iast hx hb hK hP hD hS 1 0 rfl rfl (inb_e hg1) d_Labels_separate_23 (fun H locs hP hD hS => ?_)
    have hP : va_P D CL [(q_t, .inr (4, [.ref q_t_label, .int t_nodes, .int t_groups])), (q_t_label, .inl (cI, 10, .inl (upd t_label v2.toNatClampNeg v2)))] H := hP
    have hD : va_D A [(q_t, .inr (4, [.ref q_t_label, .int t_nodes, .int t_groups])), (q_t_label, .inl (cI, 10, .inl (upd t_label v2.toNatClampNeg v2)))] := hD
    obtain ⟨x1, ex1⟩ : ∃ y : Int32, y = v2 + (1 : Int32) := ⟨_, rfl⟩
    have hf := bn_e ex1 hf
    refine lv_iinc (v := x1) (lv' := [(2, .int x1), (0, .ref q_t), (1, .int p1)]) hx hb d_Labels_separate_24 hl (k := 2) rfl (by rw [ex1]; rfl) (by decide) rfl (fun ls hl => ?_)
    refine lv_goto (tgt := 12) hx hb d_Labels_separate_27 (by decide) ?_
    exact hk12 x1 t_nodes t_groups (upd t_label v2.toNatClampNeg v2) _ _ _ hP hD hS (lv_sub hl [1, 2, 0] rfl) hf
set_option maxRecDepth 100000 in
set_option maxHeartbeats 4000000 in
theorem w_Labels_separate_12_l {p : Program} {l : Launch} {e : Env} {R : Room} {s : State} {m : MethodId} {args : Array Value} {below : List Frame} {meth : Method} {c : Code} {D : va_G} {cI cJ cG cZ : ClassId} {A : Nat → Prop} {Q : State → Prop} {q_t q_t_label : Nat} {p1 : Int32} {RR : Int32 × Int32 × (Nat → Int32)} (C0 : CX p R s m args meth c b_Labels_separate 3 R_Labels lw_g D CL (TYs cI cJ cG cZ) A 0 0) (hret : ∀ (pc : Nat) (ls : Array Slot) (H : Heap) (locs : List Loc) (t_nodes : Int32) (t_groups : Int32) (t_label : Nat → Int32), decode b_Labels_separate pc = .ok (.return_, 1) → va_P D CL [(q_t, .inr (4, [.ref q_t_label, .int t_nodes, .int t_groups])), (q_t_label, .inl (cI, 10, .inl t_label))] H → va_D A [(q_t, .inr (4, [.ref q_t_label, .int t_nodes, .int t_groups])), (q_t_label, .inl (cI, 10, .inl t_label))] → va_S A s.heap H locs → some (t_nodes, t_groups, t_label) = some RR → W p l e R s m args below meth c H locs 0 0 Q (F0 m pc ls []))  : ∀ (n : Nat) (v2 : Int32) (t_nodes : Int32) (t_groups : Int32) (t_label : Nat → Int32) (H : Heap) (locs : List Loc) (ls : Array Slot), va_P D CL [(q_t, .inr (4, [.ref q_t_label, .int t_nodes, .int t_groups])), (q_t_label, .inl (cI, 10, .inl t_label))] H → va_D A [(q_t, .inr (4, [.ref q_t_label, .int t_nodes, .int t_groups])), (q_t_label, .inl (cI, 10, .inl t_label))] → va_S A s.heap H locs → lv_has ls 3 [(0, .ref q_t), (1, .int p1), (2, .int v2)] → lo4 (g_Labels_separate_12 p1) n v2 t_nodes t_groups t_label = some RR → W p l e R s m args below meth c H locs 0 0 Q (F0 m 12 ls []) := by
  intro n
  induction n with
  | zero =>
    intro v2 t_nodes t_groups t_label H locs ls hP hD hS hl hf
    exact absurd hf (by simp [lo4])
  | succ n ih =>
    intro v2 t_nodes t_groups t_label H locs ls hP hD hS hl hf
    exact w_Labels_separate_12 C0 hret  (lo4 (g_Labels_separate_12 p1) n) ih v2 t_nodes t_groups t_label H locs ls hP hD hS hl hf
set_option maxRecDepth 100000 in
set_option maxHeartbeats 4000000 in
theorem w_Labels_separate_e {p : Program} {l : Launch} {e : Env} {R : Room} {s : State} {m : MethodId} {args : Array Value} {below : List Frame} {meth : Method} {c : Code} {D : va_G} {cI cJ cG cZ : ClassId} {A : Nat → Prop} {Q : State → Prop} {q_t q_t_label : Nat} {t_nodes0 : Int32} {t_groups0 : Int32} {t_label0 : Nat → Int32} {p1 : Int32} {N : Nat} {RR : Int32 × Int32 × (Nat → Int32)} (C0 : CX p R s m args meth c b_Labels_separate 3 R_Labels lw_g D CL (TYs cI cJ cG cZ) A 0 0) (hret : ∀ (pc : Nat) (ls : Array Slot) (H : Heap) (locs : List Loc) (t_nodes : Int32) (t_groups : Int32) (t_label : Nat → Int32), decode b_Labels_separate pc = .ok (.return_, 1) → va_P D CL [(q_t, .inr (4, [.ref q_t_label, .int t_nodes, .int t_groups])), (q_t_label, .inl (cI, 10, .inl t_label))] H → va_D A [(q_t, .inr (4, [.ref q_t_label, .int t_nodes, .int t_groups])), (q_t_label, .inl (cI, 10, .inl t_label))] → va_S A s.heap H locs → some (t_nodes, t_groups, t_label) = some RR → W p l e R s m args below meth c H locs 0 0 Q (F0 m pc ls [])) : ∀ (H : Heap) (locs : List Loc) (ls : Array Slot), va_P D CL [(q_t, .inr (4, [.ref q_t_label, .int t_nodes0, .int t_groups0])), (q_t_label, .inl (cI, 10, .inl t_label0))] H → va_D A [(q_t, .inr (4, [.ref q_t_label, .int t_nodes0, .int t_groups0])), (q_t_label, .inl (cI, 10, .inl t_label0))] → va_S A s.heap H locs → lv_has ls 3 [(0, .ref q_t), (1, .int p1)] → f_Labels_separate N p1 t_label0 = some RR → W p l e R s m args below meth c H locs 0 0 Q (F0 m 0 ls []) := by
  intro H locs ls hP hD hS hl hf
  obtain ⟨hx, hb, hml, hown, hts, hK, hA, hfr, hlo, hlk⟩ := id C0
  unfold f_Labels_separate at hf
  refine lv_aload_n hx hb d_Labels_separate_0 rfl (lv_at hl 0 rfl) ?_
  refine lv_iload_n hx hb d_Labels_separate_1 rfl (lv_at hl 1 rfl) ?_
  refine va_put (D := D) (ci := 4) (v := .int p1) (ty := .int) (C := R_Labels) (T := F_Labels) (N := 3) hx hb hts i_Labels t_Labels to_Labels n_Labels hown hK hP hD hS 0 rfl rfl 1 (by decide) (hts _ m_1_97) (fun _ h9 => h9) rfl (by decide +kernel) rfl rfl (Nat.le_of_ble_eq_true rfl) d_Labels_separate_2 (fun H locs hP hD hS => ?_)
  have hP : va_P D CL [(q_t, .inr (4, [.ref q_t_label, .int p1, .int t_groups0])), (q_t_label, .inl (cI, 10, .inl t_label0))] H := hP
  have hD : va_D A [(q_t, .inr (4, [.ref q_t_label, .int p1, .int t_groups0])), (q_t_label, .inl (cI, 10, .inl t_label0))] := hD
  refine lv_aload_n hx hb d_Labels_separate_5 rfl (lv_at hl 0 rfl) ?_
  refine lv_iload_n hx hb d_Labels_separate_6 rfl (lv_at hl 1 rfl) ?_
  refine va_put (D := D) (ci := 4) (v := .int p1) (ty := .int) (C := R_Labels) (T := F_Labels) (N := 3) hx hb hts i_Labels t_Labels to_Labels n_Labels hown hK hP hD hS 0 rfl rfl 2 (by decide) (hts _ m_1_99) (fun _ h9 => h9) rfl (by decide +kernel) rfl rfl (Nat.le_of_ble_eq_true rfl) d_Labels_separate_7 (fun H locs hP hD hS => ?_)
  have hP : va_P D CL [(q_t, .inr (4, [.ref q_t_label, .int p1, .int p1])), (q_t_label, .inl (cI, 10, .inl t_label0))] H := hP
  have hD : va_D A [(q_t, .inr (4, [.ref q_t_label, .int p1, .int p1])), (q_t_label, .inl (cI, 10, .inl t_label0))] := hD
  refine lv_iconst (v := 0) hx hb d_Labels_separate_10 (by decide) ?_
  refine lv_istore_n (lv' := [(2, .int (0 : Int32)), (0, .ref q_t), (1, .int p1)]) hx hb d_Labels_separate_11 rfl hl (by decide) rfl (fun ls hl => ?_)
  exact w_Labels_separate_12_l C0 hret N (0 : Int32) p1 p1 t_label0 _ _ _ hP hD hS (lv_sub hl [1, 2, 0] rfl) hf
set_option maxRecDepth 100000 in
set_option maxHeartbeats 4000000 in
theorem c_Labels_separate (l : Launch) (D : va_G) (cI cJ cG cZ : ClassId) (q_t q_t_label : Nat) (t_nodes0 : Int32) (t_groups0 : Int32) (t_label0 : Nat → Int32) (p1 : Int32) {N : Nat} {t_nodes' : Int32} {t_groups' : Int32} {t_label' : Nat → Int32} (hf : f_Labels_separate N p1 t_label0 = some (t_nodes', t_groups', t_label')) : MeG l D CL (TYs cI cJ cG cZ) y_Labels_separate ws_Labels_separate (rm_Labels_separate) [.ref q_t, .int p1] [(q_t, .inr (4, [.ref q_t_label, .int t_nodes0, .int t_groups0])), (q_t_label, .inl (cI, 10, .inl t_label0))] none [(q_t, .inr (4, [.ref q_t_label, .int t_nodes', .int t_groups'])), (q_t_label, .inl (cI, 10, .inl t_label'))] := by
  intro sz
  refine Met.ofW (cc := b_Labels_separate) (maxL := 3) (ret := none) (by decide) rfl ?_
  intro p e s m args below meth c s₁ B hml hv
  obtain ⟨rfl, hsz, hP, hK, hD0⟩ := hv
  subst hsz
  have hD := hD0.self (sz := s.heap.size)
  generalize hAe : va_A [(q_t, .inr (4, [.ref q_t_label, .int t_nodes0, .int t_groups0])), (q_t_label, .inl (cI, 10, .inl t_label0))] s.heap.size = A at hD ⊢
  have C0 : CX p (headSpec ws_Labels_separate (rm_Labels_separate)).room s m _ meth c b_Labels_separate 3 R_Labels lw_g D CL (TYs cI cJ cG cZ) A 0 0 := ⟨B.exec, B.bytes, hml, findClass_of_methodNamed B.named, fun w h => atoms_spec (ws := ws_Labels_separate) B.pre w (List.mem_cons_of_mem _ h), hK, fun q h => by rw [← hAe]; exact Or.inr h, Nat.le_of_ble_eq_true rfl, Nat.le_of_ble_eq_true rfl, B.notSynchronized⟩
  have hl := lv_entry ([.ref q_t, .int p1]) (n := 3) (Nat.le_of_ble_eq_true rfl)
  rw [lg_entry_eq]
  generalize (lg_sl ([.ref q_t, .int p1]) ++ List.replicate (3 - (lg_sl ([.ref q_t, .int p1])).length) Slot.unset).toArray = ls at hl ⊢
  have hl : lv_has ls 3 [(0, .ref q_t), (1, .int p1)] := hl
  exact w_Labels_separate_e C0 (fun pc ls H locs t_nodes t_groups t_label hdg hP hD hS e => by cases e; exact W.vret B.exec B.bytes B.returns (fun t ht hW => ⟨⟨rfl, by rw [ht]; exact hP, va_K.moved hW.alike hK, hD⟩, hS.F ht⟩) hS.2.2 hdg) _ _ _ hP hD va_S.rf (lv_sub hl [0, 1] rfl) hf
abbrev b_Labels_areApart : ByteArray := prog_7_method_3_code
def y_Labels_areApart : MethodName := ⟨R_Labels, "areApart", "(II)Z"⟩
def ws_Labels_areApart : List Cond := .code y_Labels_areApart b_Labels_areApart 3 (some .boolean) :: lw_g
theorem wi_Labels_areApart : ∀ w ∈ ws_Labels_areApart, w ∈ lw_g := wi_of m_2_181
abbrev rm_Labels_areApart : Room := { frames := 0, cells := 0, slots := 0, locals := 0 }
theorem hd_Labels_areApart : y_Labels_areApart.cls = R_Labels ∧ y_Labels_areApart.cls ≠ "java/lang/invoke/MethodHandle" ∧ y_Labels_areApart.cls ≠ "java/lang/invoke/VarHandle" ∧ (parseMethodDescriptor y_Labels_areApart.desc).map (fun d => d.parameters.length) = some 2 := by decide +kernel
theorem d_Labels_areApart_0 : decode b_Labels_areApart 0 = .ok (.aload_n 0, 1) := by decide +kernel
theorem d_Labels_areApart_1 : decode b_Labels_areApart 1 = .ok (.getfield 9, 3) := by decide +kernel
theorem d_Labels_areApart_4 : decode b_Labels_areApart 4 = .ok (.iload_n 1, 1) := by decide +kernel
theorem d_Labels_areApart_5 : decode b_Labels_areApart 5 = .ok (.iaload, 1) := by decide +kernel
theorem d_Labels_areApart_6 : decode b_Labels_areApart 6 = .ok (.aload_n 0, 1) := by decide +kernel
theorem d_Labels_areApart_7 : decode b_Labels_areApart 7 = .ok (.getfield 9, 3) := by decide +kernel
theorem d_Labels_areApart_10 : decode b_Labels_areApart 10 = .ok (.iload_n 2, 1) := by decide +kernel
theorem d_Labels_areApart_11 : decode b_Labels_areApart 11 = .ok (.iaload, 1) := by decide +kernel
theorem d_Labels_areApart_12 : decode b_Labels_areApart 12 = .ok (.if_icmp .eq 7, 3) := by decide +kernel
theorem d_Labels_areApart_15 : decode b_Labels_areApart 15 = .ok (.iconst 1, 1) := by decide +kernel
theorem d_Labels_areApart_16 : decode b_Labels_areApart 16 = .ok (.goto 4, 3) := by decide +kernel
theorem d_Labels_areApart_19 : decode b_Labels_areApart 19 = .ok (.iconst 0, 1) := by decide +kernel
theorem d_Labels_areApart_20 : decode b_Labels_areApart 20 = .ok (.ireturn, 1) := by decide +kernel
def f_Labels_areApart (p1 : Int32) (p2 : Int32) (t_label : Nat → Int32) : Option (Int32) :=
  gd (inb p1 10) <|
  gd (inb p2 10) <|
  if (t_label p1.toNatClampNeg) = (t_label p2.toNatClampNeg) then
    some ((0 : Int32))
  else
    some ((1 : Int32))
set_option maxRecDepth 100000 in
set_option maxHeartbeats 4000000 in
theorem w_Labels_areApart_e {p : Program} {l : Launch} {e : Env} {R : Room} {s : State} {m : MethodId} {args : Array Value} {below : List Frame} {meth : Method} {c : Code} {D : va_G} {cI cJ cG cZ : ClassId} {A : Nat → Prop} {Q : State → Prop} {q_t q_t_label : Nat} {t_nodes : Int32} {t_groups : Int32} {t_label : Nat → Int32} {p1 : Int32} {p2 : Int32} {RR : Int32} (C0 : CX p R s m args meth c b_Labels_areApart 3 R_Labels lw_g D CL (TYs cI cJ cG cZ) A 0 0) (hret : ∀ (pc : Nat) (ls : Array Slot) (H : Heap) (locs : List Loc) (v : Int32) , decode b_Labels_areApart pc = .ok (.ireturn, 1) → narrow .boolean (.int v) = .int v → va_P D CL [(q_t, .inr (4, [.ref q_t_label, .int t_nodes, .int t_groups])), (q_t_label, .inl (cI, 10, .inl t_label))] H → va_D A [(q_t, .inr (4, [.ref q_t_label, .int t_nodes, .int t_groups])), (q_t_label, .inl (cI, 10, .inl t_label))] → va_S A s.heap H locs → some (v) = some RR → W p l e R s m args below meth c H locs 0 0 Q (F0 m pc ls [.int v])) : ∀ (H : Heap) (locs : List Loc) (ls : Array Slot), va_P D CL [(q_t, .inr (4, [.ref q_t_label, .int t_nodes, .int t_groups])), (q_t_label, .inl (cI, 10, .inl t_label))] H → va_D A [(q_t, .inr (4, [.ref q_t_label, .int t_nodes, .int t_groups])), (q_t_label, .inl (cI, 10, .inl t_label))] → va_S A s.heap H locs → lv_has ls 3 [(0, .ref q_t), (1, .int p1), (2, .int p2)] → f_Labels_areApart p1 p2 t_label = some RR → W p l e R s m args below meth c H locs 0 0 Q (F0 m 0 ls []) := by
  intro H locs ls hP hD hS hl hf
  obtain ⟨hx, hb, hml, hown, hts, hK, hA, hfr, hlo, hlk⟩ := id C0
  unfold f_Labels_areApart at hf
  refine lv_aload_n hx hb d_Labels_areApart_0 rfl (lv_at hl 0 rfl) ?_
  refine va_get (D := D) (ci := 4) (v := .ref q_t_label) (C := R_Labels) (T := F_Labels) (N := 3) hx hb hts i_Labels hown hK hP 0 rfl rfl 0 (by decide) (hts _ m_1_95) (fun _ h9 => h9) rfl d_Labels_areApart_1 ?_
  refine lv_iload_n hx hb d_Labels_areApart_4 rfl (lv_at hl 1 rfl) ?_
  obtain ⟨hg1, hf⟩ := gd_e hf
  refine va_iald hx hb hK hP 1 0 rfl rfl (inb_e hg1) d_Labels_areApart_5 ?_
  refine lv_aload_n hx hb d_Labels_areApart_6 rfl (lv_at hl 0 rfl) ?_
  refine va_get (D := D) (ci := 4) (v := .ref q_t_label) (C := R_Labels) (T := F_Labels) (N := 3) hx hb hts i_Labels hown hK hP 0 rfl rfl 0 (by decide) (hts _ m_1_95) (fun _ h9 => h9) rfl d_Labels_areApart_7 ?_
  refine lv_iload_n hx hb d_Labels_areApart_10 rfl (lv_at hl 2 rfl) ?_
  obtain ⟨hg2, hf⟩ := gd_e hf
  refine va_iald hx hb hK hP 1 0 rfl rfl (inb_e hg2) d_Labels_areApart_11 ?_
  refine lv_icmp_eq (tgt := 19) hx hb d_Labels_areApart_12 (by decide) (fun hc1 => ?_) (fun hc1 => ?_)
  · have hf := if_t hc1 hf
    refine lv_iconst (v := 0) hx hb d_Labels_areApart_19 (by decide) ?_
    exact hret 20 _ _ _ (0 : Int32) d_Labels_areApart_20 rfl hP hD hS hf
  · have hf := if_f hc1 hf
    refine lv_iconst (v := 1) hx hb d_Labels_areApart_15 (by decide) ?_
    refine lv_goto (tgt := 20) hx hb d_Labels_areApart_16 (by decide) ?_
    exact hret 20 _ _ _ (1 : Int32) d_Labels_areApart_20 rfl hP hD hS hf
set_option maxRecDepth 100000 in
set_option maxHeartbeats 4000000 in
theorem c_Labels_areApart (l : Launch) (D : va_G) (cI cJ cG cZ : ClassId) (q_t q_t_label : Nat) (t_nodes : Int32) (t_groups : Int32) (t_label : Nat → Int32) (p1 : Int32) (p2 : Int32) {r : Int32} (hf : f_Labels_areApart p1 p2 t_label = some (r)) : MeG l D CL (TYs cI cJ cG cZ) y_Labels_areApart ws_Labels_areApart (rm_Labels_areApart) [.ref q_t, .int p1, .int p2] [(q_t, .inr (4, [.ref q_t_label, .int t_nodes, .int t_groups])), (q_t_label, .inl (cI, 10, .inl t_label))] (some (.int r)) [(q_t, .inr (4, [.ref q_t_label, .int t_nodes, .int t_groups])), (q_t_label, .inl (cI, 10, .inl t_label))] := by
  intro sz
  refine Met.ofW (cc := b_Labels_areApart) (maxL := 3) (ret := (some .boolean)) (by decide) rfl ?_
  intro p e s m args below meth c s₁ B hml hv
  obtain ⟨rfl, hsz, hP, hK, hD0⟩ := hv
  subst hsz
  have hD := hD0.self (sz := s.heap.size)
  generalize hAe : va_A [(q_t, .inr (4, [.ref q_t_label, .int t_nodes, .int t_groups])), (q_t_label, .inl (cI, 10, .inl t_label))] s.heap.size = A at hD ⊢
  have C0 : CX p (headSpec ws_Labels_areApart (rm_Labels_areApart)).room s m _ meth c b_Labels_areApart 3 R_Labels lw_g D CL (TYs cI cJ cG cZ) A 0 0 := ⟨B.exec, B.bytes, hml, findClass_of_methodNamed B.named, fun w h => atoms_spec (ws := ws_Labels_areApart) B.pre w (List.mem_cons_of_mem _ h), hK, fun q h => by rw [← hAe]; exact Or.inr h, Nat.le_of_ble_eq_true rfl, Nat.le_of_ble_eq_true rfl, B.notSynchronized⟩
  have hl := lv_entry ([.ref q_t, .int p1, .int p2]) (n := 3) (Nat.le_of_ble_eq_true rfl)
  rw [lg_entry_eq]
  generalize (lg_sl ([.ref q_t, .int p1, .int p2]) ++ List.replicate (3 - (lg_sl ([.ref q_t, .int p1, .int p2])).length) Slot.unset).toArray = ls at hl ⊢
  have hl : lv_has ls 3 [(0, .ref q_t), (1, .int p1), (2, .int p2)] := hl
  exact w_Labels_areApart_e C0 (fun pc ls H locs v hdg hz hP hD hS e => by cases e; exact W.zret B.exec B.bytes B.returns hz (fun t ht hW => ⟨⟨rfl, by rw [ht]; exact hP, va_K.moved hW.alike hK, hD⟩, hS.F ht⟩) hS.2.2 hdg) _ _ _ hP hD va_S.rf (lv_sub hl [0, 1, 2] rfl) hf
abbrev b_Labels_unite : ByteArray := prog_7_method_4_code
def y_Labels_unite : MethodName := ⟨R_Labels, "unite", "(II)Z"⟩
def ws_Labels_unite : List Cond := .code y_Labels_unite b_Labels_unite 6 (some .boolean) :: lw_g
theorem wi_Labels_unite : ∀ w ∈ ws_Labels_unite, w ∈ lw_g := wi_of m_2_95
abbrev rm_Labels_unite : Room := { frames := 1, cells := 0, slots := 0, locals := 60 }
theorem hd_Labels_unite : y_Labels_unite.cls = R_Labels ∧ y_Labels_unite.cls ≠ "java/lang/invoke/MethodHandle" ∧ y_Labels_unite.cls ≠ "java/lang/invoke/VarHandle" ∧ (parseMethodDescriptor y_Labels_unite.desc).map (fun d => d.parameters.length) = some 2 := by decide +kernel
theorem d_Labels_unite_0 : decode b_Labels_unite 0 = .ok (.aload_n 0, 1) := by decide +kernel
theorem d_Labels_unite_1 : decode b_Labels_unite 1 = .ok (.getfield 9, 3) := by decide +kernel
theorem d_Labels_unite_4 : decode b_Labels_unite 4 = .ok (.iload_n 1, 1) := by decide +kernel
theorem d_Labels_unite_5 : decode b_Labels_unite 5 = .ok (.iaload, 1) := by decide +kernel
theorem d_Labels_unite_6 : decode b_Labels_unite 6 = .ok (.aload_n 0, 1) := by decide +kernel
theorem d_Labels_unite_7 : decode b_Labels_unite 7 = .ok (.getfield 9, 3) := by decide +kernel
theorem d_Labels_unite_10 : decode b_Labels_unite 10 = .ok (.iload_n 2, 1) := by decide +kernel
theorem d_Labels_unite_11 : decode b_Labels_unite 11 = .ok (.iaload, 1) := by decide +kernel
theorem d_Labels_unite_12 : decode b_Labels_unite 12 = .ok (.invokestatic 22, 3) := by decide +kernel
theorem d_Labels_unite_15 : decode b_Labels_unite 15 = .ok (.istore_n 3, 1) := by decide +kernel
theorem d_Labels_unite_16 : decode b_Labels_unite 16 = .ok (.aload_n 0, 1) := by decide +kernel
theorem d_Labels_unite_17 : decode b_Labels_unite 17 = .ok (.getfield 9, 3) := by decide +kernel
theorem d_Labels_unite_20 : decode b_Labels_unite 20 = .ok (.iload_n 1, 1) := by decide +kernel
theorem d_Labels_unite_21 : decode b_Labels_unite 21 = .ok (.iaload, 1) := by decide +kernel
theorem d_Labels_unite_22 : decode b_Labels_unite 22 = .ok (.aload_n 0, 1) := by decide +kernel
theorem d_Labels_unite_23 : decode b_Labels_unite 23 = .ok (.getfield 9, 3) := by decide +kernel
theorem d_Labels_unite_26 : decode b_Labels_unite 26 = .ok (.iload_n 2, 1) := by decide +kernel
theorem d_Labels_unite_27 : decode b_Labels_unite 27 = .ok (.iaload, 1) := by decide +kernel
theorem d_Labels_unite_28 : decode b_Labels_unite 28 = .ok (.invokestatic 28, 3) := by decide +kernel
theorem d_Labels_unite_31 : decode b_Labels_unite 31 = .ok (.istore 4, 2) := by decide +kernel
theorem d_Labels_unite_33 : decode b_Labels_unite 33 = .ok (.iload_n 3, 1) := by decide +kernel
theorem d_Labels_unite_34 : decode b_Labels_unite 34 = .ok (.iload 4, 2) := by decide +kernel
theorem d_Labels_unite_36 : decode b_Labels_unite 36 = .ok (.if_icmp .ne 5, 3) := by decide +kernel
theorem d_Labels_unite_39 : decode b_Labels_unite 39 = .ok (.iconst 0, 1) := by decide +kernel
theorem d_Labels_unite_40 : decode b_Labels_unite 40 = .ok (.ireturn, 1) := by decide +kernel
theorem d_Labels_unite_41 : decode b_Labels_unite 41 = .ok (.iconst 0, 1) := by decide +kernel
theorem d_Labels_unite_42 : decode b_Labels_unite 42 = .ok (.istore 5, 2) := by decide +kernel
theorem d_Labels_unite_44 : decode b_Labels_unite 44 = .ok (.iload 5, 2) := by decide +kernel
theorem d_Labels_unite_46 : decode b_Labels_unite 46 = .ok (.aload_n 0, 1) := by decide +kernel
theorem d_Labels_unite_47 : decode b_Labels_unite 47 = .ok (.getfield 15, 3) := by decide +kernel
theorem d_Labels_unite_50 : decode b_Labels_unite 50 = .ok (.if_icmp .ge 29, 3) := by decide +kernel
theorem d_Labels_unite_53 : decode b_Labels_unite 53 = .ok (.aload_n 0, 1) := by decide +kernel
theorem d_Labels_unite_54 : decode b_Labels_unite 54 = .ok (.getfield 9, 3) := by decide +kernel
theorem d_Labels_unite_57 : decode b_Labels_unite 57 = .ok (.iload 5, 2) := by decide +kernel
theorem d_Labels_unite_59 : decode b_Labels_unite 59 = .ok (.iaload, 1) := by decide +kernel
theorem d_Labels_unite_60 : decode b_Labels_unite 60 = .ok (.iload 4, 2) := by decide +kernel
theorem d_Labels_unite_62 : decode b_Labels_unite 62 = .ok (.if_icmp .ne 11, 3) := by decide +kernel
theorem d_Labels_unite_65 : decode b_Labels_unite 65 = .ok (.aload_n 0, 1) := by decide +kernel
theorem d_Labels_unite_66 : decode b_Labels_unite 66 = .ok (.getfield 9, 3) := by decide +kernel
theorem d_Labels_unite_69 : decode b_Labels_unite 69 = .ok (.iload 5, 2) := by decide +kernel
theorem d_Labels_unite_71 : decode b_Labels_unite 71 = .ok (.iload_n 3, 1) := by decide +kernel
theorem d_Labels_unite_72 : decode b_Labels_unite 72 = .ok (.iastore, 1) := by decide +kernel
theorem d_Labels_unite_73 : decode b_Labels_unite 73 = .ok (.iinc 5 1, 3) := by decide +kernel
theorem d_Labels_unite_76 : decode b_Labels_unite 76 = .ok (.goto (-32), 3) := by decide +kernel
theorem d_Labels_unite_79 : decode b_Labels_unite 79 = .ok (.aload_n 0, 1) := by decide +kernel
theorem d_Labels_unite_80 : decode b_Labels_unite 80 = .ok (.dup, 1) := by decide +kernel
theorem d_Labels_unite_81 : decode b_Labels_unite 81 = .ok (.getfield 19, 3) := by decide +kernel
theorem d_Labels_unite_84 : decode b_Labels_unite 84 = .ok (.iconst 1, 1) := by decide +kernel
theorem d_Labels_unite_85 : decode b_Labels_unite 85 = .ok (.isub, 1) := by decide +kernel
theorem d_Labels_unite_86 : decode b_Labels_unite 86 = .ok (.putfield 19, 3) := by decide +kernel
theorem d_Labels_unite_89 : decode b_Labels_unite 89 = .ok (.iconst 1, 1) := by decide +kernel
theorem d_Labels_unite_90 : decode b_Labels_unite 90 = .ok (.ireturn, 1) := by decide +kernel
def g_Labels_unite_44 (t_nodes : Int32) (k44 : Int32 → Int32 → Int32 → (Nat → Int32) → Int32 → Option (Int32 × (Nat → Int32) × Int32)) (v3 : Int32) (v4 : Int32) (v5 : Int32) (t_label : Nat → Int32) (t_groups : Int32) : Option (Int32 × (Nat → Int32) × Int32) :=
  if t_nodes ≤ v5 then
    bn (t_groups - (1 : Int32)) fun x1 =>
    some ((1 : Int32), t_label, x1)
  else
    gd (inb v5 10) <|
    if (t_label v5.toNatClampNeg) = v4 then
      gd (inb v5 10) <|
      bn (v5 + (1 : Int32)) fun x3 =>
      k44 v3 v4 x3 (upd t_label v5.toNatClampNeg v3) t_groups
    else
      bn (v5 + (1 : Int32)) fun x2 =>
      k44 v3 v4 x2 t_label t_groups
def f_Labels_unite (N : Nat) (p1 : Int32) (p2 : Int32) (t_nodes : Int32) (t_groups0 : Int32) (t_label0 : Nat → Int32) : Option (Int32 × (Nat → Int32) × Int32) :=
  gd (inb p1 10) <|
  gd (inb p2 10) <|
  bn (if (t_label0 p2.toNatClampNeg) < (t_label0 p1.toNatClampNeg) then (t_label0 p2.toNatClampNeg) else (t_label0 p1.toNatClampNeg)) fun x1 =>
  gd (inb p1 10) <|
  gd (inb p2 10) <|
  bn (if (t_label0 p1.toNatClampNeg) < (t_label0 p2.toNatClampNeg) then (t_label0 p2.toNatClampNeg) else (t_label0 p1.toNatClampNeg)) fun x2 =>
  if x1 = x2 then
    some ((0 : Int32), t_label0, t_groups0)
  else
    lo5 (g_Labels_unite_44 t_nodes) N x1 x2 (0 : Int32) t_label0 t_groups0
set_option maxRecDepth 100000 in
set_option maxHeartbeats 4000000 in
theorem w_Labels_unite_44 {p : Program} {l : Launch} {e : Env} {R : Room} {s : State} {m : MethodId} {args : Array Value} {below : List Frame} {meth : Method} {c : Code} {D : va_G} {cI cJ cG cZ : ClassId} {A : Nat → Prop} {Q : State → Prop} {q_t q_t_label : Nat} {t_nodes : Int32} {RR : Int32 × (Nat → Int32) × Int32} (C0 : CX p R s m args meth c b_Labels_unite 6 R_Labels lw_g D CL (TYs cI cJ cG cZ) A 1 60) (hret : ∀ (pc : Nat) (ls : Array Slot) (H : Heap) (locs : List Loc) (v : Int32) (t_label : Nat → Int32) (t_groups : Int32), decode b_Labels_unite pc = .ok (.ireturn, 1) → narrow .boolean (.int v) = .int v → va_P D CL [(q_t, .inr (4, [.ref q_t_label, .int t_nodes, .int t_groups])), (q_t_label, .inl (cI, 10, .inl t_label))] H → va_D A [(q_t, .inr (4, [.ref q_t_label, .int t_nodes, .int t_groups])), (q_t_label, .inl (cI, 10, .inl t_label))] → va_S A s.heap H locs → some (v, t_label, t_groups) = some RR → W p l e R s m args below meth c H locs 0 0 Q (F0 m pc ls [.int v])) (k44 : Int32 → Int32 → Int32 → (Nat → Int32) → Int32 → Option (Int32 × (Nat → Int32) × Int32)) (hk44 : ∀ (v3 : Int32) (v4 : Int32) (v5 : Int32) (t_label : Nat → Int32) (t_groups : Int32) (H : Heap) (locs : List Loc) (ls : Array Slot), va_P D CL [(q_t, .inr (4, [.ref q_t_label, .int t_nodes, .int t_groups])), (q_t_label, .inl (cI, 10, .inl t_label))] H → va_D A [(q_t, .inr (4, [.ref q_t_label, .int t_nodes, .int t_groups])), (q_t_label, .inl (cI, 10, .inl t_label))] → va_S A s.heap H locs → lv_has ls 6 [(0, .ref q_t), (3, .int v3), (4, .int v4), (5, .int v5)] → k44 v3 v4 v5 t_label t_groups = some RR → W p l e R s m args below meth c H locs 0 0 Q (F0 m 44 ls [])) : ∀ (v3 : Int32) (v4 : Int32) (v5 : Int32) (t_label : Nat → Int32) (t_groups : Int32) (H : Heap) (locs : List Loc) (ls : Array Slot), va_P D CL [(q_t, .inr (4, [.ref q_t_label, .int t_nodes, .int t_groups])), (q_t_label, .inl (cI, 10, .inl t_label))] H → va_D A [(q_t, .inr (4, [.ref q_t_label, .int t_nodes, .int t_groups])), (q_t_label, .inl (cI, 10, .inl t_label))] → va_S A s.heap H locs → lv_has ls 6 [(0, .ref q_t), (3, .int v3), (4, .int v4), (5, .int v5)] → g_Labels_unite_44 t_nodes k44 v3 v4 v5 t_label t_groups = some RR → W p l e R s m args below meth c H locs 0 0 Q (F0 m 44 ls []) := by
  intro v3 v4 v5 t_label t_groups H locs ls hP hD hS hl hf
  obtain ⟨hx, hb, hml, hown, hts, hK, hA, hfr, hlo, hlk⟩ := id C0
  unfold g_Labels_unite_44 at hf
  refine lv_iload hx hb d_Labels_unite_44 (lv_at hl 3 rfl) ?_
  refine lv_aload_n hx hb d_Labels_unite_46 rfl (lv_at hl 0 rfl) ?_
  refine va_get (D := D) (ci := 4) (v := .int t_nodes) (C := R_Labels) (T := F_Labels) (N := 3) hx hb hts i_Labels hown hK hP 0 rfl rfl 1 (by decide) (hts _ m_1_97) (fun _ h9 => h9) rfl d_Labels_unite_47 ?_
  refine lv_icmp_ge (tgt := 79) hx hb d_Labels_unite_50 (by decide) (fun hc1 => ?_) (fun hc1 => ?_)
  · have hf := if_t hc1 hf
    refine lv_aload_n hx hb d_Labels_unite_79 rfl (lv_at hl 0 rfl) ?_
    refine lv_dup hx hb d_Labels_unite_80 rfl ?_
    refine va_get (D := D) (ci := 4) (v := .int t_groups) (C := R_Labels) (T := F_Labels) (N := 3) hx hb hts i_Labels hown hK hP 0 rfl rfl 2 (by decide) (hts _ m_1_99) (fun _ h9 => h9) rfl d_Labels_unite_81 ?_
    refine lv_iconst (v := 1) hx hb d_Labels_unite_84 (by decide) ?_
    refine lv_isub hx hb d_Labels_unite_85 ?_
    refine lv_topi (fun x1 ex1 => ?_)
    have hf := bn_e ex1 hf
    refine va_put (D := D) (ci := 4) (v := .int x1) (ty := .int) (C := R_Labels) (T := F_Labels) (N := 3) hx hb hts i_Labels t_Labels to_Labels n_Labels hown hK hP hD hS 0 rfl rfl 2 (by decide) (hts _ m_1_99) (fun _ h9 => h9) rfl (by decide +kernel) rfl rfl (Nat.le_of_ble_eq_true rfl) d_Labels_unite_86 (fun H locs hP hD hS => ?_)
    have hP : va_P D CL [(q_t, .inr (4, [.ref q_t_label, .int t_nodes, .int x1])), (q_t_label, .inl (cI, 10, .inl t_label))] H := hP
    have hD : va_D A [(q_t, .inr (4, [.ref q_t_label, .int t_nodes, .int x1])), (q_t_label, .inl (cI, 10, .inl t_label))] := hD
    refine lv_iconst (v := 1) hx hb d_Labels_unite_89 (by decide) ?_
    exact hret 90 _ _ _ (1 : Int32) t_label x1 d_Labels_unite_90 rfl hP hD hS hf
  · have hf := if_f hc1 hf
    refine lv_aload_n hx hb d_Labels_unite_53 rfl (lv_at hl 0 rfl) ?_
    refine va_get (D := D) (ci := 4) (v := .ref q_t_label) (C := R_Labels) (T := F_Labels) (N := 3) hx hb hts i_Labels hown hK hP 0 rfl rfl 0 (by decide) (hts _ m_1_95) (fun _ h9 => h9) rfl d_Labels_unite_54 ?_
    refine lv_iload hx hb d_Labels_unite_57 (lv_at hl 3 rfl) ?_
    obtain ⟨hg1, hf⟩ := gd_e hf
    refine va_iald hx hb hK hP 1 0 rfl rfl (inb_e hg1) d_Labels_unite_59 ?_
    refine lv_iload hx hb d_Labels_unite_60 (lv_at hl 2 rfl) ?_
    refine lv_icmp_ne (tgt := 73) hx hb d_Labels_unite_62 (by decide) (fun hc2 => ?_) (fun hc2 => ?_)
    · have hf := if_f hc2 hf
      obtain ⟨x2, ex2⟩ : ∃ y : Int32, y = v5 + (1 : Int32) := ⟨_, rfl⟩
      have hf := bn_e ex2 hf
      refine lv_iinc (v := x2) (lv' := [(5, .int x2), (0, .ref q_t), (3, .int v3), (4, .int v4)]) hx hb d_Labels_unite_73 hl (k := 3) rfl (by rw [ex2]; rfl) (by decide) rfl (fun ls hl => ?_)
      refine lv_goto (tgt := 44) hx hb d_Labels_unite_76 (by decide) ?_
      exact hk44 v3 v4 x2 t_label t_groups _ _ _ hP hD hS (lv_sub hl [1, 2, 3, 0] rfl) hf
    · have hf := if_t hc2 hf
      refine lv_aload_n hx hb d_Labels_unite_65 rfl (lv_at hl 0 rfl) ?_
      refine va_get (D := D) (ci := 4) (v := .ref q_t_label) (C := R_Labels) (T := F_Labels) (N := 3) hx hb hts i_Labels hown hK hP 0 rfl rfl 0 (by decide) (hts _ m_1_95) (fun _ h9 => h9) rfl d_Labels_unite_66 ?_
      refine lv_iload hx hb d_Labels_unite_69 (lv_at hl 3 rfl) ?_
      refine lv_iload_n hx hb d_Labels_unite_71 rfl (lv_at hl 1 rfl) ?_
      obtain ⟨hg2, hf⟩ := gd_e hf
      refine va_iast hx hb hK hP hD hS 1 0 rfl rfl (inb_e hg2) d_Labels_unite_72 (fun H locs hP hD hS => ?_)
      have hP : va_P D CL [(q_t, .inr (4, [.ref q_t_label, .int t_nodes, .int t_groups])), (q_t_label, .inl (cI, 10, .inl (upd t_label v5.toNatClampNeg v3)))] H := hP
      have hD : va_D A [(q_t, .inr (4, [.ref q_t_label, .int t_nodes, .int t_groups])), (q_t_label, .inl (cI, 10, .inl (upd t_label v5.toNatClampNeg v3)))] := hD
      obtain ⟨x3, ex3⟩ : ∃ y : Int32, y = v5 + (1 : Int32) := ⟨_, rfl⟩
      have hf := bn_e ex3 hf
      refine lv_iinc (v := x3) (lv' := [(5, .int x3), (0, .ref q_t), (3, .int v3), (4, .int v4)]) hx hb d_Labels_unite_73 hl (k := 3) rfl (by rw [ex3]; rfl) (by decide) rfl (fun ls hl => ?_)
      refine lv_goto (tgt := 44) hx hb d_Labels_unite_76 (by decide) ?_
      exact hk44 v3 v4 x3 (upd t_label v5.toNatClampNeg v3) t_groups _ _ _ hP hD hS (lv_sub hl [1, 2, 3, 0] rfl) hf
set_option maxRecDepth 100000 in
set_option maxHeartbeats 4000000 in
theorem w_Labels_unite_44_l {p : Program} {l : Launch} {e : Env} {R : Room} {s : State} {m : MethodId} {args : Array Value} {below : List Frame} {meth : Method} {c : Code} {D : va_G} {cI cJ cG cZ : ClassId} {A : Nat → Prop} {Q : State → Prop} {q_t q_t_label : Nat} {t_nodes : Int32} {RR : Int32 × (Nat → Int32) × Int32} (C0 : CX p R s m args meth c b_Labels_unite 6 R_Labels lw_g D CL (TYs cI cJ cG cZ) A 1 60) (hret : ∀ (pc : Nat) (ls : Array Slot) (H : Heap) (locs : List Loc) (v : Int32) (t_label : Nat → Int32) (t_groups : Int32), decode b_Labels_unite pc = .ok (.ireturn, 1) → narrow .boolean (.int v) = .int v → va_P D CL [(q_t, .inr (4, [.ref q_t_label, .int t_nodes, .int t_groups])), (q_t_label, .inl (cI, 10, .inl t_label))] H → va_D A [(q_t, .inr (4, [.ref q_t_label, .int t_nodes, .int t_groups])), (q_t_label, .inl (cI, 10, .inl t_label))] → va_S A s.heap H locs → some (v, t_label, t_groups) = some RR → W p l e R s m args below meth c H locs 0 0 Q (F0 m pc ls [.int v]))  : ∀ (n : Nat) (v3 : Int32) (v4 : Int32) (v5 : Int32) (t_label : Nat → Int32) (t_groups : Int32) (H : Heap) (locs : List Loc) (ls : Array Slot), va_P D CL [(q_t, .inr (4, [.ref q_t_label, .int t_nodes, .int t_groups])), (q_t_label, .inl (cI, 10, .inl t_label))] H → va_D A [(q_t, .inr (4, [.ref q_t_label, .int t_nodes, .int t_groups])), (q_t_label, .inl (cI, 10, .inl t_label))] → va_S A s.heap H locs → lv_has ls 6 [(0, .ref q_t), (3, .int v3), (4, .int v4), (5, .int v5)] → lo5 (g_Labels_unite_44 t_nodes) n v3 v4 v5 t_label t_groups = some RR → W p l e R s m args below meth c H locs 0 0 Q (F0 m 44 ls []) := by
  intro n
  induction n with
  | zero =>
    intro v3 v4 v5 t_label t_groups H locs ls hP hD hS hl hf
    exact absurd hf (by simp [lo5])
  | succ n ih =>
    intro v3 v4 v5 t_label t_groups H locs ls hP hD hS hl hf
    exact w_Labels_unite_44 C0 hret  (lo5 (g_Labels_unite_44 t_nodes) n) ih v3 v4 v5 t_label t_groups H locs ls hP hD hS hl hf
set_option maxRecDepth 100000 in
set_option maxHeartbeats 4000000 in
theorem w_Labels_unite_e {p : Program} {l : Launch} {e : Env} {R : Room} {s : State} {m : MethodId} {args : Array Value} {below : List Frame} {meth : Method} {c : Code} {D : va_G} {cI cJ cG cZ : ClassId} {A : Nat → Prop} {Q : State → Prop} {q_t q_t_label : Nat} {t_nodes : Int32} {t_groups0 : Int32} {t_label0 : Nat → Int32} {p1 : Int32} {p2 : Int32} {N : Nat} {RR : Int32 × (Nat → Int32) × Int32} (C0 : CX p R s m args meth c b_Labels_unite 6 R_Labels lw_g D CL (TYs cI cJ cG cZ) A 1 60) (hret : ∀ (pc : Nat) (ls : Array Slot) (H : Heap) (locs : List Loc) (v : Int32) (t_label : Nat → Int32) (t_groups : Int32), decode b_Labels_unite pc = .ok (.ireturn, 1) → narrow .boolean (.int v) = .int v → va_P D CL [(q_t, .inr (4, [.ref q_t_label, .int t_nodes, .int t_groups])), (q_t_label, .inl (cI, 10, .inl t_label))] H → va_D A [(q_t, .inr (4, [.ref q_t_label, .int t_nodes, .int t_groups])), (q_t_label, .inl (cI, 10, .inl t_label))] → va_S A s.heap H locs → some (v, t_label, t_groups) = some RR → W p l e R s m args below meth c H locs 0 0 Q (F0 m pc ls [.int v])) : ∀ (H : Heap) (locs : List Loc) (ls : Array Slot), va_P D CL [(q_t, .inr (4, [.ref q_t_label, .int t_nodes, .int t_groups0])), (q_t_label, .inl (cI, 10, .inl t_label0))] H → va_D A [(q_t, .inr (4, [.ref q_t_label, .int t_nodes, .int t_groups0])), (q_t_label, .inl (cI, 10, .inl t_label0))] → va_S A s.heap H locs → lv_has ls 6 [(0, .ref q_t), (1, .int p1), (2, .int p2)] → f_Labels_unite N p1 p2 t_nodes t_groups0 t_label0 = some RR → W p l e R s m args below meth c H locs 0 0 Q (F0 m 0 ls []) := by
  intro H locs ls hP hD hS hl hf
  obtain ⟨hx, hb, hml, hown, hts, hK, hA, hfr, hlo, hlk⟩ := id C0
  unfold f_Labels_unite at hf
  refine lv_aload_n hx hb d_Labels_unite_0 rfl (lv_at hl 0 rfl) ?_
  refine va_get (D := D) (ci := 4) (v := .ref q_t_label) (C := R_Labels) (T := F_Labels) (N := 3) hx hb hts i_Labels hown hK hP 0 rfl rfl 0 (by decide) (hts _ m_1_95) (fun _ h9 => h9) rfl d_Labels_unite_1 ?_
  refine lv_iload_n hx hb d_Labels_unite_4 rfl (lv_at hl 1 rfl) ?_
  obtain ⟨hg1, hf⟩ := gd_e hf
  refine va_iald hx hb hK hP 1 0 rfl rfl (inb_e hg1) d_Labels_unite_5 ?_
  refine lv_aload_n hx hb d_Labels_unite_6 rfl (lv_at hl 0 rfl) ?_
  refine va_get (D := D) (ci := 4) (v := .ref q_t_label) (C := R_Labels) (T := F_Labels) (N := 3) hx hb hts i_Labels hown hK hP 0 rfl rfl 0 (by decide) (hts _ m_1_95) (fun _ h9 => h9) rfl d_Labels_unite_7 ?_
  refine lv_iload_n hx hb d_Labels_unite_10 rfl (lv_at hl 2 rfl) ?_
  obtain ⟨hg2, hf⟩ := gd_e hf
  refine va_iald hx hb hK hP 1 0 rfl rfl (inb_e hg2) d_Labels_unite_11 ?_
  refine va_mmin hx hb (hml.trans hl.1.symm) hown (hts _ m_2_96) (hts _ m_2_97) (hts _ m_1_10) (hts _ m_2_98) (Nat.le_trans (Nat.le_of_ble_eq_true rfl) hfr) (Nat.le_trans (Nat.le_of_ble_eq_true rfl) hlo) (Nat.zero_le _) (Nat.zero_le _) d_Labels_unite_12 ?_
  refine lv_topi (fun x1 ex1 => ?_)
  have hf := bn_e ex1 hf
  refine lv_istore_n (lv' := [(3, .int x1), (0, .ref q_t), (1, .int p1), (2, .int p2)]) hx hb d_Labels_unite_15 rfl hl (by decide) rfl (fun ls hl => ?_)
  refine lv_aload_n hx hb d_Labels_unite_16 rfl (lv_at hl 1 rfl) ?_
  refine va_get (D := D) (ci := 4) (v := .ref q_t_label) (C := R_Labels) (T := F_Labels) (N := 3) hx hb hts i_Labels hown hK hP 0 rfl rfl 0 (by decide) (hts _ m_1_95) (fun _ h9 => h9) rfl d_Labels_unite_17 ?_
  refine lv_iload_n hx hb d_Labels_unite_20 rfl (lv_at hl 2 rfl) ?_
  obtain ⟨hg3, hf⟩ := gd_e hf
  refine va_iald hx hb hK hP 1 0 rfl rfl (inb_e hg3) d_Labels_unite_21 ?_
  refine lv_aload_n hx hb d_Labels_unite_22 rfl (lv_at hl 1 rfl) ?_
  refine va_get (D := D) (ci := 4) (v := .ref q_t_label) (C := R_Labels) (T := F_Labels) (N := 3) hx hb hts i_Labels hown hK hP 0 rfl rfl 0 (by decide) (hts _ m_1_95) (fun _ h9 => h9) rfl d_Labels_unite_23 ?_
  refine lv_iload_n hx hb d_Labels_unite_26 rfl (lv_at hl 3 rfl) ?_
  obtain ⟨hg4, hf⟩ := gd_e hf
  refine va_iald hx hb hK hP 1 0 rfl rfl (inb_e hg4) d_Labels_unite_27 ?_
  refine va_mmax hx hb (hml.trans hl.1.symm) hown (hts _ m_2_99) (hts _ m_2_100) (hts _ m_1_10) (hts _ m_2_101) (Nat.le_trans (Nat.le_of_ble_eq_true rfl) hfr) (Nat.le_trans (Nat.le_of_ble_eq_true rfl) hlo) (Nat.zero_le _) (Nat.zero_le _) d_Labels_unite_28 ?_
  refine lv_topi (fun x2 ex2 => ?_)
  have hf := bn_e ex2 hf
  refine lv_istore (lv' := [(4, .int x2), (3, .int x1), (0, .ref q_t), (1, .int p1), (2, .int p2)]) hx hb d_Labels_unite_31 hl (by decide) rfl (fun ls hl => ?_)
  refine lv_iload_n hx hb d_Labels_unite_33 rfl (lv_at hl 1 rfl) ?_
  refine lv_iload hx hb d_Labels_unite_34 (lv_at hl 0 rfl) ?_
  refine lv_icmp_ne (tgt := 41) hx hb d_Labels_unite_36 (by decide) (fun hc1 => ?_) (fun hc1 => ?_)
  · have hf := if_f hc1 hf
    refine lv_iconst (v := 0) hx hb d_Labels_unite_41 (by decide) ?_
    refine lv_istore (lv' := [(5, .int (0 : Int32)), (4, .int x2), (3, .int x1), (0, .ref q_t), (1, .int p1), (2, .int p2)]) hx hb d_Labels_unite_42 hl (by decide) rfl (fun ls hl => ?_)
    exact w_Labels_unite_44_l C0 hret N x1 x2 (0 : Int32) t_label0 t_groups0 _ _ _ hP hD hS (lv_sub hl [3, 2, 1, 0] rfl) hf
  · have hf := if_t hc1 hf
    refine lv_iconst (v := 0) hx hb d_Labels_unite_39 (by decide) ?_
    exact hret 40 _ _ _ (0 : Int32) t_label0 t_groups0 d_Labels_unite_40 rfl hP hD hS hf
set_option maxRecDepth 100000 in
set_option maxHeartbeats 4000000 in
theorem c_Labels_unite (l : Launch) (D : va_G) (cI cJ cG cZ : ClassId) (q_t q_t_label : Nat) (t_nodes : Int32) (t_groups0 : Int32) (t_label0 : Nat → Int32) (p1 : Int32) (p2 : Int32) {N : Nat} {r : Int32} {t_label' : Nat → Int32} {t_groups' : Int32} (hf : f_Labels_unite N p1 p2 t_nodes t_groups0 t_label0 = some (r, t_label', t_groups')) : MeG l D CL (TYs cI cJ cG cZ) y_Labels_unite ws_Labels_unite (rm_Labels_unite) [.ref q_t, .int p1, .int p2] [(q_t, .inr (4, [.ref q_t_label, .int t_nodes, .int t_groups0])), (q_t_label, .inl (cI, 10, .inl t_label0))] (some (.int r)) [(q_t, .inr (4, [.ref q_t_label, .int t_nodes, .int t_groups'])), (q_t_label, .inl (cI, 10, .inl t_label'))] := by
  intro sz
  refine Met.ofW (cc := b_Labels_unite) (maxL := 6) (ret := (some .boolean)) (by decide) rfl ?_
  intro p e s m args below meth c s₁ B hml hv
  obtain ⟨rfl, hsz, hP, hK, hD0⟩ := hv
  subst hsz
  have hD := hD0.self (sz := s.heap.size)
  generalize hAe : va_A [(q_t, .inr (4, [.ref q_t_label, .int t_nodes, .int t_groups0])), (q_t_label, .inl (cI, 10, .inl t_label0))] s.heap.size = A at hD ⊢
  have C0 : CX p (headSpec ws_Labels_unite (rm_Labels_unite)).room s m _ meth c b_Labels_unite 6 R_Labels lw_g D CL (TYs cI cJ cG cZ) A 1 60 := ⟨B.exec, B.bytes, hml, findClass_of_methodNamed B.named, fun w h => atoms_spec (ws := ws_Labels_unite) B.pre w (List.mem_cons_of_mem _ h), hK, fun q h => by rw [← hAe]; exact Or.inr h, Nat.le_of_ble_eq_true rfl, Nat.le_of_ble_eq_true rfl, B.notSynchronized⟩
  have hl := lv_entry ([.ref q_t, .int p1, .int p2]) (n := 6) (Nat.le_of_ble_eq_true rfl)
  rw [lg_entry_eq]
  generalize (lg_sl ([.ref q_t, .int p1, .int p2]) ++ List.replicate (6 - (lg_sl ([.ref q_t, .int p1, .int p2])).length) Slot.unset).toArray = ls at hl ⊢
  have hl : lv_has ls 6 [(0, .ref q_t), (1, .int p1), (2, .int p2)] := hl
  exact w_Labels_unite_e C0 (fun pc ls H locs v t_label t_groups hdg hz hP hD hS e => by cases e; exact W.zret B.exec B.bytes B.returns hz (fun t ht hW => ⟨⟨rfl, by rw [ht]; exact hP, va_K.moved hW.alike hK, hD⟩, hS.F ht⟩) hS.2.2 hdg) _ _ _ hP hD va_S.rf (lv_sub hl [0, 1, 2] rfl) hf
