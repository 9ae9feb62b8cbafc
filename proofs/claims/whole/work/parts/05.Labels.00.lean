abbrev b_Labels_separate : ByteArray := prog_7_method_2_code
def y_Labels_separate : MethodName := ⟨R_Labels, "separate", "(I)V"⟩
def ws_Labels_separate : List Cond := .code y_Labels_separate b_Labels_separate 3 none :: lw_g
theorem wi_Labels_separate : ∀ w ∈ ws_Labels_separate, w ∈ lw_g := wi_of m_2_91
abbrev rm_Labels_separate : Room := { frames := 0, cells := 0, slots := 0, locals := 0 }
theorem hd_Labels_separate : y_Labels_separate.cls = R_Labels ∧ y_Labels_separate.cls ≠ "java/lang/invoke/MethodHandle" ∧ y_Labels_separate.cls ≠ "java/lang/invoke/VarHandle" ∧ (parseMethodDescriptor y_Labels_separate.desc).map (fun d => d.parameters.length) = some 1 := by decide +kernel
theorem d_Labels_separate_0 : decode b_Labels_separate 0 = .ok (.aload_n 0, 1) := by decide +kernel
theorem d_Labels_separate_1 : decode b_Labels_separate 1 = .ok (.iload_n 1, 1) := by decide +kernel
theorem d_Labels_separate_2 : decode b_Labels_separate 2 = .ok (.putfield 15, 3) := by decide +kernel
theorem d_Labels_separate_5 : decode b_Labels_separate 5 = .ok (.aload_n 0, 1) := by decide +kernel
theorem d_Labels_separate_6 : decode b_Labels_separate 6 = .ok (.iload_n 1, 1) := by decide +kernel
theorem d_Labels_separate_7 : decode b_Labels_separate 7 = .ok (.putfield 19, 3) := by decide +kernel
theorem d_Labels_separate_10 : decode b_Labels_separate 10 = .ok (.iconst 0, 1) := by decide +kernel
theorem d_Labels_separate_11 : decode b_Labels_separate 11 = .ok (.istore_n 2, 1) := by decide +kernel
theorem d_Labels_separate_12 : decode b_Labels_separate 12 = .ok (.iload_n 2, 1) := by decide +kernel
theorem d_Labels_separate_13 : decode b_Labels_separate 13 = .ok (.iload_n 1, 1) := by decide +kernel
theorem d_Labels_separate_14 : decode b_Labels_separate 14 = .ok (.if_icmp .ge 16, 3) := by decide +kernel
theorem d_Labels_separate_17 : decode b_Labels_separate 17 = .ok (.aload_n 0, 1) := by decide +kernel
theorem d_Labels_separate_18 : decode b_Labels_separate 18 = .ok (.getfield 9, 3) := by decide +kernel
theorem d_Labels_separate_21 : decode b_Labels_separate 21 = .ok (.iload_n 2, 1) := by decide +kernel
theorem d_Labels_separate_22 : decode b_Labels_separate 22 = .ok (.iload_n 2, 1) := by decide +kernel
theorem d_Labels_separate_23 : decode b_Labels_separate 23 = .ok (.iastore, 1) := by decide +kernel
theorem d_Labels_separate_24 : decode b_Labels_separate 24 = .ok (.iinc 2 1, 3) := by decide +kernel
theorem d_Labels_separate_27 : decode b_Labels_separate 27 = .ok (.goto (-15), 3) := by decide +kernel
theorem d_Labels_separate_30 : decode b_Labels_separate 30 = .ok (.return_, 1) := by decide +kernel
def g_Labels_separate_12 (p1 : Int32) (k12 : Int32 → Int32 → Int32 → (Nat → Int32) → Option (Int32 × Int32 × (Nat → Int32))) (v2 : Int32) (t_nodes : Int32) (t_groups : Int32) (t_label : Nat → Int32) : Option (Int32 × Int32 × (Nat → Int32)) :=
  if p1 ≤ v2 then
    some (t_nodes, t_groups, t_label)
  else
    gd (inb v2 10) <|
    bn (v2 + (1 : Int32)) fun x1 =>
    k12 x1 t_nodes t_groups (upd t_label v2.toNatClampNeg v2)
def f_Labels_separate (N : Nat) (p1 : Int32) (t_label0 : Nat → Int32) : Option (Int32 × Int32 × (Nat → Int32)) :=
  lo4 (g_Labels_separate_12 p1) N (0 : Int32) p1 p1 t_label0
set_option maxRecDepth 100000 in
set_option maxHeartbeats 4000000 in
theorem w_Labels_separate_12 {p : Program} {l : Launch} {e : Env} {R : Room} {s : State} {m : MethodId} {args : Array Value} {below : List Frame} {meth : Method} {c : Code} {D : va_G} {cI cJ cG cZ : ClassId} {A : Nat → Prop} {Q : State → Prop} {q_t q_t_label : Nat} {p1 : Int32} {RR : Int32 × Int32 × (Nat → Int32)} (C0 : CX p R s m args meth c b_Labels_separate 3 R_Labels lw_g D CL (TYs cI cJ cG cZ) A 0 0) (hret : ∀ (pc : Nat) (ls : Array Slot) (H : Heap) (locs : List Loc) (t_nodes : Int32) (t_groups : Int32) (t_label : Nat → Int32), decode b_Labels_separate pc = .ok (.return_, 1) → va_P D CL [(q_t, .inr (4, [.ref q_t_label, .int t_nodes, .int t_groups])), (q_t_label, .inl (cI, 10, .inl t_label))] H → va_D A [(q_t, .inr (4, [.ref q_t_label, .int t_nodes, .int t_groups])), (q_t_label, .inl (cI, 10, .inl t_label))] → va_S A s.heap H locs → some (t_nodes, t_groups, t_label) = some RR → W p l e R s m args below meth c H locs 0 0 Q (F0 m pc ls [])) (k12 : Int32 → Int32 → Int32 → (Nat → Int32) → Option (Int32 × Int32 × (Nat → Int32))) (hk12 : ∀ (v2 : Int32) (t_nodes : Int32) (t_groups : Int32) (t_label : Nat → Int32) (H : Heap) (locs : List Loc) (ls : Array Slot), va_P D CL [(q_t, .inr (4, [.ref q_t_label, .int t_nodes, .int t_groups])), (q_t_label, .inl (cI, 10, .inl t_label))] H → va_D A [(q_t, .inr (4, [.ref q_t_label, .int t_nodes, .int t_groups])), (q_t_label, .inl (cI, 10, .inl t_label))] → va_S A s.heap H locs → lv_has ls 3 [(0, .ref q_t), (1, .int p1), (2, .int v2)] → k12 v2 t_nodes t_groups t_label = some RR → W p l e R s m args below meth c H locs 0 0 Q (F0 m 12 ls [])) : ∀ (v2 : Int32) (t_nodes : Int32) (t_groups : Int32) (t_label : Nat → Int32) (H : Heap) (locs : List Loc) (ls : Array Slot), va_P D CL [(q_t, .inr (4, [.ref q_t_label, .int t_nodes, .int t_groups])), (q_t_label, .inl (cI, 10, .inl t_label))] H → va_D A [(q_t, .inr (4, [.ref q_t_label, .int t_nodes, .int t_groups])), (q_t_label, .inl (cI, 10, .inl t_label))] → va_S A s.heap H locs → lv_has ls 3 [(0, .ref q_t), (1, .int p1), (2, .int v2)] → g_Labels_separate_12 p1 k12 v2 t_nodes t_groups t_label = some RR → W p l e R s m args below meth c H locs 0 0 Q (F0 m 12 ls []) := by
  intro v2 t_nodes t_groups t_label H locs ls hP hD hS hl hf
  obtain ⟨hx, hb, hml, hown, hts, hK, hA, hfr, hlo, hlk⟩ := id C0
  unfold g_Labels_separate_12 at hf
  refine lv_iload_n hx hb d_Labels_separate_12 rfl (lv_at hl 2 rfl) ?_
  refine lv_iload_n hx hb d_Labels_separate_13 rfl (lv_at hl 1 rfl) ?_
  refine lv_icmp_ge (tgt := 30) hx hb d_Labels_separate_14 (by decide) (fun c1 => ?_) (fun c1 => ?_)
  · have hf := if_t c1 hf
    exact hret 30 _ _ _ t_nodes t_groups t_label d_Labels_separate_30 hP hD hS hf
  · have hf := if_f c1 hf
    refine lv_aload_n hx hb d_Labels_separate_17 rfl (lv_at hl 0 rfl) ?_
    refine va_get (D := D) (ci := 4) (v := .ref q_t_label) (C := R_Labels) (T := F_Labels) (N := 3) hx hb hts i_Labels hown hK hP 0 rfl rfl 0 (by decide) (hts _ m_1_95) (fun _ h9 => h9) rfl d_Labels_separate_18 ?_
    refine lv_iload_n hx hb d_Labels_separate_21 rfl (lv_at hl 2 rfl) ?_
    refine lv_iload_n hx hb d_Labels_separate_22 rfl (lv_at hl 2 rfl) ?_
    obtain ⟨hg1, hf⟩ := gd_e hf
    refine va_iast hx hb hK hP hD hS 1 0 rfl rfl (inb_e hg1) d_Labels_separate_23 (fun H locs hP hD hS => ?_)
    have hP : va_P D CL [(q_t, .inr (4, [.ref q_t_label, .int t_nodes, .int t_groups])), (q_t_label, .inl (cI, 10, .inl (upd t_label v2.toNatClampNeg v2)))] H := hP
    have hD : va_D A [(q_t, .inr (4, [.ref q_t_label, .int t_nodes, .int t_groups])), (q_t_label, .inl (cI, 10, .inl (upd t_label v2.toNatClampNeg v2)))] := hD
    obtain ⟨x1, ex1⟩ : ∃ y : Int32, y = v2 + (1 : Int32) := ⟨_, rfl⟩
    have hf := bn_e ex1 hf
    refine lv_iinc (v := x1) (lv' := [(2, .int x1), (0, .ref q_t), (1, .int p1)]) hx hb d_Labels_separate_24 hl (k := 2) rfl (by rw [ex1]; rfl) (by decide) rfl (fun ls hl => ?_)
    refine lv_goto (tgt := 12) hx hb d_Labels_separate_27 (by decide) ?_
    exact hk12 x1 t_nodes t_groups (upd t_label v2.toNatClampNeg v2) _ _ _ hP hD hS (lv_sub hl [1, 2, 0] rfl) hf
set_option maxRecDepth 100000 in
set_option maxHeartbeats 4000000 in
theorem w_Labels_separate_12_l {p : Program} {l : Launch} {e : Env} {R : Room} {s : State} {m : MethodId} {args : Array Value} {below : List Frame} {meth : Method} {c : Code} {D : va_G} {cI cJ cG cZ : ClassId} {A : Nat → Prop} {Q : State → Prop} {q_t q_t_label : Nat} {p1 : Int32} {RR : Int32 × Int32 × (Nat → Int32)} (C0 : CX p R s m args meth c b_Labels_separate 3 R_Labels lw_g D CL (TYs cI cJ cG cZ) A 0 0) (hret : ∀ (pc : Nat) (ls : Array Slot) (H : Heap) (locs : List Loc) (t_nodes : Int32) (t_groups : Int32) (t_label : Nat → Int32), decode b_Labels_separate pc = .ok (.return_, 1) → va_P D CL [(q_t, .inr (4, [.ref q_t_label, .int t_nodes, .int t_groups])), (q_t_label, .inl (cI, 10, .inl t_label))] H → va_D A [(q_t, .inr (4, [.ref q_t_label, .int t_nodes, .int t_groups])), (q_t_label, .inl (cI, 10, .inl t_label))] → va_S A s.heap H locs → some (t_nodes, t_groups, t_label) = some RR → W p l e R s m args below meth c H locs 0 0 Q (F0 m pc ls []))  : ∀ (n : Nat) (v2 : Int32) (t_nodes : Int32) (t_groups : Int32) (t_label : Nat → Int32) (H : Heap) (locs : List Loc) (ls : Array Slot), va_P D CL [(q_t, .inr (4, [.ref q_t_label, .int t_nodes, .int t_groups])), (q_t_label, .inl (cI, 10, .inl t_label))] H → va_D A [(q_t, .inr (4, [.ref q_t_label, .int t_nodes, .int t_groups])), (q_t_label, .inl (cI, 10, .inl t_label))] → va_S A s.heap H locs → lv_has ls 3 [(0, .ref q_t), (1, .int p1), (2, .int v2)] → lo4 (g_Labels_separate_12 p1) n v2 t_nodes t_groups t_label = some RR → W p l e R s m args below meth c H locs 0 0 Q (F0 m 12 ls []) := by
  intro n
  induction n with
  | zero =>
    intro v2 t_nodes t_groups t_label H locs ls hP hD hS hl hf
    exact absurd hf (by simp [lo4])
  | succ n ih =>
    intro v2 t_nodes t_groups t_label H locs ls hP hD hS hl hf
    exact w_Labels_separate_12 C0 hret  (lo4 (g_Labels_separate_12 p1) n) ih v2 t_nodes t_groups t_label H locs ls hP hD hS hl hf
set_option maxRecDepth 100000 in
set_option maxHeartbeats 4000000 in
theorem w_Labels_separate_e {p : Program} {l : Launch} {e : Env} {R : Room} {s : State} {m : MethodId} {args : Array Value} {below : List Frame} {meth : Method} {c : Code} {D : va_G} {cI cJ cG cZ : ClassId} {A : Nat → Prop} {Q : State → Prop} {q_t q_t_label : Nat} {t_nodes0 : Int32} {t_groups0 : Int32} {t_label0 : Nat → Int32} {p1 : Int32} {N : Nat} {RR : Int32 × Int32 × (Nat → Int32)} (C0 : CX p R s m args meth c b_Labels_separate 3 R_Labels lw_g D CL (TYs cI cJ cG cZ) A 0 0) (hret : ∀ (pc : Nat) (ls : Array Slot) (H : Heap) (locs : List Loc) (t_nodes : Int32) (t_groups : Int32) (t_label : Nat → Int32), decode b_Labels_separate pc = .ok (.return_, 1) → va_P D CL [(q_t, .inr (4, [.ref q_t_label, .int t_nodes, .int t_groups])), (q_t_label, .inl (cI, 10, .inl t_label))] H → va_D A [(q_t, .inr (4, [.ref q_t_label, .int t_nodes, .int t_groups])), (q_t_label, .inl (cI, 10, .inl t_label))] → va_S A s.heap H locs → some (t_nodes, t_groups, t_label) = some RR → W p l e R s m args below meth c H locs 0 0 Q (F0 m pc ls [])) : ∀ (H : Heap) (locs : List Loc) (ls : Array Slot), va_P D CL [(q_t, .inr (4, [.ref q_t_label, .int t_nodes0, .int t_groups0])), (q_t_label, .inl (cI, 10, .inl t_label0))] H → va_D A [(q_t, .inr (4, [.ref q_t_label, .int t_nodes0, .int t_groups0])), (q_t_label, .inl (cI, 10, .inl t_label0))] → va_S A s.heap H locs → lv_has ls 3 [(0, .ref q_t), (1, .int p1)] → f_Labels_separate N p1 t_label0 = some RR → W p l e R s m args below meth c H locs 0 0 Q (F0 m 0 ls []) := by
  intro H locs ls hP hD hS hl hf
  obtain ⟨hx, hb, hml, hown, hts, hK, hA, hfr, hlo, hlk⟩ := id C0
  unfold f_Labels_separate at hf
  refine lv_aload_n hx hb d_Labels_separate_0 rfl (lv_at hl 0 rfl) ?_
  refine lv_iload_n hx hb d_Labels_separate_1 rfl (lv_at hl 1 rfl) ?_
  refine va_put (D := D) (ci := 4) (v := .int p1) (ty := .int) (C := R_Labels) (T := F_Labels) (N := 3) hx hb hts i_Labels t_Labels to_Labels n_Labels hown hK hP hD hS 0 rfl rfl 1 (by decide) (hts _ m_1_97) (fun _ h9 => h9) rfl (by decide +kernel) rfl rfl (Nat.le_of_ble_eq_true rfl) d_Labels_separate_2 (fun H locs hP hD hS => ?_)
  have hP : va_P D CL [(q_t, .inr (4, [.ref q_t_label, .int p1, .int t_groups0])), (q_t_label, .inl (cI, 10, .inl t_label0))] H := hP
  have hD : va_D A [(q_t, .inr (4, [.ref q_t_label, .int p1, .int t_groups0])), (q_t_label, .inl (cI, 10, .inl t_label0))] := hD
  refine lv_aload_n hx hb d_Labels_separate_5 rfl (lv_at hl 0 rfl) ?_
  refine lv_iload_n hx hb d_Labels_separate_6 rfl (lv_at hl 1 rfl) ?_
  refine va_put (D := D) (ci := 4) (v := .int p1) (ty := .int) (C := R_Labels) (T := F_Labels) (N := 3) hx hb hts i_Labels t_Labels to_Labels n_Labels hown hK hP hD hS 0 rfl rfl 2 (by decide) (hts _ m_1_99) (fun _ h9 => h9) rfl (by decide +kernel) rfl rfl (Nat.le_of_ble_eq_true rfl) d_Labels_separate_7 (fun H locs hP hD hS => ?_)
  have hP : va_P D CL [(q_t, .inr (4, [.ref q_t_label, .int p1, .int p1])), (q_t_label, .inl (cI, 10, .inl t_label0))] H := hP
  have hD : va_D A [(q_t, .inr (4, [.ref q_t_label, .int p1, .int p1])), (q_t_label, .inl (cI, 10, .inl t_label0))] := hD
  refine lv_iconst (v := 0) hx hb d_Labels_separate_10 (by decide) ?_
  refine lv_istore_n (lv' := [(2, .int (0 : Int32)), (0, .ref q_t), (1, .int p1)]) hx hb d_Labels_separate_11 rfl hl (by decide) rfl (fun ls hl => ?_)
  exact w_Labels_separate_12_l C0 hret N (0 : Int32) p1 p1 t_label0 _ _ _ hP hD hS (lv_sub hl [1, 2, 0] rfl) hf
set_option maxRecDepth 100000 in
set_option maxHeartbeats 4000000 in
theorem c_Labels_separate (l : Launch) (D : va_G) (cI cJ cG cZ : ClassId) (q_t q_t_label : Nat) (t_nodes0 : Int32) (t_groups0 : Int32) (t_label0 : Nat → Int32) (p1 : Int32) {N : Nat} {t_nodes' : Int32} {t_groups' : Int32} {t_label' : Nat → Int32} (hf : f_Labels_separate N p1 t_label0 = some (t_nodes', t_groups', t_label')) : MeG l D CL (TYs cI cJ cG cZ) y_Labels_separate ws_Labels_separate (rm_Labels_separate) [.ref q_t, .int p1] [(q_t, .inr (4, [.ref q_t_label, .int t_nodes0, .int t_groups0])), (q_t_label, .inl (cI, 10, .inl t_label0))] none [(q_t, .inr (4, [.ref q_t_label, .int t_nodes', .int t_groups'])), (q_t_label, .inl (cI, 10, .inl t_label'))] := by
  intro sz
  refine Met.ofW (cc := b_Labels_separate) (maxL := 3) (ret := none) (by decide) rfl ?_
  intro p e s m args below meth c s₁ B hml hv
  obtain ⟨rfl, hsz, hP, hK, hD0⟩ := hv
  subst hsz
  have hD := hD0.self (sz := s.heap.size)
  generalize hAe : va_A [(q_t, .inr (4, [.ref q_t_label, .int t_nodes0, .int t_groups0])), (q_t_label, .inl (cI, 10, .inl t_label0))] s.heap.size = A at hD ⊢
  have C0 : CX p (headSpec ws_Labels_separate (rm_Labels_separate)).room s m _ meth c b_Labels_separate 3 R_Labels lw_g D CL (TYs cI cJ cG cZ) A 0 0 := ⟨B.exec, B.bytes, hml, findClass_of_methodNamed B.named, fun w h => atoms_spec (ws := ws_Labels_separate) B.pre w (List.mem_cons_of_mem _ h), hK, fun q h => by rw [← hAe]; exact Or.inr h, Nat.le_of_ble_eq_true rfl, Nat.le_of_ble_eq_true rfl, B.notSynchronized⟩
  have hl := lv_entry ([.ref q_t, .int p1]) (n := 3) (Nat.le_of_ble_eq_true rfl)
  rw [lg_entry_eq]
  generalize (lg_sl ([.ref q_t, .int p1]) ++ List.replicate (3 - (lg_sl ([.ref q_t, .int p1])).length) Slot.unset).toArray = ls at hl ⊢
  have hl : lv_has ls 3 [(0, .ref q_t), (1, .int p1)] := hl
  exact w_Labels_separate_e C0 (fun pc ls H locs t_nodes t_groups t_label hdg hP hD hS e => by cases e; exact W.vret B.exec B.bytes B.returns (fun t ht hW => ⟨⟨rfl, by rw [ht]; exact hP, va_K.moved hW.alike hK, hD⟩, hS.F ht⟩) hS.2.2 hdg) _ _ _ hP hD va_S.rf (lv_sub hl [0, 1] rfl) hf
