abbrev b_Labels_areApart : ByteArray := prog_7_method_3_code
def y_Labels_areApart : MethodName := ⟨R_Labels, "areApart", "(II)Z"⟩
def ws_Labels_areApart : List Cond := .code y_Labels_areApart b_Labels_areApart 3 (some .boolean) :: lw_g
theorem wi_Labels_areApart : ∀ w ∈ ws_Labels_areApart, w ∈ lw_g := wi_of m_2_181
abbrev rm_Labels_areApart : Room := { frames := 0, cells := 0, slots := 0, locals := 0 }
theorem hd_Labels_areApart : y_Labels_areApart.cls = R_Labels ∧ y_Labels_areApart.cls ≠ "java/lang/invoke/MethodHandle" ∧ y_Labels_areApart.cls ≠ "java/lang/invoke/VarHandle" ∧ (parseMethodDescriptor y_Labels_areApart.desc).map (fun d => d.parameters.length) = some 2 := by decide +kernel
theorem d_Labels_areApart_0 : decode b_Labels_areApart 0 = .ok (.aload_n 0, 1) := by decide +kernel
theorem d_Labels_areApart_1 : decode b_Labels_areApart 1 = .ok (.getfield 9, 3) := by decide +kernel
theorem d_Labels_areApart_4 : decode b_Labels_areApart 4 = .ok (.iload_n 1, 1) := by decide +kernel
theorem d_Labels_areApart_5 : decode b_Labels_areApart 5 = .ok (.iaload, 1) := by decide +kernel
theorem d_Labels_areApart_6 : decode b_Labels_areApart 6 = .ok (.aload_n 0, 1) := by decide +kernel
theorem d_Labels_areApart_7 : decode b_Labels_areApart 7 = .ok (.getfield 9, 3) := by decide +kernel
theorem d_Labels_areApart_10 : decode b_Labels_areApart 10 = .ok (.iload_n 2, 1) := by decide +kernel
theorem d_Labels_areApart_11 : decode b_Labels_areApart 11 = .ok (.iaload, 1) := by decide +kernel
theorem d_Labels_areApart_12 : decode b_Labels_areApart 12 = .ok (.if_icmp .eq 7, 3) := by decide +kernel
theorem d_Labels_areApart_15 : decode b_Labels_areApart 15 = .ok (.iconst 1, 1) := by decide +kernel
theorem d_Labels_areApart_16 : decode b_Labels_areApart 16 = .ok (.goto 4, 3) := by decide +kernel
theorem d_Labels_areApart_19 : decode b_Labels_areApart 19 = .ok (.iconst 0, 1) := by decide +kernel
theorem d_Labels_areApart_20 : decode b_Labels_areApart 20 = .ok (.ireturn, 1) := by decide +kernel
def f_Labels_areApart (p1 : Int32) (p2 : Int32) (t_label : Nat → Int32) : Option (Int32) :=
  gd (inb p1 10) <|
  gd (inb p2 10) <|
  if (t_label p1.toNatClampNeg) = (t_label p2.toNatClampNeg) then
    some ((0 : Int32))
  else
    some ((1 : Int32))
set_option maxRecDepth 100000 in
set_option maxHeartbeats 4000000 in
theorem w_Labels_areApart_e {p : Program} {l : Launch} {e : Env} {R : Room} {s : State} {m : MethodId} {args : Array Value} {below : List Frame} {meth : Method} {c : Code} {D : va_G} {cI cJ cG cZ : ClassId} {A : Nat → Prop} {Q : State → Prop} {q_t q_t_label : Nat} {t_nodes : Int32} {t_groups : Int32} {t_label : Nat → Int32} {p1 : Int32} {p2 : Int32} {RR : Int32} (C0 : CX p R s m args meth c b_Labels_areApart 3 R_Labels lw_g D CL (TYs cI cJ cG cZ) A 0 0) (hret : ∀ (pc : Nat) (ls : Array Slot) (H : Heap) (locs : List Loc) (v : Int32) , decode b_Labels_areApart pc = .ok (.ireturn, 1) → narrow .boolean (.int v) = .int v → va_P D CL [(q_t, .inr (4, [.ref q_t_label, .int t_nodes, .int t_groups])), (q_t_label, .inl (cI, 10, .inl t_label))] H → va_D A [(q_t, .inr (4, [.ref q_t_label, .int t_nodes, .int t_groups])), (q_t_label, .inl (cI, 10, .inl t_label))] → va_S A s.heap H locs → some (v) = some RR → W p l e R s m args below meth c H locs 0 0 Q (F0 m pc ls [.int v])) : ∀ (H : Heap) (locs : List Loc) (ls : Array Slot), va_P D CL [(q_t, .inr (4, [.ref q_t_label, .int t_nodes, .int t_groups])), (q_t_label, .inl (cI, 10, .inl t_label))] H → va_D A [(q_t, .inr (4, [.ref q_t_label, .int t_nodes, .int t_groups])), (q_t_label, .inl (cI, 10, .inl t_label))] → va_S A s.heap H locs → lv_has ls 3 [(0, .ref q_t), (1, .int p1), (2, .int p2)] → f_Labels_areApart p1 p2 t_label = some RR → W p l e R s m args below meth c H locs 0 0 Q (F0 m 0 ls []) := by
  intro H locs ls hP hD hS hl hf
  obtain ⟨hx, hb, hml, hown, hts, hK, hA, hfr, hlo, hlk⟩ := id C0
  unfold f_Labels_areApart at hf
  refine lv_aload_n hx hb d_Labels_areApart_0 rfl (lv_at hl 0 rfl) ?_
  refine va_get (D := D) (ci := 4) (v := .ref q_t_label) (C := R_Labels) (T := F_Labels) (N := 3) hx hb hts i_Labels hown hK hP 0 rfl rfl 0 (by decide) (hts _ m_1_95) (fun _ h9 => h9) rfl d_Labels_areApart_1 ?_
  refine lv_iload_n hx hb d_Labels_areApart_4 rfl (lv_at hl 1 rfl) ?_
  obtain ⟨hg1, hf⟩ := gd_e hf
  refine va_iald hx hb hK hP 1 0 rfl rfl (inb_e hg1) d_Labels_areApart_5 ?_
  refine lv_aload_n hx hb d_Labels_areApart_6 rfl (lv_at hl 0 rfl) ?_
  refine va_get (D := D) (ci := 4) (v := .ref q_t_label) (C := R_Labels) (T := F_Labels) (N := 3) hx hb hts i_Labels hown hK hP 0 rfl rfl 0 (by decide) (hts _ m_1_95) (fun _ h9 => h9) rfl d_Labels_areApart_7 ?_
  refine lv_iload_n hx hb d_Labels_areApart_10 rfl (lv_at hl 2 rfl) ?_
  obtain ⟨hg2, hf⟩ := gd_e hf
  refine va_iald hx hb hK hP 1 0 rfl rfl (inb_e hg2) d_Labels_areApart_11 ?_
  refine lv_icmp_eq (tgt := 19) hx hb d_Labels_areApart_12 (by decide) (fun c1 => ?_) (fun c1 => ?_)
  · have hf := if_t c1 hf
    refine lv_iconst (v := 0) hx hb d_Labels_areApart_19 (by decide) ?_
    exact hret 20 _ _ _ (0 : Int32) d_Labels_areApart_20 rfl hP hD hS hf
  · have hf := if_f c1 hf
    refine lv_iconst (v := 1) hx hb d_Labels_areApart_15 (by decide) ?_
    refine lv_goto (tgt := 20) hx hb d_Labels_areApart_16 (by decide) ?_
    exact hret 20 _ _ _ (1 : Int32) d_Labels_areApart_20 rfl hP hD hS hf
set_option maxRecDepth 100000 in
set_option maxHeartbeats 4000000 in
theorem c_Labels_areApart (l : Launch) (D : va_G) (cI cJ cG cZ : ClassId) (q_t q_t_label : Nat) (t_nodes : Int32) (t_groups : Int32) (t_label : Nat → Int32) (p1 : Int32) (p2 : Int32) {r : Int32} (hf : f_Labels_areApart p1 p2 t_label = some (r)) : MeG l D CL (TYs cI cJ cG cZ) y_Labels_areApart ws_Labels_areApart (rm_Labels_areApart) [.ref q_t, .int p1, .int p2] [(q_t, .inr (4, [.ref q_t_label, .int t_nodes, .int t_groups])), (q_t_label, .inl (cI, 10, .inl t_label))] (some (.int r)) [(q_t, .inr (4, [.ref q_t_label, .int t_nodes, .int t_groups])), (q_t_label, .inl (cI, 10, .inl t_label))] := by
  intro sz
  refine Met.ofW (cc := b_Labels_areApart) (maxL := 3) (ret := (some .boolean)) (by decide) rfl ?_
  intro p e s m args below meth c s₁ B hml hv
  obtain ⟨rfl, hsz, hP, hK, hD0⟩ := hv
  subst hsz
  have hD := hD0.self (sz := s.heap.size)
  generalize hAe : va_A [(q_t, .inr (4, [.ref q_t_label, .int t_nodes, .int t_groups])), (q_t_label, .inl (cI, 10, .inl t_label))] s.heap.size = A at hD ⊢
  have C0 : CX p (headSpec ws_Labels_areApart (rm_Labels_areApart)).room s m _ meth c b_Labels_areApart 3 R_Labels lw_g D CL (TYs cI cJ cG cZ) A 0 0 := ⟨B.exec, B.bytes, hml, findClass_of_methodNamed B.named, fun w h => atoms_spec (ws := ws_Labels_areApart) B.pre w (List.mem_cons_of_mem _ h), hK, fun q h => by rw [← hAe]; exact Or.inr h, Nat.le_of_ble_eq_true rfl, Nat.le_of_ble_eq_true rfl, B.notSynchronized⟩
  have hl := lv_entry ([.ref q_t, .int p1, .int p2]) (n := 3) (Nat.le_of_ble_eq_true rfl)
  rw [lg_entry_eq]
  generalize (lg_sl ([.ref q_t, .int p1, .int p2]) ++ List.replicate (3 - (lg_sl ([.ref q_t, .int p1, .int p2])).length) Slot.unset).toArray = ls at hl ⊢
  have hl : lv_has ls 3 [(0, .ref q_t), (1, .int p1), (2, .int p2)] := hl
  exact w_Labels_areApart_e C0 (fun pc ls H locs v hdg hz hP hD hS e => by cases e; exact W.zret B.exec B.bytes B.returns hz (fun t ht hW => ⟨⟨rfl, by rw [ht]; exact hP, va_K.moved hW.alike hK, hD⟩, hS.F ht⟩) hS.2.2 hdg) _ _ _ hP hD va_S.rf (lv_sub hl [0, 1, 2] rfl) hf
