abbrev b_TreeCount_determinant : ByteArray := prog_8_method_5_code
def y_TreeCount_determinant : MethodName := ⟨R_TreeCount, "determinant", "(I)J"⟩
def ws_TreeCount_determinant : List Cond := .code y_TreeCount_determinant b_TreeCount_determinant 9 (some .long) :: lw_g
theorem wi_TreeCount_determinant : ∀ w ∈ ws_TreeCount_determinant, w ∈ lw_g := wi_of m_2_152
abbrev rm_TreeCount_determinant : Room := { frames := 0, cells := 0, slots := 0, locals := 0 }
theorem hd_TreeCount_determinant : y_TreeCount_determinant.cls = R_TreeCount ∧ y_TreeCount_determinant.cls ≠ "java/lang/invoke/MethodHandle" ∧ y_TreeCount_determinant.cls ≠ "java/lang/invoke/VarHandle" ∧ (parseMethodDescriptor y_TreeCount_determinant.desc).map (fun d => d.parameters.length) = some 1 := by decide +kernel
theorem d_TreeCount_determinant_0 : decode b_TreeCount_determinant 0 = .ok (.lconst 1, 1) := by decide +kernel
theorem d_TreeCount_determinant_1 : decode b_TreeCount_determinant 1 = .ok (.lstore_n 2, 1) := by decide +kernel
theorem d_TreeCount_determinant_2 : decode b_TreeCount_determinant 2 = .ok (.iconst 0, 1) := by decide +kernel
theorem d_TreeCount_determinant_3 : decode b_TreeCount_determinant 3 = .ok (.istore 4, 2) := by decide +kernel
theorem d_TreeCount_determinant_5 : decode b_TreeCount_determinant 5 = .ok (.iload 4, 2) := by decide +kernel
theorem d_TreeCount_determinant_7 : decode b_TreeCount_determinant 7 = .ok (.iload_n 1, 1) := by decide +kernel
theorem d_TreeCount_determinant_8 : decode b_TreeCount_determinant 8 = .ok (.if_icmp .ge 116, 3) := by decide +kernel
theorem d_TreeCount_determinant_11 : decode b_TreeCount_determinant 11 = .ok (.aload_n 0, 1) := by decide +kernel
theorem d_TreeCount_determinant_12 : decode b_TreeCount_determinant 12 = .ok (.getfield 23, 3) := by decide +kernel
theorem d_TreeCount_determinant_15 : decode b_TreeCount_determinant 15 = .ok (.iload 4, 2) := by decide +kernel
theorem d_TreeCount_determinant_17 : decode b_TreeCount_determinant 17 = .ok (.aaload, 1) := by decide +kernel
theorem d_TreeCount_determinant_18 : decode b_TreeCount_determinant 18 = .ok (.iload 4, 2) := by decide +kernel
theorem d_TreeCount_determinant_20 : decode b_TreeCount_determinant 20 = .ok (.laload, 1) := by decide +kernel
theorem d_TreeCount_determinant_21 : decode b_TreeCount_determinant 21 = .ok (.lstore 5, 2) := by decide +kernel
theorem d_TreeCount_determinant_23 : decode b_TreeCount_determinant 23 = .ok (.lload 5, 2) := by decide +kernel
theorem d_TreeCount_determinant_25 : decode b_TreeCount_determinant 25 = .ok (.lconst 0, 1) := by decide +kernel
theorem d_TreeCount_determinant_26 : decode b_TreeCount_determinant 26 = .ok (.lcmp, 1) := by decide +kernel
theorem d_TreeCount_determinant_27 : decode b_TreeCount_determinant 27 = .ok (.ifCond .ne 5, 3) := by decide +kernel
theorem d_TreeCount_determinant_30 : decode b_TreeCount_determinant 30 = .ok (.lconst 0, 1) := by decide +kernel
theorem d_TreeCount_determinant_31 : decode b_TreeCount_determinant 31 = .ok (.lreturn, 1) := by decide +kernel
theorem d_TreeCount_determinant_32 : decode b_TreeCount_determinant 32 = .ok (.iload 4, 2) := by decide +kernel
theorem d_TreeCount_determinant_34 : decode b_TreeCount_determinant 34 = .ok (.iconst 1, 1) := by decide +kernel
theorem d_TreeCount_determinant_35 : decode b_TreeCount_determinant 35 = .ok (.iadd, 1) := by decide +kernel
theorem d_TreeCount_determinant_36 : decode b_TreeCount_determinant 36 = .ok (.istore 7, 2) := by decide +kernel
theorem d_TreeCount_determinant_38 : decode b_TreeCount_determinant 38 = .ok (.iload 7, 2) := by decide +kernel
theorem d_TreeCount_determinant_40 : decode b_TreeCount_determinant 40 = .ok (.iload_n 1, 1) := by decide +kernel
theorem d_TreeCount_determinant_41 : decode b_TreeCount_determinant 41 = .ok (.if_icmp .ge 74, 3) := by decide +kernel
theorem d_TreeCount_determinant_44 : decode b_TreeCount_determinant 44 = .ok (.iload 4, 2) := by decide +kernel
theorem d_TreeCount_determinant_46 : decode b_TreeCount_determinant 46 = .ok (.iconst 1, 1) := by decide +kernel
theorem d_TreeCount_determinant_47 : decode b_TreeCount_determinant 47 = .ok (.iadd, 1) := by decide +kernel
theorem d_TreeCount_determinant_48 : decode b_TreeCount_determinant 48 = .ok (.istore 8, 2) := by decide +kernel
theorem d_TreeCount_determinant_50 : decode b_TreeCount_determinant 50 = .ok (.iload 8, 2) := by decide +kernel
theorem d_TreeCount_determinant_52 : decode b_TreeCount_determinant 52 = .ok (.iload_n 1, 1) := by decide +kernel
theorem d_TreeCount_determinant_53 : decode b_TreeCount_determinant 53 = .ok (.if_icmp .ge 56, 3) := by decide +kernel
theorem d_TreeCount_determinant_56 : decode b_TreeCount_determinant 56 = .ok (.aload_n 0, 1) := by decide +kernel
theorem d_TreeCount_determinant_57 : decode b_TreeCount_determinant 57 = .ok (.getfield 23, 3) := by decide +kernel
theorem d_TreeCount_determinant_60 : decode b_TreeCount_determinant 60 = .ok (.iload 7, 2) := by decide +kernel
theorem d_TreeCount_determinant_62 : decode b_TreeCount_determinant 62 = .ok (.aaload, 1) := by decide +kernel
theorem d_TreeCount_determinant_63 : decode b_TreeCount_determinant 63 = .ok (.iload 8, 2) := by decide +kernel
theorem d_TreeCount_determinant_65 : decode b_TreeCount_determinant 65 = .ok (.aload_n 0, 1) := by decide +kernel
theorem d_TreeCount_determinant_66 : decode b_TreeCount_determinant 66 = .ok (.getfield 23, 3) := by decide +kernel
theorem d_TreeCount_determinant_69 : decode b_TreeCount_determinant 69 = .ok (.iload 7, 2) := by decide +kernel
theorem d_TreeCount_determinant_71 : decode b_TreeCount_determinant 71 = .ok (.aaload, 1) := by decide +kernel
theorem d_TreeCount_determinant_72 : decode b_TreeCount_determinant 72 = .ok (.iload 8, 2) := by decide +kernel
theorem d_TreeCount_determinant_74 : decode b_TreeCount_determinant 74 = .ok (.laload, 1) := by decide +kernel
theorem d_TreeCount_determinant_75 : decode b_TreeCount_determinant 75 = .ok (.lload 5, 2) := by decide +kernel
theorem d_TreeCount_determinant_77 : decode b_TreeCount_determinant 77 = .ok (.lmul, 1) := by decide +kernel
theorem d_TreeCount_determinant_78 : decode b_TreeCount_determinant 78 = .ok (.aload_n 0, 1) := by decide +kernel
theorem d_TreeCount_determinant_79 : decode b_TreeCount_determinant 79 = .ok (.getfield 23, 3) := by decide +kernel
theorem d_TreeCount_determinant_82 : decode b_TreeCount_determinant 82 = .ok (.iload 7, 2) := by decide +kernel
theorem d_TreeCount_determinant_84 : decode b_TreeCount_determinant 84 = .ok (.aaload, 1) := by decide +kernel
theorem d_TreeCount_determinant_85 : decode b_TreeCount_determinant 85 = .ok (.iload 4, 2) := by decide +kernel
theorem d_TreeCount_determinant_87 : decode b_TreeCount_determinant 87 = .ok (.laload, 1) := by decide +kernel
theorem d_TreeCount_determinant_88 : decode b_TreeCount_determinant 88 = .ok (.aload_n 0, 1) := by decide +kernel
theorem d_TreeCount_determinant_89 : decode b_TreeCount_determinant 89 = .ok (.getfield 23, 3) := by decide +kernel
theorem d_TreeCount_determinant_92 : decode b_TreeCount_determinant 92 = .ok (.iload 4, 2) := by decide +kernel
theorem d_TreeCount_determinant_94 : decode b_TreeCount_determinant 94 = .ok (.aaload, 1) := by decide +kernel
theorem d_TreeCount_determinant_95 : decode b_TreeCount_determinant 95 = .ok (.iload 8, 2) := by decide +kernel
theorem d_TreeCount_determinant_97 : decode b_TreeCount_determinant 97 = .ok (.laload, 1) := by decide +kernel
theorem d_TreeCount_determinant_98 : decode b_TreeCount_determinant 98 = .ok (.lmul, 1) := by decide +kernel
theorem d_TreeCount_determinant_99 : decode b_TreeCount_determinant 99 = .ok (.lsub, 1) := by decide +kernel
theorem d_TreeCount_determinant_100 : decode b_TreeCount_determinant 100 = .ok (.lload_n 2, 1) := by decide +kernel
theorem d_TreeCount_determinant_101 : decode b_TreeCount_determinant 101 = .ok (.ldiv, 1) := by decide +kernel
theorem d_TreeCount_determinant_102 : decode b_TreeCount_determinant 102 = .ok (.lastore, 1) := by decide +kernel
theorem d_TreeCount_determinant_103 : decode b_TreeCount_determinant 103 = .ok (.iinc 8 1, 3) := by decide +kernel
theorem d_TreeCount_determinant_106 : decode b_TreeCount_determinant 106 = .ok (.goto (-56), 3) := by decide +kernel
theorem d_TreeCount_determinant_109 : decode b_TreeCount_determinant 109 = .ok (.iinc 7 1, 3) := by decide +kernel
theorem d_TreeCount_determinant_112 : decode b_TreeCount_determinant 112 = .ok (.goto (-74), 3) := by decide +kernel
theorem d_TreeCount_determinant_115 : decode b_TreeCount_determinant 115 = .ok (.lload 5, 2) := by decide +kernel
theorem d_TreeCount_determinant_117 : decode b_TreeCount_determinant 117 = .ok (.lstore_n 2, 1) := by decide +kernel
theorem d_TreeCount_determinant_118 : decode b_TreeCount_determinant 118 = .ok (.iinc 4 1, 3) := by decide +kernel
theorem d_TreeCount_determinant_121 : decode b_TreeCount_determinant 121 = .ok (.goto (-116), 3) := by decide +kernel
theorem d_TreeCount_determinant_124 : decode b_TreeCount_determinant 124 = .ok (.lload_n 2, 1) := by decide +kernel
theorem d_TreeCount_determinant_125 : decode b_TreeCount_determinant 125 = .ok (.lreturn, 1) := by decide +kernel
def g_TreeCount_determinant_50 (p1 : Int32) (k5 : Int64 → Int32 → (Nat → Nat → Int64) → Option (Int64 × (Nat → Nat → Int64))) (k38 : Int64 → Int32 → Int64 → Int32 → (Nat → Nat → Int64) → Option (Int64 × (Nat → Nat → Int64))) (k50 : Int64 → Int32 → Int64 → Int32 → Int32 → (Nat → Nat → Int64) → Option (Int64 × (Nat → Nat → Int64))) (v2 : Int64) (v4 : Int32) (v5 : Int64) (v7 : Int32) (v8 : Int32) (t_minor : Nat → Nat → Int64) : Option (Int64 × (Nat → Nat → Int64)) :=
  if p1 ≤ v8 then
    bn (v7 + (1 : Int32)) fun x1 =>
    k38 v2 v4 v5 x1 t_minor
  else
    gd (inb v7 10) <|
    gd (inb v7 10) <|
    gd (inb v8 10) <|
    gd (inb v7 10) <|
    gd (inb v4 10) <|
    gd (inb v4 10) <|
    gd (inb v8 10) <|
    gd (nzL v2) <|
    gd (inb v8 10) <|
    bn (v8 + (1 : Int32)) fun x2 =>
    k50 v2 v4 v5 v7 x2 (upGL t_minor v7.toNatClampNeg v8.toNatClampNeg ((((t_minor v7.toNatClampNeg v8.toNatClampNeg) * v5) - ((t_minor v7.toNatClampNeg v4.toNatClampNeg) * (t_minor v4.toNatClampNeg v8.toNatClampNeg))) / v2))
def g_TreeCount_determinant_38 (N : Nat) (p1 : Int32) (k5 : Int64 → Int32 → (Nat → Nat → Int64) → Option (Int64 × (Nat → Nat → Int64))) (k38 : Int64 → Int32 → Int64 → Int32 → (Nat → Nat → Int64) → Option (Int64 × (Nat → Nat → Int64))) (v2 : Int64) (v4 : Int32) (v5 : Int64) (v7 : Int32) (t_minor : Nat → Nat → Int64) : Option (Int64 × (Nat → Nat → Int64)) :=
  if p1 ≤ v7 then
    bn (v4 + (1 : Int32)) fun x1 =>
    k5 v5 x1 t_minor
  else
    bn (v4 + (1 : Int32)) fun x2 =>
    lo6 (g_TreeCount_determinant_50 p1 k5 k38) N v2 v4 v5 v7 x2 t_minor
def g_TreeCount_determinant_5 (N : Nat) (p1 : Int32) (k5 : Int64 → Int32 → (Nat → Nat → Int64) → Option (Int64 × (Nat → Nat → Int64))) (v2 : Int64) (v4 : Int32) (t_minor : Nat → Nat → Int64) : Option (Int64 × (Nat → Nat → Int64)) :=
  if p1 ≤ v4 then
    some (v2, t_minor)
  else
    gd (inb v4 10) <|
    gd (inb v4 10) <|
    bn (t_minor v4.toNatClampNeg v4.toNatClampNeg) fun x1 =>
    if (lg_cmp x1 (0 : Int64)) = 0 then
      some ((0 : Int64), t_minor)
    else
      bn (v4 + (1 : Int32)) fun x2 =>
      lo5 (g_TreeCount_determinant_38 N p1 k5) N v2 v4 x1 x2 t_minor
def f_TreeCount_determinant (N : Nat) (p1 : Int32) (t_minor0 : Nat → Nat → Int64) : Option (Int64 × (Nat → Nat → Int64)) :=
  lo3 (g_TreeCount_determinant_5 N p1) N (1 : Int64) (0 : Int32) t_minor0
set_option maxRecDepth 100000 in
set_option maxHeartbeats 4000000 in
theorem w_TreeCount_determinant_50 {p : Program} {l : Launch} {e : Env} {R : Room} {s : State} {m : MethodId} {args : Array Value} {below : List Frame} {meth : Method} {c : Code} {D : va_G} {cI cJ cG cZ : ClassId} {A : Nat → Prop} {Q : State → Prop} {q_t q_t_groupOf q_t_links q_t_rows q_t_minor : Nat} {ra_t_minor : Nat → Nat} {p1 : Int32} {RR : Int64 × (Nat → Nat → Int64)} (C0 : CX p R s m args meth c b_TreeCount_determinant 9 R_TreeCount lw_g D CL (TYs cI cJ cG cZ) A 0 0) (hret : ∀ (pc : Nat) (ls : Array Slot) (H : Heap) (locs : List Loc) (v : Int64) (t_minor : Nat → Nat → Int64), decode b_TreeCount_determinant pc = .ok (.lreturn, 1) → va_P D CL (wa [(q_t, .inr (5, [.ref q_t_groupOf, .ref q_t_links, .ref q_t_rows, .ref q_t_minor])), (q_t_minor, .inl (cG, 10, .inr (.inr (.inr (.inr (fun i => some (ra_t_minor i)))))))] (wa (gsL 10 10 cJ ra_t_minor t_minor) [])) H → va_D A (wa [(q_t, .inr (5, [.ref q_t_groupOf, .ref q_t_links, .ref q_t_rows, .ref q_t_minor])), (q_t_minor, .inl (cG, 10, .inr (.inr (.inr (.inr (fun i => some (ra_t_minor i)))))))] (wa (gsL 10 10 cJ ra_t_minor t_minor) [])) → va_S A s.heap H locs → some (v, t_minor) = some RR → W p l e R s m args below meth c H locs 0 0 Q (F0 m pc ls [.long v])) (k5 : Int64 → Int32 → (Nat → Nat → Int64) → Option (Int64 × (Nat → Nat → Int64))) (hk5 : ∀ (v2 : Int64) (v4 : Int32) (t_minor : Nat → Nat → Int64) (H : Heap) (locs : List Loc) (ls : Array Slot), va_P D CL (wa [(q_t, .inr (5, [.ref q_t_groupOf, .ref q_t_links, .ref q_t_rows, .ref q_t_minor])), (q_t_minor, .inl (cG, 10, .inr (.inr (.inr (.inr (fun i => some (ra_t_minor i)))))))] (wa (gsL 10 10 cJ ra_t_minor t_minor) [])) H → va_D A (wa [(q_t, .inr (5, [.ref q_t_groupOf, .ref q_t_links, .ref q_t_rows, .ref q_t_minor])), (q_t_minor, .inl (cG, 10, .inr (.inr (.inr (.inr (fun i => some (ra_t_minor i)))))))] (wa (gsL 10 10 cJ ra_t_minor t_minor) [])) → va_S A s.heap H locs → lv_has ls 9 [(0, .ref q_t), (1, .int p1), (2, .long v2), (4, .int v4)] → k5 v2 v4 t_minor = some RR → W p l e R s m args below meth c H locs 0 0 Q (F0 m 5 ls [])) (k38 : Int64 → Int32 → Int64 → Int32 → (Nat → Nat → Int64) → Option (Int64 × (Nat → Nat → Int64))) (hk38 : ∀ (v2 : Int64) (v4 : Int32) (v5 : Int64) (v7 : Int32) (t_minor : Nat → Nat → Int64) (H : Heap) (locs : List Loc) (ls : Array Slot), va_P D CL (wa [(q_t, .inr (5, [.ref q_t_groupOf, .ref q_t_links, .ref q_t_rows, .ref q_t_minor])), (q_t_minor, .inl (cG, 10, .inr (.inr (.inr (.inr (fun i => some (ra_t_minor i)))))))] (wa (gsL 10 10 cJ ra_t_minor t_minor) [])) H → va_D A (wa [(q_t, .inr (5, [.ref q_t_groupOf, .ref q_t_links, .ref q_t_rows, .ref q_t_minor])), (q_t_minor, .inl (cG, 10, .inr (.inr (.inr (.inr (fun i => some (ra_t_minor i)))))))] (wa (gsL 10 10 cJ ra_t_minor t_minor) [])) → va_S A s.heap H locs → lv_has ls 9 [(0, .ref q_t), (1, .int p1), (2, .long v2), (4, .int v4), (5, .long v5), (7, .int v7)] → k38 v2 v4 v5 v7 t_minor = some RR → W p l e R s m args below meth c H locs 0 0 Q (F0 m 38 ls [])) (k50 : Int64 → Int32 → Int64 → Int32 → Int32 → (Nat → Nat → Int64) → Option (Int64 × (Nat → Nat → Int64))) (hk50 : ∀ (v2 : Int64) (v4 : Int32) (v5 : Int64) (v7 : Int32) (v8 : Int32) (t_minor : Nat → Nat → Int64) (H : Heap) (locs : List Loc) (ls : Array Slot), va_P D CL (wa [(q_t, .inr (5, [.ref q_t_groupOf, .ref q_t_links, .ref q_t_rows, .ref q_t_minor])), (q_t_minor, .inl (cG, 10, .inr (.inr (.inr (.inr (fun i => some (ra_t_minor i)))))))] (wa (gsL 10 10 cJ ra_t_minor t_minor) [])) H → va_D A (wa [(q_t, .inr (5, [.ref q_t_groupOf, .ref q_t_links, .ref q_t_rows, .ref q_t_minor])), (q_t_minor, .inl (cG, 10, .inr (.inr (.inr (.inr (fun i => some (ra_t_minor i)))))))] (wa (gsL 10 10 cJ ra_t_minor t_minor) [])) → va_S A s.heap H locs → lv_has ls 9 [(0, .ref q_t), (1, .int p1), (2, .long v2), (4, .int v4), (5, .long v5), (7, .int v7), (8, .int v8)] → k50 v2 v4 v5 v7 v8 t_minor = some RR → W p l e R s m args below meth c H locs 0 0 Q (F0 m 50 ls [])) : ∀ (v2 : Int64) (v4 : Int32) (v5 : Int64) (v7 : Int32) (v8 : Int32) (t_minor : Nat → Nat → Int64) (H : Heap) (locs : List Loc) (ls : Array Slot), va_P D CL (wa [(q_t, .inr (5, [.ref q_t_groupOf, .ref q_t_links, .ref q_t_rows, .ref q_t_minor])), (q_t_minor, .inl (cG, 10, .inr (.inr (.inr (.inr (fun i => some (ra_t_minor i)))))))] (wa (gsL 10 10 cJ ra_t_minor t_minor) [])) H → va_D A (wa [(q_t, .inr (5, [.ref q_t_groupOf, .ref q_t_links, .ref q_t_rows, .ref q_t_minor])), (q_t_minor, .inl (cG, 10, .inr (.inr (.inr (.inr (fun i => some (ra_t_minor i)))))))] (wa (gsL 10 10 cJ ra_t_minor t_minor) [])) → va_S A s.heap H locs → lv_has ls 9 [(0, .ref q_t), (1, .int p1), (2, .long v2), (4, .int v4), (5, .long v5), (7, .int v7), (8, .int v8)] → g_TreeCount_determinant_50 p1 k5 k38 k50 v2 v4 v5 v7 v8 t_minor = some RR → W p l e R s m args below meth c H locs 0 0 Q (F0 m 50 ls []) := by
  intro v2 v4 v5 v7 v8 t_minor H locs ls hP hD hS hl hf
  obtain ⟨hx, hb, hml, hown, hts, hK, hA, hfr, hlo, hlk⟩ := id C0
  unfold g_TreeCount_determinant_50 at hf
  refine lv_iload hx hb d_TreeCount_determinant_50 (lv_at hl 6 rfl) ?_
  refine lv_iload_n hx hb d_TreeCount_determinant_52 rfl (lv_at hl 1 rfl) ?_
  refine lv_icmp_ge (tgt := 109) hx hb d_TreeCount_determinant_53 (by decide) (fun hc1 => ?_) (fun hc1 => ?_)
  · have hf := if_t hc1 hf
    obtain ⟨x1, ex1⟩ : ∃ y : Int32, y = v7 + (1 : Int32) := ⟨_, rfl⟩
    have hf := bn_e ex1 hf
    refine lv_iinc (v := x1) (lv' := [(7, .int x1), (0, .ref q_t), (1, .int p1), (2, .long v2), (4, .int v4), (5, .long v5), (8, .int v8)]) hx hb d_TreeCount_determinant_109 hl (k := 5) rfl (by rw [ex1]; rfl) (by decide) rfl (fun ls hl => ?_)
    refine lv_goto (tgt := 38) hx hb d_TreeCount_determinant_112 (by decide) ?_
    exact hk38 v2 v4 v5 x1 t_minor _ _ _ hP hD hS (lv_sub hl [1, 2, 3, 4, 5, 0] rfl) hf
  · have hf := if_f hc1 hf
    refine lv_aload_n hx hb d_TreeCount_determinant_56 rfl (lv_at hl 0 rfl) ?_
    refine va_get (D := D) (ci := 5) (v := .ref q_t_minor) (C := R_TreeCount) (T := F_TreeCount) (N := 4) hx hb hts i_TreeCount hown hK hP 0 rfl rfl 3 (by decide) (hts _ m_1_119) (fun _ h9 => h9) rfl d_TreeCount_determinant_57 ?_
    refine lv_iload hx hb d_TreeCount_determinant_60 (lv_at hl 5 rfl) ?_
    obtain ⟨hg1, hf⟩ := gd_e hf
    refine ga_ld hx hb hK hP 1 2 rfl rfl (inb_e hg1) d_TreeCount_determinant_62 ?_
    refine lv_iload hx hb d_TreeCount_determinant_63 (lv_at hl 6 rfl) ?_
    refine lv_aload_n hx hb d_TreeCount_determinant_65 rfl (lv_at hl 0 rfl) ?_
    refine va_get (D := D) (ci := 5) (v := .ref q_t_minor) (C := R_TreeCount) (T := F_TreeCount) (N := 4) hx hb hts i_TreeCount hown hK hP 0 rfl rfl 3 (by decide) (hts _ m_1_119) (fun _ h9 => h9) rfl d_TreeCount_determinant_66 ?_
    refine lv_iload hx hb d_TreeCount_determinant_69 (lv_at hl 5 rfl) ?_
    obtain ⟨hg2, hf⟩ := gd_e hf
    refine ga_ld hx hb hK hP 1 2 rfl rfl (inb_e hg2) d_TreeCount_determinant_71 ?_
    refine lv_iload hx hb d_TreeCount_determinant_72 (lv_at hl 6 rfl) ?_
    obtain ⟨hg3, hf⟩ := gd_e hf
    refine va_lald hx hb hK hP (2 + v7.toNatClampNeg) 1 (gg0 rfl (inb_lt hg2)) rfl (inb_e hg3) d_TreeCount_determinant_74 ?_
    refine lv_lload hx hb d_TreeCount_determinant_75 (lv_at hl 4 rfl) ?_
    refine lv_lmul hx hb d_TreeCount_determinant_77 ?_
    refine lv_aload_n hx hb d_TreeCount_determinant_78 rfl (lv_at hl 0 rfl) ?_
    refine va_get (D := D) (ci := 5) (v := .ref q_t_minor) (C := R_TreeCount) (T := F_TreeCount) (N := 4) hx hb hts i_TreeCount hown hK hP 0 rfl rfl 3 (by decide) (hts _ m_1_119) (fun _ h9 => h9) rfl d_TreeCount_determinant_79 ?_
    refine lv_iload hx hb d_TreeCount_determinant_82 (lv_at hl 5 rfl) ?_
    obtain ⟨hg4, hf⟩ := gd_e hf
    refine ga_ld hx hb hK hP 1 2 rfl rfl (inb_e hg4) d_TreeCount_determinant_84 ?_
    refine lv_iload hx hb d_TreeCount_determinant_85 (lv_at hl 3 rfl) ?_
    obtain ⟨hg5, hf⟩ := gd_e hf
    refine va_lald hx hb hK hP (2 + v7.toNatClampNeg) 1 (gg0 rfl (inb_lt hg4)) rfl (inb_e hg5) d_TreeCount_determinant_87 ?_
    refine lv_aload_n hx hb d_TreeCount_determinant_88 rfl (lv_at hl 0 rfl) ?_
    refine va_get (D := D) (ci := 5) (v := .ref q_t_minor) (C := R_TreeCount) (T := F_TreeCount) (N := 4) hx hb hts i_TreeCount hown hK hP 0 rfl rfl 3 (by decide) (hts _ m_1_119) (fun _ h9 => h9) rfl d_TreeCount_determinant_89 ?_
    refine lv_iload hx hb d_TreeCount_determinant_92 (lv_at hl 3 rfl) ?_
    obtain ⟨hg6, hf⟩ := gd_e hf
    refine ga_ld hx hb hK hP 1 2 rfl rfl (inb_e hg6) d_TreeCount_determinant_94 ?_
    refine lv_iload hx hb d_TreeCount_determinant_95 (lv_at hl 6 rfl) ?_
    obtain ⟨hg7, hf⟩ := gd_e hf
    refine va_lald hx hb hK hP (2 + v4.toNatClampNeg) 1 (gg0 rfl (inb_lt hg6)) rfl (inb_e hg7) d_TreeCount_determinant_97 ?_
    refine lv_lmul hx hb d_TreeCount_determinant_98 ?_
    refine lv_lsub hx hb d_TreeCount_determinant_99 ?_
    refine lv_lload_n hx hb d_TreeCount_determinant_100 rfl (lv_at hl 2 rfl) ?_
    obtain ⟨hg8, hf⟩ := gd_e hf
    refine lv_ldiv hx hb d_TreeCount_determinant_101 (nz_eL hg8) ?_
    obtain ⟨hg9, hf⟩ := gd_e hf
    refine va_last hx hb hK hP hD hS (2 + v7.toNatClampNeg) 1 (gg0 rfl (inb_lt hg4)) rfl (inb_e hg9) d_TreeCount_determinant_102 (fun H locs hP hD hS => ?_)
    have hW9 : List.set (wa [(q_t, .inr (5, [.ref q_t_groupOf, .ref q_t_links, .ref q_t_rows, .ref q_t_minor])), (q_t_minor, .inl (cG, 10, .inr (.inr (.inr (.inr (fun i => some (ra_t_minor i)))))))] (wa (gsL 10 10 cJ ra_t_minor t_minor) [])) (2 + v7.toNatClampNeg) (ra_t_minor v7.toNatClampNeg, .inl (cJ, 10, .inr (.inl (vp_updL (t_minor v7.toNatClampNeg) v8.toNatClampNeg ((((t_minor v7.toNatClampNeg v8.toNatClampNeg) * v5) - ((t_minor v7.toNatClampNeg v4.toNatClampNeg) * (t_minor v4.toNatClampNeg v8.toNatClampNeg))) / v2))))) = (wa [(q_t, .inr (5, [.ref q_t_groupOf, .ref q_t_links, .ref q_t_rows, .ref q_t_minor])), (q_t_minor, .inl (cG, 10, .inr (.inr (.inr (.inr (fun i => some (ra_t_minor i)))))))] (wa (gsL 10 10 cJ ra_t_minor (upGL t_minor v7.toNatClampNeg v8.toNatClampNeg ((((t_minor v7.toNatClampNeg v8.toNatClampNeg) * v5) - ((t_minor v7.toNatClampNeg v4.toNatClampNeg) * (t_minor v4.toNatClampNeg v8.toNatClampNeg))) / v2))) [])) := gt0 rfl (inb_lt hg4)
    rw [hW9] at hP hD
    obtain ⟨x2, ex2⟩ : ∃ y : Int32, y = v8 + (1 : Int32) := ⟨_, rfl⟩
    have hf := bn_e ex2 hf
    refine lv_iinc (v := x2) (lv' := [(8, .int x2), (0, .ref q_t), (1, .int p1), (2, .long v2), (4, .int v4), (5, .long v5), (7, .int v7)]) hx hb d_TreeCount_determinant_103 hl (k := 6) rfl (by rw [ex2]; rfl) (by decide) rfl (fun ls hl => ?_)
    refine lv_goto (tgt := 50) hx hb d_TreeCount_determinant_106 (by decide) ?_
    exact hk50 v2 v4 v5 v7 x2 (upGL t_minor v7.toNatClampNeg v8.toNatClampNeg ((((t_minor v7.toNatClampNeg v8.toNatClampNeg) * v5) - ((t_minor v7.toNatClampNeg v4.toNatClampNeg) * (t_minor v4.toNatClampNeg v8.toNatClampNeg))) / v2)) _ _ _ hP hD hS (lv_sub hl [1, 2, 3, 4, 5, 6, 0] rfl) hf
set_option maxRecDepth 100000 in
set_option maxHeartbeats 4000000 in
theorem w_TreeCount_determinant_50_l {p : Program} {l : Launch} {e : Env} {R : Room} {s : State} {m : MethodId} {args : Array Value} {below : List Frame} {meth : Method} {c : Code} {D : va_G} {cI cJ cG cZ : ClassId} {A : Nat → Prop} {Q : State → Prop} {q_t q_t_groupOf q_t_links q_t_rows q_t_minor : Nat} {ra_t_minor : Nat → Nat} {p1 : Int32} {RR : Int64 × (Nat → Nat → Int64)} (C0 : CX p R s m args meth c b_TreeCount_determinant 9 R_TreeCount lw_g D CL (TYs cI cJ cG cZ) A 0 0) (hret : ∀ (pc : Nat) (ls : Array Slot) (H : Heap) (locs : List Loc) (v : Int64) (t_minor : Nat → Nat → Int64), decode b_TreeCount_determinant pc = .ok (.lreturn, 1) → va_P D CL (wa [(q_t, .inr (5, [.ref q_t_groupOf, .ref q_t_links, .ref q_t_rows, .ref q_t_minor])), (q_t_minor, .inl (cG, 10, .inr (.inr (.inr (.inr (fun i => some (ra_t_minor i)))))))] (wa (gsL 10 10 cJ ra_t_minor t_minor) [])) H → va_D A (wa [(q_t, .inr (5, [.ref q_t_groupOf, .ref q_t_links, .ref q_t_rows, .ref q_t_minor])), (q_t_minor, .inl (cG, 10, .inr (.inr (.inr (.inr (fun i => some (ra_t_minor i)))))))] (wa (gsL 10 10 cJ ra_t_minor t_minor) [])) → va_S A s.heap H locs → some (v, t_minor) = some RR → W p l e R s m args below meth c H locs 0 0 Q (F0 m pc ls [.long v])) (k5 : Int64 → Int32 → (Nat → Nat → Int64) → Option (Int64 × (Nat → Nat → Int64))) (hk5 : ∀ (v2 : Int64) (v4 : Int32) (t_minor : Nat → Nat → Int64) (H : Heap) (locs : List Loc) (ls : Array Slot), va_P D CL (wa [(q_t, .inr (5, [.ref q_t_groupOf, .ref q_t_links, .ref q_t_rows, .ref q_t_minor])), (q_t_minor, .inl (cG, 10, .inr (.inr (.inr (.inr (fun i => some (ra_t_minor i)))))))] (wa (gsL 10 10 cJ ra_t_minor t_minor) [])) H → va_D A (wa [(q_t, .inr (5, [.ref q_t_groupOf, .ref q_t_links, .ref q_t_rows, .ref q_t_minor])), (q_t_minor, .inl (cG, 10, .inr (.inr (.inr (.inr (fun i => some (ra_t_minor i)))))))] (wa (gsL 10 10 cJ ra_t_minor t_minor) [])) → va_S A s.heap H locs → lv_has ls 9 [(0, .ref q_t), (1, .int p1), (2, .long v2), (4, .int v4)] → k5 v2 v4 t_minor = some RR → W p l e R s m args below meth c H locs 0 0 Q (F0 m 5 ls [])) (k38 : Int64 → Int32 → Int64 → Int32 → (Nat → Nat → Int64) → Option (Int64 × (Nat → Nat → Int64))) (hk38 : ∀ (v2 : Int64) (v4 : Int32) (v5 : Int64) (v7 : Int32) (t_minor : Nat → Nat → Int64) (H : Heap) (locs : List Loc) (ls : Array Slot), va_P D CL (wa [(q_t, .inr (5, [.ref q_t_groupOf, .ref q_t_links, .ref q_t_rows, .ref q_t_minor])), (q_t_minor, .inl (cG, 10, .inr (.inr (.inr (.inr (fun i => some (ra_t_minor i)))))))] (wa (gsL 10 10 cJ ra_t_minor t_minor) [])) H → va_D A (wa [(q_t, .inr (5, [.ref q_t_groupOf, .ref q_t_links, .ref q_t_rows, .ref q_t_minor])), (q_t_minor, .inl (cG, 10, .inr (.inr (.inr (.inr (fun i => some (ra_t_minor i)))))))] (wa (gsL 10 10 cJ ra_t_minor t_minor) [])) → va_S A s.heap H locs → lv_has ls 9 [(0, .ref q_t), (1, .int p1), (2, .long v2), (4, .int v4), (5, .long v5), (7, .int v7)] → k38 v2 v4 v5 v7 t_minor = some RR → W p l e R s m args below meth c H locs 0 0 Q (F0 m 38 ls [])) : ∀ (n : Nat) (v2 : Int64) (v4 : Int32) (v5 : Int64) (v7 : Int32) (v8 : Int32) (t_minor : Nat → Nat → Int64) (H : Heap) (locs : List Loc) (ls : Array Slot), va_P D CL (wa [(q_t, .inr (5, [.ref q_t_groupOf, .ref q_t_links, .ref q_t_rows, .ref q_t_minor])), (q_t_minor, .inl (cG, 10, .inr (.inr (.inr (.inr (fun i => some (ra_t_minor i)))))))] (wa (gsL 10 10 cJ ra_t_minor t_minor) [])) H → va_D A (wa [(q_t, .inr (5, [.ref q_t_groupOf, .ref q_t_links, .ref q_t_rows, .ref q_t_minor])), (q_t_minor, .inl (cG, 10, .inr (.inr (.inr (.inr (fun i => some (ra_t_minor i)))))))] (wa (gsL 10 10 cJ ra_t_minor t_minor) [])) → va_S A s.heap H locs → lv_has ls 9 [(0, .ref q_t), (1, .int p1), (2, .long v2), (4, .int v4), (5, .long v5), (7, .int v7), (8, .int v8)] → lo6 (g_TreeCount_determinant_50 p1 k5 k38) n v2 v4 v5 v7 v8 t_minor = some RR → W p l e R s m args below meth c H locs 0 0 Q (F0 m 50 ls []) := by
  intro n
  induction n with
  | zero =>
    intro v2 v4 v5 v7 v8 t_minor H locs ls hP hD hS hl hf
    exact absurd hf (by simp [lo6])
  | succ n ih =>
    intro v2 v4 v5 v7 v8 t_minor H locs ls hP hD hS hl hf
    exact w_TreeCount_determinant_50 C0 hret k5 hk5 k38 hk38 (lo6 (g_TreeCount_determinant_50 p1 k5 k38) n) ih v2 v4 v5 v7 v8 t_minor H locs ls hP hD hS hl hf
set_option maxRecDepth 100000 in
set_option maxHeartbeats 4000000 in
theorem w_TreeCount_determinant_38 {p : Program} {l : Launch} {e : Env} {R : Room} {s : State} {m : MethodId} {args : Array Value} {below : List Frame} {meth : Method} {c : Code} {D : va_G} {cI cJ cG cZ : ClassId} {A : Nat → Prop} {Q : State → Prop} {q_t q_t_groupOf q_t_links q_t_rows q_t_minor : Nat} {ra_t_minor : Nat → Nat} {p1 : Int32} {N : Nat} {RR : Int64 × (Nat → Nat → Int64)} (C0 : CX p R s m args meth c b_TreeCount_determinant 9 R_TreeCount lw_g D CL (TYs cI cJ cG cZ) A 0 0) (hret : ∀ (pc : Nat) (ls : Array Slot) (H : Heap) (locs : List Loc) (v : Int64) (t_minor : Nat → Nat → Int64), decode b_TreeCount_determinant pc = .ok (.lreturn, 1) → va_P D CL (wa [(q_t, .inr (5, [.ref q_t_groupOf, .ref q_t_links, .ref q_t_rows, .ref q_t_minor])), (q_t_minor, .inl (cG, 10, .inr (.inr (.inr (.inr (fun i => some (ra_t_minor i)))))))] (wa (gsL 10 10 cJ ra_t_minor t_minor) [])) H → va_D A (wa [(q_t, .inr (5, [.ref q_t_groupOf, .ref q_t_links, .ref q_t_rows, .ref q_t_minor])), (q_t_minor, .inl (cG, 10, .inr (.inr (.inr (.inr (fun i => some (ra_t_minor i)))))))] (wa (gsL 10 10 cJ ra_t_minor t_minor) [])) → va_S A s.heap H locs → some (v, t_minor) = some RR → W p l e R s m args below meth c H locs 0 0 Q (F0 m pc ls [.long v])) (k5 : Int64 → Int32 → (Nat → Nat → Int64) → Option (Int64 × (Nat → Nat → Int64))) (hk5 : ∀ (v2 : Int64) (v4 : Int32) (t_minor : Nat → Nat → Int64) (H : Heap) (locs : List Loc) (ls : Array Slot), va_P D CL (wa [(q_t, .inr (5, [.ref q_t_groupOf, .ref q_t_links, .ref q_t_rows, .ref q_t_minor])), (q_t_minor, .inl (cG, 10, .inr (.inr (.inr (.inr (fun i => some (ra_t_minor i)))))))] (wa (gsL 10 10 cJ ra_t_minor t_minor) [])) H → va_D A (wa [(q_t, .inr (5, [.ref q_t_groupOf, .ref q_t_links, .ref q_t_rows, .ref q_t_minor])), (q_t_minor, .inl (cG, 10, .inr (.inr (.inr (.inr (fun i => some (ra_t_minor i)))))))] (wa (gsL 10 10 cJ ra_t_minor t_minor) [])) → va_S A s.heap H locs → lv_has ls 9 [(0, .ref q_t), (1, .int p1), (2, .long v2), (4, .int v4)] → k5 v2 v4 t_minor = some RR → W p l e R s m args below meth c H locs 0 0 Q (F0 m 5 ls [])) (k38 : Int64 → Int32 → Int64 → Int32 → (Nat → Nat → Int64) → Option (Int64 × (Nat → Nat → Int64))) (hk38 : ∀ (v2 : Int64) (v4 : Int32) (v5 : Int64) (v7 : Int32) (t_minor : Nat → Nat → Int64) (H : Heap) (locs : List Loc) (ls : Array Slot), va_P D CL (wa [(q_t, .inr (5, [.ref q_t_groupOf, .ref q_t_links, .ref q_t_rows, .ref q_t_minor])), (q_t_minor, .inl (cG, 10, .inr (.inr (.inr (.inr (fun i => some (ra_t_minor i)))))))] (wa (gsL 10 10 cJ ra_t_minor t_minor) [])) H → va_D A (wa [(q_t, .inr (5, [.ref q_t_groupOf, .ref q_t_links, .ref q_t_rows, .ref q_t_minor])), (q_t_minor, .inl (cG, 10, .inr (.inr (.inr (.inr (fun i => some (ra_t_minor i)))))))] (wa (gsL 10 10 cJ ra_t_minor t_minor) [])) → va_S A s.heap H locs → lv_has ls 9 [(0, .ref q_t), (1, .int p1), (2, .long v2), (4, .int v4), (5, .long v5), (7, .int v7)] → k38 v2 v4 v5 v7 t_minor = some RR → W p l e R s m args below meth c H locs 0 0 Q (F0 m 38 ls [])) : ∀ (v2 : Int64) (v4 : Int32) (v5 : Int64) (v7 : Int32) (t_minor : Nat → Nat → Int64) (H : Heap) (locs : List Loc) (ls : Array Slot), va_P D CL (wa [(q_t, .inr (5, [.ref q_t_groupOf, .ref q_t_links, .ref q_t_rows, .ref q_t_minor])), (q_t_minor, .inl (cG, 10, .inr (.inr (.inr (.inr (fun i => some (ra_t_minor i)))))))] (wa (gsL 10 10 cJ ra_t_minor t_minor) [])) H → va_D A (wa [(q_t, .inr (5, [.ref q_t_groupOf, .ref q_t_links, .ref q_t_rows, .ref q_t_minor])), (q_t_minor, .inl (cG, 10, .inr (.inr (.inr (.inr (fun i => some (ra_t_minor i)))))))] (wa (gsL 10 10 cJ ra_t_minor t_minor) [])) → va_S A s.heap H locs → lv_has ls 9 [(0, .ref q_t), (1, .int p1), (2, .long v2), (4, .int v4), (5, .long v5), (7, .int v7)] → g_TreeCount_determinant_38 N p1 k5 k38 v2 v4 v5 v7 t_minor = some RR → W p l e R s m args below meth c H locs 0 0 Q (F0 m 38 ls []) := by
  intro v2 v4 v5 v7 t_minor H locs ls hP hD hS hl hf
  obtain ⟨hx, hb, hml, hown, hts, hK, hA, hfr, hlo, hlk⟩ := id C0
  unfold g_TreeCount_determinant_38 at hf
  refine lv_iload hx hb d_TreeCount_determinant_38 (lv_at hl 5 rfl) ?_
  refine lv_iload_n hx hb d_TreeCount_determinant_40 rfl (lv_at hl 1 rfl) ?_
  refine lv_icmp_ge (tgt := 115) hx hb d_TreeCount_determinant_41 (by decide) (fun hc1 => ?_) (fun hc1 => ?_)
  · have hf := if_t hc1 hf
    refine lv_lload hx hb d_TreeCount_determinant_115 (lv_at hl 4 rfl) ?_
    refine lv_lstore_n (lv' := [(2, .long v5), (0, .ref q_t), (1, .int p1), (4, .int v4), (5, .long v5), (7, .int v7)]) hx hb d_TreeCount_determinant_117 rfl hl (by decide) rfl (fun ls hl => ?_)
    obtain ⟨x1, ex1⟩ : ∃ y : Int32, y = v4 + (1 : Int32) := ⟨_, rfl⟩
    have hf := bn_e ex1 hf
    refine lv_iinc (v := x1) (lv' := [(4, .int x1), (2, .long v5), (0, .ref q_t), (1, .int p1), (5, .long v5), (7, .int v7)]) hx hb d_TreeCount_determinant_118 hl (k := 3) rfl (by rw [ex1]; rfl) (by decide) rfl (fun ls hl => ?_)
    refine lv_goto (tgt := 5) hx hb d_TreeCount_determinant_121 (by decide) ?_
    exact hk5 v5 x1 t_minor _ _ _ hP hD hS (lv_sub hl [2, 3, 1, 0] rfl) hf
  · have hf := if_f hc1 hf
    refine lv_iload hx hb d_TreeCount_determinant_44 (lv_at hl 3 rfl) ?_
    refine lv_iconst (v := 1) hx hb d_TreeCount_determinant_46 (by decide) ?_
    refine lv_iadd hx hb d_TreeCount_determinant_47 ?_
    refine lv_topi (fun x2 ex2 => ?_)
    have hf := bn_e ex2 hf
    refine lv_istore (lv' := [(8, .int x2), (0, .ref q_t), (1, .int p1), (2, .long v2), (4, .int v4), (5, .long v5), (7, .int v7)]) hx hb d_TreeCount_determinant_48 hl (by decide) rfl (fun ls hl => ?_)
    exact w_TreeCount_determinant_50_l C0 hret k5 hk5 k38 hk38 N v2 v4 v5 v7 x2 t_minor _ _ _ hP hD hS (lv_sub hl [1, 2, 3, 4, 5, 6, 0] rfl) hf
set_option maxRecDepth 100000 in
set_option maxHeartbeats 4000000 in
theorem w_TreeCount_determinant_38_l {p : Program} {l : Launch} {e : Env} {R : Room} {s : State} {m : MethodId} {args : Array Value} {below : List Frame} {meth : Method} {c : Code} {D : va_G} {cI cJ cG cZ : ClassId} {A : Nat → Prop} {Q : State → Prop} {q_t q_t_groupOf q_t_links q_t_rows q_t_minor : Nat} {ra_t_minor : Nat → Nat} {p1 : Int32} {N : Nat} {RR : Int64 × (Nat → Nat → Int64)} (C0 : CX p R s m args meth c b_TreeCount_determinant 9 R_TreeCount lw_g D CL (TYs cI cJ cG cZ) A 0 0) (hret : ∀ (pc : Nat) (ls : Array Slot) (H : Heap) (locs : List Loc) (v : Int64) (t_minor : Nat → Nat → Int64), decode b_TreeCount_determinant pc = .ok (.lreturn, 1) → va_P D CL (wa [(q_t, .inr (5, [.ref q_t_groupOf, .ref q_t_links, .ref q_t_rows, .ref q_t_minor])), (q_t_minor, .inl (cG, 10, .inr (.inr (.inr (.inr (fun i => some (ra_t_minor i)))))))] (wa (gsL 10 10 cJ ra_t_minor t_minor) [])) H → va_D A (wa [(q_t, .inr (5, [.ref q_t_groupOf, .ref q_t_links, .ref q_t_rows, .ref q_t_minor])), (q_t_minor, .inl (cG, 10, .inr (.inr (.inr (.inr (fun i => some (ra_t_minor i)))))))] (wa (gsL 10 10 cJ ra_t_minor t_minor) [])) → va_S A s.heap H locs → some (v, t_minor) = some RR → W p l e R s m args below meth c H locs 0 0 Q (F0 m pc ls [.long v])) (k5 : Int64 → Int32 → (Nat → Nat → Int64) → Option (Int64 × (Nat → Nat → Int64))) (hk5 : ∀ (v2 : Int64) (v4 : Int32) (t_minor : Nat → Nat → Int64) (H : Heap) (locs : List Loc) (ls : Array Slot), va_P D CL (wa [(q_t, .inr (5, [.ref q_t_groupOf, .ref q_t_links, .ref q_t_rows, .ref q_t_minor])), (q_t_minor, .inl (cG, 10, .inr (.inr (.inr (.inr (fun i => some (ra_t_minor i)))))))] (wa (gsL 10 10 cJ ra_t_minor t_minor) [])) H → va_D A (wa [(q_t, .inr (5, [.ref q_t_groupOf, .ref q_t_links, .ref q_t_rows, .ref q_t_minor])), (q_t_minor, .inl (cG, 10, .inr (.inr (.inr (.inr (fun i => some (ra_t_minor i)))))))] (wa (gsL 10 10 cJ ra_t_minor t_minor) [])) → va_S A s.heap H locs → lv_has ls 9 [(0, .ref q_t), (1, .int p1), (2, .long v2), (4, .int v4)] → k5 v2 v4 t_minor = some RR → W p l e R s m args below meth c H locs 0 0 Q (F0 m 5 ls [])) : ∀ (n : Nat) (v2 : Int64) (v4 : Int32) (v5 : Int64) (v7 : Int32) (t_minor : Nat → Nat → Int64) (H : Heap) (locs : List Loc) (ls : Array Slot), va_P D CL (wa [(q_t, .inr (5, [.ref q_t_groupOf, .ref q_t_links, .ref q_t_rows, .ref q_t_minor])), (q_t_minor, .inl (cG, 10, .inr (.inr (.inr (.inr (fun i => some (ra_t_minor i)))))))] (wa (gsL 10 10 cJ ra_t_minor t_minor) [])) H → va_D A (wa [(q_t, .inr (5, [.ref q_t_groupOf, .ref q_t_links, .ref q_t_rows, .ref q_t_minor])), (q_t_minor, .inl (cG, 10, .inr (.inr (.inr (.inr (fun i => some (ra_t_minor i)))))))] (wa (gsL 10 10 cJ ra_t_minor t_minor) [])) → va_S A s.heap H locs → lv_has ls 9 [(0, .ref q_t), (1, .int p1), (2, .long v2), (4, .int v4), (5, .long v5), (7, .int v7)] → lo5 (g_TreeCount_determinant_38 N p1 k5) n v2 v4 v5 v7 t_minor = some RR → W p l e R s m args below meth c H locs 0 0 Q (F0 m 38 ls []) := by
  intro n
  induction n with
  | zero =>
    intro v2 v4 v5 v7 t_minor H locs ls hP hD hS hl hf
    exact absurd hf (by simp [lo5])
  | succ n ih =>
    intro v2 v4 v5 v7 t_minor H locs ls hP hD hS hl hf
    exact w_TreeCount_determinant_38 C0 hret k5 hk5 (lo5 (g_TreeCount_determinant_38 N p1 k5) n) ih v2 v4 v5 v7 t_minor H locs ls hP hD hS hl hf
set_option maxRecDepth 100000 in
set_option maxHeartbeats 4000000 in
theorem w_TreeCount_determinant_5 {p : Program} {l : Launch} {e : Env} {R : Room} {s : State} {m : MethodId} {args : Array Value} {below : List Frame} {meth : Method} {c : Code} {D : va_G} {cI cJ cG cZ : ClassId} {A : Nat → Prop} {Q : State → Prop} {q_t q_t_groupOf q_t_links q_t_rows q_t_minor : Nat} {ra_t_minor : Nat → Nat} {p1 : Int32} {N : Nat} {RR : Int64 × (Nat → Nat → Int64)} (C0 : CX p R s m args meth c b_TreeCount_determinant 9 R_TreeCount lw_g D CL (TYs cI cJ cG cZ) A 0 0) (hret : ∀ (pc : Nat) (ls : Array Slot) (H : Heap) (locs : List Loc) (v : Int64) (t_minor : Nat → Nat → Int64), decode b_TreeCount_determinant pc = .ok (.lreturn, 1) → va_P D CL (wa [(q_t, .inr (5, [.ref q_t_groupOf, .ref q_t_links, .ref q_t_rows, .ref q_t_minor])), (q_t_minor, .inl (cG, 10, .inr (.inr (.inr (.inr (fun i => some (ra_t_minor i)))))))] (wa (gsL 10 10 cJ ra_t_minor t_minor) [])) H → va_D A (wa [(q_t, .inr (5, [.ref q_t_groupOf, .ref q_t_links, .ref q_t_rows, .ref q_t_minor])), (q_t_minor, .inl (cG, 10, .inr (.inr (.inr (.inr (fun i => some (ra_t_minor i)))))))] (wa (gsL 10 10 cJ ra_t_minor t_minor) [])) → va_S A s.heap H locs → some (v, t_minor) = some RR → W p l e R s m args below meth c H locs 0 0 Q (F0 m pc ls [.long v])) (k5 : Int64 → Int32 → (Nat → Nat → Int64) → Option (Int64 × (Nat → Nat → Int64))) (hk5 : ∀ (v2 : Int64) (v4 : Int32) (t_minor : Nat → Nat → Int64) (H : Heap) (locs : List Loc) (ls : Array Slot), va_P D CL (wa [(q_t, .inr (5, [.ref q_t_groupOf, .ref q_t_links, .ref q_t_rows, .ref q_t_minor])), (q_t_minor, .inl (cG, 10, .inr (.inr (.inr (.inr (fun i => some (ra_t_minor i)))))))] (wa (gsL 10 10 cJ ra_t_minor t_minor) [])) H → va_D A (wa [(q_t, .inr (5, [.ref q_t_groupOf, .ref q_t_links, .ref q_t_rows, .ref q_t_minor])), (q_t_minor, .inl (cG, 10, .inr (.inr (.inr (.inr (fun i => some (ra_t_minor i)))))))] (wa (gsL 10 10 cJ ra_t_minor t_minor) [])) → va_S A s.heap H locs → lv_has ls 9 [(0, .ref q_t), (1, .int p1), (2, .long v2), (4, .int v4)] → k5 v2 v4 t_minor = some RR → W p l e R s m args below meth c H locs 0 0 Q (F0 m 5 ls [])) : ∀ (v2 : Int64) (v4 : Int32) (t_minor : Nat → Nat → Int64) (H : Heap) (locs : List Loc) (ls : Array Slot), va_P D CL (wa [(q_t, .inr (5, [.ref q_t_groupOf, .ref q_t_links, .ref q_t_rows, .ref q_t_minor])), (q_t_minor, .inl (cG, 10, .inr (.inr (.inr (.inr (fun i => some (ra_t_minor i)))))))] (wa (gsL 10 10 cJ ra_t_minor t_minor) [])) H → va_D A (wa [(q_t, .inr (5, [.ref q_t_groupOf, .ref q_t_links, .ref q_t_rows, .ref q_t_minor])), (q_t_minor, .inl (cG, 10, .inr (.inr (.inr (.inr (fun i => some (ra_t_minor i)))))))] (wa (gsL 10 10 cJ ra_t_minor t_minor) [])) → va_S A s.heap H locs → lv_has ls 9 [(0, .ref q_t), (1, .int p1), (2, .long v2), (4, .int v4)] → g_TreeCount_determinant_5 N p1 k5 v2 v4 t_minor = some RR → W p l e R s m args below meth c H locs 0 0 Q (F0 m 5 ls []) := by
  intro v2 v4 t_minor H locs ls hP hD hS hl hf
  obtain ⟨hx, hb, hml, hown, hts, hK, hA, hfr, hlo, hlk⟩ := id C0
  unfold g_TreeCount_determinant_5 at hf
  refine lv_iload hx hb d_TreeCount_determinant_5 (lv_at hl 3 rfl) ?_
  refine lv_iload_n hx hb d_TreeCount_determinant_7 rfl (lv_at hl 1 rfl) ?_
  refine lv_icmp_ge (tgt := 124) hx hb d_TreeCount_determinant_8 (by decide) (fun hc1 => ?_) (fun hc1 => ?_)
  · have hf := if_t hc1 hf
    refine lv_lload_n hx hb d_TreeCount_determinant_124 rfl (lv_at hl 2 rfl) ?_
    exact hret 125 _ _ _ v2 t_minor d_TreeCount_determinant_125 hP hD hS hf
  · have hf := if_f hc1 hf
    refine lv_aload_n hx hb d_TreeCount_determinant_11 rfl (lv_at hl 0 rfl) ?_
    refine va_get (D := D) (ci := 5) (v := .ref q_t_minor) (C := R_TreeCount) (T := F_TreeCount) (N := 4) hx hb hts i_TreeCount hown hK hP 0 rfl rfl 3 (by decide) (hts _ m_1_119) (fun _ h9 => h9) rfl d_TreeCount_determinant_12 ?_
    refine lv_iload hx hb d_TreeCount_determinant_15 (lv_at hl 3 rfl) ?_
    obtain ⟨hg1, hf⟩ := gd_e hf
    refine ga_ld hx hb hK hP 1 2 rfl rfl (inb_e hg1) d_TreeCount_determinant_17 ?_
    refine lv_iload hx hb d_TreeCount_determinant_18 (lv_at hl 3 rfl) ?_
    obtain ⟨hg2, hf⟩ := gd_e hf
    refine va_lald hx hb hK hP (2 + v4.toNatClampNeg) 1 (gg0 rfl (inb_lt hg1)) rfl (inb_e hg2) d_TreeCount_determinant_20 ?_
    refine lv_topl (fun x1 ex1 => ?_)
    have hf := bn_e ex1 hf
    refine lv_lstore (lv' := [(5, .long x1), (0, .ref q_t), (1, .int p1), (2, .long v2), (4, .int v4)]) hx hb d_TreeCount_determinant_21 hl (by decide) rfl (fun ls hl => ?_)
    refine lv_lload hx hb d_TreeCount_determinant_23 (lv_at hl 0 rfl) ?_
    refine lv_lconst (v := 0) hx hb d_TreeCount_determinant_25 (by decide) ?_
    refine W.lcmp hx hb d_TreeCount_determinant_26 ?_
    refine lv_if_ne (tgt := 32) hx hb d_TreeCount_determinant_27 (by decide) (fun hc2 => ?_) (fun hc2 => ?_)
    · have hf := if_f hc2 hf
      refine lv_iload hx hb d_TreeCount_determinant_32 (lv_at hl 4 rfl) ?_
      refine lv_iconst (v := 1) hx hb d_TreeCount_determinant_34 (by decide) ?_
      refine lv_iadd hx hb d_TreeCount_determinant_35 ?_
      refine lv_topi (fun x2 ex2 => ?_)
      have hf := bn_e ex2 hf
      refine lv_istore (lv' := [(7, .int x2), (5, .long x1), (0, .ref q_t), (1, .int p1), (2, .long v2), (4, .int v4)]) hx hb d_TreeCount_determinant_36 hl (by decide) rfl (fun ls hl => ?_)
      exact w_TreeCount_determinant_38_l C0 hret k5 hk5 N v2 v4 x1 x2 t_minor _ _ _ hP hD hS (lv_sub hl [2, 3, 4, 5, 1, 0] rfl) hf
    · have hf := if_t hc2 hf
      refine lv_lconst (v := 0) hx hb d_TreeCount_determinant_30 (by decide) ?_
      exact hret 31 _ _ _ (0 : Int64) t_minor d_TreeCount_determinant_31 hP hD hS hf
set_option maxRecDepth 100000 in
set_option maxHeartbeats 4000000 in
theorem w_TreeCount_determinant_5_l {p : Program} {l : Launch} {e : Env} {R : Room} {s : State} {m : MethodId} {args : Array Value} {below : List Frame} {meth : Method} {c : Code} {D : va_G} {cI cJ cG cZ : ClassId} {A : Nat → Prop} {Q : State → Prop} {q_t q_t_groupOf q_t_links q_t_rows q_t_minor : Nat} {ra_t_minor : Nat → Nat} {p1 : Int32} {N : Nat} {RR : Int64 × (Nat → Nat → Int64)} (C0 : CX p R s m args meth c b_TreeCount_determinant 9 R_TreeCount lw_g D CL (TYs cI cJ cG cZ) A 0 0) (hret : ∀ (pc : Nat) (ls : Array Slot) (H : Heap) (locs : List Loc) (v : Int64) (t_minor : Nat → Nat → Int64), decode b_TreeCount_determinant pc = .ok (.lreturn, 1) → va_P D CL (wa [(q_t, .inr (5, [.ref q_t_groupOf, .ref q_t_links, .ref q_t_rows, .ref q_t_minor])), (q_t_minor, .inl (cG, 10, .inr (.inr (.inr (.inr (fun i => some (ra_t_minor i)))))))] (wa (gsL 10 10 cJ ra_t_minor t_minor) [])) H → va_D A (wa [(q_t, .inr (5, [.ref q_t_groupOf, .ref q_t_links, .ref q_t_rows, .ref q_t_minor])), (q_t_minor, .inl (cG, 10, .inr (.inr (.inr (.inr (fun i => some (ra_t_minor i)))))))] (wa (gsL 10 10 cJ ra_t_minor t_minor) [])) → va_S A s.heap H locs → some (v, t_minor) = some RR → W p l e R s m args below meth c H locs 0 0 Q (F0 m pc ls [.long v]))  : ∀ (n : Nat) (v2 : Int64) (v4 : Int32) (t_minor : Nat → Nat → Int64) (H : Heap) (locs : List Loc) (ls : Array Slot), va_P D CL (wa [(q_t, .inr (5, [.ref q_t_groupOf, .ref q_t_links, .ref q_t_rows, .ref q_t_minor])), (q_t_minor, .inl (cG, 10, .inr (.inr (.inr (.inr (fun i => some (ra_t_minor i)))))))] (wa (gsL 10 10 cJ ra_t_minor t_minor) [])) H → va_D A (wa [(q_t, .inr (5, [.ref q_t_groupOf, .ref q_t_links, .ref q_t_rows, .ref q_t_minor])), (q_t_minor, .inl (cG, 10, .inr (.inr (.inr (.inr (fun i => some (ra_t_minor i)))))))] (wa (gsL 10 10 cJ ra_t_minor t_minor) [])) → va_S A s.heap H locs → lv_has ls 9 [(0, .ref q_t), (1, .int p1), (2, .long v2), (4, .int v4)] → lo3 (g_TreeCount_determinant_5 N p1) n v2 v4 t_minor = some RR → W p l e R s m args below meth c H locs 0 0 Q (F0 m 5 ls []) := by
  intro n
  induction n with
  | zero =>
    intro v2 v4 t_minor H locs ls hP hD hS hl hf
    exact absurd hf (by simp [lo3])
  | succ n ih =>
    intro v2 v4 t_minor H locs ls hP hD hS hl hf
    exact w_TreeCount_determinant_5 C0 hret  (lo3 (g_TreeCount_determinant_5 N p1) n) ih v2 v4 t_minor H locs ls hP hD hS hl hf
set_option maxRecDepth 100000 in
set_option maxHeartbeats 4000000 in
theorem w_TreeCount_determinant_e {p : Program} {l : Launch} {e : Env} {R : Room} {s : State} {m : MethodId} {args : Array Value} {below : List Frame} {meth : Method} {c : Code} {D : va_G} {cI cJ cG cZ : ClassId} {A : Nat → Prop} {Q : State → Prop} {q_t q_t_groupOf q_t_links q_t_rows q_t_minor : Nat} {ra_t_minor : Nat → Nat} {t_minor0 : Nat → Nat → Int64} {p1 : Int32} {N : Nat} {RR : Int64 × (Nat → Nat → Int64)} (C0 : CX p R s m args meth c b_TreeCount_determinant 9 R_TreeCount lw_g D CL (TYs cI cJ cG cZ) A 0 0) (hret : ∀ (pc : Nat) (ls : Array Slot) (H : Heap) (locs : List Loc) (v : Int64) (t_minor : Nat → Nat → Int64), decode b_TreeCount_determinant pc = .ok (.lreturn, 1) → va_P D CL (wa [(q_t, .inr (5, [.ref q_t_groupOf, .ref q_t_links, .ref q_t_rows, .ref q_t_minor])), (q_t_minor, .inl (cG, 10, .inr (.inr (.inr (.inr (fun i => some (ra_t_minor i)))))))] (wa (gsL 10 10 cJ ra_t_minor t_minor) [])) H → va_D A (wa [(q_t, .inr (5, [.ref q_t_groupOf, .ref q_t_links, .ref q_t_rows, .ref q_t_minor])), (q_t_minor, .inl (cG, 10, .inr (.inr (.inr (.inr (fun i => some (ra_t_minor i)))))))] (wa (gsL 10 10 cJ ra_t_minor t_minor) [])) → va_S A s.heap H locs → some (v, t_minor) = some RR → W p l e R s m args below meth c H locs 0 0 Q (F0 m pc ls [.long v])) : ∀ (H : Heap) (locs : List Loc) (ls : Array Slot), va_P D CL (wa [(q_t, .inr (5, [.ref q_t_groupOf, .ref q_t_links, .ref q_t_rows, .ref q_t_minor])), (q_t_minor, .inl (cG, 10, .inr (.inr (.inr (.inr (fun i => some (ra_t_minor i)))))))] (wa (gsL 10 10 cJ ra_t_minor t_minor0) [])) H → va_D A (wa [(q_t, .inr (5, [.ref q_t_groupOf, .ref q_t_links, .ref q_t_rows, .ref q_t_minor])), (q_t_minor, .inl (cG, 10, .inr (.inr (.inr (.inr (fun i => some (ra_t_minor i)))))))] (wa (gsL 10 10 cJ ra_t_minor t_minor0) [])) → va_S A s.heap H locs → lv_has ls 9 [(0, .ref q_t), (1, .int p1)] → f_TreeCount_determinant N p1 t_minor0 = some RR → W p l e R s m args below meth c H locs 0 0 Q (F0 m 0 ls []) := by
  intro H locs ls hP hD hS hl hf
  obtain ⟨hx, hb, hml, hown, hts, hK, hA, hfr, hlo, hlk⟩ := id C0
  unfold f_TreeCount_determinant at hf
  refine lv_lconst (v := 1) hx hb d_TreeCount_determinant_0 (by decide) ?_
  refine lv_lstore_n (lv' := [(2, .long (1 : Int64)), (0, .ref q_t), (1, .int p1)]) hx hb d_TreeCount_determinant_1 rfl hl (by decide) rfl (fun ls hl => ?_)
  refine lv_iconst (v := 0) hx hb d_TreeCount_determinant_2 (by decide) ?_
  refine lv_istore (lv' := [(4, .int (0 : Int32)), (2, .long (1 : Int64)), (0, .ref q_t), (1, .int p1)]) hx hb d_TreeCount_determinant_3 hl (by decide) rfl (fun ls hl => ?_)
  exact w_TreeCount_determinant_5_l C0 hret N (1 : Int64) (0 : Int32) t_minor0 _ _ _ hP hD hS (lv_sub hl [2, 3, 1, 0] rfl) hf
set_option maxRecDepth 100000 in
set_option maxHeartbeats 4000000 in
theorem c_TreeCount_determinant (l : Launch) (D : va_G) (cI cJ cG cZ : ClassId) (q_t q_t_groupOf q_t_links q_t_rows q_t_minor : Nat) (ra_t_minor : Nat → Nat) (t_minor0 : Nat → Nat → Int64) (p1 : Int32) {N : Nat} {r : Int64} {t_minor' : Nat → Nat → Int64} (hf : f_TreeCount_determinant N p1 t_minor0 = some (r, t_minor')) : MeG l D CL (TYs cI cJ cG cZ) y_TreeCount_determinant ws_TreeCount_determinant (rm_TreeCount_determinant) [.ref q_t, .int p1] (wa [(q_t, .inr (5, [.ref q_t_groupOf, .ref q_t_links, .ref q_t_rows, .ref q_t_minor])), (q_t_minor, .inl (cG, 10, .inr (.inr (.inr (.inr (fun i => some (ra_t_minor i)))))))] (wa (gsL 10 10 cJ ra_t_minor t_minor0) [])) (some (.long r)) (wa [(q_t, .inr (5, [.ref q_t_groupOf, .ref q_t_links, .ref q_t_rows, .ref q_t_minor])), (q_t_minor, .inl (cG, 10, .inr (.inr (.inr (.inr (fun i => some (ra_t_minor i)))))))] (wa (gsL 10 10 cJ ra_t_minor t_minor') [])) := by
  intro sz
  refine Met.ofW (cc := b_TreeCount_determinant) (maxL := 9) (ret := (some .long)) (by decide) rfl ?_
  intro p e s m args below meth c s₁ B hml hv
  obtain ⟨rfl, hsz, hP, hK, hD0⟩ := hv
  subst hsz
  have hD := hD0.self (sz := s.heap.size)
  generalize hAe : va_A (wa [(q_t, .inr (5, [.ref q_t_groupOf, .ref q_t_links, .ref q_t_rows, .ref q_t_minor])), (q_t_minor, .inl (cG, 10, .inr (.inr (.inr (.inr (fun i => some (ra_t_minor i)))))))] (wa (gsL 10 10 cJ ra_t_minor t_minor0) [])) s.heap.size = A at hD ⊢
  have C0 : CX p (headSpec ws_TreeCount_determinant (rm_TreeCount_determinant)).room s m _ meth c b_TreeCount_determinant 9 R_TreeCount lw_g D CL (TYs cI cJ cG cZ) A 0 0 := ⟨B.exec, B.bytes, hml, findClass_of_methodNamed B.named, fun w h => atoms_spec (ws := ws_TreeCount_determinant) B.pre w (List.mem_cons_of_mem _ h), hK, fun q h => by rw [← hAe]; exact Or.inr h, Nat.le_of_ble_eq_true rfl, Nat.le_of_ble_eq_true rfl, B.notSynchronized⟩
  have hl := lv_entry ([.ref q_t, .int p1]) (n := 9) (Nat.le_of_ble_eq_true rfl)
  rw [lg_entry_eq]
  generalize (lg_sl ([.ref q_t, .int p1]) ++ List.replicate (9 - (lg_sl ([.ref q_t, .int p1])).length) Slot.unset).toArray = ls at hl ⊢
  have hl : lv_has ls 9 [(0, .ref q_t), (1, .int p1)] := hl
  exact w_TreeCount_determinant_e C0 (fun pc ls H locs v t_minor hdg hP hD hS e => by cases e; exact W.lret B.exec B.bytes B.returns (fun t ht hW => ⟨⟨rfl, by rw [ht]; exact hP, va_K.moved hW.alike hK, hD⟩, hS.F ht⟩) hS.2.2 hdg) _ _ _ hP hD va_S.rf (lv_sub hl [0, 1] rfl) hf
