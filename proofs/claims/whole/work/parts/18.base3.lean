def NX (U : State) : Prop := (Cond.arrayOver (.array .long)).before #[] U = true ∧ va_Nw (.methodLinkNest "RootedTrees" 9 ⟨"RootedTrees$Graph", "<init>", "()V"⟩ "RootedTrees") U ∧ va_Nw (.methodLinkNest "RootedTrees$Forests" 17 ⟨"RootedTrees$Labels", "<init>", "()V"⟩ "RootedTrees") U ∧ va_Nw (.methodLinkNest "RootedTrees$Forests" 24 ⟨"RootedTrees$TreeCount", "<init>", "()V"⟩ "RootedTrees") U ∧ va_Nw (.methodLinkNest "RootedTrees$JoiningTrees" 17 ⟨"RootedTrees$Labels", "<init>", "()V"⟩ "RootedTrees") U
theorem m_1_94 : (Cond.methodLink "RootedTrees$Labels" 3 ⟨"java/lang/Object", "<init>", "()V"⟩) ∈ lw_g := List.mem_filter.mpr ⟨(List.mem_append_right _ (List.mem_append_left _ (List.mem_of_getElem? (i := 94) rfl))), rfl⟩
theorem m_1_21 : (Cond.instanceMethod ⟨"java/lang/Object", "<init>", "()V"⟩) ∈ lw_g := List.mem_filter.mpr ⟨(List.mem_append_right _ (List.mem_append_left _ (List.mem_of_getElem? (i := 21) rfl))), rfl⟩
theorem m_1_22 : (Cond.code ⟨"java/lang/Object", "<init>", "()V"⟩ object_method_1_code 1 (Option.none : Option FieldType)) ∈ lw_g := List.mem_filter.mpr ⟨(List.mem_append_right _ (List.mem_append_left _ (List.mem_of_getElem? (i := 22) rfl))), rfl⟩
theorem m_1_82 : (Cond.arrayClass .int) ∈ lw_g := List.mem_filter.mpr ⟨(List.mem_append_right _ (List.mem_append_left _ (List.mem_of_getElem? (i := 82) rfl))), rfl⟩
theorem m_1_93 : (Cond.code ⟨"RootedTrees$Labels", "<init>", "()V"⟩ prog_7_method_1_code 1 (Option.none : Option FieldType)) ∈ lw_g := List.mem_filter.mpr ⟨(List.mem_append_right _ (List.mem_append_left _ (List.mem_of_getElem? (i := 93) rfl))), rfl⟩
theorem m_1_28 : (Cond.methodLink "RootedTrees$Graph" 3 ⟨"java/lang/Object", "<init>", "()V"⟩) ∈ lw_g := List.mem_filter.mpr ⟨(List.mem_append_right _ (List.mem_append_left _ (List.mem_of_getElem? (i := 28) rfl))), rfl⟩
theorem m_1_27 : (Cond.code ⟨"RootedTrees$Graph", "<init>", "()V"⟩ prog_5_method_1_code 1 (Option.none : Option FieldType)) ∈ lw_g := List.mem_filter.mpr ⟨(List.mem_append_right _ (List.mem_append_left _ (List.mem_of_getElem? (i := 27) rfl))), rfl⟩
theorem m_1_113 : (Cond.methodLink "RootedTrees$TreeCount" 3 ⟨"java/lang/Object", "<init>", "()V"⟩) ∈ lw_g := List.mem_filter.mpr ⟨(List.mem_append_right _ (List.mem_append_left _ (List.mem_of_getElem? (i := 113) rfl))), rfl⟩
theorem m_1_114 : (Cond.classLink "RootedTrees$TreeCount" 15 "[[J") ∈ lw_g := List.mem_filter.mpr ⟨(List.mem_append_right _ (List.mem_append_left _ (List.mem_of_getElem? (i := 114) rfl))), rfl⟩
theorem m_1_129 : (Cond.arrayClass .long) ∈ lw_g := List.mem_filter.mpr ⟨(List.mem_append_right _ (List.mem_append_left _ (List.mem_of_getElem? (i := 129) rfl))), rfl⟩
theorem m_1_112 : (Cond.code ⟨"RootedTrees$TreeCount", "<init>", "()V"⟩ prog_8_method_1_code 1 (Option.none : Option FieldType)) ∈ lw_g := List.mem_filter.mpr ⟨(List.mem_append_right _ (List.mem_append_left _ (List.mem_of_getElem? (i := 112) rfl))), rfl⟩
theorem m_1_88 : (Cond.methodLink "RootedTrees$Forests" 3 ⟨"java/lang/Object", "<init>", "()V"⟩) ∈ lw_g := List.mem_filter.mpr ⟨(List.mem_append_right _ (List.mem_append_left _ (List.mem_of_getElem? (i := 88) rfl))), rfl⟩
theorem m_1_89 : (Cond.classLink "RootedTrees$Forests" 15 "RootedTrees$Labels") ∈ lw_g := List.mem_filter.mpr ⟨(List.mem_append_right _ (List.mem_append_left _ (List.mem_of_getElem? (i := 89) rfl))), rfl⟩
theorem m_1_90 : (Cond.instantiable "RootedTrees$Labels" 3) ∈ lw_g := List.mem_filter.mpr ⟨(List.mem_append_right _ (List.mem_append_left _ (List.mem_of_getElem? (i := 90) rfl))), rfl⟩
theorem m_1_92 : (Cond.instanceMethod ⟨"RootedTrees$Labels", "<init>", "()V"⟩) ∈ lw_g := List.mem_filter.mpr ⟨(List.mem_append_right _ (List.mem_append_left _ (List.mem_of_getElem? (i := 92) rfl))), rfl⟩
theorem m_1_108 : (Cond.classLink "RootedTrees$Forests" 22 "RootedTrees$TreeCount") ∈ lw_g := List.mem_filter.mpr ⟨(List.mem_append_right _ (List.mem_append_left _ (List.mem_of_getElem? (i := 108) rfl))), rfl⟩
theorem m_1_109 : (Cond.instantiable "RootedTrees$TreeCount" 4) ∈ lw_g := List.mem_filter.mpr ⟨(List.mem_append_right _ (List.mem_append_left _ (List.mem_of_getElem? (i := 109) rfl))), rfl⟩
theorem m_1_111 : (Cond.instanceMethod ⟨"RootedTrees$TreeCount", "<init>", "()V"⟩) ∈ lw_g := List.mem_filter.mpr ⟨(List.mem_append_right _ (List.mem_append_left _ (List.mem_of_getElem? (i := 111) rfl))), rfl⟩
theorem m_1_87 : (Cond.code ⟨"RootedTrees$Forests", "<init>", "(LRootedTrees$Graph;)V"⟩ prog_4_method_1_code 2 (Option.none : Option FieldType)) ∈ lw_g := List.mem_filter.mpr ⟨(List.mem_append_right _ (List.mem_append_left _ (List.mem_of_getElem? (i := 87) rfl))), rfl⟩
theorem m_1_160 : (Cond.methodLink "RootedTrees$BoundedTrees" 3 ⟨"java/lang/Object", "<init>", "()V"⟩) ∈ lw_g := List.mem_filter.mpr ⟨(List.mem_append_right _ (List.mem_append_left _ (List.mem_of_getElem? (i := 160) rfl))), rfl⟩
theorem m_1_161 : (Cond.classLink "RootedTrees$BoundedTrees" 15 "[[J") ∈ lw_g := List.mem_filter.mpr ⟨(List.mem_append_right _ (List.mem_append_left _ (List.mem_of_getElem? (i := 161) rfl))), rfl⟩
theorem m_1_159 : (Cond.code ⟨"RootedTrees$BoundedTrees", "<init>", "(LRootedTrees$Graph;)V"⟩ prog_2_method_1_code 2 (Option.none : Option FieldType)) ∈ lw_g := List.mem_filter.mpr ⟨(List.mem_append_right _ (List.mem_append_left _ (List.mem_of_getElem? (i := 159) rfl))), rfl⟩
theorem m_1_186 : (Cond.methodLink "RootedTrees$TreesFromRoot" 5 ⟨"java/lang/Object", "<init>", "()V"⟩) ∈ lw_g := List.mem_filter.mpr ⟨(List.mem_append_right _ (List.mem_append_left _ (List.mem_of_getElem? (i := 186) rfl))), rfl⟩
theorem m_1_185 : (Cond.code ⟨"RootedTrees$TreesFromRoot", "<init>", "(LRootedTrees$Graph;)V"⟩ prog_9_method_1_code 2 (Option.none : Option FieldType)) ∈ lw_g := List.mem_filter.mpr ⟨(List.mem_append_right _ (List.mem_append_left _ (List.mem_of_getElem? (i := 185) rfl))), rfl⟩
theorem m_1_223 : (Cond.methodLink "RootedTrees$JoiningTrees" 3 ⟨"java/lang/Object", "<init>", "()V"⟩) ∈ lw_g := List.mem_filter.mpr ⟨(List.mem_append_right _ (List.mem_append_left _ (List.mem_of_getElem? (i := 223) rfl))), rfl⟩
theorem m_1_224 : (Cond.classLink "RootedTrees$JoiningTrees" 15 "RootedTrees$Labels") ∈ lw_g := List.mem_filter.mpr ⟨(List.mem_append_right _ (List.mem_append_left _ (List.mem_of_getElem? (i := 224) rfl))), rfl⟩
theorem m_1_222 : (Cond.code ⟨"RootedTrees$JoiningTrees", "<init>", "(LRootedTrees$Graph;)V"⟩ prog_6_method_1_code 2 (Option.none : Option FieldType)) ∈ lw_g := List.mem_filter.mpr ⟨(List.mem_append_right _ (List.mem_append_left _ (List.mem_of_getElem? (i := 222) rfl))), rfl⟩
theorem m_1_20 : (Cond.methodLink "RootedTrees" 1 ⟨"java/lang/Object", "<init>", "()V"⟩) ∈ lw_g := List.mem_filter.mpr ⟨(List.mem_append_right _ (List.mem_append_left _ (List.mem_of_getElem? (i := 20) rfl))), rfl⟩
theorem m_1_23 : (Cond.classLink "RootedTrees" 7 "RootedTrees$Graph") ∈ lw_g := List.mem_filter.mpr ⟨(List.mem_append_right _ (List.mem_append_left _ (List.mem_of_getElem? (i := 23) rfl))), rfl⟩
theorem m_1_24 : (Cond.instantiable "RootedTrees$Graph" 8) ∈ lw_g := List.mem_filter.mpr ⟨(List.mem_append_right _ (List.mem_append_left _ (List.mem_of_getElem? (i := 24) rfl))), rfl⟩
theorem m_1_26 : (Cond.instanceMethod ⟨"RootedTrees$Graph", "<init>", "()V"⟩) ∈ lw_g := List.mem_filter.mpr ⟨(List.mem_append_right _ (List.mem_append_left _ (List.mem_of_getElem? (i := 26) rfl))), rfl⟩
theorem m_1_83 : (Cond.classLink "RootedTrees" 16 "RootedTrees$Forests") ∈ lw_g := List.mem_filter.mpr ⟨(List.mem_append_right _ (List.mem_append_left _ (List.mem_of_getElem? (i := 83) rfl))), rfl⟩
theorem m_1_84 : (Cond.instantiable "RootedTrees$Forests" 7) ∈ lw_g := List.mem_filter.mpr ⟨(List.mem_append_right _ (List.mem_append_left _ (List.mem_of_getElem? (i := 84) rfl))), rfl⟩
theorem m_1_85 : (Cond.methodLink "RootedTrees" 18 ⟨"RootedTrees$Forests", "<init>", "(LRootedTrees$Graph;)V"⟩) ∈ lw_g := List.mem_filter.mpr ⟨(List.mem_append_right _ (List.mem_append_left _ (List.mem_of_getElem? (i := 85) rfl))), rfl⟩
theorem m_1_86 : (Cond.instanceMethod ⟨"RootedTrees$Forests", "<init>", "(LRootedTrees$Graph;)V"⟩) ∈ lw_g := List.mem_filter.mpr ⟨(List.mem_append_right _ (List.mem_append_left _ (List.mem_of_getElem? (i := 86) rfl))), rfl⟩
theorem m_1_155 : (Cond.classLink "RootedTrees" 25 "RootedTrees$BoundedTrees") ∈ lw_g := List.mem_filter.mpr ⟨(List.mem_append_right _ (List.mem_append_left _ (List.mem_of_getElem? (i := 155) rfl))), rfl⟩
theorem m_1_156 : (Cond.instantiable "RootedTrees$BoundedTrees" 6) ∈ lw_g := List.mem_filter.mpr ⟨(List.mem_append_right _ (List.mem_append_left _ (List.mem_of_getElem? (i := 156) rfl))), rfl⟩
theorem m_1_157 : (Cond.methodLink "RootedTrees" 27 ⟨"RootedTrees$BoundedTrees", "<init>", "(LRootedTrees$Graph;)V"⟩) ∈ lw_g := List.mem_filter.mpr ⟨(List.mem_append_right _ (List.mem_append_left _ (List.mem_of_getElem? (i := 157) rfl))), rfl⟩
theorem m_1_158 : (Cond.instanceMethod ⟨"RootedTrees$BoundedTrees", "<init>", "(LRootedTrees$Graph;)V"⟩) ∈ lw_g := List.mem_filter.mpr ⟨(List.mem_append_right _ (List.mem_append_left _ (List.mem_of_getElem? (i := 158) rfl))), rfl⟩
theorem m_1_181 : (Cond.classLink "RootedTrees" 32 "RootedTrees$TreesFromRoot") ∈ lw_g := List.mem_filter.mpr ⟨(List.mem_append_right _ (List.mem_append_left _ (List.mem_of_getElem? (i := 181) rfl))), rfl⟩
theorem m_1_182 : (Cond.instantiable "RootedTrees$TreesFromRoot" 10) ∈ lw_g := List.mem_filter.mpr ⟨(List.mem_append_right _ (List.mem_append_left _ (List.mem_of_getElem? (i := 182) rfl))), rfl⟩
theorem m_1_183 : (Cond.methodLink "RootedTrees" 34 ⟨"RootedTrees$TreesFromRoot", "<init>", "(LRootedTrees$Graph;)V"⟩) ∈ lw_g := List.mem_filter.mpr ⟨(List.mem_append_right _ (List.mem_append_left _ (List.mem_of_getElem? (i := 183) rfl))), rfl⟩
theorem m_1_184 : (Cond.instanceMethod ⟨"RootedTrees$TreesFromRoot", "<init>", "(LRootedTrees$Graph;)V"⟩) ∈ lw_g := List.mem_filter.mpr ⟨(List.mem_append_right _ (List.mem_append_left _ (List.mem_of_getElem? (i := 184) rfl))), rfl⟩
theorem m_1_218 : (Cond.classLink "RootedTrees" 39 "RootedTrees$JoiningTrees") ∈ lw_g := List.mem_filter.mpr ⟨(List.mem_append_right _ (List.mem_append_left _ (List.mem_of_getElem? (i := 218) rfl))), rfl⟩
theorem m_1_219 : (Cond.instantiable "RootedTrees$JoiningTrees" 2) ∈ lw_g := List.mem_filter.mpr ⟨(List.mem_append_right _ (List.mem_append_left _ (List.mem_of_getElem? (i := 219) rfl))), rfl⟩
theorem m_1_220 : (Cond.methodLink "RootedTrees" 41 ⟨"RootedTrees$JoiningTrees", "<init>", "(LRootedTrees$Graph;)V"⟩) ∈ lw_g := List.mem_filter.mpr ⟨(List.mem_append_right _ (List.mem_append_left _ (List.mem_of_getElem? (i := 220) rfl))), rfl⟩
theorem m_1_221 : (Cond.instanceMethod ⟨"RootedTrees$JoiningTrees", "<init>", "(LRootedTrees$Graph;)V"⟩) ∈ lw_g := List.mem_filter.mpr ⟨(List.mem_append_right _ (List.mem_append_left _ (List.mem_of_getElem? (i := 221) rfl))), rfl⟩
theorem m_1_19 : (Cond.code ⟨"RootedTrees", "<init>", "()V"⟩ prog_1_method_1_code 1 (Option.none : Option FieldType)) ∈ lw_g := List.mem_filter.mpr ⟨(List.mem_append_right _ (List.mem_append_left _ (List.mem_of_getElem? (i := 19) rfl))), rfl⟩
theorem m_3_127 : (Cond.methodLink "RootedTreesModel" 1 ⟨"java/lang/Object", "<init>", "()V"⟩) ∈ lw_g := List.mem_filter.mpr ⟨(List.mem_append_right _ (List.mem_append_right _ (List.mem_append_right _ (List.mem_append_left _ (List.mem_of_getElem? (i := 127) rfl))))), rfl⟩
theorem m_3_195 : (Cond.arrayClass .boolean) ∈ lw_g := List.mem_filter.mpr ⟨(List.mem_append_right _ (List.mem_append_right _ (List.mem_append_right _ (List.mem_append_left _ (List.mem_of_getElem? (i := 195) rfl))))), rfl⟩
theorem m_3_126 : (Cond.code ⟨"RootedTreesModel", "<init>", "()V"⟩ prog_11_method_1_code 1 (Option.none : Option FieldType)) ∈ lw_g := List.mem_filter.mpr ⟨(List.mem_append_right _ (List.mem_append_right _ (List.mem_append_right _ (List.mem_append_left _ (List.mem_of_getElem? (i := 126) rfl))))), rfl⟩
/-! constructors: what they need beside keepable words, their contracts' shape, rows that make cells -/
theorem NX.warm {s U : State} (hW : s.WarmedH U.vm) (h : NX s) : NX U := by
  refine ⟨?_, va_Nw.warmM hW h.2.1, va_Nw.warmM hW h.2.2.1, va_Nw.warmM hW h.2.2.2.1, va_Nw.warmM hW h.2.2.2.2⟩
  have h1 := Cond.arrayOver_setVmC (args := #[]) hW.alike (.array .long)
  have h2 : (Cond.arrayOver (.array .long)).before #[] (s.setVm U.vm) = true := h1.trans h.1
  exact h2
theorem NX.call {U : State} {g : JFrame} {mk : MethodId} {a : Array Value} (h : NX U) : NX (U.calling g mk a) := ⟨h.1, va_Nw.same rfl rfl h.2.1, va_Nw.same rfl rfl h.2.2.1, va_Nw.same rfl rfl h.2.2.2.1, va_Nw.same rfl rfl h.2.2.2.2⟩
def PWX (D : va_G) (CL : List vw_C) (TY : List (ClassId × FieldType)) (ws : va_W) (sz : Nat) (U : State) : Prop := PW D CL TY ws sz U ∧ NX U
def Qx (D : va_G) (CL : List vw_C) (TY : List (ClassId × FieldType)) (P : va_W → Prop) (A : Nat → Prop) : Array Value → State → Outcome → State → Prop := fun _ st oc t => (∃ w1, P w1 ∧ oc = .returned none ∧ va_P D CL w1 t.heap ∧ va_K D CL TY t ∧ va_D A w1) ∧ va_F A st t
def MeX (l : Launch) (D : va_G) (CL : List vw_C) (TY : List (ClassId × FieldType)) (y : MethodName) (ws : List Cond) (rm : Room) (av : List Value) (w0 : va_W) (P : va_W → Prop) (mc ms : Nat) : Prop :=
  ∀ sz : Nat, Met l y ws rm (va_Pc av (PWX D CL TY w0 sz)) (Qx D CL TY P (va_A w0 sz)) mc ms (va_A w0 sz)
theorem px_blind {D : va_G} {CL : List vw_C} {TY : List (ClassId × FieldType)} {w0 : va_W} {sz : Nat} {av : List Value} : FrameBlind (va_Pc av (PWX D CL TY w0 sz)) := by
  intro a U g mk q
  obtain ⟨q0, ⟨q1, qP, qK, qD⟩, qN⟩ := q
  exact ⟨q0, ⟨q1, qP, va_K.moved (u := U) (U := U.calling g mk a) (Vm.Alike.refl U.vm) qK, qD⟩, qN.call⟩
theorem sw_P {D : va_G} {CL : List vw_C} {X G c : va_W} {H : Heap} (h : va_P D CL (wa X G ++ c) H) : va_P D CL (wa (X ++ c) G) H := va_P.swap (a := X) (b := G) (c := c) h
theorem sw_D {A : Nat → Prop} {X G c : va_W} (h : va_D A (wa X G ++ c)) : va_D A (wa (X ++ c) G) := va_D.swap (a := X) (b := G) (c := c) h
theorem sw_P' {D : va_G} {CL : List vw_C} {X G c : va_W} {H : Heap} (h : va_P D CL (wa (X ++ c) G) H) : va_P D CL (wa (wa X G) c) H := va_P.swap (a := X) (b := c) (c := G) h
theorem sw_D' {A : Nat → Prop} {X G c : va_W} (h : va_D A (wa (X ++ c) G)) : va_D A (wa (wa X G) c) := va_D.swap (a := X) (b := c) (c := G) h
theorem arrV_congr {c : ClassId} {N : Nat} {f g : Nat → Value} (h : ∀ j, j < N → f j = g j) : arrV c N f = arrV c N g := by
  unfold arrV
  have e : (fun j : Fin N => f j.val) = (fun j : Fin N => g j.val) := funext fun j => h j.val j.isLt
  rw [e]
section CTOR
variable {p : Program} {l : Launch} {e : Env} {R : Room} {s : State} {m : MethodId} {args : Array Value} {below : List Frame} {meth : Method} {c : Code} {H : Heap} {locs : List Loc} {cells slots : Nat} {Q : State → Prop}
variable {pc : Nat} {ls : Array Slot} {rest st0 : List Value} {D : va_G} {CL : List vw_C} {TY : List (ClassId × FieldType)} {A : Nat → Prop} {X G M : va_W} {av : Array Value} {H0 : Heap} {cc : ByteArray}
theorem na_x {atype : ArrayType} {ty : FieldType} {cT : ClassId} {a0 : vp_A} (t0 : Nat) (hexec : p.tables.exec = Jvm.exec) (hb : c.code = cc) (harr : (Cond.arrayClass (newarray.typeOf atype)).before args s = true) (hty : newarray.typeOf atype = ty)
    (hRA : ∀ cA, va_RA s cA ty → s.vm.findClass ("[" ++ ty.toString) = some cA) (hK : va_K D CL TY s) (ht : TY[t0]? = some (cT, ty)) (hP : va_P D CL (wa X G) H) (hD : va_D A (wa X G)) (hS : va_S A H0 H locs) (hA : ∀ q, H0.size ≤ q → A q)
    {n : Int32} {N' : Nat} (ha : ∀ cA : ClassId, vp_cell cA a0 = arrV cA N' (fun _ => defaultValue ty)) (hn : ¬ n < 0) (hN : n.toNatClampNeg = N') (hbytes : N' * componentBytes ty ≤ 536870912) (hcells : cells + 1 ≤ R.cells) (hslots : slots + N' ≤ R.slots) (hdg : decode cc pc = .ok (.newarray atype, 2))
    (kk : ∀ (q : Nat) (H1 : Heap), va_P D CL (wa (X ++ [(q, .inl (cT, a0))]) G) H1 → va_D A (wa (X ++ [(q, .inl (cT, a0))]) G) → va_S A H0 H1 locs → W p l e R s m args below meth c H1 locs (cells + 1) (slots + N') Q (F0 m (pc + 2) ls (.ref q :: rest))) :
    W p l e R s m args below meth c H locs cells slots Q (F0 m pc ls (.int n :: rest)) := by
  refine va_newa hexec hb harr hty hK hP hD hS hA ha hn hN hbytes hcells hslots hdg (fun q cA H1 hK1 hP1 hD1 hS1 => ?_)
  have e1 : cA = cT := Option.some.inj ((hRA cA (hK1.2 TY.length (cA, ty) (by simp)).2).symm.trans (hRA cT (hK.2 t0 _ ht).2))
  subst e1
  exact kk q H1 (sw_P hP1) (sw_D hD1) hS1
theorem cl_RX {P : va_W → Prop} {mc ms : Nat} (hr : va_Run p l e R s m args below meth c H locs cells slots mc ms (F0 m pc ls st0) rest (Qx D CL TY P (va_A M H.size) av) (va_A M H.size))
    (hP : va_P D CL (wa X M) H) (hD : va_D A (wa X M)) (hS : va_S A s.heap H locs) (hA : ∀ q, s.heap.size ≤ q → A q)
    (kk : ∀ w1, P w1 → ∀ (H1 : Heap) (locs1 : List Loc), va_P D CL (wa X w1) H1 → va_D A (wa X w1) → va_S A s.heap H1 locs1 → W p l e R s m args below meth c H1 locs1 (cells + mc) (slots + ms) Q (F0 m (pc + 3) ls rest)) :
    W p l e R s m args below meth c H locs cells slots Q (F0 m pc ls st0) := by
  intro T hT Y
  have hDM := hD.right
  have hF : ∀ z, va_A M H.size z → A z := by
    intro z hz
    rcases hz with ⟨j, e9, hj⟩ | hz
    · exact hDM.2 j _ hj
    · exact hA z (Nat.le_trans hS.1 hz)
  obtain ⟨v, st₀, t, T', L, h0, Y', hL, e1', e2, ⟨⟨w1, hw1, hv, hb, hk1, hd⟩, hz, hkk⟩, st⟩ := hr T hT Y
  cases hv
  rw [h0] at hz hkk
  have ap : ∀ (j : Nat) (y : Nat × va_E), X[j]? = some y → y.1 < H.size ∧ ¬ va_A M H.size y.1 := by
    intro j y hj
    have hl := (hP.left j y hj).lt
    refine ⟨hl, fun h => ?_⟩
    rcases h with ⟨i, e9, hi⟩ | h
    · exact hD.apart j i y (y.1, e9) hj hi rfl
    · omega
  have hPX : va_P D CL X T'.heap := fun j y hj => (hP.left j y hj).kept (by rw [e1']; exact hkk y.1 (ap j y hj).1 (ap j y hj).2)
  have hPM : va_P D CL w1 T'.heap := by rw [e1']; exact hb
  have hD1 : va_D A (wa X w1) := va_D.app hD.left (hd.weaken (fun k q _ h => hF q.1 h)) (fun i j x y hx hy hxy => (ap i x hx).2 (by rw [hxy]; exact hd.2 j y hy))
  obtain ⟨t2, a1, b1⟩ := kk w1 hw1 T'.heap (locs ++ L) (va_P.app hPX hPM) hD1
    ⟨Nat.le_trans hS.1 (by rw [e1']; exact hz), fun q h1 h2 => by rw [e1', hkk q (Nat.lt_of_lt_of_le h1 hS.1) (fun z => h2 (hF q z))]; exact hS.2.1 q h1 h2, fun q hq => by
      rcases List.mem_append.mp hq with h | h
      · exact hS.2.2 q h
      · exact hF _ (hL q h)⟩ T' rfl Y'
  exact ⟨t2, st t2 a1, b1⟩
theorem cl_new {P : va_W → Prop} {mc ms : Nat} {x : Nat × va_E} (hr : va_Run p l e R s m args below meth c H locs cells slots mc ms (F0 m pc ls st0) rest (Qx D CL TY P (va_A [x] H.size) av) (va_A [x] H.size))
    (hP : va_P D CL (wa (X ++ [x]) G) H) (hD : va_D A (wa (X ++ [x]) G)) (hS : va_S A s.heap H locs) (hA : ∀ q, s.heap.size ≤ q → A q)
    (kk : ∀ w1, P w1 → ∀ (H1 : Heap) (locs1 : List Loc), va_P D CL (wa (X ++ w1) G) H1 → va_D A (wa (X ++ w1) G) → va_S A s.heap H1 locs1 → W p l e R s m args below meth c H1 locs1 (cells + mc) (slots + ms) Q (F0 m (pc + 3) ls rest)) :
    W p l e R s m args below meth c H locs cells slots Q (F0 m pc ls st0) :=
  cl_RX hr (sw_P' hP) (sw_D' hD) hS hA (fun w1 hw H1 locs1 h1 h2 h3 => kk w1 hw H1 locs1 (sw_P h1) (sw_D h2) h3)
theorem mn_L {own : String} {index : Nat} {cJ cG : ClassId} (hexec : p.tables.exec = Jvm.exec) (hb : c.code = cc) (hown : s.vm.findClass own = some m.cls) (hclink : (Cond.classLink own index "[[J").before args s = true) (hover : (Cond.arrayOver (.array .long)).before #[] s = true) (harr : (Cond.arrayClass .long).before args s = true)
    (hK : va_K D CL TY s) (t1 t2 : Nat) (h1 : TY[t1]? = some (cJ, .long)) (h2 : TY[t2]? = some (cG, .array .long)) (hP : va_P D CL (wa X G) H) (hD : va_D A (wa X G)) (hS : va_S A H0 H locs) (hA : ∀ q, H0.size ≤ q → A q)
    {n k : Int32} {N' K' : Nat} (hn : ¬ n < 0) (hk : ¬ k < 0) (hN : n.toNatClampNeg = N') (hM : k.toNatClampNeg = K') (hb1 : N' * 4 ≤ 536870912) (hb2 : K' * 8 ≤ 536870912) (hcells : cells + (1 + N') ≤ R.cells) (hslots : slots + (N' + N' * K') ≤ R.slots) (hdg : decode cc pc = .ok (.multianewarray index 2, 4))
    (kk : ∀ (q : Nat) (ra : Nat → Nat) (H1 : Heap), va_P D CL (wa (X ++ [(q, .inl (cG, N', .inr (.inr (.inr (.inr (fun i => some (ra i)))))))]) (wa (gsL N' K' cJ ra (fun _ _ => 0)) G)) H1 → va_D A (wa (X ++ [(q, .inl (cG, N', .inr (.inr (.inr (.inr (fun i => some (ra i)))))))]) (wa (gsL N' K' cJ ra (fun _ _ => 0)) G)) → va_S A H0 H1 locs →
      W p l e R s m args below meth c H1 locs (cells + 1 + N') (slots + N' + N' * K') Q (F0 m (pc + 4) ls (.ref q :: rest))) : W p l e R s m args below meth c H locs cells slots Q (F0 m pc ls (.int k :: .int n :: rest)) := by
  subst hN
  subst hM
  intro T hT Xs
  obtain ⟨vm₁, cA, comp, -, fA, fC, hO, -, X', step⟩ := Xs.multianewarray2F (ty := .long) hexec hown hclink hover harr (g := F0 m pc ls (.int k :: .int n :: rest)) rfl (by rw [hb]; exact hdg) rfl hn hk hb1 hb2 (by omega) rfl rfl hcells hslots
  have eJ : comp = cJ := Option.some.inj (fC.symm.trans ((hK.2 t1 _ h1).2))
  have eG : cA = cG := Option.some.inj (fA.symm.trans ((hK.2 t2 _ h2).2))
  subst eJ
  subst eG
  generalize hFe : Jvm.Free.Multi.fill (T.setVm vm₁) cA comp n.toNatClampNeg k.toNatClampNeg (defaultValue .long) n.toNatClampNeg = F at X' step
  have hTh : (T.setVm vm₁).heap = H := hT
  obtain ⟨f1, f2, -, -⟩ := Jvm.Free.Multi.fill_facts (T.setVm vm₁) cA comp n.toNatClampNeg k.toNatClampNeg (defaultValue .long) n.toNatClampNeg
  rw [hFe, hTh] at f1 f2
  have hold : ∀ x : Nat, x < H.size → F.heap[x]? = H[x]? := fun x hx => by
    have h9 := Jvm.Free.Multi.fill_old (T.setVm vm₁) cA comp n.toNatClampNeg k.toNatClampNeg (defaultValue .long) (a := x) (by rw [hTh]; exact hx) n.toNatClampNeg
    rw [hFe, hTh] at h9
    exact h9
  have hrow : ∀ j : Nat, j < n.toNatClampNeg → F.heap[H.size + 1 + j]? = some (vp_cell comp (k.toNatClampNeg, .inr (.inl (fun _ => 0)))) := fun j hj => by
    have h9 := Jvm.Free.Multi.fill_inner (T.setVm vm₁) cA comp n.toNatClampNeg k.toNatClampNeg (defaultValue .long) n.toNatClampNeg j hj
    rw [hFe, hTh] at h9
    rw [h9]
    show some ({ cls := comp, slots := Array.replicate k.toNatClampNeg (.long 0), vm := .none } : Cell) = some (arrV comp k.toNatClampNeg (fun _ => .long 0))
    rw [arrV_new]
  have hout : Jvm.Free.Multi.outerC cA n.toNatClampNeg H.size n.toNatClampNeg = vp_cell cA (n.toNatClampNeg, .inr (.inr (.inr (.inr (fun i => some (H.size + 1 + i)))))) := by
    have hz : ∀ i : Nat, Jvm.Free.Multi.outerC cA n.toNatClampNeg H.size i = arrV cA n.toNatClampNeg (fun j => if j < i then .ref (H.size + 1 + j) else .null) := by
      intro i
      induction i with
      | zero =>
        show ({ cls := cA, slots := Array.replicate n.toNatClampNeg .null, vm := .none } : Cell) = _
        rw [arrV_new]
        exact arrV_congr (fun j _ => by rw [if_neg (Nat.not_lt_zero j)])
      | succ i ih =>
        show (Jvm.Free.Multi.outerC cA n.toNatClampNeg H.size i).setSlot i (.ref (H.size + 1 + i)) = _
        rw [ih, arrV_store]
        refine arrV_congr (fun j _ => ?_)
        unfold updV
        by_cases hji : j = i
        · subst hji
          rw [if_pos rfl, if_pos (Nat.lt_succ_self j)]
        · rw [if_neg hji]
          show (if j < i then Value.ref (H.size + 1 + j) else Value.null) = _
          by_cases hlt : j < i
          · rw [if_pos hlt, if_pos (Nat.lt_succ_of_lt hlt)]
          · rw [if_neg hlt, if_neg (by omega)]
    rw [hz]
    show _ = arrV cA n.toNatClampNeg (fun j => va_rf (some (H.size + 1 + j)))
    exact arrV_congr (fun j hj => by rw [if_pos hj]; rfl)
  rw [hout] at f2
  have hP0 : va_P D CL (wa X G) F.heap := fun k9 x hx => (hP k9 x hx).kept (hold x.1 ((hP k9 x hx).lt))
  have hNew : va_P D CL ([(H.size, .inl (cA, n.toNatClampNeg, .inr (.inr (.inr (.inr (fun i => some (H.size + 1 + i)))))))] ++ gsL n.toNatClampNeg k.toNatClampNeg comp (fun i => H.size + 1 + i) (fun _ _ => 0)) F.heap := by
    refine va_P.app (fun k9 x hx => ?_) (fun k9 x hx => ?_)
    · cases k9 with
      | zero => cases hx; exact f2
      | succ k9 => simp at hx
    · obtain ⟨i, hi, rfl⟩ := List.mem_map.mp (List.mem_of_getElem? hx)
      exact hrow i (List.mem_range.mp hi)
  have hlen : ∀ (k9 : Nat) (x : Nat × va_E), (([(H.size, .inl (cA, n.toNatClampNeg, .inr (.inr (.inr (.inr (fun i => some (H.size + 1 + i)))))))] ++ gsL n.toNatClampNeg k.toNatClampNeg comp (fun i => H.size + 1 + i) (fun _ _ => 0)) : va_W)[k9]? = some x → x.1 = H.size + k9 := by
    intro k9 x hx
    cases k9 with
    | zero => cases hx; rfl
    | succ k9 =>
      have h9 : (gsL n.toNatClampNeg k.toNatClampNeg comp (fun i => H.size + 1 + i) (fun _ _ => 0))[k9]? = some x := hx
      have h10 := (List.getElem?_eq_some_iff.mp h9).1
      rw [gs_len] at h10
      simp only [gsL, List.getElem?_map, List.getElem?_range h10] at h9
      cases h9
      show H.size + 1 + k9 = H.size + (k9 + 1)
      omega
  have hDN : va_D A ([(H.size, .inl (cA, n.toNatClampNeg, .inr (.inr (.inr (.inr (fun i => some (H.size + 1 + i)))))))] ++ gsL n.toNatClampNeg k.toNatClampNeg comp (fun i => H.size + 1 + i) (fun _ _ => 0)) :=
    ⟨fun i j x y hi hj hxy => by have h9 := hlen i x hi; have h10 := hlen j y hj; omega, fun k9 x hx => hA _ (by have h9 := hlen k9 x hx; have h10 := hS.1; omega)⟩
  have hPall := va_P.app hP0 hNew
  have hDall : va_D A (wa X G ++ ([(H.size, .inl (cA, n.toNatClampNeg, .inr (.inr (.inr (.inr (fun i => some (H.size + 1 + i)))))))] ++ gsL n.toNatClampNeg k.toNatClampNeg comp (fun i => H.size + 1 + i) (fun _ _ => 0))) :=
    va_D.app hD hDN (fun i j x y hx hy hxy => by have h9 := (hP i x hx).lt; have h10 := hlen j y hy; omega)
  have e9 : ∀ (c g : va_W), wa (X ++ (c ++ g)) G = wa (X ++ c) (wa g G) := fun c g => by
    show (X ++ (c ++ g)) ++ G = (X ++ c) ++ (g ++ G)
    simp only [List.append_assoc]
  have hPf := sw_P hPall
  have hDf := sw_D hDall
  rw [e9] at hPf hDf
  obtain ⟨t, a1, b1⟩ := kk H.size (fun i => H.size + 1 + i) F.heap hPf hDf ⟨by rw [f1]; have := hS.1; omega, fun x h1 h2 => (hold x (Nat.lt_of_lt_of_le h1 hS.1)).trans (hS.2.1 x h1 h2), hS.2.2⟩ F rfl X'
  refine ⟨t, step t ?_, b1⟩
  have e : T.heap.size = H.size := by rw [hT]
  rw [e]
  exact a1
end CTOR
