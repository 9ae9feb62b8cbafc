/-! a contract over a part of a world gives one over the whole world -/
theorem me_frame {l : Launch} {D : va_G} {CL : List vw_C} {TY : List (ClassId × FieldType)} {y : MethodName} {ws : List Cond} {rm : Room} {av : List Value} {w0 w1 W0 W1 wr : va_W} {o : Option Value} (hM : MeG l D CL TY y ws rm av w0 o w1)
    (isC isR : List Nat) (hC : isC.map (fun i => W0[i]?) = w0.map some) (hR : isR.map (fun i => W0[i]?) = wr.map some) (hnC : va_nd isC = true) (hn : va_nd isR = true) (hdis : isR.all (fun i => !isC.contains i) = true)
    (ps : List Nat) (hps : ps.map (fun i => (wr ++ w1)[i]?) = W1.map some) (hpd : va_nd ps = true) : MeG l D CL TY y ws rm av W0 o W1 := by
  intro sz
  have hsub : ∀ q, va_A w0 sz q → va_A W0 sz q := by
    intro q h
    rcases h with ⟨k, e, h⟩ | h
    · have h1 : (isC.map (fun i => W0[i]?))[k]? = some (some (q, e)) := by rw [hC, List.getElem?_map, h]; rfl
      rw [List.getElem?_map] at h1
      cases hi : isC[k]? with
      | none => rw [hi] at h1; cases h1
      | some i => rw [hi] at h1; exact Or.inl ⟨i, e, Option.some.inj h1⟩
    · exact Or.inr h
  have hdis' : ∀ i ∈ isR, i ∉ isC := fun i hi hc => by
    have h9 := List.all_eq_true.mp hdis i hi
    simp [hc] at h9
  refine MetFree.mono (hM sz) ?_ (fun _ _ _ _ _ h => h) ?_
  · intro a U h
    obtain ⟨h1, h2, hP, hK, hD⟩ := h
    exact ⟨h1, h2, hP.sub isC (mapsome_fm _ _ _ hC), hK, hD.sub isC hnC hC⟩
  · intro a U oc t h hq
    obtain ⟨h1, h2, hP, hK, hD⟩ := h
    obtain ⟨⟨⟨hv, hb, hk1, hd⟩, hz, hk⟩, L, hL, hLf⟩ := hq
    subst h2
    have hD' := hD.self (sz := U.heap.size)
    obtain ⟨jP, jD⟩ := va_join hP hD' isC isR hC hR hn hdis' hk hsub hb hd
    exact ⟨⟨⟨hv, jP.sub ps (mapsome_fm _ _ _ hps), hk1, jD.sub ps hpd hps⟩, hz, fun q h3 h4 => hk q h3 (fun z => h4 (hsub q z))⟩, L, hL, fun q hq => hsub _ (hLf q hq)⟩
section CLLR
variable {p : Program} {l : Launch} {e : Env} {R : Room} {s : State} {m : MethodId} {args : Array Value} {below : List Frame} {meth : Method} {c : Code} {H : Heap} {locs : List Loc} {cells slots : Nat} {Q : State → Prop}
variable {pc : Nat} {ls : Array Slot} {rest st0 : List Value} {D : va_G} {CL : List vw_C} {TY : List (ClassId × FieldType)} {A : Nat → Prop} {X X' M M' : va_W} {o : Option Value} {av : Array Value}
theorem va_P.left {H : Heap} (h : va_P D CL (wa X M) H) : va_P D CL X H := fun k q hk => h k q (by
  show (X ++ M)[k]? = some q
  rw [List.getElem?_append_left (List.getElem?_eq_some_iff.mp hk).1]
  exact hk)
theorem va_P.right {H : Heap} (h : va_P D CL (wa X M) H) : va_P D CL M H := fun k q hk => h (X.length + k) q (by
  show (X ++ M)[X.length + k]? = some q
  rw [List.getElem?_append_right (Nat.le_add_right _ _), Nat.add_sub_cancel_left]
  exact hk)
theorem va_D.left (h : va_D A (wa X M)) : va_D A X := by
  refine ⟨fun i j x y hi hj hxy => h.1 i j x y ?_ ?_ hxy, fun k q hk => h.2 k q ?_⟩
  · show (X ++ M)[i]? = some x
    rw [List.getElem?_append_left (List.getElem?_eq_some_iff.mp hi).1]; exact hi
  · show (X ++ M)[j]? = some y
    rw [List.getElem?_append_left (List.getElem?_eq_some_iff.mp hj).1]; exact hj
  · show (X ++ M)[k]? = some q
    rw [List.getElem?_append_left (List.getElem?_eq_some_iff.mp hk).1]; exact hk
theorem va_D.right (h : va_D A (wa X M)) : va_D A M := by
  refine ⟨fun i j x y hi hj hxy => ?_, fun k q hk => h.2 (X.length + k) q ?_⟩
  · have h1 := h.1 (X.length + i) (X.length + j) x y (by
      show (X ++ M)[X.length + i]? = some x
      rw [List.getElem?_append_right (Nat.le_add_right _ _), Nat.add_sub_cancel_left]; exact hi) (by
      show (X ++ M)[X.length + j]? = some y
      rw [List.getElem?_append_right (Nat.le_add_right _ _), Nat.add_sub_cancel_left]; exact hj) hxy
    omega
  · show (X ++ M)[X.length + k]? = some q
    rw [List.getElem?_append_right (Nat.le_add_right _ _), Nat.add_sub_cancel_left]; exact hk
theorem va_D.apart (h : va_D A (wa X M)) (i j : Nat) (x y : Nat × va_E) (hi : X[i]? = some x) (hj : M[j]? = some y) : x.1 ≠ y.1 := by
  intro hxy
  have hl := (List.getElem?_eq_some_iff.mp hi).1
  have h1 := h.1 i (X.length + j) x y (by
    show (X ++ M)[i]? = some x
    rw [List.getElem?_append_left hl]; exact hi) (by
    show (X ++ M)[X.length + j]? = some y
    rw [List.getElem?_append_right (Nat.le_add_right _ _), Nat.add_sub_cancel_left]; exact hj) hxy
  omega
theorem cl_L (hr : va_Run p l e R s m args below meth c H locs cells slots 0 0 (F0 m pc ls st0) rest (Qg D CL TY o X' (va_A X H.size) av) (va_A X H.size))
    (hP : va_P D CL (wa X M) H) (hD : va_D A (wa X M)) (hS : va_S A s.heap H locs) (hA : ∀ q, s.heap.size ≤ q → A q)
    (kk : ∀ (H1 : Heap) (locs1 : List Loc), va_P D CL (wa X' M) H1 → va_D A (wa X' M) → va_S A s.heap H1 locs1 → W p l e R s m args below meth c H1 locs1 cells slots Q (F0 m (pc + 3) ls (o.toList ++ rest))) :
    W p l e R s m args below meth c H locs cells slots Q (F0 m pc ls st0) := by
  intro T hT Y
  have hDX := hD.left
  have hF : ∀ z, va_A X H.size z → A z := by
    intro z hz
    rcases hz with ⟨j, e9, hj⟩ | hz
    · exact hDX.2 j _ hj
    · exact hA z (Nat.le_trans hS.1 hz)
  obtain ⟨v, st₀, t, T', L, h0, Y', hL, e1', e2, ⟨⟨hv, hb, hk1, hd⟩, hz, hkk⟩, st⟩ := hr T hT Y
  cases hv
  rw [h0] at hz hkk
  have ap : ∀ (j : Nat) (y : Nat × va_E), M[j]? = some y → y.1 < H.size ∧ ¬ va_A X H.size y.1 := by
    intro j y hj
    have hl := (hP.right j y hj).lt
    refine ⟨hl, fun h => ?_⟩
    rcases h with ⟨i, e9, hi⟩ | h
    · exact hD.apart i j (y.1, e9) y hi hj rfl
    · omega
  have hPM : va_P D CL M T'.heap := fun j y hj => (hP.right j y hj).kept (by rw [e1']; exact hkk y.1 (ap j y hj).1 (ap j y hj).2)
  have hPX : va_P D CL X' T'.heap := by rw [e1']; exact hb
  have hD1 : va_D A (wa X' M) := va_D.app (hd.weaken (fun k q _ h => hF q.1 h)) hD.right (fun i j x y hx hy hxy => (ap j y hy).2 (by rw [← hxy]; exact hd.2 i x hx))
  obtain ⟨t2, a1, b1⟩ := kk T'.heap (locs ++ L) (va_P.app hPX hPM) hD1
    ⟨Nat.le_trans hS.1 (by rw [e1']; exact hz), fun q h1 h2 => by rw [e1', hkk q (Nat.lt_of_lt_of_le h1 hS.1) (fun z => h2 (hF q z))]; exact hS.2.1 q h1 h2, fun q hq => by
      rcases List.mem_append.mp hq with h | h
      · exact hS.2.2 q h
      · exact hF _ (hL q h)⟩ T' rfl Y'
  exact ⟨t2, st t2 a1, b1⟩
theorem cl_R (hr : va_Run p l e R s m args below meth c H locs cells slots 0 0 (F0 m pc ls st0) rest (Qg D CL TY o M' (va_A M H.size) av) (va_A M H.size))
    (hP : va_P D CL (wa X M) H) (hD : va_D A (wa X M)) (hS : va_S A s.heap H locs) (hA : ∀ q, s.heap.size ≤ q → A q)
    (kk : ∀ (H1 : Heap) (locs1 : List Loc), va_P D CL (wa X M') H1 → va_D A (wa X M') → va_S A s.heap H1 locs1 → W p l e R s m args below meth c H1 locs1 cells slots Q (F0 m (pc + 3) ls (o.toList ++ rest))) :
    W p l e R s m args below meth c H locs cells slots Q (F0 m pc ls st0) := by
  intro T hT Y
  have hDM := hD.right
  have hF : ∀ z, va_A M H.size z → A z := by
    intro z hz
    rcases hz with ⟨j, e9, hj⟩ | hz
    · exact hDM.2 j _ hj
    · exact hA z (Nat.le_trans hS.1 hz)
  obtain ⟨v, st₀, t, T', L, h0, Y', hL, e1', e2, ⟨⟨hv, hb, hk1, hd⟩, hz, hkk⟩, st⟩ := hr T hT Y
  cases hv
  rw [h0] at hz hkk
  have ap : ∀ (j : Nat) (y : Nat × va_E), X[j]? = some y → y.1 < H.size ∧ ¬ va_A M H.size y.1 := by
    intro j y hj
    have hl := (hP.left j y hj).lt
    refine ⟨hl, fun h => ?_⟩
    rcases h with ⟨i, e9, hi⟩ | h
    · exact hD.apart j i y (y.1, e9) hj hi rfl
    · omega
  have hPX : va_P D CL X T'.heap := fun j y hj => (hP.left j y hj).kept (by rw [e1']; exact hkk y.1 (ap j y hj).1 (ap j y hj).2)
  have hPM : va_P D CL M' T'.heap := by rw [e1']; exact hb
  have hD1 : va_D A (wa X M') := va_D.app hD.left (hd.weaken (fun k q _ h => hF q.1 h)) (fun i j x y hx hy hxy => (ap i x hx).2 (by rw [hxy]; exact hd.2 j y hy))
  obtain ⟨t2, a1, b1⟩ := kk T'.heap (locs ++ L) (va_P.app hPX hPM) hD1
    ⟨Nat.le_trans hS.1 (by rw [e1']; exact hz), fun q h1 h2 => by rw [e1', hkk q (Nat.lt_of_lt_of_le h1 hS.1) (fun z => h2 (hF q z))]; exact hS.2.1 q h1 h2, fun q hq => by
      rcases List.mem_append.mp hq with h | h
      · exact hS.2.2 q h
      · exact hF _ (hL q h)⟩ T' rfl Y'
  exact ⟨t2, st t2 a1, b1⟩
end CLLR
