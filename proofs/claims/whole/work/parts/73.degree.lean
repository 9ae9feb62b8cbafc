/-! trees with few arcs at each node -/
theorem Jn_cut {fr to : Nat → Nat} {U : Nat → Bool} {T : List Nat} (h : Jn fr to U T) (X : Nat → Bool) {u v : Nat} (hu : U u = true) (hv : U v = true) (xu : X u = true) (xv : X v = false) : ∃ a, a ∈ T ∧ X (fr a) ≠ X (to a) := by
  apply Classical.byContradiction
  intro hn
  have := kr_least (E := fun x y => X x = X y) (fun _ => rfl) (fun _ _ h => h.symm) (fun _ _ _ h1 h2 => h1.trans h2) T (fun x y e => by rw [show x = y from e]) (fun a ha => by
    apply Classical.byContradiction
    intro hx
    exact hn ⟨a, ha, hx⟩) u v (h u v hu hv)
  rw [xu, xv] at this
  cases this
theorem Jn_of {fr to : Nat → Nat} {U : Nat → Bool} {T : List Nat} (h : ∀ (X : Nat → Bool) (u v : Nat), U u = true → U v = true → X u = true → X v = false → ∃ a, a ∈ T ∧ X (fr a) ≠ X (to a)) : Jn fr to U T := by
  intro u v hu hv
  apply Classical.byContradiction
  intro hne
  obtain ⟨a, a1, a2⟩ := h (fun w => decide (kr fr to T (fun v => v) w = kr fr to T (fun v => v) u)) u v hu hv (by simp) (by simp; exact fun e => hne e.symm)
  apply a2
  show decide (_ = _) = decide (_ = _)
  rw [kr_arc T a1]
theorem kl_len {fr to : Nat → Nat} : ∀ (l : List Nat) {lab : Nat → Nat}, (kl fr to l lab).length ≤ l.length
  | [], _ => Nat.le_refl _
  | a :: l, lab => by
    have := kl_len (fr := fr) (to := to) l (lab := uni lab (fr a) (to a))
    simp only [kl]
    split
    · rw [List.length_cons]; omega
    · rw [List.length_cons, List.length_cons]; omega
theorem Jn_len {fr to : Nat → Nat} {U : Nat → Bool} {T : List Nat} {n : Nat} (hU : ∀ u, U u = true → u < n) (hT : ∀ a, a ∈ T → U (fr a) = true ∧ U (to a) = true) (h : Jn fr to U T) : nbs U n ≤ T.length + 1 := by
  obtain ⟨h1, h2⟩ := rc_kl (fr := fr) (to := to) (s := U) (n := n) T Lb_id (fun a ha => ⟨(hT a ha).1, (hT a ha).2, hU _ (hT a ha).1, hU _ (hT a ha).2⟩) (fun v hv => hv)
  have e0 : nbs (rc U (fun v => v)) n = nbs U n := nbs_congr (fun v _ => by simp [rc])
  rw [e0] at h1
  have h3 := nbs_one (q := rc U (kr fr to T (fun v => v))) (fun u v hu hv => by
    simp only [rc, Bool.and_eq_true, decide_eq_true_eq] at hu hv
    rw [← hu.2, ← hv.2]
    exact h u v hu.1 hv.1) n
  have h4 := kl_len (fr := fr) (to := to) T (lab := fun v => v)
  omega
theorem nbs_addN {S : Nat → Bool} {v n : Nat} (hS : S v = false) (hv : v < n) : nbs (addN S v) n = nbs S n + 1 := by
  have h1 := nbs_out (q := addN S v) (m := v) (by simp [addN]) hv
  have h2 : nbs (fun u => addN S v u && !decide (u = v)) n = nbs S n := nbs_congr (fun u _ => by
    unfold addN
    by_cases e : u = v
    · subst e; simp [hS]
    · simp [e])
  omega
theorem nbs_split {S one : Nat → Bool} (h : ∀ u, one u = true → S u = true) : ∀ n, nbs S n = nbs one n + nbs (fun u => S u && !one u) n
  | 0 => rfl
  | n + 1 => by
    have ih := nbs_split h n
    unfold nbs
    rw [ih]
    cases h1 : one n with
    | true => rw [h n h1]; simp; omega
    | false =>
      cases h2 : S n with
      | true => simp; omega
      | false => simp
/-- how many arcs of T there are at u -/
def dgr (fr to : Nat → Nat) (T : List Nat) (u : Nat) : Nat := lsum (fun a => (if fr a = u then 1 else 0) + (if to a = u then 1 else 0)) T
theorem dgr_app (fr to : Nat → Nat) (T1 T2 : List Nat) (u : Nat) : dgr fr to (T1 ++ T2) u = dgr fr to T1 u + dgr fr to T2 u := lsum_app _ _ _
theorem dgr_0 {fr to : Nat → Nat} {u : Nat} : ∀ {T : List Nat}, (∀ a, a ∈ T → fr a ≠ u ∧ to a ≠ u) → dgr fr to T u = 0
  | [], _ => rfl
  | a :: T, h => by
    have ih := dgr_0 (fr := fr) (to := to) (u := u) (T := T) (fun b hb => h b (List.mem_cons_of_mem _ hb))
    obtain ⟨h1, h2⟩ := h a (List.mem_cons_self ..)
    unfold dgr at *
    simp only [lsum, ih, if_neg h1, if_neg h2]
theorem dgr_pos {fr to : Nat → Nat} {u a : Nat} : ∀ {T : List Nat}, a ∈ T → (fr a = u ∨ to a = u) → 1 ≤ dgr fr to T u
  | [], h, _ => absurd h (by simp)
  | b :: T, h, hu => by
    rcases List.mem_cons.mp h with g | g
    · subst g
      unfold dgr
      simp only [lsum]
      rcases hu with e | e
      · rw [if_pos e]; omega
      · rw [if_pos e]; omega
    · have := dgr_pos (T := T) g hu
      unfold dgr at *
      simp only [lsum]
      omega
theorem lsum_split2 (c : Nat → Nat) (p : Nat → Bool) : ∀ T : List Nat, lsum c (T.filter p) + lsum c (T.filter (fun a => !p a)) = lsum c T
  | [] => rfl
  | a :: T => by
    have ih := lsum_split2 c p T
    cases h : p a with
    | true =>
      rw [List.filter_cons_of_pos h, List.filter_cons_of_neg (by simp [h])]
      simp only [lsum]
      omega
    | false =>
      rw [List.filter_cons_of_neg (by simp [h]), List.filter_cons_of_pos (by simp [h])]
      simp only [lsum]
      omega
theorem len_split (p : Nat → Bool) (T : List Nat) : (T.filter p).length + (T.filter (fun a => !p a)).length = T.length := by
  rw [len_wsum, len_wsum, lsum_split2, ← len_wsum]
/-- arcs at u, where no arc is at u twice -/
theorem dgr_len {fr to : Nat → Nat} {u : Nat} : ∀ {T : List Nat}, (∀ a, a ∈ T → fr a ≠ to a) → dgr fr to T u + (T.filter (fun a => !(decide (fr a = u) || decide (to a = u)))).length = T.length
  | [], _ => rfl
  | a :: T, h => by
    have ih := dgr_len (fr := fr) (to := to) (u := u) (T := T) (fun b hb => h b (List.mem_cons_of_mem _ hb))
    have h1 := h a (List.mem_cons_self ..)
    unfold dgr at *
    by_cases e1 : fr a = u
    · have e2 : ¬ to a = u := fun e => h1 (e1.trans e.symm)
      rw [List.filter_cons_of_neg (by simp [e1])]
      simp only [lsum, if_pos e1, if_neg e2, List.length_cons]
      omega
    · by_cases e2 : to a = u
      · rw [List.filter_cons_of_neg (by simp [e2])]
        simp only [lsum, if_neg e1, if_pos e2, List.length_cons]
        omega
      · rw [List.filter_cons_of_pos (by simp [e1, e2])]
        simp only [lsum, if_neg e1, if_neg e2, List.length_cons]
        omega
def Tr (fr to : Nat → Nat) (n B : Nat) (ord : List Nat) (v : Nat) (S : Nat → Bool) (k : Nat) (T : List Nat) : Prop :=
  T.Nodup ∧ (∀ a, a ∈ T → a ∈ ord ∧ addN S v (fr a) = true ∧ addN S v (to a) = true) ∧ Jn fr to (addN S v) T ∧ T.length = nbs S n ∧ dgr fr to T v ≤ k ∧ ∀ u, S u = true → dgr fr to T u ≤ B
theorem addN_v (S : Nat → Bool) (v : Nat) : addN S v v = true := by simp [addN]
theorem addN_s {S : Nat → Bool} {v u : Nat} (h : S u = true) : addN S v u = true := by simp [addN, h]
theorem addN_or {S : Nat → Bool} {v u : Nat} (h : addN S v u = true) : S u = true ∨ u = v := by
  unfold addN at h
  simp only [Bool.or_eq_true, decide_eq_true_eq] at h
  exact h
theorem nbs_none {q : Nat → Bool} : ∀ {n : Nat}, (∀ v, v < n → q v = false) → nbs q n = 0
  | 0, _ => rfl
  | n + 1, h => by
    unfold nbs
    rw [nbs_none (n := n) (fun v hv => h v (by omega)), h n (by omega)]
    simp
theorem Tr_nil {fr to : Nat → Nat} {n B : Nat} {ord : List Nat} {v k : Nat} {S : Nat → Bool} (hS : ∀ u, S u = false) : Tr fr to n B ord v S k [] := by
  refine ⟨List.Pairwise.nil, fun a ha => by simp at ha, fun u w hu hw => ?_, ?_, by simp [dgr, lsum], fun u hu => by rw [hS u] at hu; cases hu⟩
  · rcases addN_or hu with g | g
    · rw [hS u] at g; cases g
    · rcases addN_or hw with g' | g'
      · rw [hS w] at g'; cases g'
      · rw [g, g']
  · rw [nbs_none (fun u _ => hS u)]; rfl
theorem Tr_empty {fr to : Nat → Nat} {n B : Nat} {ord : List Nat} {v k : Nat} {S : Nat → Bool} {T : List Nat} (hS : ∀ u, S u = false) (h : Tr fr to n B ord v S k T) : T = [] := by
  have h1 := h.2.2.2.1
  rw [nbs_none (fun u _ => hS u)] at h1
  exact List.length_eq_zero_iff.mp h1
/-- an arc to a node of S and a tree there: one branch -/
theorem Tr_arc {fr to : Nat → Nat} {n B : Nat} {ord : List Nat} {v top a : Nat} {S : Nat → Bool} {T : List Nat} (hB : 1 ≤ B) (hSn : ∀ u, S u = true → u < n) (hv : S v = false) (ht : S top = true) (ha : a ∈ ord) (hab : (fr a = v ∧ to a = top) ∨ (fr a = top ∧ to a = v)) (h : Tr fr to n B ord top (fun u => S u && !decide (u = top)) (B - 1) T) : Tr fr to n B ord v S 1 (a :: T) := by
  obtain ⟨h1, h2, h3, h4, h5, h6⟩ := h
  have hins : ∀ u, addN (fun u => S u && !decide (u = top)) top u = S u := by
    intro u
    unfold addN
    by_cases e : u = top
    · subst e; simp [ht]
    · simp [e]
  have hvt : v ≠ top := fun e => by rw [e, ht] at hv; cases hv
  have hTS : ∀ b, b ∈ T → S (fr b) = true ∧ S (to b) = true := fun b hb => by
    obtain ⟨-, g1, g2⟩ := h2 b hb
    rw [hins] at g1 g2
    exact ⟨g1, g2⟩
  have hTv : ∀ b, b ∈ T → fr b ≠ v ∧ to b ≠ v := fun b hb => by
    obtain ⟨g1, g2⟩ := hTS b hb
    exact ⟨(fun e => by rw [e, hv] at g1; cases g1), (fun e => by rw [e, hv] at g2; cases g2)⟩
  refine ⟨List.nodup_cons.mpr ⟨fun hm => ?_, h1⟩, fun b hb => ?_, ?_, ?_, ?_, fun u hu => ?_⟩
  · obtain ⟨g1, g2⟩ := hTv a hm
    rcases hab with ⟨e1, e2⟩ | ⟨e1, e2⟩
    · exact g1 e1
    · exact g2 e2
  · rcases List.mem_cons.mp hb with g | g
    · subst g
      rcases hab with ⟨e1, e2⟩ | ⟨e1, e2⟩
      · rw [e1, e2]; exact ⟨ha, addN_v S v, addN_s ht⟩
      · rw [e1, e2]; exact ⟨ha, addN_s ht, addN_v S v⟩
    · exact ⟨(h2 b g).1, addN_s (hTS b g).1, addN_s (hTS b g).2⟩
  · have key : ∀ u, addN S v u = true → kr fr to (a :: T) (fun v => v) u = kr fr to (a :: T) (fun v => v) top := by
      intro u hu
      have hat : kr fr to (a :: T) (fun v => v) (fr a) = kr fr to (a :: T) (fun v => v) (to a) := kr_arc _ (List.mem_cons_self ..)
      rcases addN_or hu with g | g
      · exact kr_sub (fun b hb => List.mem_cons_of_mem _ hb) (h3 u top (by rw [hins]; exact g) (by rw [hins]; exact ht))
      · rw [g]
        rcases hab with ⟨e1, e2⟩ | ⟨e1, e2⟩
        · rw [e1, e2] at hat; exact hat
        · rw [e1, e2] at hat; exact hat.symm
    intro u w hu hw
    rw [key u hu, key w hw]
  · have := nbs_out (q := S) (m := top) ht (hSn top ht)
    rw [List.length_cons, h4]
    exact this
  · have h0 := dgr_0 hTv
    unfold dgr at *
    simp only [lsum, h0]
    rcases hab with ⟨e1, e2⟩ | ⟨e1, e2⟩
    · rw [if_pos e1, if_neg (by rw [e2]; exact fun e => hvt e.symm)]; omega
    · rw [if_neg (by rw [e1]; exact fun e => hvt e.symm), if_pos e2]; omega
  · by_cases e : u = top
    · subst e
      unfold dgr at *
      simp only [lsum]
      rcases hab with ⟨e1, e2⟩ | ⟨e1, e2⟩
      · rw [if_neg (by rw [e1]; exact hvt), if_pos e2]; omega
      · rw [if_pos e1, if_neg (by rw [e2]; exact hvt)]; omega
    · have h7 := h6 u (by simp [hu, e])
      have hvu : ¬ v = u := fun g => by rw [g, hu] at hv; cases hv
      have htu : ¬ top = u := fun g => e g.symm
      unfold dgr at *
      simp only [lsum]
      rcases hab with ⟨e1, e2⟩ | ⟨e1, e2⟩
      · rw [e1, e2, if_neg hvu, if_neg htu]; omega
      · rw [e1, e2, if_neg hvu, if_neg htu]; omega
/-- two trees at v over sets without a common node -/
theorem Tr_join {fr to : Nat → Nat} {n B : Nat} {ord : List Nat} {v k1 k2 : Nat} {S one : Nat → Bool} {T1 T2 : List Nat} (hne : ∀ a, a ∈ ord → fr a ≠ to a) (hv : S v = false) (ho : ∀ u, one u = true → S u = true) (h1 : Tr fr to n B ord v one k1 T1) (h2 : Tr fr to n B ord v (fun u => S u && !one u) k2 T2) : Tr fr to n B ord v S (k1 + k2) (T1 ++ T2) := by
  obtain ⟨p1, p2, p3, p4, p5, p6⟩ := h1
  obtain ⟨q1, q2, q3, q4, q5, q6⟩ := h2
  have hov : one v = false := by
    cases g : one v with
    | false => rfl
    | true => have := ho v g; rw [hv] at this; cases this
  have hn1 : ∀ a, a ∈ T1 → ∀ u, (S u && !one u) = true → fr a ≠ u ∧ to a ≠ u := by
    intro a ha u hu
    simp only [Bool.and_eq_true, Bool.not_eq_true'] at hu
    obtain ⟨-, g1, g2⟩ := p2 a ha
    have huv : u ≠ v := fun e => by rw [e, hv] at hu; cases hu.1
    constructor
    · intro e
      rcases addN_or g1 with g | g
      · rw [e, hu.2] at g; cases g
      · exact huv (e.symm.trans g)
    · intro e
      rcases addN_or g2 with g | g
      · rw [e, hu.2] at g; cases g
      · exact huv (e.symm.trans g)
  have hn2 : ∀ a, a ∈ T2 → ∀ u, one u = true → fr a ≠ u ∧ to a ≠ u := by
    intro a ha u hu
    obtain ⟨-, g1, g2⟩ := q2 a ha
    have huv : u ≠ v := fun e => by rw [e, hov] at hu; cases hu
    constructor
    · intro e
      rcases addN_or g1 with g | g
      · simp only [e, hu] at g; simp at g
      · exact huv (e.symm.trans g)
    · intro e
      rcases addN_or g2 with g | g
      · simp only [e, hu] at g; simp at g
      · exact huv (e.symm.trans g)
  refine ⟨?_, fun a ha => ?_, ?_, ?_, ?_, fun u hu => ?_⟩
  · rw [List.nodup_append]
    refine ⟨p1, q1, fun a ha b hb e => ?_⟩
    subst e
    obtain ⟨g0, g1, g2⟩ := p2 a ha
    rcases addN_or g1 with g | g
    · exact (hn2 a hb _ g).1 rfl
    · rcases addN_or g2 with g' | g'
      · exact (hn2 a hb _ g').2 rfl
      · exact hne a g0 (g.trans g'.symm)
  · rcases List.mem_append.mp ha with g | g
    · obtain ⟨g0, g1, g2⟩ := p2 a g
      refine ⟨g0, ?_, ?_⟩
      · rcases addN_or g1 with e | e
        · exact addN_s (ho _ e)
        · rw [e]; exact addN_v S v
      · rcases addN_or g2 with e | e
        · exact addN_s (ho _ e)
        · rw [e]; exact addN_v S v
    · obtain ⟨g0, g1, g2⟩ := q2 a g
      refine ⟨g0, ?_, ?_⟩
      · rcases addN_or g1 with e | e
        · simp only [Bool.and_eq_true] at e; exact addN_s e.1
        · rw [e]; exact addN_v S v
      · rcases addN_or g2 with e | e
        · simp only [Bool.and_eq_true] at e; exact addN_s e.1
        · rw [e]; exact addN_v S v
  · have key : ∀ u, addN S v u = true → kr fr to (T1 ++ T2) (fun v => v) u = kr fr to (T1 ++ T2) (fun v => v) v := by
      intro u hu
      rcases addN_or hu with g | g
      · cases ho1 : one u with
        | true => exact kr_sub (fun b hb => List.mem_append.mpr (Or.inl hb)) (p3 u v (addN_s ho1) (addN_v _ v))
        | false => exact kr_sub (fun b hb => List.mem_append.mpr (Or.inr hb)) (q3 u v (addN_s (by simp [g, ho1])) (addN_v _ v))
      · rw [g]
    intro u w hu hw
    rw [key u hu, key w hw]
  · rw [List.length_append, p4, q4, ← nbs_split ho]
  · rw [dgr_app]; omega
  · rw [dgr_app]
    cases ho1 : one u with
    | true =>
      rw [dgr_0 (fun a ha => hn2 a ha u ho1)]
      exact p6 u ho1
    | false =>
      have hu2 : (S u && !one u) = true := by simp [hu, ho1]
      rw [dgr_0 (fun a ha => hn1 a ha u hu2)]
      have := q6 u hu2
      omega
/-- one branch: its arc, and the tree above it -/
theorem Tr_one {fr to c : Nat → Nat} {n B : Nat} {ord : List Nat} {v : Nat} {S : Nat → Bool} {T : List Nat} {u0 : Nat} (hne : ∀ a, a ∈ ord → fr a ≠ to a) (hSn : ∀ u, S u = true → u < n) (hv : S v = false) (h0 : S u0 = true) (h : Tr fr to n B ord v S 1 T) : ∃ top a T', S top = true ∧ a ∈ ord ∧ ((fr a = v ∧ to a = top) ∨ (fr a = top ∧ to a = v)) ∧ Tr fr to n B ord top (fun u => S u && !decide (u = top)) (B - 1) T' ∧ c a + lsum c T' ≤ lsum c T := by
  obtain ⟨h1, h2, h3, h4, h5, h6⟩ := h
  have hvu : v ≠ u0 := fun e => by rw [e, h0] at hv; cases hv
  obtain ⟨a, a1, a2⟩ := Jn_cut h3 (fun w => decide (w = v)) (addN_v S v) (addN_s h0) (by simp) (by simp; exact fun e => hvu e.symm)
  obtain ⟨ao, af, at_⟩ := h2 a a1
  have hinc : fr a = v ∨ to a = v := by
    apply Classical.byContradiction
    intro hn
    apply a2
    simp only [not_or] at hn
    simp [hn.1, hn.2]
  have hend : ∃ top, S top = true ∧ ((fr a = v ∧ to a = top) ∨ (fr a = top ∧ to a = v)) := by
    rcases hinc with e | e
    · refine ⟨to a, ?_, Or.inl ⟨e, rfl⟩⟩
      rcases addN_or at_ with g | g
      · exact g
      · exact absurd (e.trans g.symm) (hne a ao)
    · refine ⟨fr a, ?_, Or.inr ⟨rfl, e⟩⟩
      rcases addN_or af with g | g
      · exact g
      · exact absurd (g.trans e.symm) (hne a ao)
  obtain ⟨top, ht, hab⟩ := hend
  have hvt : v ≠ top := fun e => by rw [e, ht] at hv; cases hv
  have hins : ∀ u, addN (fun u => S u && !decide (u = top)) top u = S u := by
    intro u
    unfold addN
    by_cases e : u = top
    · subst e; simp [ht]
    · simp [e]
  have hout := lsum_out c T a1
  have hT'm : ∀ b, b ∈ T.filter (fun b => !decide (b = a)) → b ∈ T ∧ b ≠ a := fun b hb => by
    obtain ⟨g1, g2⟩ := List.mem_filter.mp hb
    exact ⟨g1, by simpa using g2⟩
  -- the others are not at v
  have hdg : ∀ u, dgr fr to T u = dgr fr to (T.filter (fun b => decide (b = a))) u + dgr fr to (T.filter (fun b => !decide (b = a))) u := fun u => (lsum_split2 _ (fun b => decide (b = a)) T).symm
  have ham : a ∈ T.filter (fun b => decide (b = a)) := List.mem_filter.mpr ⟨a1, by simp⟩
  have hT'v : ∀ b, b ∈ T.filter (fun b => !decide (b = a)) → fr b ≠ v ∧ to b ≠ v := by
    intro b hb
    have g1 := hdg v
    have g2 := dgr_pos (u := v) ham hinc
    constructor
    · intro e
      have := dgr_pos (fr := fr) (to := to) (u := v) hb (Or.inl e)
      omega
    · intro e
      have := dgr_pos (fr := fr) (to := to) (u := v) hb (Or.inr e)
      omega
  have hT'S : ∀ b, b ∈ T.filter (fun b => !decide (b = a)) → S (fr b) = true ∧ S (to b) = true := by
    intro b hb
    obtain ⟨-, g1, g2⟩ := h2 b (hT'm b hb).1
    obtain ⟨n1, n2⟩ := hT'v b hb
    constructor
    · rcases addN_or g1 with g | g
      · exact g
      · exact absurd g n1
    · rcases addN_or g2 with g | g
      · exact g
      · exact absurd g n2
  have hJ : Jn fr to S (T.filter (fun b => !decide (b = a))) := by
    apply Jn_of
    intro X p q hp hq xp xq
    have hpv : p ≠ v := fun e => by rw [e, hv] at hp; cases hp
    have hqv : q ≠ v := fun e => by rw [e, hv] at hq; cases hq
    obtain ⟨b, b1, b2⟩ := Jn_cut h3 (fun w => if w = v then X top else X w) (addN_s hp) (addN_s hq) (by simp only [if_neg hpv]; exact xp) (by simp only [if_neg hqv]; exact xq)
    have hba : b ≠ a := fun e => by
      subst e
      apply b2
      have htv : ¬ top = v := fun e => hvt e.symm
      rcases hab with ⟨e1, e2⟩ | ⟨e1, e2⟩
      · simp only [e1, e2, if_neg htv, if_pos]
      · simp only [e1, e2, if_neg htv, if_pos]
    have hbm : b ∈ T.filter (fun b => !decide (b = a)) := List.mem_filter.mpr ⟨b1, by simp [hba]⟩
    obtain ⟨n1, n2⟩ := hT'v b hbm
    simp only [if_neg n1, if_neg n2] at b2
    exact ⟨b, hbm, b2⟩
  refine ⟨top, a, T.filter (fun b => !decide (b = a)), ht, ao, hab, ⟨List.Pairwise.filter _ h1, fun b hb => ?_, ?_, ?_, ?_, fun u hu => ?_⟩, by omega⟩
  · rw [hins, hins]
    exact ⟨(h2 b (hT'm b hb).1).1, hT'S b hb⟩
  · intro u w hu hw
    rw [hins] at hu hw
    exact hJ u w hu hw
  · have g1 := len_split (fun b => decide (b = a)) T
    have g2 : (T.filter (fun b => decide (b = a))).length = 1 := by
      have g3 : 1 ≤ (T.filter (fun b => decide (b = a))).length := List.length_pos_of_mem ham
      have g4 := Jn_len (n := n) hSn hT'S hJ
      omega
    have g5 := nbs_out (q := S) (m := top) ht (hSn top ht)
    omega
  · have g1 := hdg top
    have g2 := dgr_pos (fr := fr) (to := to) (u := top) ham (by rcases hab with ⟨e1, e2⟩ | ⟨e1, e2⟩; exact Or.inr e2; exact Or.inl e1)
    have g3 := h6 top ht
    omega
  · simp only [Bool.and_eq_true] at hu
    have g1 := hdg u
    have g3 := h6 u hu.1
    omega
/-- a tree at v: the branch with the node a0, and the rest -/
theorem Tr_split {fr to c : Nat → Nat} {n B k : Nat} {ord : List Nat} {v a0 : Nat} {S : Nat → Bool} {T : List Nat} (hne : ∀ a, a ∈ ord → fr a ≠ to a) (hSn : ∀ u, S u = true → u < n) (hvn : v < n) (hv : S v = false) (h0 : S a0 = true) (h : Tr fr to n B ord v S k T) : 1 ≤ k ∧ ∃ (one : Nat → Bool) (T1 T2 : List Nat), (∀ u, one u = true → S u = true) ∧ one a0 = true ∧ Tr fr to n B ord v one 1 T1 ∧ Tr fr to n B ord v (fun u => S u && !one u) (k - 1) T2 ∧ lsum c T1 + lsum c T2 = lsum c T := by
  obtain ⟨h1, h2, h3, h4, h5, h6⟩ := h
  -- without the arcs at v
  generalize hT0 : T.filter (fun a => !(decide (fr a = v) || decide (to a = v))) = T0
  have hT0m : ∀ a, a ∈ T0 ↔ a ∈ T ∧ fr a ≠ v ∧ to a ≠ v := by
    intro a
    rw [← hT0, List.mem_filter]
    simp
  generalize hone : (fun u => S u && decide (kr fr to T0 (fun v => v) u = kr fr to T0 (fun v => v) a0)) = one
  have ho : ∀ u, one u = true ↔ S u = true ∧ kr fr to T0 (fun v => v) u = kr fr to T0 (fun v => v) a0 := by
    intro u
    rw [← hone]
    simp
  have hoS : ∀ u, one u = true → S u = true := fun u hu => ((ho u).mp hu).1
  have hoa : one a0 = true := (ho a0).mpr ⟨h0, rfl⟩
  have hov : one v = false := by
    cases g : one v with
    | false => rfl
    | true => have := hoS v g; rw [hv] at this; cases this
  have hTS : ∀ a, a ∈ T0 → S (fr a) = true ∧ S (to a) = true := by
    intro a ha
    obtain ⟨g1, g2, g3⟩ := (hT0m a).mp ha
    obtain ⟨-, q1, q2⟩ := h2 a g1
    constructor
    · rcases addN_or q1 with g | g
      · exact g
      · exact absurd g g2
    · rcases addN_or q2 with g | g
      · exact g
      · exact absurd g g3
  -- an arc that is not at v has both ends in it, or none
  have hboth : ∀ a, a ∈ T0 → (one (fr a) = true ↔ one (to a) = true) := by
    intro a ha
    rw [ho, ho, kr_arc T0 ha]
    obtain ⟨g1, g2⟩ := hTS a ha
    simp [g1, g2]
  -- the arcs with an end in it
  generalize hp : (fun a => one (fr a) || one (to a)) = p
  have hpa : ∀ a, p a = true ↔ one (fr a) = true ∨ one (to a) = true := by
    intro a
    rw [← hp]
    simp
  have hin1 : ∀ a, a ∈ T → p a = true → addN one v (fr a) = true ∧ addN one v (to a) = true := by
    intro a ha hpt
    by_cases hT : a ∈ T0
    · have hb := hboth a hT
      rcases (hpa a).mp hpt with g | g
      · exact ⟨addN_s g, addN_s (hb.mp g)⟩
      · exact ⟨addN_s (hb.mpr g), addN_s g⟩
    · have hinc : fr a = v ∨ to a = v := by
        apply Classical.byContradiction
        intro hn
        simp only [not_or] at hn
        exact hT ((hT0m a).mpr ⟨ha, hn.1, hn.2⟩)
      rcases (hpa a).mp hpt with g | g
      · refine ⟨addN_s g, ?_⟩
        rcases hinc with e | e
        · rw [e, hov] at g; cases g
        · rw [e]; exact addN_v one v
      · refine ⟨?_, addN_s g⟩
        rcases hinc with e | e
        · rw [e]; exact addN_v one v
        · rw [e, hov] at g; cases g
  have hin2 : ∀ a, a ∈ T → p a = false → addN (fun u => S u && !one u) v (fr a) = true ∧ addN (fun u => S u && !one u) v (to a) = true := by
    intro a ha hpf
    have hpn : ¬ (one (fr a) = true ∨ one (to a) = true) := fun g => by rw [(hpa a).mpr g] at hpf; cases hpf
    simp only [not_or, Bool.not_eq_true] at hpn
    obtain ⟨-, q1, q2⟩ := h2 a ha
    constructor
    · rcases addN_or q1 with g | g
      · exact addN_s (by simp [g, hpn.1])
      · rw [g]; exact addN_v _ v
    · rcases addN_or q2 with g | g
      · exact addN_s (by simp [g, hpn.2])
      · rw [g]; exact addN_v _ v
  have hm1 : ∀ a, a ∈ T.filter p ↔ a ∈ T ∧ p a = true := fun a => List.mem_filter
  have hm2 : ∀ a, a ∈ T.filter (fun a => !p a) ↔ a ∈ T ∧ p a = false := fun a => by rw [List.mem_filter]; simp
  have hsub1 : ∀ u, addN one v u = true → addN S v u = true := fun u hu => by
    rcases addN_or hu with g | g
    · exact addN_s (hoS u g)
    · rw [g]; exact addN_v S v
  have hsub2 : ∀ u, addN (fun u => S u && !one u) v u = true → addN S v u = true := fun u hu => by
    rcases addN_or hu with g | g
    · simp only [Bool.and_eq_true] at g; exact addN_s g.1
    · rw [g]; exact addN_v S v
  have hJ1 : Jn fr to (addN one v) (T.filter p) := by
    apply Jn_of
    intro X x y hx hy xx xy
    obtain ⟨a, a1, a2⟩ := Jn_cut h3 (fun w => if one w = true then X w else X v) (hsub1 x hx) (hsub1 y hy) (by
      rcases addN_or hx with g | g
      · simp only [if_pos g]; exact xx
      · subst g; simp only [hov]; simp; exact xx) (by
      rcases addN_or hy with g | g
      · simp only [if_pos g]; exact xy
      · subst g; simp only [hov]; simp; exact xy)
    have hpt : p a = true := by
      apply Classical.byContradiction
      intro hpf
      have hpn : ¬ (one (fr a) = true ∨ one (to a) = true) := fun g => hpf ((hpa a).mpr g)
      simp only [not_or] at hpn
      apply a2
      simp only [if_neg hpn.1, if_neg hpn.2]
    refine ⟨a, (hm1 a).mpr ⟨a1, hpt⟩, ?_⟩
    obtain ⟨g1, g2⟩ := hin1 a a1 hpt
    have e : ∀ w, addN one v w = true → (if one w = true then X w else X v) = X w := by
      intro w hw
      rcases addN_or hw with g | g
      · simp only [if_pos g]
      · subst g; simp only [hov]; simp
    simp only [e _ g1, e _ g2] at a2
    exact a2
  have hJ2 : Jn fr to (addN (fun u => S u && !one u) v) (T.filter (fun a => !p a)) := by
    apply Jn_of
    intro X x y hx hy xx xy
    have hno : ∀ w, addN (fun u => S u && !one u) v w = true → one w = false := by
      intro w hw
      rcases addN_or hw with g | g
      · simp only [Bool.and_eq_true, Bool.not_eq_true'] at g; exact g.2
      · rw [g]; exact hov
    obtain ⟨a, a1, a2⟩ := Jn_cut h3 (fun w => if one w = true then X v else X w) (hsub2 x hx) (hsub2 y hy) (by simp only [hno x hx]; simp; exact xx) (by simp only [hno y hy]; simp; exact xy)
    have hpf : p a = false := by
      cases hq : p a with
      | false => rfl
      | true =>
        exfalso
        obtain ⟨g1, g2⟩ := hin1 a a1 hq
        apply a2
        have e : ∀ w, addN one v w = true → (if one w = true then X v else X w) = X v := by
          intro w hw
          rcases addN_or hw with g | g
          · simp only [if_pos g]
          · subst g; simp only [hov]; simp
        rw [e _ g1, e _ g2]
    refine ⟨a, (hm2 a).mpr ⟨a1, hpf⟩, ?_⟩
    obtain ⟨g1, g2⟩ := hin2 a a1 hpf
    simp only [hno _ g1, hno _ g2] at a2
    simpa using a2
  -- as many arcs as nodes, on both sides
  have hSon : ∀ u, one u = true → u < n := fun u hu => hSn u (hoS u hu)
  have hl1 := Jn_len (n := n) (U := addN one v) (fun u hu => by
    rcases addN_or hu with g | g
    · exact hSon u g
    · omega) (fun a ha => hin1 a ((hm1 a).mp ha).1 ((hm1 a).mp ha).2) hJ1
  have hl2 := Jn_len (n := n) (U := addN (fun u => S u && !one u) v) (fun u hu => by
    rcases addN_or hu with g | g
    · simp only [Bool.and_eq_true] at g; exact hSn u g.1
    · omega) (fun a ha => hin2 a ((hm2 a).mp ha).1 ((hm2 a).mp ha).2) hJ2
  rw [nbs_addN hov hvn] at hl1
  rw [nbs_addN (by simp [hv]) hvn] at hl2
  have hlt := len_split p T
  have hns := nbs_split hoS n
  -- one arc of the branch is at v
  have hdl := dgr_len (fr := fr) (to := to) (u := v) (T := T.filter p) (fun a ha => hne a (h2 a ((hm1 a).mp ha).1).1)
  have hJ10 : Jn fr to one ((T.filter p).filter (fun a => !(decide (fr a = v) || decide (to a = v)))) := by
    apply Jn_of
    intro X x y hx hy xx xy
    have hJ0 : Jn fr to one T0 := fun u w hu hw => ((ho u).mp hu).2.trans ((ho w).mp hw).2.symm
    obtain ⟨a, a1, a2⟩ := Jn_cut hJ0 (fun w => one w && X w) hx hy (by simp [hx, xx]) (by simp [xy])
    have hb := hboth a a1
    obtain ⟨g1, g2, g3⟩ := (hT0m a).mp a1
    have hof : one (fr a) = true := by
      apply Classical.byContradiction
      intro hn
      have hn2 : ¬ one (to a) = true := fun g => hn (hb.mpr g)
      apply a2
      simp only [Bool.not_eq_true] at hn hn2
      simp [hn, hn2]
    have hot := hb.mp hof
    refine ⟨a, List.mem_filter.mpr ⟨(hm1 a).mpr ⟨g1, (hpa a).mpr (Or.inl hof)⟩, by simp [g2, g3]⟩, ?_⟩
    simp only [hof, hot, Bool.true_and] at a2
    exact a2
  have hl10 := Jn_len (n := n) (U := one) hSon (fun a ha => by
    obtain ⟨g1, g2⟩ := List.mem_filter.mp ha
    obtain ⟨g3, g4⟩ := (hm1 a).mp g1
    have g5 : fr a ≠ v ∧ to a ≠ v := by simpa using g2
    obtain ⟨q1, q2⟩ := hin1 a g3 g4
    constructor
    · rcases addN_or q1 with g | g
      · exact g
      · exact absurd g g5.1
    · rcases addN_or q2 with g | g
      · exact g
      · exact absurd g g5.2) hJ10
  have hva : v ≠ a0 := fun e => by rw [e, h0] at hv; cases hv
  obtain ⟨b, b1, b2⟩ := Jn_cut hJ1 (fun w => decide (w = v)) (addN_v one v) (addN_s hoa) (by simp) (by simp; exact fun e => hva e.symm)
  have hbinc : fr b = v ∨ to b = v := by
    apply Classical.byContradiction
    intro hn
    apply b2
    simp only [not_or] at hn
    simp [hn.1, hn.2]
  have hd1 := dgr_pos (fr := fr) (to := to) (u := v) b1 hbinc
  have hdg : ∀ u, dgr fr to T u = dgr fr to (T.filter p) u + dgr fr to (T.filter (fun a => !p a)) u := fun u => (lsum_split2 _ p T).symm
  have hdv := hdg v
  refine ⟨by omega, one, T.filter p, T.filter (fun a => !p a), hoS, hoa, ⟨List.Pairwise.filter _ h1, fun a ha => ?_, hJ1, by omega, by omega, fun u hu => ?_⟩, ⟨List.Pairwise.filter _ h1, fun a ha => ?_, hJ2, by omega, by omega, fun u hu => ?_⟩, lsum_split2 c p T⟩
  · obtain ⟨g1, g2⟩ := (hm1 a).mp ha
    exact ⟨(h2 a g1).1, hin1 a g1 g2⟩
  · have := hdg u
    have := h6 u (hoS u hu)
    omega
  · obtain ⟨g1, g2⟩ := (hm2 a).mp ha
    exact ⟨(h2 a g1).1, hin2 a g1 g2⟩
  · simp only [Bool.and_eq_true] at hu
    have := hdg u
    have := h6 u hu.1
    omega
