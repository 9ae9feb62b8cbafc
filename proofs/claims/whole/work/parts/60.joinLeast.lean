theorem all_nI : ∀ n, n ≤ 10 → ((1 : Int32) <<< (nI n &&& 31)) = nI (2 ^ n) ∧ ((1 : Int32) <<< (nI n &&& 31)) - (1 : Int32) = nI (2 ^ n - 1) := by decide +kernel
theorem kr_node {fr to : Nat → Nat} {n : Nat} {l : List Nat} (hA : ∀ a, a ∈ l → fr a < n ∧ to a < n) {u v : Nat} (hu : u < n) (e : kr fr to l (fun v => v) v = kr fr to l (fun v => v) u) : v < n := by
  have := kr_least (E := fun x y => x = y ∨ (x < n ∧ y < n)) (fun _ => Or.inl rfl) (fun x y h => by omega) (fun x y z h g => by omega) l (fun x y h => Or.inl h) (fun a ha => Or.inr (hA a ha)) v u e
  omega
/-- the least cost of a list by which the ends hang together, by way of the sets of nodes -/
def Mn (fr to c : Nat → Nat) (e : Nat → Bool) (l : List Nat) (rv : Nat) : Prop :=
  (∃ s : Nat → Bool, (∀ v, e v = true → s v = true) ∧ Jn fr to s (ins fr to s l) ∧ rv = lsum c (kl fr to (ins fr to s l) (fun v => v))) ∧ ∀ T : List Nat, (∀ a, a ∈ T → a ∈ l) → Jn fr to e T → rv ≤ lsum c T
theorem Mn_of {fr to c : Nat → Nat} {n e rv : Nat} {l : List Nat} (hn : n ≤ 10) (he : e < 2 ^ n) {u0 : Nat} (h0 : bi (nI e) u0 = true) (hs : l.Pairwise (fun a b => c a ≤ c b)) (hA : ∀ a, a ∈ l → fr a < n ∧ to a < n)
    (h1 : ∃ m, m < 2 ^ n ∧ (∀ v, bi (nI e) v = true → bi (nI m) v = true) ∧ Jn fr to (bi (nI m)) (ins fr to (bi (nI m)) l) ∧ rv = lsum c (kl fr to (ins fr to (bi (nI m)) l) (fun v => v)))
    (h2 : ∀ m, m < 2 ^ n → (∀ v, bi (nI e) v = true → bi (nI m) v = true) → Jn fr to (bi (nI m)) (ins fr to (bi (nI m)) l) → rv ≤ lsum c (kl fr to (ins fr to (bi (nI m)) l) (fun v => v))) : Mn fr to c (bi (nI e)) l rv := by
  obtain ⟨m, -, m1, m2, m3⟩ := h1
  refine ⟨⟨_, m1, m2, m3⟩, fun T hT hj => ?_⟩
  obtain ⟨s, t1, t2, t3, t4⟩ := tree_le (fr := fr) (to := to) hs hT h0 hj
  have hu : u0 < n := bi_lt hn he h0
  obtain ⟨x, x1, x2⟩ := num_of n s
  have hx : x < 2 ^ 31 := by have := p10 hn; omega
  have e1 : bi (nI x) = s := by
    funext v
    rw [bi_nI hx]
    by_cases hv : v < n
    · exact x2 v hv
    · cases hsv : s v with
      | true => exact absurd (kr_node (fun a ha => hA a (hT a ha)) hu ((t1 v).mp hsv)) hv
      | false =>
        have : x < 2 ^ v := Nat.lt_of_lt_of_le x1 (Nat.pow_le_pow_right (by omega) (by omega))
        exact Nat.testBit_lt_two_pow this
  have := h2 x x1 (by rw [e1]; exact t2) (by rw [e1]; exact t3)
  rw [e1] at this
  omega
theorem no_of {fr to : Nat → Nat} {n e : Nat} {l : List Nat} (hn : n ≤ 10) (he : e < 2 ^ n) {u0 : Nat} (h0 : bi (nI e) u0 = true) (hA : ∀ a, a ∈ l → fr a < n ∧ to a < n)
    (h2 : ∀ m, m < 2 ^ n → (∀ v, bi (nI e) v = true → bi (nI m) v = true) → ¬ Jn fr to (bi (nI m)) (ins fr to (bi (nI m)) l)) : ∀ T : List Nat, (∀ a, a ∈ T → a ∈ l) → ¬ Jn fr to (bi (nI e)) T := by
  intro T hT hj
  obtain ⟨s, t1, t2, t3, t4⟩ := tree_le (fr := fr) (to := to) (c := fun _ => 0) (l := l) (List.pairwise_of_forall (fun _ _ => Nat.le_refl 0)) hT h0 hj
  have hu : u0 < n := bi_lt hn he h0
  obtain ⟨x, x1, x2⟩ := num_of n s
  have hx : x < 2 ^ 31 := by have := p10 hn; omega
  have e1 : bi (nI x) = s := by
    funext v
    rw [bi_nI hx]
    by_cases hv : v < n
    · exact x2 v hv
    · cases hsv : s v with
      | true => exact absurd (kr_node (fun a ha => hA a (hT a ha)) hu ((t1 v).mp hsv)) hv
      | false =>
        have : x < 2 ^ v := Nat.lt_of_lt_of_le x1 (Nat.pow_le_pow_right (by omega) (by omega))
        exact Nat.testBit_lt_two_pow this
  exact h2 x x1 (by rw [e1]; exact t2) (by rw [e1]; exact t3)
theorem leastJ {N n e : Nat} {fr to w : Nat → Nat} {ord : List Nat} {O F T V L : Nat → Int32} {l1 l2 : Int32} (hN : 2000 ≤ N) (hn : n ≤ 10) (hlen : ord.length ≤ 30) (hO : ∀ i, i < ord.length → O i = nI (ord.getD i 0)) (hA : ∀ a, a ∈ ord → a < 30 ∧ F a = nI (fr a) ∧ T a = nI (to a) ∧ fr a < n ∧ to a < n) (hV : ∀ a, a ∈ ord → V a = nI (w a) ∧ w a ≤ 1000) (hs : ord.Pairwise (ah w)) (he : e < 2 ^ n) (h0 : ∃ u0, bi (nI e) u0 = true) :
    Ok (f_JoiningTrees_leastCost N (nI e) (nI n) (nI ord.length) l1 l2 L O F T V) (fun r => ∃ rv, r.1 = cN rv ∧ ((rv = 2 ^ 60 ∧ ∀ T : List Nat, (∀ a, a ∈ T → a ∈ ord) → ¬ Jn fr to (bi (nI e)) T) ∨ (rv < 2 ^ 60 ∧ Mn fr to (ce w) (bi (nI e)) ord rv))) := by
  obtain ⟨u0, hu0⟩ := h0
  have h1024 := p10 hn
  have hpos : 0 < 2 ^ n := Nat.pow_pos (by omega)
  have hAn : ∀ a, a ∈ ord → fr a < n ∧ to a < n := fun a ha => (hA a ha).2.2.2
  have hsm : ∀ s : Nat → Bool, lsum (ce w) (kl fr to (ins fr to s ord) (fun v => v)) < 2 ^ 60 := fun s => by
    have h1 := lsum_le (c := ce w) (B := 2 ^ 45) (kl fr to (ins fr to s ord) (fun v => v)) (fun a ha => ce_le (hV a (ins_mem.mp (kl_sub _ ha)).1).2)
    have hod : ord.Nodup := List.Pairwise.imp (fun {a b} (h : ah w a b) (g : a = b) => by subst g; exact ah_irr h) hs
    have hnd : (kl fr to (ins fr to s ord) (fun v => v)).Nodup := kl_nodup _ (List.Pairwise.filter _ hod)
    have h2 := len30 (m := 30) hnd (fun a ha => (hA a (ins_mem.mp (kl_sub _ ha)).1).1)
    generalize lsum (ce w) (kl fr to (ins fr to s ord) (fun v => v)) = x at *
    generalize (kl fr to (ins fr to s ord) (fun v => v)).length = y at *
    have : 2 ^ 45 * y ≤ 2 ^ 45 * 30 := Nat.mul_le_mul_left _ h2
    omega
  have hpw : ord.Pairwise (fun a b => ce w a ≤ ce w b) := by
    refine List.Pairwise.imp_of_mem (R := ah w) ?_ hs
    intro a b _ hb h
    exact ce_mono (hA b hb).1 h
  simp only [f_JoiningTrees_leastCost, f_Graph_allNodes, bk1, (all_nI n hn).2, cN_60]
  refine Ok_lo6 (fun d v2 v4 v5 _ _ _ => ∃ m best, m + d = 2 ^ n ∧ e ≤ m ∧ v2 = cN best ∧ best ≤ 2 ^ 60 ∧ v4 = nI (2 ^ n - 1) ∧ v5 = nI m ∧ (∀ x, x < m → (∀ v, bi (nI e) v = true → bi (nI x) v = true) → Jn fr to (bi (nI x)) (ins fr to (bi (nI x)) ord) → best ≤ lsum (ce w) (kl fr to (ins fr to (bi (nI x)) ord) (fun v => v))) ∧ (best = 2 ^ 60 ∨ ∃ x, x < 2 ^ n ∧ (∀ v, bi (nI e) v = true → bi (nI x) v = true) ∧ Jn fr to (bi (nI x)) (ins fr to (bi (nI x)) ord) ∧ best = lsum (ce w) (kl fr to (ins fr to (bi (nI x)) ord) (fun v => v)))) ?_ (2 ^ n - e) N _ _ _ _ _ _ (by omega) ⟨e, 2 ^ 60, by omega, Nat.le_refl _, rfl, Nat.le_refl _, rfl, rfl, fun x hx hsub _ => absurd (and_ge (by omega) (by omega) hsub) (by omega), Or.inl rfl⟩
  rintro kk d v2 v4 v5 c1 c2 c3 ⟨m, best, hd, hem, rfl, hb60, rfl, rfl, hall, hatt⟩ hkk
  by_cases hm : m = 2 ^ n
  · have hlt : nI (2 ^ n - 1) < nI m := nI_lt (by omega) (by omega)
    simp only [g_JoiningTrees_leastCost_16, if_pos hlt]
    refine Ok_some ⟨best, rfl, ?_⟩
    rw [hm] at hall
    rcases hatt with h | h
    · refine Or.inl ⟨h, no_of hn he hu0 hAn (fun x hx hsub hj => ?_)⟩
      have h3 := hall x hx hsub hj
      have h4 := hsm (bi (nI x))
      omega
    · refine Or.inr ⟨?_, Mn_of hn he hu0 hpw hAn h hall⟩
      obtain ⟨x, -, -, -, h5⟩ := h
      rw [h5]
      exact hsm _
  · have hlt : ¬ nI (2 ^ n - 1) < nI m := nI_nlt (by omega) (by omega)
    have hmn : m < 2 ^ n := by omega
    by_cases hsub : ∀ v, bi (nI e) v = true → bi (nI m) v = true
    · have hc : (nI m &&& nI e) = nI e := (and_nI (by omega) (by omega)).mpr hsub
      simp only [g_JoiningTrees_leastCost_16, if_neg hlt, if_pos hc]
      refine Ok_bk4 (treeCost (by omega) hn hlen hO hA hV hmn ⟨u0, hsub u0 hu0⟩ hb60) ?_
      rintro r ⟨rv, r1, r2, r3, r4⟩
      simp only [r1, bn, nI_1, cN_min (show rv < 2 ^ 63 by omega) (show best < 2 ^ 63 by omega)]
      refine hkk (d - 1) _ _ _ _ _ _ (by omega) ⟨m + 1, min best rv, by omega, by omega, rfl, by omega, rfl, rfl, ?_, ?_⟩
      · intro x hx hsx hjx
        by_cases hxm : x = m
        · subst hxm
          rw [r3 hjx]
          omega
        · have := hall x (by omega) hsx hjx
          omega
      · by_cases hjm : Jn fr to (bi (nI m)) (ins fr to (bi (nI m)) ord)
        · rw [r3 hjm]
          rcases Nat.le_total best (lsum (ce w) (kl fr to (ins fr to (bi (nI m)) ord) (fun v => v))) with h | h
          · rw [Nat.min_eq_left h]; exact hatt
          · rw [Nat.min_eq_right h]
            exact Or.inr ⟨m, hmn, hsub, hjm, rfl⟩
        · rw [r4 hjm]; exact hatt
    · have hc : ¬ (nI m &&& nI e) = nI e := fun h => hsub ((and_nI (by omega) (by omega)).mp h)
      simp only [g_JoiningTrees_leastCost_16, if_neg hlt, if_neg hc, bn, nI_1]
      refine hkk (d - 1) _ _ _ _ _ _ (by omega) ⟨m + 1, best, by omega, by omega, rfl, hb60, rfl, rfl, ?_, hatt⟩
      intro x hx hsx hjx
      by_cases hxm : x = m
      · subst hxm; exact absurd hsx hsub
      · exact hall x (by omega) hsx hjx
