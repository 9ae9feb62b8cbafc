theorem findNext {N n k : Nat} {fr to w : Nat → Nat} {pr : Nat → Bool} {ord : List Nat} {pres : Int64} {O F T V L H : Nat → Int32} {x y z gn gk gs : Int32} (hN : 100 ≤ N) (hG : GR n k fr to w pr ord) (hC : CR gn gk gs pres F T V O n k fr to w pr ord) :
    Ok (f_Forests_findNext N x y z gn gk gs pres L O F T H V) (fun r => (r.1 = 0 ∧ nx w (hvs fr to w k (kset fr to ord (fun v => v) 0) (pres &&& (kset fr to ord (fun v => v) 0 ^^^ (-1 : Int64)))) k = none) ∨ (r.1 = 1 ∧ ∃ b, nx w (hvs fr to w k (kset fr to ord (fun v => v) 0) (pres &&& (kset fr to ord (fun v => v) 0 ^^^ (-1 : Int64)))) k = some b ∧ r.2.2.2.2.2.1 = nI b.1 ∧ r.2.2.2.2.2.2.1 = nI b.2 ∧ r.2.2.2.2.2.2.2 = nI (wsum w (bl (kset fr to ord (fun v => v) 0)) k - w b.2 + w b.1))) := by
  have hk := hG.2.1
  have hA : ∀ a, a < k → F a = nI (fr a) ∧ T a = nI (to a) ∧ fr a < n ∧ to a < n := fun a ha => ⟨(hC.2.2.2.2.1 a ha).1, (hC.2.2.2.2.1 a ha).2.1, (hG.2.2.2.1 a ha).1, (hG.2.2.2.1 a ha).2.1⟩
  have hW : ∀ a, a < k → V a = nI (w a) ∧ w a ≤ 1000 := fun a ha => ⟨(hC.2.2.2.2.1 a ha).2.2, (hG.2.2.2.1 a ha).2.2.2⟩
  have hp : ∀ a, a < 64 → bl pres a = (decide (a < k) && pr a) := hC.2.2.2.1
  have hbt : ∀ b, bl (kset fr to ord (fun v => v) 0) b = decide (b ∈ kl fr to ord (fun v => v)) := fun b => by
    rw [kset_bl ord (fun x hx => by have := ((hG.2.2.2.2.2 x).mp hx).1; omega), bl_0, Bool.false_or]
  obtain ⟨L', e1, -⟩ := findLeast (L := L) hN hG.1 (by have := hG.2.2.1; omega) hC.2.2.2.2.2 (hC.arcs hG)
  have ex := fun i hi => exists_out (i := i) hG hi
  rw [hC.1, hC.2.1, hC.2.2.1]
  generalize kset fr to ord (fun v => v) 0 = S at e1 hbt ex ⊢
  by_cases hc : lg_cmp pres S = 0
  · simp only [f_Forests_findNext, e1, bk4, if_pos hc]
    refine Ok_some (Or.inl ⟨rfl, nx_none (fun i hi => hvo_0 (fun j _ => ?_))⟩)
    have e : pres = S := (lg_cmp_eq _ _).mp hc
    unfold pb
    rw [bl_andnot _ _ (by omega), e]
    simp
  · simp only [f_Forests_findNext, e1, bk4, if_neg hc]
    have hne : ¬ nx w (hvs fr to w k S (pres &&& (S ^^^ (-1 : Int64)))) k = none := by
      have hpS : ¬ pres = S := fun e => hc ((lg_cmp_eq _ _).mpr e)
      have : ∃ i, i < 64 ∧ ¬ bl pres i = bl S i := by
        apply Classical.byContradiction
        intro hno
        exact hpS (bl_ext (fun b hb => Classical.byContradiction (fun q => hno ⟨b, hb, q⟩)))
      obtain ⟨i, hi, hd⟩ := this
      have hin : i ∈ ord := by
        apply Classical.byContradiction
        intro hno
        have h1 : bl S i = false := by
          rw [hbt, decide_eq_false_iff_not]
          exact fun q => hno (kl_sub ord q)
        have h2 : bl pres i = false := by
          rw [hp i hi]
          cases hz : (decide (i < k) && pr i) with
          | false => rfl
          | true =>
            rw [Bool.and_eq_true, decide_eq_true_iff] at hz
            exact absurd ((hG.2.2.2.2.2 i).mpr hz) hno
        exact hd (h2.trans h1.symm)
      have hik := (hG.2.2.2.2.2 i).mp hin
      have hpi : bl pres i = true := by rw [hp i hi, hik.2]; simp [hik.1]
      have hSi : bl S i = false := by
        cases hz : bl S i with
        | false => rfl
        | true => exact absurd (hpi.trans hz.symm) hd
      obtain ⟨o, ho1, ho2⟩ := ex i hin
      have hok := ((hG.2.2.2.2.2 o).mp (kl_sub ord ho1)).1
      refine nx_ne (i := i) (fun hz => ?_) hik.1
      have := hvo_n hz o hok
      unfold pb at this
      rw [bl_andnot _ _ hi, hpi, hSi, hbt o, decide_eq_true ho1, ho2] at this
      cases this
    obtain ⟨r, e2, e3⟩ := findHeaviest (S := S) (pres := pres) (L := L') (H := H) (x := nI n) (y := nI (cnt (kr fr to ord (fun v => v)) n)) hN hG.1 hk hA hW
    rw [e2]
    obtain ⟨r1, r2, r3, r4⟩ := r
    refine Ok_mono (fn_loop (oth := pres &&& (S ^^^ (-1 : Int64))) (fr := fr) (to := to) (w := w) hN hk hW e3) ?_
    rintro r ⟨q1, rise, q2, q3⟩
    refine Or.inr ⟨q1, ?_⟩
    cases hB : nx w (hvs fr to w k S (pres &&& (S ^^^ (-1 : Int64)))) k with
    | none => exact absurd hB hne
    | some b =>
      rw [hB] at q2
      obtain ⟨u1, u2, u3⟩ := q2
      have hb := nx_s hB
      have hb2 := hvs_b hb.2
      refine ⟨b, rfl, u2, u3, ?_⟩
      rw [q3, u1]
      exact nIs_add (wsum_ge hb2.2 hb2.1)
theorem nextOf {N n k : Nat} {fr to w : Nat → Nat} {pr : Nat → Bool} {ord : List Nat} {pres : Int64} {mn ma ml : Int32} {F T V H P : Nat → Int32} {si so : Int32} (hN : 100 ≤ N) (hG : GR n k fr to w pr ord) (hM : MR mn ma ml F T V H n k fr to w pr ord) (hp : ∀ a, a < 64 → bl pres a = (decide (a < k) && pr a)) :
    Ok (f_Mo_nextOf N ma si so P H V F T) (fun r => MRp w (wsum w (bl (kset fr to ord (fun v => v) 0)) k) r.1 r.2.2.1 r.2.2.2 (nx w (hvs fr to w k (kset fr to ord (fun v => v) 0) (pres &&& (kset fr to ord (fun v => v) 0 ^^^ (-1 : Int64)))) k)) := by
  obtain ⟨P', m1, -⟩ := leastOf hN hG hM P
  have hV : ∀ a, a < k → V a = nI (w a) ∧ w a ≤ 1000 := fun a ha => ⟨(hM.2.2.2 a ha).2.2.1, (hG.2.2.2.1 a ha).2.2.2⟩
  rw [hM.2.1]
  simp only [f_Mo_nextOf, m1, bk2, weightM hN hG.2.1 (fun a ha => (hV a ha).1), bk1]
  exact no_loop (pr := pr) (S := kset fr to ord (fun v => v) 0) hN hG.1 hG.2.1 (fun a ha => ⟨(hM.2.2.2 a ha).1, (hM.2.2.2 a ha).2.1, (hG.2.2.2.1 a ha).1, (hG.2.2.2.1 a ha).2.1⟩) hV (fun a ha => (hM.2.2.2 a ha).2.2.2) hp
theorem st_next {N : Nat} (hN : 100 ≤ N) : St_next N InvC := by
  intro t_graph_nodes t_graph_numbered t_graph_size t_graph_present t_graph_from t_graph_to t_graph_weight t_graph_order t_forests_nextWeight t_forests_nextIn t_forests_nextOut t_forests_labels_nodes t_forests_labels_groups t_forests_labels_label t_forests_treeCount_groupOf t_forests_treeCount_links t_forests_treeCount_rows t_forests_treeCount_minor t_forests_heaviest t_boundedTrees_nodes t_boundedTrees_bound t_boundedTrees_between t_boundedTrees_branches t_boundedTrees_branch t_treesFromRoot_nodes t_treesFromRoot_arcs t_treesFromRoot_root t_treesFromRoot_tail t_treesFromRoot_head t_treesFromRoot_cost t_treesFromRoot_leastInto t_treesFromRoot_before t_treesFromRoot_group t_joiningTrees_labels_nodes t_joiningTrees_labels_groups t_joiningTrees_labels_label t_nodes t_arcs t_left t_swapIn t_swapOut t_boundedSet t_joinedSet t_froms t_tos t_weights t_there t_part t_low t_row t_matrix t_own t_chosen t_degrees t_fixed t_grown t_costs t_order hI
  obtain ⟨n, k, fr, to, w, pr, ord, hG, hC, hM⟩ := hI
  obtain ⟨⟨r1, r2, r3, r4, r5, r6, r7, r8⟩, e1, e2⟩ := findNext (L := t_forests_labels_label) (H := t_forests_heaviest) (x := t_forests_nextWeight) (y := t_forests_nextIn) (z := t_forests_nextOut) hN hG hC
  obtain ⟨⟨q1, q2, q3, q4⟩, m1, m2⟩ := nextOf (si := t_swapIn) (so := t_swapOut) (P := t_part) hN hG hM hC.2.2.2.1
  have n1 : ¬ (1 : Int32) = 0 := by decide
  have hkeep : InvC = InvC := rfl
  rcases e2 with ⟨x1, x2⟩ | ⟨x1, b, x2, x3, x4, x5⟩
  · rw [x2] at m2
    have m3 : q1 = -3 := m2
    have x1' : r1 = 0 := x1
    subst m3 x1'
    refine ⟨-3, r2, r3, r4, r5, r6, r7, r8, q2, q3, q4, ?_, ?_, ⟨n, k, fr, to, w, pr, ord, hG, hC, hM⟩⟩
    · simp only [f_RT_next, e1, bk8, if_pos]
    · simp only [f_Mo_next, m1, bk4]
  · rw [x2] at m2
    obtain ⟨m3, m4, m5⟩ := m2
    have x1' : r1 = 1 := x1
    have m3' : q1 = r8 := by
      have x5' : r8 = nI (wsum w (bl (kset fr to ord (fun v => v) 0)) k - w b.2 + w b.1) := x5
      rw [x5']
      exact m3
    subst m3' x1'
    refine ⟨q1, r2, r3, r4, r5, r6, r7, q1, q2, q3, q4, ?_, ?_, ⟨n, k, fr, to, w, pr, ord, hG, hC, hM⟩⟩
    · simp only [f_RT_next, e1, bk8, if_neg n1]
    · simp only [f_Mo_next, m1, bk4]
theorem st_swap {N : Nat} (hN : 100 ≤ N) : St_swap N InvC := by
  intro t_graph_nodes t_graph_numbered t_graph_size t_graph_present t_graph_from t_graph_to t_graph_weight t_graph_order t_forests_nextWeight t_forests_nextIn t_forests_nextOut t_forests_labels_nodes t_forests_labels_groups t_forests_labels_label t_forests_treeCount_groupOf t_forests_treeCount_links t_forests_treeCount_rows t_forests_treeCount_minor t_forests_heaviest t_boundedTrees_nodes t_boundedTrees_bound t_boundedTrees_between t_boundedTrees_branches t_boundedTrees_branch t_treesFromRoot_nodes t_treesFromRoot_arcs t_treesFromRoot_root t_treesFromRoot_tail t_treesFromRoot_head t_treesFromRoot_cost t_treesFromRoot_leastInto t_treesFromRoot_before t_treesFromRoot_group t_joiningTrees_labels_nodes t_joiningTrees_labels_groups t_joiningTrees_labels_label t_nodes t_arcs t_left t_swapIn t_swapOut t_boundedSet t_joinedSet t_froms t_tos t_weights t_there t_part t_low t_row t_matrix t_own t_chosen t_degrees t_fixed t_grown t_costs t_order p1 hI
  obtain ⟨n, k, fr, to, w, pr, ord, hG, hC, hM⟩ := hI
  have n1 : ¬ (1 : Int32) = 0 := by decide
  by_cases hp : p1 = 0 ∨ p1 = 1
  · obtain ⟨⟨r1, r2, r3, r4, r5, r6, r7, r8⟩, e1, e2⟩ := findNext (L := t_forests_labels_label) (H := t_forests_heaviest) (x := t_forests_nextWeight) (y := t_forests_nextIn) (z := t_forests_nextOut) hN hG hC
    obtain ⟨⟨q1, q2, q3, q4⟩, m1, m2⟩ := nextOf (si := t_swapIn) (so := t_swapOut) (P := t_part) hN hG hM hC.2.2.2.1
    have hp0 : ¬ p1 < 0 := by rcases hp with rfl | rfl <;> decide
    have hp1 : p1 ≤ 1 := by rcases hp with rfl | rfl <;> decide
    have hcl : ∀ X : Option (Int32 × Int32 × Int32 × (Nat → Int32) × (Nat → Int32) × Int32 × Int32 × Int32), (if p1 = 0 then X else if p1 = 1 then X else some (-2, t_forests_labels_nodes, t_forests_labels_groups, t_forests_labels_label, t_forests_heaviest, t_forests_nextIn, t_forests_nextOut, t_forests_nextWeight)) = X := by
      intro X
      rcases hp with rfl | rfl
      · rw [if_pos rfl]
      · rw [if_neg n1, if_pos rfl]
    rcases e2 with ⟨x1, x2⟩ | ⟨x1, b, x2, x3, x4, x5⟩
    · rw [x2] at m2
      have m3 : q1 = -3 := m2
      have x1' : r1 = 0 := x1
      subst m3 x1'
      have h3 : ¬ (0 : Int32) ≤ -3 := by decide
      refine ⟨-3, r2, r3, r4, r5, r6, r7, r8, q2, q3, q4, ?_, ?_, ⟨n, k, fr, to, w, pr, ord, hG, hC, hM⟩⟩
      · unfold f_RT_swap
        rw [hcl]
        simp only [g_RT_swap_12, e1, bk8, if_pos]
      · simp only [f_Mo_swap, if_neg hp0, if_pos hp1, m1, bk4, if_neg h3]
    · rw [x2] at m2
      obtain ⟨m3, m4, m5⟩ := m2
      have x1' : r1 = 1 := x1
      have y6 : r6 = nI b.1 := x3
      have y7 : r7 = nI b.2 := x4
      have y3 : q3 = nI b.1 := m4
      have y4 : q4 = nI b.2 := m5
      have hb := nx_s x2
      have hb2 := hvs_b hb.2
      have hk := hG.2.1
      have hsum : wsum w (bl (kset fr to ord (fun v => v) 0)) k ≤ 1000 * k := wsum_le (fun a ha => (hG.2.2.2.1 a ha).2.2.2)
      have hw1 := (hG.2.2.2.1 b.1 hb.1).2.2.2
      have h0 : (0 : Int32) ≤ q1 := by
        have m3' : q1 = nI (wsum w (bl (kset fr to ord (fun v => v) 0)) k - w b.2 + w b.1) := m3
        rw [m3']
        exact nI_pos' (by omega)
      subst x1' y6 y7 y3 y4
      by_cases hz : p1 = 0
      · refine ⟨nI b.2, r2, r3, r4, r5, nI b.1, nI b.2, r8, q2, nI b.1, nI b.2, ?_, ?_, ⟨n, k, fr, to, w, pr, ord, hG, hC, hM⟩⟩
        · unfold f_RT_swap
          rw [hcl]
          simp only [g_RT_swap_12, e1, bk8, if_neg n1, if_pos hz]
        · simp only [f_Mo_swap, if_neg hp0, if_pos hp1, m1, bk4, if_pos h0, if_pos hz]
      · refine ⟨nI b.1, r2, r3, r4, r5, nI b.1, nI b.2, r8, q2, nI b.1, nI b.2, ?_, ?_, ⟨n, k, fr, to, w, pr, ord, hG, hC, hM⟩⟩
        · unfold f_RT_swap
          rw [hcl]
          simp only [g_RT_swap_12, e1, bk8, if_neg n1, if_neg hz]
        · simp only [f_Mo_swap, if_neg hp0, if_pos hp1, m1, bk4, if_pos h0, if_neg hz]
  · have h0 : ¬ p1 = 0 := fun q => hp (Or.inl q)
    have h1 : ¬ p1 = 1 := fun q => hp (Or.inr q)
    refine ⟨-2, t_forests_labels_nodes, t_forests_labels_groups, t_forests_labels_label, t_forests_heaviest, t_forests_nextIn, t_forests_nextOut, t_forests_nextWeight, t_part, t_swapIn, t_swapOut, ?_, ?_, ⟨n, k, fr, to, w, pr, ord, hG, hC, hM⟩⟩
    · simp only [f_RT_swap, if_neg h0, if_neg h1]
    · by_cases hl : p1 < 0
      · simp only [f_Mo_swap, if_pos hl]
      · have hg : ¬ p1 ≤ 1 := by
          obtain ⟨j, hj, rfl⟩ := nI_of hl
          intro q
          have q2 : j ≤ 1 := (nI_leI (a := j) (b := 1) hj (by decide)).mp q
          have : j = 0 ∨ j = 1 := by omega
          rcases this with rfl | rfl
          · exact h0 rfl
          · exact h1 rfl
        simp only [f_Mo_swap, if_neg hl, if_neg hg]
