theorem rooted_both {N n k r : Nat} {fr to w : Nat → Nat} {pr : Nat → Bool} {ord : List Nat} {gn gk gs mn ma ml : Int32} {gp : Int64} {F T V O A0 H0 B0 G0 : Nat → Int32} {C0 L0 : Nat → Int64} {F' T' V' H FX0 W0 : Nat → Int32} (hN : 2000 ≤ N) (hG : GR n k fr to w pr ord) (hC : CR gn gk gs gp F T V O n k fr to w pr ord) (hM : MR mn ma ml F' T' V' H n k fr to w pr ord) (hr : r < n) :
    ∃ rc rm, f_TreesFromRoot_leastCost N (nI r) gn gs O T V F A0 H0 C0 L0 B0 G0 = some rc ∧ f_Mo_findRooted N (nI r) mn ma FX0 W0 T' H F' V' = some rm ∧ ((rc.1 = cN (2 ^ 60) ∧ rm.1 = -1) ∨ ∃ la, FA fr to n k r pr (fun _ => none) la ∧ rc.1 = cN (lsum (ec r to w) la) ∧ lsum (ec r to w) la < 2 ^ 60 ∧ lsum w la ≤ 30000 ∧ rm.1 = nI (lsum w la) ∧ ∀ v, v < n → v ≠ r → rm.2.1 v = nI (pa to la v)) := by
  have hn := hG.1
  have hk := hG.2.1
  have hA := hC.arcs hG
  have hV : ∀ a, a ∈ ord → V a = nI (w a) ∧ w a ≤ 1000 := fun a ha => by
    have hk := ((hG.2.2.2.2.2 a).mp ha).1
    exact ⟨(hC.2.2.2.2.1 a hk).2.2, (hG.2.2.2.1 a hk).2.2.2⟩
  have hne : ∀ a, a ∈ ord → fr a ≠ to a := fun a ha => (hG.2.2.2.1 a ((hG.2.2.2.2.2 a).mp ha).1).2.2.1
  have hV' : ∀ a, a < k → V' a = nI (w a) ∧ w a ≤ 1000 := fun a ha => ⟨(hM.2.2.2 a ha).2.2.1, (hG.2.2.2.1 a ha).2.2.2⟩
  have hto : ∀ a, a < k → to a < n := fun a ha => (hG.2.2.2.1 a ha).2.1
  obtain ⟨rc, c1, c2⟩ := rootC (A0 := A0) (H0 := H0) (B0 := B0) (G0 := G0) (C0 := C0) (L0 := L0) (N := N) (by omega) hn hr (by have := hG.2.2.1; omega) hC.2.2.2.2.2 hA hne hV
  rw [hC.1, hC.2.2.1, hM.1, hM.2.1]
  have hLF := fun x => Low_FA (x := x) (fr := fr) (to := to) (w := w) hr hG.2.2.2.2.2 (fun a ha => (hA a ha).2.2.2.2)
  rcases c2 with ⟨c2, c3⟩ | ⟨rv, c2, c3, c4, c5⟩
  · have hno : ∀ la, ¬ FA fr to n k r pr (fun _ => none) la := fun la hla => c3 (lsum (ec r to w) la) ((hLF _).mpr ⟨la, hla, Nat.le_refl _⟩)
    obtain ⟨rm, m1, m2⟩ := findRootedM (w := w) (FX0 := FX0) (G0 := W0) hN hn hk hr (hM.arcs hG) hV' (Or.inl hno)
    exact ⟨rc, rm, c1, m1, Or.inl ⟨c2, m2.1 hno⟩⟩
  · obtain ⟨la, l1, l2⟩ := (hLF rv).mp c4
    have l3 : rv = lsum (ec r to w) la := by
      have := c5 (lsum (ec r to w) la) ((hLF _).mpr ⟨la, l1, Nat.le_refl _⟩)
      omega
    have hRt : Rt fr to w n k r pr la := ⟨l1, fun l hl => by rw [← l3]; exact c5 _ ((hLF _).mpr ⟨l, hl, Nat.le_refl _⟩)⟩
    obtain ⟨rm, m1, m2⟩ := findRootedM (w := w) (FX0 := FX0) (G0 := W0) hN hn hk hr (hM.arcs hG) hV' (Or.inr ⟨la, hRt⟩)
    obtain ⟨m3, m4⟩ := m2.2 la hRt
    have hlen := Gw_len (n := n) l1.1 (fun a ha => hto a (l1.2.1 a ha).1)
    have hws := lsum_le (c := w) (B := 1000) la (fun a ha => (hV' a (l1.2.1 a ha).1).2)
    exact ⟨rc, rm, c1, m1, Or.inr ⟨la, l1, by rw [← l3]; exact c2, by omega, by omega, m3, m4⟩⟩
theorem st_rooted {N : Nat} (hN : 2000 ≤ N) : St_rooted N InvC := by
  intro t_graph_nodes t_graph_numbered t_graph_size t_graph_present t_graph_from t_graph_to t_graph_weight t_graph_order t_forests_nextWeight t_forests_nextIn t_forests_nextOut t_forests_labels_nodes t_forests_labels_groups t_forests_labels_label t_forests_treeCount_groupOf t_forests_treeCount_links t_forests_treeCount_rows t_forests_treeCount_minor t_forests_heaviest t_boundedTrees_nodes t_boundedTrees_bound t_boundedTrees_between t_boundedTrees_branches t_boundedTrees_branch t_treesFromRoot_nodes t_treesFromRoot_arcs t_treesFromRoot_root t_treesFromRoot_tail t_treesFromRoot_head t_treesFromRoot_cost t_treesFromRoot_leastInto t_treesFromRoot_before t_treesFromRoot_group t_joiningTrees_labels_nodes t_joiningTrees_labels_groups t_joiningTrees_labels_label t_nodes t_arcs t_left t_swapIn t_swapOut t_boundedSet t_joinedSet t_froms t_tos t_weights t_there t_part t_low t_row t_matrix t_own t_chosen t_degrees t_fixed t_grown t_costs t_order p1 hI
  obtain ⟨n, k, fr, to, w, pr, ord, hG, hC, hM⟩ := hI
  have keep : GInv t_graph_nodes t_graph_numbered t_graph_size t_graph_present t_graph_from t_graph_to t_graph_weight t_graph_order t_nodes t_arcs t_left t_froms t_tos t_weights t_there := ⟨n, k, fr, to, w, pr, ord, hG, hC, hM⟩
  have n1 : ¬ (1 : Int32) = 0 := by decide
  have hcn := hC.1
  have hmn := hM.1
  rcases hasNode_v p1 hG.1 with ⟨r, hr, rfl, x1, y1⟩ | ⟨x1, y1⟩
  · rw [← hcn] at x1
    rw [← hmn] at y1
    obtain ⟨⟨r1, r2, r3, r4, r5, r6, r7, r8, r9, r10⟩, ⟨q1, q2, q3⟩, e1, e2, hc⟩ := rooted_both (A0 := t_treesFromRoot_tail) (H0 := t_treesFromRoot_head) (B0 := t_treesFromRoot_before) (G0 := t_treesFromRoot_group) (C0 := t_treesFromRoot_cost) (L0 := t_treesFromRoot_leastInto) (FX0 := t_fixed) (W0 := t_grown) hN hG hC hM hr
    rcases hc with ⟨c1, c2⟩ | ⟨la, c1, c2, c3, c4, c5, c6⟩
    · have c1 : r1 = cN (2 ^ 60) := c1
      have c2 : q1 = -1 := c2
      have hlt : ¬ lg_cmp r1 (1152921504606846976 : Int64) < 0 := by
        rw [lg_cmp_lt, c1, cN_60, cN_lt (by omega) (by omega)]
        omega
      have hng : ¬ (0 : Int32) ≤ q1 := by rw [c2]; decide
      refine ⟨-3, r2, r3, r4, r5, r6, r7, r8, r9, r10, q2, q3, ?_, ?_, keep⟩
      · simp only [f_RT_rooted, x1, bk1, if_neg n1, e1, bk10, if_neg hlt]
      · simp only [f_Mo_rooted, y1, bk1, if_neg n1, e2, bk3, if_neg hng]
    · have c2 : r1 = cN (lsum (ec r to w) la) := c2
      have c5 : q1 = nI (lsum w la) := c5
      have hlt : lg_cmp r1 (1152921504606846976 : Int64) < 0 := by
        rw [lg_cmp_lt, c2, cN_60, cN_lt (by omega) (by omega)]
        omega
      have hng : (0 : Int32) ≤ q1 := by rw [c5]; exact nI_pos' (by omega)
      refine ⟨q1, r2, r3, r4, r5, r6, r7, r8, r9, r10, q2, q3, ?_, ?_, keep⟩
      · have hw : f_TreesFromRoot_weightIn r1 = some q1 := by
          rw [c2, c5, code_sum (by have := hG.1; omega) (FA_to c1 (fun a ha => (hG.2.2.2.1 a ha).2.1) hG.1)]
          exact weightR c4 (m32_lt (m := 9) (fun j _ => by have := FA_dig c1 hG.2.1 (nd r j); show pa to la (nd r j) < 32; omega))
        simp only [f_RT_rooted, x1, bk1, if_neg n1, e1, bk10, if_pos hlt, hw]
      · simp only [f_Mo_rooted, y1, bk1, if_neg n1, e2, bk3, if_pos hng]
  · rw [← hcn] at x1
    rw [← hmn] at y1
    refine ⟨-1, t_treesFromRoot_nodes, t_treesFromRoot_root, t_treesFromRoot_arcs, t_treesFromRoot_tail, t_treesFromRoot_head, t_treesFromRoot_cost, t_treesFromRoot_leastInto, t_treesFromRoot_before, t_treesFromRoot_group, t_fixed, t_grown, ?_, ?_, keep⟩
    · simp only [f_RT_rooted, x1, bk1, if_pos]
    · simp only [f_Mo_rooted, y1, bk1, if_pos]
theorem st_rootedArc {N : Nat} (hN : 2000 ≤ N) : St_rootedArc N InvC := by
  intro t_graph_nodes t_graph_numbered t_graph_size t_graph_present t_graph_from t_graph_to t_graph_weight t_graph_order t_forests_nextWeight t_forests_nextIn t_forests_nextOut t_forests_labels_nodes t_forests_labels_groups t_forests_labels_label t_forests_treeCount_groupOf t_forests_treeCount_links t_forests_treeCount_rows t_forests_treeCount_minor t_forests_heaviest t_boundedTrees_nodes t_boundedTrees_bound t_boundedTrees_between t_boundedTrees_branches t_boundedTrees_branch t_treesFromRoot_nodes t_treesFromRoot_arcs t_treesFromRoot_root t_treesFromRoot_tail t_treesFromRoot_head t_treesFromRoot_cost t_treesFromRoot_leastInto t_treesFromRoot_before t_treesFromRoot_group t_joiningTrees_labels_nodes t_joiningTrees_labels_groups t_joiningTrees_labels_label t_nodes t_arcs t_left t_swapIn t_swapOut t_boundedSet t_joinedSet t_froms t_tos t_weights t_there t_part t_low t_row t_matrix t_own t_chosen t_degrees t_fixed t_grown t_costs t_order p1 p2 hI
  obtain ⟨n, k, fr, to, w, pr, ord, hG, hC, hM⟩ := hI
  have keep : GInv t_graph_nodes t_graph_numbered t_graph_size t_graph_present t_graph_from t_graph_to t_graph_weight t_graph_order t_nodes t_arcs t_left t_froms t_tos t_weights t_there := ⟨n, k, fr, to, w, pr, ord, hG, hC, hM⟩
  have n1 : ¬ (1 : Int32) = 0 := by decide
  have hcn := hC.1
  have hmn := hM.1
  have hn := hG.1
  rcases hasNode_v p1 hG.1 with ⟨r, hr, rfl, x1, y1⟩ | ⟨x1, y1⟩
  · rw [← hcn] at x1
    rw [← hmn] at y1
    rcases hasNode_v p2 hG.1 with ⟨v, hv, rfl, x2, y2⟩ | ⟨x2, y2⟩
    · rw [← hcn] at x2
      rw [← hmn] at y2
      obtain ⟨⟨r1, r2, r3, r4, r5, r6, r7, r8, r9, r10⟩, ⟨q1, q2, q3⟩, e1, e2, hc⟩ := rooted_both (A0 := t_treesFromRoot_tail) (H0 := t_treesFromRoot_head) (B0 := t_treesFromRoot_before) (G0 := t_treesFromRoot_group) (C0 := t_treesFromRoot_cost) (L0 := t_treesFromRoot_leastInto) (FX0 := t_fixed) (W0 := t_grown) hN hG hC hM hr
      by_cases hvr : v = r
      · have hvv : nI v = nI r := by rw [hvr]
        refine ⟨-3, t_treesFromRoot_nodes, t_treesFromRoot_root, t_treesFromRoot_arcs, t_treesFromRoot_tail, t_treesFromRoot_head, t_treesFromRoot_cost, t_treesFromRoot_leastInto, t_treesFromRoot_before, t_treesFromRoot_group, q2, q3, ?_, ?_, keep⟩
        · simp only [f_RT_rootedArc, x1, x2, bk1, if_neg n1, if_pos hvv]
        · by_cases hng : q1 < 0
          · simp only [f_Mo_rootedArc, y1, y2, bk1, if_neg n1, e2, bk3, if_pos hng]
          · simp only [f_Mo_rootedArc, y1, y2, bk1, if_neg n1, e2, bk3, if_neg hng, if_pos hvv]
      · have hvv : ¬ nI v = nI r := fun e => hvr ((nI_eq (by omega) (by omega)).mp e)
        rcases hc with ⟨c1, c2⟩ | ⟨la, c1, c2, c3, c4, c5, c6⟩
        · have c1 : r1 = cN (2 ^ 60) := c1
          have c2 : q1 = -1 := c2
          have hlt : ¬ lg_cmp r1 (1152921504606846976 : Int64) < 0 := by
            rw [lg_cmp_lt, c1, cN_60, cN_lt (by omega) (by omega)]
            omega
          have hng : q1 < (0 : Int32) := by rw [c2]; decide
          refine ⟨-3, r2, r3, r4, r5, r6, r7, r8, r9, r10, q2, q3, ?_, ?_, keep⟩
          · simp only [f_RT_rootedArc, x1, x2, bk1, if_neg n1, if_neg hvv, e1, bk10, if_neg hlt]
          · simp only [f_Mo_rootedArc, y1, y2, bk1, if_neg n1, e2, bk3, if_pos hng]
        · have c2 : r1 = cN (lsum (ec r to w) la) := c2
          have c5 : q1 = nI (lsum w la) := c5
          have c6 : q2 v = nI (pa to la v) := c6 v hv hvr
          have hlt : lg_cmp r1 (1152921504606846976 : Int64) < 0 := by
            rw [lg_cmp_lt, c2, cN_60, cN_lt (by omega) (by omega)]
            omega
          have hng : ¬ q1 < (0 : Int32) := by rw [c5]; exact nI_pos (by omega)
          have ha : f_TreesFromRoot_arcIn r1 (nI r) (nI v) = some (nI (pa to la v)) := by
            unfold f_TreesFromRoot_arcIn
            rw [fieldOf_v r (by omega) v (by omega) hvr]
            simp only [bk1]
            rw [c2, arcR (by omega) (fld_le r (by omega) v (by omega)), code_at hn hG.2.1 hr (fun a ha => (hG.2.2.2.1 a ha).2.1) c1 hv hvr]
          refine ⟨nI (pa to la v), r2, r3, r4, r5, r6, r7, r8, r9, r10, q2, q3, ?_, ?_, keep⟩
          · simp only [f_RT_rootedArc, x1, x2, bk1, if_neg n1, if_neg hvv, e1, bk10, if_pos hlt, ha]
          · simp only [f_Mo_rootedArc, y1, y2, bk1, if_neg n1, e2, bk3, if_neg hng, if_neg hvv, gd_nI (show v < 10 by omega) (by decide), nI_clamp (show v < 2 ^ 31 by omega), c6]
    · rw [← hcn] at x2
      rw [← hmn] at y2
      refine ⟨-1, t_treesFromRoot_nodes, t_treesFromRoot_root, t_treesFromRoot_arcs, t_treesFromRoot_tail, t_treesFromRoot_head, t_treesFromRoot_cost, t_treesFromRoot_leastInto, t_treesFromRoot_before, t_treesFromRoot_group, t_fixed, t_grown, ?_, ?_, keep⟩
      · simp only [f_RT_rootedArc, x1, x2, bk1, if_neg n1, if_pos]
      · simp only [f_Mo_rootedArc, y1, y2, bk1, if_neg n1, if_pos]
  · rw [← hcn] at x1
    rw [← hmn] at y1
    refine ⟨-1, t_treesFromRoot_nodes, t_treesFromRoot_root, t_treesFromRoot_arcs, t_treesFromRoot_tail, t_treesFromRoot_head, t_treesFromRoot_cost, t_treesFromRoot_leastInto, t_treesFromRoot_before, t_treesFromRoot_group, t_fixed, t_grown, ?_, ?_, keep⟩
    · simp only [f_RT_rootedArc, x1, bk1, if_pos]
    · simp only [f_Mo_rootedArc, y1, bk1, if_pos]
