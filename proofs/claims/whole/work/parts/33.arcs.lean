theorem ah_pw {w w' : Nat → Nat} {ord : List Nat} (h : ord.Pairwise (ah w)) (he : ∀ a, a ∈ ord → w' a = w a) : ord.Pairwise (ah w') := by
  apply pw_of_get
  intro i j hij hj
  have h1 := pw_get h hij hj
  unfold ah at h1 ⊢
  rw [he _ (getD_mem (show i < ord.length by omega)), he _ (getD_mem hj)]
  exact h1
theorem st_arc {N : Nat} (hN : 100 ≤ N) : St_arc N InvC := by
  intro t_graph_nodes t_graph_numbered t_graph_size t_graph_present t_graph_from t_graph_to t_graph_weight t_graph_order t_forests_nextWeight t_forests_nextIn t_forests_nextOut t_forests_labels_nodes t_forests_labels_groups t_forests_labels_label t_forests_treeCount_groupOf t_forests_treeCount_links t_forests_treeCount_rows t_forests_treeCount_minor t_forests_heaviest t_boundedTrees_nodes t_boundedTrees_bound t_boundedTrees_between t_boundedTrees_branches t_boundedTrees_branch t_treesFromRoot_nodes t_treesFromRoot_arcs t_treesFromRoot_root t_treesFromRoot_tail t_treesFromRoot_head t_treesFromRoot_cost t_treesFromRoot_leastInto t_treesFromRoot_before t_treesFromRoot_group t_joiningTrees_labels_nodes t_joiningTrees_labels_groups t_joiningTrees_labels_label t_nodes t_arcs t_left t_swapIn t_swapOut t_boundedSet t_joinedSet t_froms t_tos t_weights t_there t_part t_low t_row t_matrix t_own t_chosen t_degrees t_fixed t_grown t_costs t_order p1 p2 p3 hI
  obtain ⟨n, k, fr, to, w, pr, ord, hG, hC, hM⟩ := hI
  have keep : GInv t_graph_nodes t_graph_numbered t_graph_size t_graph_present t_graph_from t_graph_to t_graph_weight t_graph_order t_nodes t_arcs t_left t_froms t_tos t_weights t_there := ⟨n, k, fr, to, w, pr, ord, hG, hC, hM⟩
  obtain ⟨g1, g2, g3, g4, g5, g6⟩ := hG
  obtain ⟨c1, c2, c3, c4, c5, c6⟩ := hC
  obtain ⟨m1, m2, m3, m4⟩ := hM
  subst c1 c2 c3 m1 m2 m3
  have n1 : ¬ (1 : Int32) = 0 := by decide
  rcases hasNode_v p1 g1 with ⟨a, ha, rfl, x1, y1⟩ | ⟨x1, y1⟩
  · rcases hasNode_v p2 g1 with ⟨b, hb, rfl, x2, y2⟩ | ⟨x2, y2⟩
    · by_cases hab : nI a = nI b
      · exact ⟨-1, nI k, t_graph_from, t_graph_to, t_graph_weight, t_graph_present, t_graph_order, nI ord.length, t_froms, t_tos, t_weights, t_there, nI k, nI ord.length, by simp only [f_RT_arc, x1, x2, bk1, if_neg n1, if_pos hab], by simp only [f_Mo_arc, y1, y2, bk1, if_neg n1, if_pos hab], keep⟩
      · rcases isWeight_v p3 with ⟨j, hj, rfl, z1, z2, z3⟩ | ⟨z1, z3⟩
        · by_cases hk : k = 30
          · have hk1 : ¬ nI k < (30 : Int32) := by rw [hk]; decide
            have hk2 : nI k = (30 : Int32) := by rw [hk]; rfl
            exact ⟨-4, nI k, t_graph_from, t_graph_to, t_graph_weight, t_graph_present, t_graph_order, nI ord.length, t_froms, t_tos, t_weights, t_there, nI k, nI ord.length, by simp only [f_RT_arc, x1, x2, z3, bk1, if_neg n1, if_neg hab, if_neg hk1], by simp only [f_Mo_arc, y1, y2, bk1, if_neg n1, if_neg hab, if_neg z1, if_pos z2, if_pos hk2], keep⟩
          · have hk0 : k < 30 := by omega
            have hk1 : nI k < (30 : Int32) := nI_lt (a := k) (b := 30) hk0 (by decide)
            have hk2 : ¬ nI k = (30 : Int32) := fun q => hk ((nI_eq (a := k) (b := 30) (by omega) (by decide)).mp q)
            have hmem : ∀ x, x ∈ ord → x < k := fun x hx => ((g6 x).mp hx).1
            obtain ⟨ord', o', e1, e2, e3, e4, e5⟩ := pio hN (w := fun x => if x = k then j else w x) (wt := upd t_graph_weight k (nI j)) (o := t_graph_order) (p := k) (ord := ord) hk0 (by rw [upd_self, if_pos rfl]) (by rw [if_pos rfl]; exact hj) (by omega)
              (fun x hx => ⟨by have := hmem x hx; omega, by rw [upd_ne _ _ (by have := hmem x hx; omega), if_neg (by have := hmem x hx; omega)]; exact (c5 x (hmem x hx)).2.2, by rw [if_neg (by have := hmem x hx; omega)]; exact (g4 x (hmem x hx)).2.2.2⟩)
              (ah_pw g5 (fun x hx => if_neg (by have := hmem x hx; omega))) (fun q => absurd (hmem k q) (Nat.lt_irrefl k)) c6
            have hne : a ≠ b := fun q => hab (by rw [q])
            refine ⟨nI k, nI (k + 1), upd t_graph_from k (nI a), upd t_graph_to k (nI b), upd t_graph_weight k (nI j), t_graph_present ||| ((1 : Int64) <<< ((nI k).toInt64 &&& 63)), o', nI ord'.length, upd t_froms k (nI a), upd t_tos k (nI b), upd t_weights k (nI j), upd t_there k (vp_nar .boolean 1), nI (k + 1), nI ord'.length, ?_, ?_, ?_⟩
            · simp only [f_RT_arc, x1, x2, z3, bk1, if_neg n1, if_neg hab, if_pos hk1, f_Graph_addArc, bn, gd_nI hk0 (by decide), nI_clamp (show k < 2 ^ 31 by omega), e1, bk2, bk8, nI_1]
            · simp only [f_Mo_arc, y1, y2, bk1, if_neg n1, if_neg hab, if_neg z1, if_pos z2, if_neg hk2, gd_nI hk0 (by decide), bn, nI_1, nI_clamp (show k < 2 ^ 31 by omega), nI_pred, e2]
            · refine ⟨n, k + 1, fun x => if x = k then a else fr x, fun x => if x = k then b else to x, fun x => if x = k then j else w x, fun x => if x = k then true else pr x, ord', ⟨g1, by omega, by omega, ?_, e4, ?_⟩, ⟨rfl, rfl, rfl, ?_, ?_, e3⟩, ⟨rfl, rfl, rfl, ?_⟩⟩
              · intro x hx
                by_cases h : x = k
                · subst h
                  simp only [if_pos]
                  exact ⟨ha, hb, hne, hj⟩
                · simp only [if_neg h]
                  exact g4 x (by omega)
              · intro x
                rw [e5, g6]
                by_cases h : x = k
                · subst h
                  simp
                · simp only [if_neg h]
                  constructor
                  · rintro (q | ⟨q1, q2⟩)
                    · exact absurd q h
                    · exact ⟨by omega, q2⟩
                  · rintro ⟨q1, q2⟩
                    exact Or.inr ⟨by omega, q2⟩
              · intro x hx
                rw [bit_or _ (show k < 64 by omega), c4 x hx]
                by_cases h : x = k
                · subst h
                  simp
                · have h1 : ¬ k = x := fun q => h q.symm
                  by_cases h2 : x < k
                  · have h3 : x < k + 1 := by omega
                    simp [h, h1, h2, h3]
                  · have h3 : ¬ x < k + 1 := by omega
                    simp [h1, h2, h3]
              · intro x hx
                by_cases h : x = k
                · subst h
                  simp only [upd_self, if_pos]
                  exact ⟨trivial, trivial, trivial⟩
                · simp only [upd_ne _ _ h, if_neg h]
                  exact c5 x (by omega)
              · intro x hx
                by_cases h : x = k
                · subst h
                  simp only [upd_self, if_pos]
                  exact ⟨trivial, trivial, trivial, by decide⟩
                · simp only [upd_ne _ _ h, if_neg h]
                  exact m4 x (by omega)
        · rcases z1 with z1 | ⟨z1, z2⟩
          · exact ⟨-2, nI k, t_graph_from, t_graph_to, t_graph_weight, t_graph_present, t_graph_order, nI ord.length, t_froms, t_tos, t_weights, t_there, nI k, nI ord.length, by simp only [f_RT_arc, x1, x2, z3, bk1, if_neg n1, if_neg hab, if_pos], by simp only [f_Mo_arc, y1, y2, bk1, if_neg n1, if_neg hab, if_pos z1], keep⟩
          · exact ⟨-2, nI k, t_graph_from, t_graph_to, t_graph_weight, t_graph_present, t_graph_order, nI ord.length, t_froms, t_tos, t_weights, t_there, nI k, nI ord.length, by simp only [f_RT_arc, x1, x2, z3, bk1, if_neg n1, if_neg hab, if_pos], by simp only [f_Mo_arc, y1, y2, bk1, if_neg n1, if_neg hab, if_neg z1, if_neg z2], keep⟩
    · exact ⟨-1, nI k, t_graph_from, t_graph_to, t_graph_weight, t_graph_present, t_graph_order, nI ord.length, t_froms, t_tos, t_weights, t_there, nI k, nI ord.length, by simp only [f_RT_arc, x1, x2, bk1, if_neg n1, if_pos], by simp only [f_Mo_arc, y1, y2, bk1, if_neg n1, if_pos], keep⟩
  · exact ⟨-1, nI k, t_graph_from, t_graph_to, t_graph_weight, t_graph_present, t_graph_order, nI ord.length, t_froms, t_tos, t_weights, t_there, nI k, nI ord.length, by simp only [f_RT_arc, x1, bk1, if_pos], by simp only [f_Mo_arc, y1, bk1, if_pos], keep⟩
theorem st_drop {N : Nat} (hN : 100 ≤ N) : St_drop N InvC := by
  intro t_graph_nodes t_graph_numbered t_graph_size t_graph_present t_graph_from t_graph_to t_graph_weight t_graph_order t_forests_nextWeight t_forests_nextIn t_forests_nextOut t_forests_labels_nodes t_forests_labels_groups t_forests_labels_label t_forests_treeCount_groupOf t_forests_treeCount_links t_forests_treeCount_rows t_forests_treeCount_minor t_forests_heaviest t_boundedTrees_nodes t_boundedTrees_bound t_boundedTrees_between t_boundedTrees_branches t_boundedTrees_branch t_treesFromRoot_nodes t_treesFromRoot_arcs t_treesFromRoot_root t_treesFromRoot_tail t_treesFromRoot_head t_treesFromRoot_cost t_treesFromRoot_leastInto t_treesFromRoot_before t_treesFromRoot_group t_joiningTrees_labels_nodes t_joiningTrees_labels_groups t_joiningTrees_labels_label t_nodes t_arcs t_left t_swapIn t_swapOut t_boundedSet t_joinedSet t_froms t_tos t_weights t_there t_part t_low t_row t_matrix t_own t_chosen t_degrees t_fixed t_grown t_costs t_order p1 hI
  obtain ⟨n, k, fr, to, w, pr, ord, hG, hC, hM⟩ := hI
  have keep : GInv t_graph_nodes t_graph_numbered t_graph_size t_graph_present t_graph_from t_graph_to t_graph_weight t_graph_order t_nodes t_arcs t_left t_froms t_tos t_weights t_there := ⟨n, k, fr, to, w, pr, ord, hG, hC, hM⟩
  obtain ⟨g1, g2, g3, g4, g5, g6⟩ := hG
  obtain ⟨c1, c2, c3, c4, c5, c6⟩ := hC
  obtain ⟨m1, m2, m3, m4⟩ := hM
  subst c1 c2 c3 m1 m2 m3
  have n1 : ¬ (1 : Int32) = 0 := by decide
  rcases hasArc_v p1 g2 c4 (fun a ha => (m4 a ha).2.2.2) with ⟨a, ha, hpa, rfl, x1, y1⟩ | ⟨x1, y1⟩
  · have hmem : ∀ x, x ∈ ord → x < 30 := fun x hx => by have := ((g6 x).mp hx).1; omega
    obtain ⟨o', e1, e2⟩ := too hN (a := a) (ord := ord) (o := t_graph_order) (by omega) (by omega) hmem c6
    have hl := fl_len (ahs_nodup g5) ((g6 a).mpr ⟨ha, hpa⟩)
    refine ⟨nI (ord.filter (fun x => x != a)).length, o', nI (ord.filter (fun x => x != a)).length, t_graph_present &&& (((1 : Int64) <<< ((nI a).toInt64 &&& 63)) ^^^ (-1)), upd t_there a (vp_nar .boolean 0), nI (ord.filter (fun x => x != a)).length, ?_, ?_, ?_⟩
    · simp only [f_RT_drop, x1, bk1, if_neg n1, f_Graph_removeArc, e1, bk2, bn, bk4]
    · simp only [f_Mo_drop, y1, bk1, if_neg n1, gd_nI (show a < 30 by omega) (by decide), bn, nI_clamp (show a < 2 ^ 31 by omega), ← hl, nI_pred]
    · refine ⟨n, k, fr, to, w, fun x => if x = a then false else pr x, ord.filter (fun x => x != a), ⟨g1, g2, by omega, g4, g5.filter _, ?_⟩, ⟨rfl, rfl, rfl, ?_, c5, e2⟩, ⟨rfl, rfl, rfl, ?_⟩⟩
      · intro x
        rw [List.mem_filter, g6]
        by_cases h : x = a
        · subst h
          simp
        · simp [h]
      · intro x hx
        rw [bit_not _ (show a < 64 by omega) hx, c4 x hx]
        by_cases h : x = a
        · subst h
          simp
        · have h1 : ¬ a = x := fun q => h q.symm
          simp [h, h1]
      · intro x hx
        obtain ⟨q1, q2, q3, q4⟩ := m4 x hx
        by_cases h : x = a
        · subst h
          refine ⟨q1, q2, q3, ?_⟩
          simp only [upd_self, if_pos]
          decide
        · refine ⟨q1, q2, q3, ?_⟩
          simp only [upd_ne _ _ h, if_neg h]
          exact q4
  · exact ⟨-1, t_graph_order, nI ord.length, t_graph_present, t_there, nI ord.length, by simp only [f_RT_drop, x1, bk1, if_pos], by simp only [f_Mo_drop, y1, bk1, if_pos], keep⟩
theorem st_change {N : Nat} (hN : 100 ≤ N) : St_change N InvC := by
  intro t_graph_nodes t_graph_numbered t_graph_size t_graph_present t_graph_from t_graph_to t_graph_weight t_graph_order t_forests_nextWeight t_forests_nextIn t_forests_nextOut t_forests_labels_nodes t_forests_labels_groups t_forests_labels_label t_forests_treeCount_groupOf t_forests_treeCount_links t_forests_treeCount_rows t_forests_treeCount_minor t_forests_heaviest t_boundedTrees_nodes t_boundedTrees_bound t_boundedTrees_between t_boundedTrees_branches t_boundedTrees_branch t_treesFromRoot_nodes t_treesFromRoot_arcs t_treesFromRoot_root t_treesFromRoot_tail t_treesFromRoot_head t_treesFromRoot_cost t_treesFromRoot_leastInto t_treesFromRoot_before t_treesFromRoot_group t_joiningTrees_labels_nodes t_joiningTrees_labels_groups t_joiningTrees_labels_label t_nodes t_arcs t_left t_swapIn t_swapOut t_boundedSet t_joinedSet t_froms t_tos t_weights t_there t_part t_low t_row t_matrix t_own t_chosen t_degrees t_fixed t_grown t_costs t_order p1 p2 hI
  obtain ⟨n, k, fr, to, w, pr, ord, hG, hC, hM⟩ := hI
  have keep : GInv t_graph_nodes t_graph_numbered t_graph_size t_graph_present t_graph_from t_graph_to t_graph_weight t_graph_order t_nodes t_arcs t_left t_froms t_tos t_weights t_there := ⟨n, k, fr, to, w, pr, ord, hG, hC, hM⟩
  obtain ⟨g1, g2, g3, g4, g5, g6⟩ := hG
  obtain ⟨c1, c2, c3, c4, c5, c6⟩ := hC
  obtain ⟨m1, m2, m3, m4⟩ := hM
  subst c1 c2 c3 m1 m2 m3
  have n1 : ¬ (1 : Int32) = 0 := by decide
  rcases hasArc_v p1 g2 c4 (fun a ha => (m4 a ha).2.2.2) with ⟨a, ha, hpa, rfl, x1, y1⟩ | ⟨x1, y1⟩
  · rcases isWeight_v p2 with ⟨j, hj, rfl, z1, z2, z3⟩ | ⟨z1, z3⟩
    · have hmem : ∀ x, x ∈ ord → x < k := fun x hx => ((g6 x).mp hx).1
      have hmf : ∀ x, x ∈ ord.filter (fun x => x != a) → x < k ∧ x ≠ a := fun x hx => ⟨hmem x (List.mem_filter.mp hx).1, by simpa using (List.mem_filter.mp hx).2⟩
      obtain ⟨o1, d1, d2⟩ := too hN (a := a) (ord := ord) (o := t_graph_order) (by omega) (by omega) (fun x hx => by have := hmem x hx; omega) c6
      have hl := fl_len (ahs_nodup g5) ((g6 a).mpr ⟨ha, hpa⟩)
      obtain ⟨ord', o', e1, e2, e3, e4, e5⟩ := pio hN (w := fun x => if x = a then j else w x) (wt := upd t_graph_weight a (nI j)) (o := o1) (p := a) (ord := ord.filter (fun x => x != a)) (by omega) (by rw [upd_self, if_pos rfl]) (by rw [if_pos rfl]; exact hj) (by omega)
        (fun x hx => ⟨by have := (hmf x hx).1; omega, by rw [upd_ne _ _ (hmf x hx).2, if_neg (hmf x hx).2]; exact (c5 x (hmf x hx).1).2.2, by rw [if_neg (hmf x hx).2]; exact (g4 x (hmf x hx).1).2.2.2⟩)
        (ah_pw (g5.filter _) (fun x hx => if_neg (hmf x hx).2)) (fun q => absurd rfl (hmf a q).2) d2
      have hlen : ord'.length = ord.length := by omega
      refine ⟨nI (w a), o', nI ord'.length, upd t_graph_weight a (nI j), upd t_weights a (nI j), ?_, ?_, ?_⟩
      · simp only [f_RT_change, x1, bk1, if_neg n1, z3, f_Graph_reweigh, gd_nI (show a < 30 by omega) (by decide), bn, nI_clamp (show a < 2 ^ 31 by omega), (c5 a ha).2.2, d1, bk2, e1, bk4]
      · simp only [f_Mo_change, y1, bk1, if_neg n1, if_neg z1, if_pos z2, gd_nI (show a < 30 by omega) (by decide), bn, nI_clamp (show a < 2 ^ 31 by omega), (m4 a ha).2.2.1]
      · refine ⟨n, k, fr, to, fun x => if x = a then j else w x, pr, ord', ⟨g1, g2, by omega, ?_, e4, ?_⟩, ⟨rfl, rfl, rfl, c4, ?_, e3⟩, ⟨rfl, rfl, by rw [hlen], ?_⟩⟩
        · intro x hx
          obtain ⟨q1, q2, q3, q4⟩ := g4 x hx
          by_cases h : x = a
          · subst h
            simp only [if_pos]
            exact ⟨q1, q2, q3, hj⟩
          · simp only [if_neg h]
            exact ⟨q1, q2, q3, q4⟩
        · intro x
          rw [e5, List.mem_filter, g6]
          by_cases h : x = a
          · subst h
            simp [ha, hpa]
          · simp [h]
        · intro x hx
          obtain ⟨q1, q2, q3⟩ := c5 x hx
          by_cases h : x = a
          · subst h
            simp only [upd_self, if_pos]
            exact ⟨q1, q2, trivial⟩
          · simp only [upd_ne _ _ h, if_neg h]
            exact ⟨q1, q2, q3⟩
        · intro x hx
          obtain ⟨q1, q2, q3, q4⟩ := m4 x hx
          by_cases h : x = a
          · subst h
            simp only [upd_self, if_pos]
            exact ⟨q1, q2, trivial, q4⟩
          · simp only [upd_ne _ _ h, if_neg h]
            exact ⟨q1, q2, q3, q4⟩
    · rcases z1 with z1 | ⟨z1, z2⟩
      · exact ⟨-2, t_graph_order, nI ord.length, t_graph_weight, t_weights, by simp only [f_RT_change, x1, z3, bk1, if_neg n1, if_pos], by simp only [f_Mo_change, y1, bk1, if_neg n1, if_pos z1], keep⟩
      · exact ⟨-2, t_graph_order, nI ord.length, t_graph_weight, t_weights, by simp only [f_RT_change, x1, z3, bk1, if_neg n1, if_pos], by simp only [f_Mo_change, y1, bk1, if_neg n1, if_neg z1, if_neg z2], keep⟩
  · exact ⟨-1, t_graph_order, nI ord.length, t_graph_weight, t_weights, by simp only [f_RT_change, x1, bk1, if_pos], by simp only [f_Mo_change, y1, bk1, if_pos], keep⟩
