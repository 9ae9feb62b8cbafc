/-! THE MATHEMATICS: numbers -/
theorem gd_t {α : Type} (x : Option α) : gd true x = x := rfl
theorem inb_nI {i n : Nat} (h : i < n) (hn : n < 2 ^ 31) : inb (nI i) n = true := decide_eq_true (vp_in_nI h hn)
theorem gd_nI {α : Type} {i n : Nat} {x : Option α} (h : i < n) (hn : n < 2 ^ 31) : gd (inb (nI i) n) x = x := by rw [inb_nI h hn]; rfl
theorem bn_x {α β : Type} (a : α) (f : α → β) : bn a f = f a := rfl
theorem gd_of {α : Type} {b : Bool} {x : Option α} (h : b = true) : gd b x = x := by rw [h]; rfl
theorem nI_sub1 {n : Nat} (h : 0 < n) : nI n - 1 = nI (n - 1) := by
  have e : nI n = nI ((n - 1) + 1) := by rw [Nat.sub_add_cancel h]
  rw [e, nI_pred]
theorem nI_m1' {n : Nat} (h : 0 < n) : nI n + (-1) = nI (n - 1) := by
  have e : nI n = nI ((n - 1) + 1) := by rw [Nat.sub_add_cancel h]
  rw [e, pk_m1]
theorem upd_self (f : Nat → Int32) (k : Nat) (x : Int32) : upd f k x k = x := by simp [upd]
theorem upd_ne (f : Nat → Int32) {k j : Nat} (x : Int32) (h : j ≠ k) : upd f k x j = f j := by simp [upd, h]
/-! the order of the arcs: by weight, then by number -/
def ah (w : Nat → Nat) (a b : Nat) : Prop := w a < w b ∨ (w a = w b ∧ a < b)
theorem ah_trans {w : Nat → Nat} {a b c : Nat} (h1 : ah w a b) (h2 : ah w b c) : ah w a c := by
  unfold ah at *
  omega
theorem ah_irr {w : Nat → Nat} {a : Nat} : ¬ ah w a a := by
  unfold ah
  omega
theorem ah_tot {w : Nat → Nat} {a b : Nat} (h : a ≠ b) (h2 : ¬ ah w a b) : ah w b a := by
  unfold ah at *
  omega
/-! a graph: n nodes, k numbered arcs, which of them are there, their list in order -/
def GR (n k : Nat) (fr to w : Nat → Nat) (pr : Nat → Bool) (ord : List Nat) : Prop :=
  n ≤ 10 ∧ k ≤ 30 ∧ ord.length ≤ k ∧ (∀ a, a < k → fr a < n ∧ to a < n ∧ fr a ≠ to a ∧ w a ≤ 1000) ∧ ord.Pairwise (ah w) ∧ (∀ a, a ∈ ord ↔ (a < k ∧ pr a = true))
/-- how the two sides hold it -/
def CR (gnodes gnum gsize : Int32) (gpres : Int64) (gfrom gto gweight gorder : Nat → Int32) (n k : Nat) (fr to w : Nat → Nat) (pr : Nat → Bool) (ord : List Nat) : Prop :=
  gnodes = nI n ∧ gnum = nI k ∧ gsize = nI ord.length ∧ (∀ a, a < 64 → gpres.toBitVec.getLsbD a = (decide (a < k) && pr a)) ∧ (∀ a, a < k → gfrom a = nI (fr a) ∧ gto a = nI (to a) ∧ gweight a = nI (w a)) ∧ (∀ i, i < ord.length → gorder i = nI (ord.getD i 0))
def MR (mnodes marcs mleft : Int32) (mfroms mtos mweights mthere : Nat → Int32) (n k : Nat) (fr to w : Nat → Nat) (pr : Nat → Bool) (ord : List Nat) : Prop :=
  mnodes = nI n ∧ marcs = nI k ∧ mleft = nI ord.length ∧ (∀ a, a < k → mfroms a = nI (fr a) ∧ mtos a = nI (to a) ∧ mweights a = nI (w a) ∧ mthere a = (if pr a = true then 1 else 0))
def GInv (gnodes gnum gsize : Int32) (gpres : Int64) (gfrom gto gweight gorder : Nat → Int32) (mnodes marcs mleft : Int32) (mfroms mtos mweights mthere : Nat → Int32) : Prop :=
  ∃ (n k : Nat) (fr to w : Nat → Nat) (pr : Nat → Bool) (ord : List Nat), GR n k fr to w pr ord ∧ CR gnodes gnum gsize gpres gfrom gto gweight gorder n k fr to w pr ord ∧ MR mnodes marcs mleft mfroms mtos mweights mthere n k fr to w pr ord
def InvC : InvT := fun t_graph_nodes t_graph_numbered t_graph_size t_graph_present t_graph_from t_graph_to t_graph_weight t_graph_order t_forests_nextWeight t_forests_nextIn t_forests_nextOut t_forests_labels_nodes t_forests_labels_groups t_forests_labels_label t_forests_treeCount_groupOf t_forests_treeCount_links t_forests_treeCount_rows t_forests_treeCount_minor t_forests_heaviest t_boundedTrees_nodes t_boundedTrees_bound t_boundedTrees_between t_boundedTrees_branches t_boundedTrees_branch t_treesFromRoot_nodes t_treesFromRoot_arcs t_treesFromRoot_root t_treesFromRoot_tail t_treesFromRoot_head t_treesFromRoot_cost t_treesFromRoot_leastInto t_treesFromRoot_before t_treesFromRoot_group t_joiningTrees_labels_nodes t_joiningTrees_labels_groups t_joiningTrees_labels_label t_nodes t_arcs t_left t_swapIn t_swapOut t_boundedSet t_joinedSet t_froms t_tos t_weights t_there t_part t_low t_row t_matrix t_own t_chosen t_degrees t_fixed t_grown t_costs t_order => GInv t_graph_nodes t_graph_numbered t_graph_size t_graph_present t_graph_from t_graph_to t_graph_weight t_graph_order t_nodes t_arcs t_left t_froms t_tos t_weights t_there
theorem inv_zero : InvC 0 0 0 0 (fun _ => 0) (fun _ => 0) (fun _ => 0) (fun _ => 0) 0 0 0 0 0 (fun _ => 0) (fun _ => 0) (fun _ _ => 0) (fun _ => 0) (fun _ _ => 0) (fun _ => 0) 0 0 (fun _ _ => 0) (fun _ _ => 0) (fun _ _ => 0) 0 0 0 (fun _ => 0) (fun _ => 0) (fun _ => 0) (fun _ => 0) (fun _ => 0) (fun _ => 0) 0 0 (fun _ => 0) 0 0 0 0 0 0 0 (fun _ => 0) (fun _ => 0) (fun _ => 0) (fun _ => 0) (fun _ => 0) (fun _ => 0) (fun _ => 0) (fun _ => 0) (fun _ => 0) (fun _ => 0) (fun _ => 0) (fun _ => 0) (fun _ => 0) (fun _ => 0) (fun _ => 0) :=
  ⟨0, 0, fun _ => 0, fun _ => 0, fun _ => 0, fun _ => false, [], ⟨by omega, by omega, by simp, fun a h => absurd h (Nat.not_lt_zero a), List.Pairwise.nil, fun a => by simp⟩, ⟨rfl, rfl, rfl, fun a _ => by simp, fun a h => absurd h (Nat.not_lt_zero a), fun i h => absurd h (Nat.not_lt_zero i)⟩, ⟨rfl, rfl, rfl, fun a h => absurd h (Nat.not_lt_zero a)⟩⟩
theorem st_clear (N : Nat) : St_clear N InvC := by
  intro t_graph_nodes t_graph_numbered t_graph_size t_graph_present t_graph_from t_graph_to t_graph_weight t_graph_order t_forests_nextWeight t_forests_nextIn t_forests_nextOut t_forests_labels_nodes t_forests_labels_groups t_forests_labels_label t_forests_treeCount_groupOf t_forests_treeCount_links t_forests_treeCount_rows t_forests_treeCount_minor t_forests_heaviest t_boundedTrees_nodes t_boundedTrees_bound t_boundedTrees_between t_boundedTrees_branches t_boundedTrees_branch t_treesFromRoot_nodes t_treesFromRoot_arcs t_treesFromRoot_root t_treesFromRoot_tail t_treesFromRoot_head t_treesFromRoot_cost t_treesFromRoot_leastInto t_treesFromRoot_before t_treesFromRoot_group t_joiningTrees_labels_nodes t_joiningTrees_labels_groups t_joiningTrees_labels_label t_nodes t_arcs t_left t_swapIn t_swapOut t_boundedSet t_joinedSet t_froms t_tos t_weights t_there t_part t_low t_row t_matrix t_own t_chosen t_degrees t_fixed t_grown t_costs t_order hI
  obtain ⟨n, k, fr, to, w, pr, ord, hG, hC, hM⟩ := hI
  obtain ⟨c1, -, -, -, -, -⟩ := hC
  obtain ⟨m1, -, -, -⟩ := hM
  refine ⟨nI n, 0, 0, 0, 0, 0, 0, 0, ?_, ?_, ?_⟩
  · simp only [f_RT_clear, f_Graph_empty, bk4, c1]
  · simp only [f_Mo_clear, m1]
  · exact ⟨0, 0, fun _ => 0, fun _ => 0, fun _ => 0, fun _ => false, [], ⟨by omega, by omega, by simp, fun a h => absurd h (Nat.not_lt_zero a), List.Pairwise.nil, fun a => by simp⟩, ⟨rfl, rfl, rfl, fun a _ => by simp, fun a h => absurd h (Nat.not_lt_zero a), fun i h => absurd h (Nat.not_lt_zero i)⟩, ⟨rfl, rfl, rfl, fun a h => absurd h (Nat.not_lt_zero a)⟩⟩
theorem st_node (N : Nat) : St_node N InvC := by
  intro t_graph_nodes t_graph_numbered t_graph_size t_graph_present t_graph_from t_graph_to t_graph_weight t_graph_order t_forests_nextWeight t_forests_nextIn t_forests_nextOut t_forests_labels_nodes t_forests_labels_groups t_forests_labels_label t_forests_treeCount_groupOf t_forests_treeCount_links t_forests_treeCount_rows t_forests_treeCount_minor t_forests_heaviest t_boundedTrees_nodes t_boundedTrees_bound t_boundedTrees_between t_boundedTrees_branches t_boundedTrees_branch t_treesFromRoot_nodes t_treesFromRoot_arcs t_treesFromRoot_root t_treesFromRoot_tail t_treesFromRoot_head t_treesFromRoot_cost t_treesFromRoot_leastInto t_treesFromRoot_before t_treesFromRoot_group t_joiningTrees_labels_nodes t_joiningTrees_labels_groups t_joiningTrees_labels_label t_nodes t_arcs t_left t_swapIn t_swapOut t_boundedSet t_joinedSet t_froms t_tos t_weights t_there t_part t_low t_row t_matrix t_own t_chosen t_degrees t_fixed t_grown t_costs t_order hI
  obtain ⟨n, k, fr, to, w, pr, ord, hG, hC, hM⟩ := hI
  obtain ⟨g1, g2, g3, g4, g5, g6⟩ := hG
  obtain ⟨c1, c2, c3, c4, c5, c6⟩ := hC
  obtain ⟨m1, m2, m3, m4⟩ := hM
  by_cases h10 : n = 10
  · refine ⟨-4, nI n, nI n, ?_, ?_, ⟨n, k, fr, to, w, pr, ord, ⟨g1, g2, g3, g4, g5, g6⟩, ⟨rfl, c2, c3, c4, c5, c6⟩, ⟨rfl, m2, m3, m4⟩⟩⟩
    · have h : ¬ nI n < (10 : Int32) := by rw [h10]; decide
      simp only [f_RT_node, c1, if_neg h]
    · have h : nI n = (10 : Int32) := by rw [h10]; rfl
      simp only [f_Mo_node, m1, if_pos h]
  · refine ⟨nI n, nI (n + 1), nI (n + 1), ?_, ?_, ⟨n + 1, k, fr, to, w, pr, ord, ⟨by omega, g2, g3, fun a ha => ?_, g5, g6⟩, ⟨rfl, c2, c3, c4, c5, c6⟩, ⟨rfl, m2, m3, m4⟩⟩⟩
    · have h : nI n < (10 : Int32) := nI_lt (a := n) (b := 10) (by omega) (by decide)
      simp only [f_RT_node, f_Graph_addNode, bk2, bn, c1, if_pos h, nI_1, nI_pred]
    · have h : ¬ nI n = (10 : Int32) := fun q => h10 ((nI_eq (a := n) (b := 10) (by omega) (by decide)).mp q)
      simp only [f_Mo_node, bn, m1, if_neg h, nI_1, nI_pred]
    · obtain ⟨q1, q2, q3, q4⟩ := g4 a ha
      exact ⟨by omega, by omega, q3, q4⟩
