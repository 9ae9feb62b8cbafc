/-! height -/
def kh (fr to w : Nat → Nat) (a b : Nat) : List Nat → (Nat → Nat) → Int32
  | [], _ => -3
  | x :: l, lab => if uni lab (fr x) (to x) a = uni lab (fr x) (to x) b then nI (w x) else kh fr to w a b l (uni lab (fr x) (to x))
theorem apart {n a b : Nat} {lab : Nat → Nat} {L : Nat → Int32} (hn : n ≤ 10) (ha : a < n) (hb : b < n) (hlab : ∀ v, v < n → lab v < 10) (hL : ∀ v, v < n → L v = nI (lab v)) : f_Labels_areApart (nI a) (nI b) L = some (if lab a = lab b then 0 else 1) := by
  have l1 := hlab a ha
  have l2 := hlab b hb
  by_cases h : lab a = lab b
  · have hc : nI (lab a) = nI (lab b) := by rw [h]
    simp only [f_Labels_areApart, gd_nI (show a < 10 by omega) (by decide), gd_nI (show b < 10 by omega) (by decide), nI_clamp (show a < 2 ^ 31 by omega), nI_clamp (show b < 2 ^ 31 by omega), hL a ha, hL b hb, if_pos hc, if_pos h]
  · have hc : ¬ nI (lab a) = nI (lab b) := fun q => h ((nI_eq (by omega) (by omega)).mp q)
    simp only [f_Labels_areApart, gd_nI (show a < 10 by omega) (by decide), gd_nI (show b < 10 by omega) (by decide), nI_clamp (show a < 2 ^ 31 by omega), nI_clamp (show b < 2 ^ 31 by omega), hL a ha, hL b hb, if_neg hc, if_neg h]
theorem drop_at {ord : List Nat} {i : Nat} (hil : i < ord.length) : ord.drop i = ord.getD i 0 :: ord.drop (i + 1) := by
  rw [List.drop_eq_getElem_cons hil, List.getD_eq_getElem?_getD, List.getElem?_eq_getElem hil]
  rfl
theorem get_at {ord : List Nat} {i : Nat} (hil : i < ord.length) : ord[i]? = some (ord.getD i 0) := by
  rw [List.getD_eq_getElem?_getD, List.getElem?_eq_getElem hil]
  rfl
theorem hC_loop {N n a b : Nat} {fr to w : Nat → Nat} {ord : List Nat} {O F T V : Nat → Int32} (hN : 100 ≤ N) (hn : n ≤ 10) (ha : a < n) (hb : b < n) (hlen : ord.length ≤ 30) (hO : ∀ i, i < ord.length → O i = nI (ord.getD i 0)) (hA : ∀ a, a ∈ ord → a < 30 ∧ F a = nI (fr a) ∧ T a = nI (to a) ∧ fr a < n ∧ to a < n) (hV : ∀ a, a ∈ ord → V a = nI (w a)) :
    ∀ (d i fuel : Nat) (G : Int32) (lab : Nat → Nat) (L : Nat → Int32), i + d = ord.length → d < fuel → (∀ v, v < n → lab v < 10) → (∀ v, v < n → L v = nI (lab v)) →
    ∃ G' L', lo4 (g_Forests_leastHeight_23 N (nI a) (nI b) (nI ord.length) O F T V) fuel (nI i) (nI n) G L = some (kh fr to w a b (ord.drop i) lab, nI n, G', L') := by
  intro d
  induction d with
  | zero =>
    intro i fuel G lab L h1 h2 h4 h5
    obtain ⟨f, rfl⟩ : ∃ f, fuel = f + 1 := ⟨fuel - 1, by omega⟩
    have e : ord.drop i = [] := List.drop_eq_nil_of_le (by omega)
    rw [e]
    refine ⟨G, L, ?_⟩
    show g_Forests_leastHeight_23 N (nI a) (nI b) (nI ord.length) O F T V _ (nI i) (nI n) G L = _
    have hle : nI ord.length ≤ nI i := nI_le (by omega) (by omega)
    simp only [g_Forests_leastHeight_23, if_pos hle, kh]
  | succ d ih =>
    intro i fuel G lab L h1 h2 h4 h5
    obtain ⟨f, rfl⟩ : ∃ f, fuel = f + 1 := ⟨fuel - 1, by omega⟩
    have hil : i < ord.length := by omega
    have hle : ¬ nI ord.length ≤ nI i := nI_ge hil (by omega)
    have e := drop_at hil
    generalize hx : ord.getD i 0 = x at e
    have hxo : x ∈ ord := by rw [← hx]; exact getD_mem hil
    obtain ⟨a1, a2, a3, a4, a5⟩ := hA x hxo
    obtain ⟨L1, u1, u2⟩ := unite hN hn a4 a5 h4 h5 G
    have h6 := uni10 a4 a5 h4
    have ap := apart hn ha hb h6 u2
    have n1 : ¬ (1 : Int32) = 0 := by decide
    rw [e]
    by_cases hq : uni lab (fr x) (to x) a = uni lab (fr x) (to x) b
    · rw [if_pos hq] at ap
      refine ⟨if lab (fr x) = lab (to x) then G else G - 1, L1, ?_⟩
      show g_Forests_leastHeight_23 N (nI a) (nI b) (nI ord.length) O F T V _ (nI i) (nI n) G L = _
      simp only [g_Forests_leastHeight_23, if_neg hle, gd_nI (show i < 30 by omega) (by decide), nI_clamp (show i < 2 ^ 31 by omega), hO i hil, hx, bn, gd_nI a1 (by decide), nI_clamp (show x < 2 ^ 31 by omega), a2, a3, u1, bk3, ap, bk1, if_pos, hV x hxo, kh, if_pos hq]
    · rw [if_neg hq] at ap
      obtain ⟨G', L', e1⟩ := ih (i + 1) f (if lab (fr x) = lab (to x) then G else G - 1) (uni lab (fr x) (to x)) L1 (by omega) (by omega) h6 u2
      refine ⟨G', L', ?_⟩
      simp only [kh, if_neg hq]
      rw [← e1]
      show g_Forests_leastHeight_23 N (nI a) (nI b) (nI ord.length) O F T V _ (nI i) (nI n) G L = _
      simp only [g_Forests_leastHeight_23, if_neg hle, gd_nI (show i < 30 by omega) (by decide), nI_clamp (show i < 2 ^ 31 by omega), hO i hil, hx, bn, gd_nI a1 (by decide), nI_clamp (show x < 2 ^ 31 by omega), a2, a3, u1, bk3, ap, bk1, if_neg n1, nI_1]
theorem hM_loop {N k n a b : Nat} {fr to w : Nat → Nat} {pr : Nat → Bool} {ord : List Nat} {H V F T : Nat → Int32} (hN : 100 ≤ N) (hk : k ≤ 30) (hn : n ≤ 10) (ha : a < n) (hb : b < n) (hA : ∀ a, a < k → V a = nI (w a) ∧ H a = (if pr a = true then 1 else 0) ∧ w a ≤ 1000) (hB : ∀ a, a < k → F a = nI (fr a) ∧ T a = nI (to a) ∧ fr a < n ∧ to a < n) (hs : ord.Pairwise (ah w)) (hm : ∀ a, a ∈ ord ↔ (a < k ∧ pr a = true)) :
    ∀ (d i fuel : Nat) (lab : Nat → Nat) (P : Nat → Int32), i + d = ord.length → d < fuel → (∀ v, v < 10 → lab v < 10) → (∀ v, v < 10 → P v = nI (lab v)) →
    ∃ P', lo2 (g_Mo_height_35 N (nI a) (nI b) (nI k) H V F T) fuel (enc ord[i]?) P = some (kh fr to w a b (ord.drop i) lab, P') := by
  intro d
  induction d with
  | zero =>
    intro i fuel lab P h1 h2 h3 h4
    obtain ⟨f, rfl⟩ : ∃ f, fuel = f + 1 := ⟨fuel - 1, by omega⟩
    have e : ord.drop i = [] := List.drop_eq_nil_of_le (by omega)
    have e0 : ord[i]? = none := List.getElem?_eq_none (by omega)
    rw [e, e0]
    refine ⟨P, ?_⟩
    show g_Mo_height_35 N (nI a) (nI b) (nI k) H V F T _ (-1) P = _
    have nm : (-1 : Int32) < 0 := by decide
    simp only [g_Mo_height_35, if_pos nm, kh]
  | succ d ih =>
    intro i fuel lab P h1 h2 h3 h4
    obtain ⟨f, rfl⟩ : ∃ f, fuel = f + 1 := ⟨fuel - 1, by omega⟩
    have hil : i < ord.length := by omega
    have e := drop_at hil
    have e0 := get_at hil
    have hbh := behindS hN hk hA hs hm hil
    generalize hx : ord.getD i 0 = x at e e0 hbh
    have hxk : x < k := by rw [← hx]; exact ((hm _).mp (getD_mem hil)).1
    obtain ⟨b1, b2, b3, b4⟩ := hB x hxk
    obtain ⟨P1, j1, j2⟩ := join hN (show x < 30 by omega) b1 b2 (by omega) (by omega) h3 h4
    have h6 := uni10 (m := 10) (show fr x < 10 by omega) (show to x < 10 by omega) h3
    have q1 := h6 a (by omega)
    have q2 := h6 b (by omega)
    have hx0 : ¬ nI x < 0 := nI_pos (by omega)
    rw [e, e0]
    by_cases hq : uni lab (fr x) (to x) a = uni lab (fr x) (to x) b
    · refine ⟨P1, ?_⟩
      show g_Mo_height_35 N (nI a) (nI b) (nI k) H V F T _ (nI x) P = _
      have hc : nI (uni lab (fr x) (to x) a) = nI (uni lab (fr x) (to x) b) := by rw [hq]
      simp only [g_Mo_height_35, if_neg hx0, j1, bk2, gd_nI (show a < 10 by omega) (by decide), gd_nI (show b < 10 by omega) (by decide), nI_clamp (show a < 2 ^ 31 by omega), nI_clamp (show b < 2 ^ 31 by omega), j2 a (by omega), j2 b (by omega), if_pos hc, gd_nI (show x < 30 by omega) (by decide), nI_clamp (show x < 2 ^ 31 by omega), (hA x hxk).1, kh, if_pos hq]
    · obtain ⟨P', e1⟩ := ih (i + 1) f (uni lab (fr x) (to x)) P1 (by omega) (by omega) h6 j2
      refine ⟨P', ?_⟩
      simp only [kh, if_neg hq]
      rw [← e1]
      show g_Mo_height_35 N (nI a) (nI b) (nI k) H V F T _ (nI x) P = _
      have hc : ¬ nI (uni lab (fr x) (to x) a) = nI (uni lab (fr x) (to x) b) := fun z => hq ((nI_eq (by omega) (by omega)).mp z)
      simp only [g_Mo_height_35, if_neg hx0, j1, bk2, gd_nI (show a < 10 by omega) (by decide), gd_nI (show b < 10 by omega) (by decide), nI_clamp (show a < 2 ^ 31 by omega), nI_clamp (show b < 2 ^ 31 by omega), j2 a (by omega), j2 b (by omega), if_neg hc, hbh, bk1]
theorem st_height {N : Nat} (hN : 100 ≤ N) : St_height N InvC := by
  intro t_graph_nodes t_graph_numbered t_graph_size t_graph_present t_graph_from t_graph_to t_graph_weight t_graph_order t_forests_nextWeight t_forests_nextIn t_forests_nextOut t_forests_labels_nodes t_forests_labels_groups t_forests_labels_label t_forests_treeCount_groupOf t_forests_treeCount_links t_forests_treeCount_rows t_forests_treeCount_minor t_forests_heaviest t_boundedTrees_nodes t_boundedTrees_bound t_boundedTrees_between t_boundedTrees_branches t_boundedTrees_branch t_treesFromRoot_nodes t_treesFromRoot_arcs t_treesFromRoot_root t_treesFromRoot_tail t_treesFromRoot_head t_treesFromRoot_cost t_treesFromRoot_leastInto t_treesFromRoot_before t_treesFromRoot_group t_joiningTrees_labels_nodes t_joiningTrees_labels_groups t_joiningTrees_labels_label t_nodes t_arcs t_left t_swapIn t_swapOut t_boundedSet t_joinedSet t_froms t_tos t_weights t_there t_part t_low t_row t_matrix t_own t_chosen t_degrees t_fixed t_grown t_costs t_order p1 p2 hI
  obtain ⟨n, k, fr, to, w, pr, ord, hG, hC, hM⟩ := hI
  have keep : GInv t_graph_nodes t_graph_numbered t_graph_size t_graph_present t_graph_from t_graph_to t_graph_weight t_graph_order t_nodes t_arcs t_left t_froms t_tos t_weights t_there := ⟨n, k, fr, to, w, pr, ord, hG, hC, hM⟩
  have hl : ord.length ≤ 30 := by have := hG.2.1; have := hG.2.2.1; omega
  have n1 : ¬ (1 : Int32) = 0 := by decide
  have hcn := hC.1
  have hmn := hM.1
  rcases hasNode_v p1 hG.1 with ⟨a, ha, rfl, x1, y1⟩ | ⟨x1, y1⟩
  · rcases hasNode_v p2 hG.1 with ⟨b, hb, rfl, x2, y2⟩ | ⟨x2, y2⟩
    · by_cases hab : nI a = nI b
      · refine ⟨0, t_forests_labels_nodes, t_forests_labels_groups, t_forests_labels_label, t_part, ?_, ?_, keep⟩
        · rw [hcn]
          simp only [f_RT_height, x1, x2, bk1, if_neg n1, f_Forests_leastHeight, if_pos hab, bk4]
        · rw [hmn]
          simp only [f_Mo_height, y1, y2, bk1, if_neg n1, if_pos hab]
      · obtain ⟨L1, s1, s2⟩ := sep hN hG.1 t_forests_labels_label
        obtain ⟨G', L', e1⟩ := hC_loop (w := w) (V := t_graph_weight) (a := a) (b := b) hN hG.1 ha hb hl hC.2.2.2.2.2 (hC.arcs hG) (fun x hx => (hC.2.2.2.2.1 x ((hG.2.2.2.2.2 x).mp hx).1).2.2) ord.length 0 N (nI n) (fun v => v) L1 (by omega) (by omega) (fun v hv => by have := hG.1; omega) s2
        obtain ⟨P1, t1, t2⟩ := alone hN t_part
        have hA : ∀ a, a < k → t_weights a = nI (w a) ∧ t_there a = (if pr a = true then 1 else 0) ∧ w a ≤ 1000 := fun a ha => ⟨(hM.2.2.2 a ha).2.2.1, (hM.2.2.2 a ha).2.2.2, (hG.2.2.2.1 a ha).2.2.2⟩
        have hB : ∀ a, a < k → t_froms a = nI (fr a) ∧ t_tos a = nI (to a) ∧ fr a < n ∧ to a < n := fun a ha => ⟨(hM.2.2.2 a ha).1, (hM.2.2.2 a ha).2.1, (hG.2.2.2.1 a ha).1, (hG.2.2.2.1 a ha).2.1⟩
        obtain ⟨P', m1⟩ := hM_loop (a := a) (b := b) hN hG.2.1 hG.1 ha hb hA hB hG.2.2.2.2.1 hG.2.2.2.2.2 ord.length 0 N (fun v => v) P1 (by omega) (by omega) (fun v hv => hv) t2
        have e1' : lo4 (g_Forests_leastHeight_23 N (nI a) (nI b) (nI ord.length) t_graph_order t_graph_from t_graph_to t_graph_weight) N 0 (nI n) (nI n) L1 = some (kh fr to w a b ord (fun v => v), nI n, G', L') := e1
        have m1' : lo2 (g_Mo_height_35 N (nI a) (nI b) (nI k) t_there t_weights t_froms t_tos) N (enc ord[0]?) P1 = some (kh fr to w a b ord (fun v => v), P') := m1
        refine ⟨kh fr to w a b ord (fun v => v), nI n, G', L', P', ?_, ?_, keep⟩
        · rw [hcn, hC.2.2.1]
          simp only [f_RT_height, x1, x2, bk1, if_neg n1, f_Forests_leastHeight, if_neg hab, s1, bk3, e1', bk4]
        · rw [hmn, hM.2.1]
          simp only [f_Mo_height, y1, y2, bk1, if_neg n1, if_neg hab, t1, behind0 hN hG.2.1 hA hG.2.2.2.2.1 hG.2.2.2.2.2, m1']
    · refine ⟨-1, t_forests_labels_nodes, t_forests_labels_groups, t_forests_labels_label, t_part, ?_, ?_, keep⟩
      · rw [hcn]
        simp only [f_RT_height, x1, x2, bk1, if_neg n1, if_pos]
      · rw [hmn]
        simp only [f_Mo_height, y1, y2, bk1, if_neg n1, if_pos]
  · refine ⟨-1, t_forests_labels_nodes, t_forests_labels_groups, t_forests_labels_label, t_part, ?_, ?_, keep⟩
    · rw [hcn]
      simp only [f_RT_height, x1, bk1, if_pos]
    · rw [hmn]
      simp only [f_Mo_height, y1, bk1, if_pos]
