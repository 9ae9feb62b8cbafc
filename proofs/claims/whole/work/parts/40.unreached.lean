/-! unreached: the class -/
theorem uC_in {n : Nat} {fr to : Nat → Nat} {ord : List Nat} {O F T : Nat → Int32} (hn : n ≤ 10) (hlen : ord.length ≤ 30) (hO : ∀ i, i < ord.length → O i = nI (ord.getD i 0)) (hA : ∀ a, a ∈ ord → a < 30 ∧ F a = nI (fr a) ∧ T a = nI (to a) ∧ fr a < n ∧ to a < n) (k6 : Int32 → Int32 → Option Int32) (v3 : Int32) :
    ∀ (d i fuel : Nat) (x : Int32), i + d = ord.length → d < fuel → ∃ x', lo3 (g_TreesFromRoot_outOfReach_20 (nI ord.length) O F T k6) fuel x v3 (nI i) = k6 x' (v3 + 1) ∧ bi x' = psl fr to (ord.drop i) (bi x) := by
  intro d
  induction d with
  | zero =>
    intro i fuel x h1 h2
    obtain ⟨f, rfl⟩ : ∃ f, fuel = f + 1 := ⟨fuel - 1, by omega⟩
    have e : ord.drop i = [] := List.drop_eq_nil_of_le (by omega)
    rw [e]
    refine ⟨x, ?_, rfl⟩
    show g_TreesFromRoot_outOfReach_20 (nI ord.length) O F T k6 _ x v3 (nI i) = _
    have hle : nI ord.length ≤ nI i := nI_le (by omega) (by omega)
    simp only [g_TreesFromRoot_outOfReach_20, if_pos hle, bn]
  | succ d ih =>
    intro i fuel x h1 h2
    obtain ⟨f, rfl⟩ : ∃ f, fuel = f + 1 := ⟨fuel - 1, by omega⟩
    have hil : i < ord.length := by omega
    have hle : ¬ nI ord.length ≤ nI i := nI_ge hil (by omega)
    have e := drop_at hil
    generalize hx : ord.getD i 0 = a at e
    obtain ⟨a1, a2, a3, a4, a5⟩ := hA a (by rw [← hx]; exact getD_mem hil)
    rw [e]
    cases hb : bi x (fr a) with
    | true =>
      obtain ⟨x', e1, e2⟩ := ih (i + 1) f (x ||| ((1 : Int32) <<< (nI (to a) &&& 31))) (by omega) (by omega)
      refine ⟨x', ?_, ?_⟩
      · rw [← e1]
        show g_TreesFromRoot_outOfReach_20 (nI ord.length) O F T k6 _ x v3 (nI i) = _
        have hc : ¬ ((x >>> (nI (fr a) &&& 31)) &&& (1 : Int32)) = 0 := by rw [bi_0 x (by omega), hb]; simp
        simp only [g_TreesFromRoot_outOfReach_20, if_neg hle, gd_nI (show i < 30 by omega) (by decide), nI_clamp (show i < 2 ^ 31 by omega), hO i hil, hx, bn, gd_nI a1 (by decide), nI_clamp (show a < 2 ^ 31 by omega), a2, a3, if_neg hc, nI_1]
      · rw [e2, bi_or x (by omega)]
        simp only [psl, hb, if_pos]
    | false =>
      obtain ⟨x', e1, e2⟩ := ih (i + 1) f x (by omega) (by omega)
      refine ⟨x', ?_, ?_⟩
      · rw [← e1]
        show g_TreesFromRoot_outOfReach_20 (nI ord.length) O F T k6 _ x v3 (nI i) = _
        have hc : ((x >>> (nI (fr a) &&& 31)) &&& (1 : Int32)) = 0 := by rw [bi_0 x (by omega), hb]
        simp only [g_TreesFromRoot_outOfReach_20, if_neg hle, gd_nI (show i < 30 by omega) (by decide), nI_clamp (show i < 2 ^ 31 by omega), hO i hil, hx, bn, gd_nI a1 (by decide), nI_clamp (show a < 2 ^ 31 by omega), a2, if_pos hc, nI_1]
      · rw [e2]
        simp only [psl, hb, Bool.false_eq_true, if_false]
theorem uC_out {N n : Nat} {fr to : Nat → Nat} {ord : List Nat} {O F T : Nat → Int32} (hN : 100 ≤ N) (hn : n ≤ 10) (hlen : ord.length ≤ 30) (hO : ∀ i, i < ord.length → O i = nI (ord.getD i 0)) (hA : ∀ a, a ∈ ord → a < 30 ∧ F a = nI (fr a) ∧ T a = nI (to a) ∧ fr a < n ∧ to a < n) :
    ∀ (d j fuel : Nat) (x : Int32), j + d = n → d < fuel → ∃ x', lo2 (g_TreesFromRoot_outOfReach_6 N (nI n) (nI ord.length) O F T) fuel x (nI j) = some ((((1 : Int32) <<< (nI n &&& 31)) - 1) &&& (x' ^^^ (-1))) ∧ bi x' = pit fr to ord d (bi x) := by
  intro d
  induction d with
  | zero =>
    intro j fuel x h1 h2
    obtain ⟨f, rfl⟩ : ∃ f, fuel = f + 1 := ⟨fuel - 1, by omega⟩
    refine ⟨x, ?_, rfl⟩
    show g_TreesFromRoot_outOfReach_6 N (nI n) (nI ord.length) O F T _ x (nI j) = _
    have hle : nI n ≤ nI j := nI_le (by omega) (by omega)
    simp only [g_TreesFromRoot_outOfReach_6, if_pos hle, f_Graph_allNodes, bk1]
  | succ d ih =>
    intro j fuel x h1 h2
    obtain ⟨f, rfl⟩ : ∃ f, fuel = f + 1 := ⟨fuel - 1, by omega⟩
    obtain ⟨x1, p1, p2⟩ := uC_in hn hlen hO hA (lo2 (g_TreesFromRoot_outOfReach_6 N (nI n) (nI ord.length) O F T) f) (nI j) ord.length 0 N x (by omega) (by omega)
    obtain ⟨x', e1, e2⟩ := ih (j + 1) f x1 (by omega) (by omega)
    refine ⟨x', ?_, ?_⟩
    · rw [← e1]
      show g_TreesFromRoot_outOfReach_6 N (nI n) (nI ord.length) O F T _ x (nI j) = _
      have hle : ¬ nI n ≤ nI j := nI_ge (by omega) (by omega)
      have p1' : lo3 (g_TreesFromRoot_outOfReach_20 (nI ord.length) O F T (lo2 (g_TreesFromRoot_outOfReach_6 N (nI n) (nI ord.length) O F T) f)) N x (nI j) 0 = lo2 (g_TreesFromRoot_outOfReach_6 N (nI n) (nI ord.length) O F T) f x1 (nI j + 1) := p1
      rw [nI_1] at p1'
      simp only [g_TreesFromRoot_outOfReach_6, if_neg hle, p1']
    · rw [e2, p2]
      rfl
/-! the reference -/
theorem uM_in {n k : Nat} {fr to : Nat → Nat} {pr : Nat → Bool} {H F T : Nat → Int32} (hk : k ≤ 30) (hn : n ≤ 10) (hA : ∀ a, a < k → F a = nI (fr a) ∧ T a = nI (to a) ∧ H a = (if pr a = true then 1 else 0) ∧ fr a < n ∧ to a < n) (k6 : Int32 → Int32 → Option Int32) (v3 : Int32) :
    ∀ (d i fuel : Nat) (x : Int32), i + d = k → d < fuel → ∃ x', lo3 (g_Mo_unreachedOf_16 (nI k) H F T k6) fuel x v3 (nI i) = k6 x' v3 ∧ bi x' = psl fr to (pal pr i d) (bi x) := by
  intro d
  induction d with
  | zero =>
    intro i fuel x h1 h2
    obtain ⟨f, rfl⟩ : ∃ f, fuel = f + 1 := ⟨fuel - 1, by omega⟩
    refine ⟨x, ?_, rfl⟩
    show g_Mo_unreachedOf_16 (nI k) H F T k6 _ x v3 (nI i) = _
    have hle : nI k ≤ nI i := nI_le (by omega) (by omega)
    simp only [g_Mo_unreachedOf_16, if_pos hle]
  | succ d ih =>
    intro i fuel x h1 h2
    obtain ⟨f, rfl⟩ : ∃ f, fuel = f + 1 := ⟨fuel - 1, by omega⟩
    have hle : ¬ nI k ≤ nI i := nI_ge (by omega) (by omega)
    obtain ⟨a1, a2, a3, a4, a5⟩ := hA i (by omega)
    have n1 : ¬ (1 : Int32) = 0 := by decide
    by_cases hp : pr i = true
    · rw [if_pos hp] at a3
      cases hb : bi x (fr i) with
      | true =>
        obtain ⟨x', e1, e2⟩ := ih (i + 1) f (x ||| ((1 : Int32) <<< (nI (to i) &&& 31))) (by omega) (by omega)
        refine ⟨x', ?_, ?_⟩
        · rw [← e1]
          show g_Mo_unreachedOf_16 (nI k) H F T k6 _ x v3 (nI i) = _
          have hc : ((x >>> (nI (fr i) &&& 31)) &&& (1 : Int32)) = 1 := (bi_1 x (by omega)).mpr hb
          simp only [g_Mo_unreachedOf_16, if_neg hle, gd_nI (show i < 30 by omega) (by decide), nI_clamp (show i < 2 ^ 31 by omega), a3, if_neg n1, a1, a2, if_pos hc, bn, nI_1]
        · rw [e2, bi_or x (by omega)]
          simp only [pal, if_pos hp, psl, hb, if_pos]
      | false =>
        obtain ⟨x', e1, e2⟩ := ih (i + 1) f x (by omega) (by omega)
        refine ⟨x', ?_, ?_⟩
        · rw [← e1]
          show g_Mo_unreachedOf_16 (nI k) H F T k6 _ x v3 (nI i) = _
          have hc : ¬ ((x >>> (nI (fr i) &&& 31)) &&& (1 : Int32)) = 1 := fun q => by
            have := (bi_1 x (show fr i < 32 by omega)).mp q
            rw [hb] at this
            cases this
          simp only [g_Mo_unreachedOf_16, if_neg hle, gd_nI (show i < 30 by omega) (by decide), nI_clamp (show i < 2 ^ 31 by omega), a3, if_neg n1, a1, if_neg hc, bn, nI_1]
        · rw [e2]
          simp only [pal, if_pos hp, psl, hb, Bool.false_eq_true, if_false]
    · rw [if_neg hp] at a3
      obtain ⟨x', e1, e2⟩ := ih (i + 1) f x (by omega) (by omega)
      refine ⟨x', ?_, ?_⟩
      · rw [← e1]
        show g_Mo_unreachedOf_16 (nI k) H F T k6 _ x v3 (nI i) = _
        simp only [g_Mo_unreachedOf_16, if_neg hle, gd_nI (show i < 30 by omega) (by decide), nI_clamp (show i < 2 ^ 31 by omega), a3, if_pos, bn, nI_1]
      · rw [e2]
        simp only [pal, if_neg hp]
theorem uM_out {N n k : Nat} {fr to : Nat → Nat} {pr : Nat → Bool} {H F T : Nat → Int32} (hN : 100 ≤ N) (hk : k ≤ 30) (hn : n ≤ 10) (hA : ∀ a, a < k → F a = nI (fr a) ∧ T a = nI (to a) ∧ H a = (if pr a = true then 1 else 0) ∧ fr a < n ∧ to a < n) :
    ∀ (m fuel : Nat) (x b : Int32), n ≤ nbs (bi x) n + m → m + 2 < fuel → (b = x → Clo fr to (pal pr 0 k) (bi x)) →
    ∃ x', lo2 (g_Mo_unreachedOf_6 N (nI n) (nI k) H F T) fuel x b = some ((((1 : Int32) <<< (nI n &&& 31)) - 1) &&& (x' ^^^ (-1))) ∧ Clo fr to (pal pr 0 k) (bi x') ∧ (∀ v, bi x v = true → bi x' v = true) ∧ (∀ C : Nat → Bool, Clo fr to (pal pr 0 k) C → (∀ v, bi x v = true → C v = true) → ∀ v, bi x' v = true → C v = true) := by
  have hto : ∀ a, a ∈ pal pr 0 k → to a < n := fun a ha => (hA a (by have := (pal_mem.mp ha).2.1; omega)).2.2.2.2
  -- one step that stays
  have stop : ∀ (fuel : Nat) (x : Int32), 0 < fuel → lo2 (g_Mo_unreachedOf_6 N (nI n) (nI k) H F T) fuel x x = some ((((1 : Int32) <<< (nI n &&& 31)) - 1) &&& (x ^^^ (-1))) := by
    intro fuel x h
    obtain ⟨f, rfl⟩ : ∃ f, fuel = f + 1 := ⟨fuel - 1, by omega⟩
    show g_Mo_unreachedOf_6 N (nI n) (nI k) H F T _ x x = _
    simp only [g_Mo_unreachedOf_6, if_pos]
  have go : ∀ (fuel : Nat) (x b : Int32), ¬ b = x → ∃ x1, lo2 (g_Mo_unreachedOf_6 N (nI n) (nI k) H F T) (fuel + 1) x b = lo2 (g_Mo_unreachedOf_6 N (nI n) (nI k) H F T) fuel x1 x ∧ bi x1 = psl fr to (pal pr 0 k) (bi x) := by
    intro fuel x b hb
    obtain ⟨x1, p1, p2⟩ := uM_in hk hn hA (lo2 (g_Mo_unreachedOf_6 N (nI n) (nI k) H F T) fuel) x k 0 N x (by omega) (by omega)
    have p1' : lo3 (g_Mo_unreachedOf_16 (nI k) H F T (lo2 (g_Mo_unreachedOf_6 N (nI n) (nI k) H F T) fuel)) N x x 0 = lo2 (g_Mo_unreachedOf_6 N (nI n) (nI k) H F T) fuel x1 x := p1
    refine ⟨x1, ?_, p2⟩
    show g_Mo_unreachedOf_6 N (nI n) (nI k) H F T _ x b = _
    simp only [g_Mo_unreachedOf_6, if_neg hb, p1']
  intro m
  induction m with
  | zero =>
    intro fuel x b h1 h2 h3
    obtain ⟨f, rfl⟩ : ∃ f, fuel = f + 1 := ⟨fuel - 1, by omega⟩
    have hc : Clo fr to (pal pr 0 k) (bi x) := fun a ha _ => nbs_all (by omega) (to a) (hto a ha)
    by_cases hb : b = x
    · subst hb
      exact ⟨b, stop _ _ (by omega), hc, fun v h => h, fun C _ h => h⟩
    · obtain ⟨x1, p1, p2⟩ := go f x b hb
      rw [psl_clo _ hc] at p2
      have e := bi_ext p2
      subst e
      exact ⟨x1, by rw [p1]; exact stop _ _ (by omega), hc, fun v h => h, fun C _ h => h⟩
  | succ m ih =>
    intro fuel x b h1 h2 h3
    obtain ⟨f, rfl⟩ : ∃ f, fuel = f + 1 := ⟨fuel - 1, by omega⟩
    by_cases hb : b = x
    · subst hb
      exact ⟨b, stop _ _ (by omega), h3 rfl, fun v h => h, fun C _ h => h⟩
    · obtain ⟨x1, p1, p2⟩ := go f x b hb
      by_cases hc : Clo fr to (pal pr 0 k) (bi x)
      · rw [psl_clo _ hc] at p2
        have e := bi_ext p2
        subst e
        exact ⟨x1, by rw [p1]; exact stop _ _ (by omega), hc, fun v h => h, fun C _ h => h⟩
      · have hg := psl_grow hto hc
        rw [← p2] at hg
        obtain ⟨x', e1, e2, e3, e4⟩ := ih f x1 x (by omega) (by omega) (fun q => by
          rw [← q] at hg
          exact absurd hg (by omega))
        refine ⟨x', by rw [p1]; exact e1, e2, fun v hv => e3 v (by rw [p2]; exact psl_mono _ hv), fun C hC hS v hv => e4 C hC (fun u hu => psl_sound _ hC hS u (by rw [← p2]; exact hu)) v hv⟩
theorem st_unreached {N : Nat} (hN : 100 ≤ N) : St_unreached N InvC := by
  intro t_graph_nodes t_graph_numbered t_graph_size t_graph_present t_graph_from t_graph_to t_graph_weight t_graph_order t_forests_nextWeight t_forests_nextIn t_forests_nextOut t_forests_labels_nodes t_forests_labels_groups t_forests_labels_label t_forests_treeCount_groupOf t_forests_treeCount_links t_forests_treeCount_rows t_forests_treeCount_minor t_forests_heaviest t_boundedTrees_nodes t_boundedTrees_bound t_boundedTrees_between t_boundedTrees_branches t_boundedTrees_branch t_treesFromRoot_nodes t_treesFromRoot_arcs t_treesFromRoot_root t_treesFromRoot_tail t_treesFromRoot_head t_treesFromRoot_cost t_treesFromRoot_leastInto t_treesFromRoot_before t_treesFromRoot_group t_joiningTrees_labels_nodes t_joiningTrees_labels_groups t_joiningTrees_labels_label t_nodes t_arcs t_left t_swapIn t_swapOut t_boundedSet t_joinedSet t_froms t_tos t_weights t_there t_part t_low t_row t_matrix t_own t_chosen t_degrees t_fixed t_grown t_costs t_order p1 hI
  obtain ⟨n, k, fr, to, w, pr, ord, hG, hC, hM⟩ := hI
  have keep : GInv t_graph_nodes t_graph_numbered t_graph_size t_graph_present t_graph_from t_graph_to t_graph_weight t_graph_order t_nodes t_arcs t_left t_froms t_tos t_weights t_there := ⟨n, k, fr, to, w, pr, ord, hG, hC, hM⟩
  have hl : ord.length ≤ 30 := by have := hG.2.1; have := hG.2.2.1; omega
  have hn := hG.1
  have n1 : ¬ (1 : Int32) = 0 := by decide
  have hcn := hC.1
  have hmn := hM.1
  rcases hasNode_v p1 hG.1 with ⟨a, ha, rfl, x1, y1⟩ | ⟨x1, y1⟩
  · have h1 : nbs (bi ((1 : Int32) <<< (nI a &&& 31))) n + (n - 1) ≥ n := by
      have h2 := nbs_lt (S := fun _ => false) (T := bi ((1 : Int32) <<< (nI a &&& 31))) (u := a) (fun v h => by cases h) rfl (by rw [bi_one (by omega)]; simp) n ha
      omega
    obtain ⟨xc, c1, c2⟩ := uC_out hN hG.1 hl hC.2.2.2.2.2 (hC.arcs hG) (n - 1) 1 N ((1 : Int32) <<< (nI a &&& 31)) (by omega) (by omega)
    obtain ⟨xm, m1, m2, m3, m4⟩ := uM_out hN hG.2.1 hG.1 (hM.arcs hG) (n - 1) N ((1 : Int32) <<< (nI a &&& 31)) 0 h1 (by omega) (fun q => by
      have h3 := congrFun (congrArg bi q) a
      rw [bi_one (by omega)] at h3
      have h4 : bi 0 a = false := by
        unfold bi
        have z : (0 : Int32).toBitVec = 0#32 := by decide +kernel
        rw [z, BitVec.getLsbD_zero]
      rw [h4] at h3
      simp at h3)
    have hio : ∀ S, Clo fr to ord S ↔ Clo fr to (pal pr 0 k) S := fun S => by
      constructor
      · intro h b hb
        have := pal_mem.mp hb
        exact h b ((hG.2.2.2.2.2 b).mpr ⟨by omega, this.2.2⟩)
      · intro h b hb
        have := (hG.2.2.2.2.2 b).mp hb
        exact h b (pal_mem.mpr ⟨by omega, by omega, this.2⟩)
    have hto : ∀ b, b ∈ ord → to b < n := fun b hb => (hC.arcs hG b hb).2.2.2.2
    have hcl : Clo fr to ord (bi xc) := by rw [c2]; exact pit_clo hto _ _ (Or.inr h1)
    have heq : xc = xm := by
      apply bi_ext
      funext v
      cases hv : bi xc v with
      | true =>
        rw [c2] at hv
        exact (pit_sound ((hio _).mpr m2) (n - 1) m3 v hv).symm
      | false =>
        cases hv2 : bi xm v with
        | false => rfl
        | true =>
          have := m4 (bi xc) ((hio _).mp hcl) (fun u hu => by rw [c2]; exact pit_mono _ hu) v hv2
          rw [this] at hv
          cases hv
    subst heq
    have c1' : lo2 (g_TreesFromRoot_outOfReach_6 N (nI n) (nI ord.length) t_graph_order t_graph_from t_graph_to) N ((1 : Int32) <<< (nI a &&& 31)) 1 = some ((((1 : Int32) <<< (nI n &&& 31)) - 1) &&& (xc ^^^ (-1))) := c1
    refine ⟨(((1 : Int32) <<< (nI n &&& 31)) - 1) &&& (xc ^^^ (-1)), ?_, ?_, keep⟩
    · rw [hcn, hC.2.2.1]
      simp only [f_RT_unreached, x1, bk1, if_neg n1, f_TreesFromRoot_outOfReach, bn, c1']
    · rw [hmn, hM.2.1]
      simp only [f_Mo_unreached, y1, bk1, if_neg n1, f_Mo_unreachedOf, bn, m1]
  · refine ⟨-1, ?_, ?_, keep⟩
    · rw [hcn]
      simp only [f_RT_unreached, x1, bk1, if_pos]
    · rw [hmn]
      simp only [f_Mo_unreached, y1, bk1, if_pos]
