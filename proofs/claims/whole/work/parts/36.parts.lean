theorem nI_add0 (n : Nat) : nI n + 0 = nI n := by
  have z0 : (0 : Int32) = nI 0 := rfl
  rw [z0, nI_add]
  rfl
theorem bit_shr1 (x : Int64) {a : Nat} (ha : a < 64) : ((x >>> ((nI a).toInt64 &&& 63)) &&& (1 : Int64)) = 1 ↔ x.toBitVec.getLsbD a = true := by
  constructor
  · intro h
    cases hb : x.toBitVec.getLsbD a with
    | true => rfl
    | false =>
      rw [(bit_shr x ha).mpr hb] at h
      exact absurd h (by decide)
  · intro h
    rw [← Int64.toBitVec_inj, Int64.toBitVec_and, Int64.toBitVec_shiftRight, BitVec.sshiftRight_eq', sh64 a ha]
    have e1 : (1 : Int64).toBitVec = 1#64 := by decide +kernel
    rw [e1]
    apply BitVec.eq_of_getLsbD_eq
    intro i hi
    simp only [BitVec.getLsbD_and, BitVec.getLsbD_sshiftRight, BitVec.getLsbD_one]
    by_cases h0 : i = 0
    · subst h0
      rw [BitVec.getLsbD_eq_getElem ha] at h
      simp [ha, h]
    · simp [h0]
/-! the sum of the weights of a set -/
def wsum (w : Nat → Nat) (bit : Nat → Bool) : Nat → Nat
  | 0 => 0
  | k + 1 => wsum w bit k + (if bit k = true then w k else 0)
theorem wsum_le {w : Nat → Nat} {bit : Nat → Bool} : ∀ {k : Nat}, (∀ a, a < k → w a ≤ 1000) → wsum w bit k ≤ 1000 * k
  | 0, _ => by simp [wsum]
  | k + 1, h => by
    have ih := wsum_le (w := w) (bit := bit) (k := k) (fun a ha => h a (by omega))
    have h1 := h k (by omega)
    unfold wsum
    by_cases hb : bit k = true
    · rw [if_pos hb]; omega
    · rw [if_neg hb]; omega
theorem wC_loop {k : Nat} {w : Nat → Nat} {S : Int64} {wt : Nat → Int32} (hk : k ≤ 30) (hw : ∀ a, a < k → wt a = nI (w a)) : ∀ (d i fuel : Nat), i + d = k → d < fuel → lo2 (g_Graph_weightOf_5 S (nI k) wt) fuel (nI (wsum w (fun a => S.toBitVec.getLsbD a) i)) (nI i) = some (nI (wsum w (fun a => S.toBitVec.getLsbD a) k)) := by
  intro d
  induction d with
  | zero =>
    intro i fuel h1 h2
    obtain ⟨f, rfl⟩ : ∃ f, fuel = f + 1 := ⟨fuel - 1, by omega⟩
    have e : i = k := by omega
    subst e
    show g_Graph_weightOf_5 S (nI i) wt _ _ (nI i) = _
    have hle : nI i ≤ nI i := nI_le (Nat.le_refl _) (by omega)
    simp only [g_Graph_weightOf_5, if_pos hle]
  | succ d ih =>
    intro i fuel h1 h2
    obtain ⟨f, rfl⟩ : ∃ f, fuel = f + 1 := ⟨fuel - 1, by omega⟩
    have h3 := ih (i + 1) f (by omega) (by omega)
    rw [← h3]
    show g_Graph_weightOf_5 S (nI k) wt _ _ (nI i) = _
    have hle : ¬ nI k ≤ nI i := nI_ge (by omega) (by omega)
    have n1 : ¬ (1 : Int32) = 0 := by decide
    cases hb : S.toBitVec.getLsbD i with
    | true =>
      simp only [g_Graph_weightOf_5, if_neg hle, isIn_t (show i < 64 by omega) hb, bk1, if_neg n1, gd_nI (show i < 30 by omega) (by decide), bn, nI_clamp (show i < 2 ^ 31 by omega), hw i (by omega), nI_add, nI_1, wsum, hb, if_pos]
    | false =>
      simp only [g_Graph_weightOf_5, if_neg hle, isIn_f (show i < 64 by omega) hb, bk1, if_pos, bn, nI_1, wsum, hb, Bool.false_eq_true, if_false, Nat.add_zero]
theorem wM_loop {k : Nat} {w : Nat → Nat} {S : Int64} {wt : Nat → Int32} (hk : k ≤ 30) (hw : ∀ a, a < k → wt a = nI (w a)) : ∀ (d i fuel : Nat), i + d = k → d < fuel → lo2 (g_Mo_weightOf_5 S (nI k) wt) fuel (nI (wsum w (fun a => S.toBitVec.getLsbD a) i)) (nI i) = some (nI (wsum w (fun a => S.toBitVec.getLsbD a) k)) := by
  intro d
  induction d with
  | zero =>
    intro i fuel h1 h2
    obtain ⟨f, rfl⟩ : ∃ f, fuel = f + 1 := ⟨fuel - 1, by omega⟩
    have e : i = k := by omega
    subst e
    show g_Mo_weightOf_5 S (nI i) wt _ _ (nI i) = _
    have hle : nI i ≤ nI i := nI_le (Nat.le_refl _) (by omega)
    simp only [g_Mo_weightOf_5, if_pos hle]
  | succ d ih =>
    intro i fuel h1 h2
    obtain ⟨f, rfl⟩ : ∃ f, fuel = f + 1 := ⟨fuel - 1, by omega⟩
    have h3 := ih (i + 1) f (by omega) (by omega)
    rw [← h3]
    show g_Mo_weightOf_5 S (nI k) wt _ _ (nI i) = _
    have hle : ¬ nI k ≤ nI i := nI_ge (by omega) (by omega)
    cases hb : S.toBitVec.getLsbD i with
    | true =>
      have hc : lg_cmp ((S >>> ((nI i).toInt64 &&& 63)) &&& (1 : Int64)) (1 : Int64) = 0 := by rw [lg_cmp_eq, bit_shr1 S (show i < 64 by omega)]; exact hb
      simp only [g_Mo_weightOf_5, if_neg hle, if_pos hc, gd_nI (show i < 30 by omega) (by decide), bn, nI_clamp (show i < 2 ^ 31 by omega), hw i (by omega), nI_add, nI_1, wsum, hb, if_pos]
    | false =>
      have hc : ¬ lg_cmp ((S >>> ((nI i).toInt64 &&& 63)) &&& (1 : Int64)) (1 : Int64) = 0 := by rw [lg_cmp_eq, bit_shr1 S (show i < 64 by omega), hb]; simp
      simp only [g_Mo_weightOf_5, if_neg hle, if_neg hc, bn, nI_1, wsum, hb, Bool.false_eq_true, if_false, Nat.add_zero, nI_add0]
theorem weightC {N k : Nat} {w : Nat → Nat} {wt : Nat → Int32} (hN : 100 ≤ N) (hk : k ≤ 30) (hw : ∀ a, a < k → wt a = nI (w a)) (S : Int64) : f_Graph_weightOf N S (nI k) wt = some (nI (wsum w (fun a => S.toBitVec.getLsbD a) k)) := wC_loop hk hw k 0 N (by omega) (by omega)
theorem weightM {N k : Nat} {w : Nat → Nat} {wt : Nat → Int32} (hN : 100 ≤ N) (hk : k ≤ 30) (hw : ∀ a, a < k → wt a = nI (w a)) (S : Int64) : f_Mo_weightOf N S (nI k) wt = some (nI (wsum w (fun a => S.toBitVec.getLsbD a) k)) := wM_loop hk hw k 0 N (by omega) (by omega)
/-! the parts -/
theorem pc_loop {n : Nat} {lab : Nat → Nat} {P : Nat → Int32} (hn : n ≤ 10) (hlab : ∀ v, v < n → lab v < 10) (hP : ∀ v, v < n → P v = nI (lab v)) : ∀ (d i fuel : Nat), i + d = n → d < fuel → lo2 (g_Mo_partCount_4 (nI n) P) fuel (nI (cnt lab i)) (nI i) = some (nI (cnt lab n)) := by
  intro d
  induction d with
  | zero =>
    intro i fuel h1 h2
    obtain ⟨f, rfl⟩ : ∃ f, fuel = f + 1 := ⟨fuel - 1, by omega⟩
    have e : i = n := by omega
    subst e
    show g_Mo_partCount_4 (nI i) P _ _ (nI i) = _
    have hle : nI i ≤ nI i := nI_le (Nat.le_refl _) (by omega)
    simp only [g_Mo_partCount_4, if_pos hle]
  | succ d ih =>
    intro i fuel h1 h2
    obtain ⟨f, rfl⟩ : ∃ f, fuel = f + 1 := ⟨fuel - 1, by omega⟩
    have h3 := ih (i + 1) f (by omega) (by omega)
    rw [← h3]
    show g_Mo_partCount_4 (nI n) P _ _ (nI i) = _
    have hle : ¬ nI n ≤ nI i := nI_ge (by omega) (by omega)
    have hl := hlab i (by omega)
    by_cases hq : lab i = i
    · have hc : nI (lab i) = nI i := by rw [hq]
      simp only [g_Mo_partCount_4, if_neg hle, gd_nI (show i < 10 by omega) (by decide), nI_clamp (show i < 2 ^ 31 by omega), hP i (by omega), if_pos hc, bn, nI_1, cnt, if_pos hq]
    · have hc : ¬ nI (lab i) = nI i := fun q => hq ((nI_eq (by omega) (by omega)).mp q)
      simp only [g_Mo_partCount_4, if_neg hle, gd_nI (show i < 10 by omega) (by decide), nI_clamp (show i < 2 ^ 31 by omega), hP i (by omega), if_neg hc, bn, nI_1, cnt, if_neg hq, nI_add0, Nat.add_zero]
/-- the arcs that are there, from i on, in the order of their numbers -/
def pal (pr : Nat → Bool) (i : Nat) : Nat → List Nat
  | 0 => []
  | d + 1 => if pr i = true then i :: pal pr (i + 1) d else pal pr (i + 1) d
theorem pal_mem {pr : Nat → Bool} {a : Nat} : ∀ {d i : Nat}, a ∈ pal pr i d ↔ i ≤ a ∧ a < i + d ∧ pr a = true
  | 0, i => by
    simp only [pal, List.not_mem_nil, false_iff]
    omega
  | d + 1, i => by
    unfold pal
    by_cases h : pr i = true
    · rw [if_pos h, List.mem_cons, pal_mem]
      constructor
      · rintro (rfl | ⟨q1, q2, q3⟩)
        · exact ⟨by omega, by omega, h⟩
        · exact ⟨by omega, by omega, q3⟩
      · rintro ⟨q1, q2, q3⟩
        by_cases e : a = i
        · exact Or.inl e
        · exact Or.inr ⟨by omega, by omega, q3⟩
    · rw [if_neg h, pal_mem]
      constructor
      · rintro ⟨q1, q2, q3⟩
        exact ⟨by omega, by omega, q3⟩
      · rintro ⟨q1, q2, q3⟩
        by_cases e : a = i
        · rw [e] at q3
          exact absurd q3 h
        · exact ⟨by omega, by omega, q3⟩
theorem ja_loop {N k n : Nat} {fr to : Nat → Nat} {pr : Nat → Bool} {H F T : Nat → Int32} (hN : 100 ≤ N) (hk : k ≤ 30) (hn : n ≤ 10) (hA : ∀ a, a < k → F a = nI (fr a) ∧ T a = nI (to a) ∧ H a = (if pr a = true then 1 else 0) ∧ fr a < n ∧ to a < n) :
    ∀ (d i fuel : Nat) (lab : Nat → Nat) (P : Nat → Int32), i + d = k → d < fuel → (∀ v, v < 10 → lab v < 10) → (∀ v, v < 10 → P v = nI (lab v)) →
    ∃ P', lo2 (g_Mo_joinAll_6 N (nI k) H F T) fuel (nI i) P = some P' ∧ ∀ v, v < 10 → P' v = nI (kr fr to (pal pr i d) lab v) := by
  intro d
  induction d with
  | zero =>
    intro i fuel lab P h1 h2 h3 h4
    obtain ⟨f, rfl⟩ : ∃ f, fuel = f + 1 := ⟨fuel - 1, by omega⟩
    refine ⟨P, ?_, h4⟩
    show g_Mo_joinAll_6 N (nI k) H F T _ (nI i) P = _
    have hle : nI k ≤ nI i := nI_le (by omega) (by omega)
    simp only [g_Mo_joinAll_6, if_pos hle]
  | succ d ih =>
    intro i fuel lab P h1 h2 h3 h4
    obtain ⟨f, rfl⟩ : ∃ f, fuel = f + 1 := ⟨fuel - 1, by omega⟩
    have hle : ¬ nI k ≤ nI i := nI_ge (by omega) (by omega)
    obtain ⟨a1, a2, a3, a4, a5⟩ := hA i (by omega)
    have n1 : ¬ (1 : Int32) = 0 := by decide
    by_cases hp : pr i = true
    · rw [if_pos hp] at a3
      obtain ⟨P1, j1, j2⟩ := join hN (show i < 30 by omega) a1 a2 (by omega) (by omega) h3 h4
      obtain ⟨P', e1, e2⟩ := ih (i + 1) f (uni lab (fr i) (to i)) P1 (by omega) (by omega) (uni10 (by omega) (by omega) h3) j2
      refine ⟨P', ?_, ?_⟩
      · rw [← e1]
        show g_Mo_joinAll_6 N (nI k) H F T _ (nI i) P = _
        simp only [g_Mo_joinAll_6, if_neg hle, gd_nI (show i < 30 by omega) (by decide), nI_clamp (show i < 2 ^ 31 by omega), a3, if_neg n1, j1, bk2, bn, nI_1]
      · intro v hv
        rw [e2 v hv]
        simp only [pal, if_pos hp, kr]
    · rw [if_neg hp] at a3
      obtain ⟨P', e1, e2⟩ := ih (i + 1) f lab P (by omega) (by omega) h3 h4
      refine ⟨P', ?_, ?_⟩
      · rw [← e1]
        show g_Mo_joinAll_6 N (nI k) H F T _ (nI i) P = _
        simp only [g_Mo_joinAll_6, if_neg hle, gd_nI (show i < 30 by omega) (by decide), nI_clamp (show i < 2 ^ 31 by omega), a3, if_pos, bn, nI_1]
      · intro v hv
        rw [e2 v hv]
        simp only [pal, if_neg hp]
theorem kr10 {fr to : Nat → Nat} {m : Nat} : ∀ (l : List Nat) {lab : Nat → Nat}, (∀ a, a ∈ l → fr a < m ∧ to a < m) → (∀ v, v < m → lab v < 10) → ∀ v, v < m → kr fr to l lab v < 10
  | [], _, _, h => h
  | a :: l, _, ha, h => kr10 l (fun b hb => ha b (List.mem_cons_of_mem _ hb)) (uni10 (ha a List.mem_cons_self).1 (ha a List.mem_cons_self).2 h)
theorem joinAll {N k n : Nat} {fr to : Nat → Nat} {pr : Nat → Bool} {H F T P : Nat → Int32} (hN : 100 ≤ N) (hk : k ≤ 30) (hn : n ≤ 10) (hA : ∀ a, a < k → F a = nI (fr a) ∧ T a = nI (to a) ∧ H a = (if pr a = true then 1 else 0) ∧ fr a < n ∧ to a < n) :
    ∃ P', f_Mo_joinAll N (nI k) P H F T = some P' ∧ ∀ v, v < 10 → P' v = nI (kr fr to (pal pr 0 k) (fun v => v) v) := by
  obtain ⟨P1, s1, s2⟩ := alone hN P
  obtain ⟨P', e1, e2⟩ := ja_loop hN hk hn hA k 0 N (fun v => v) P1 (by omega) (by omega) (fun v hv => hv) s2
  refine ⟨P', ?_, e2⟩
  simp only [f_Mo_joinAll, s1, bk1]
  exact e1
theorem ord_pal {n k : Nat} {fr to w : Nat → Nat} {pr : Nat → Bool} {ord : List Nat} (hG : GR n k fr to w pr ord) : kr fr to (pal pr 0 k) (fun v => v) = kr fr to ord (fun v => v) :=
  kr_perm (fun a => by rw [pal_mem, hG.2.2.2.2.2]; constructor; (rintro ⟨q1, q2, q3⟩; exact ⟨by omega, q3⟩); (rintro ⟨q1, q2⟩; exact ⟨by omega, by omega, q2⟩))
theorem MR.arcs {mn ma ml : Int32} {F T V H : Nat → Int32} {n k : Nat} {fr to w : Nat → Nat} {pr : Nat → Bool} {ord : List Nat} (hG : GR n k fr to w pr ord) (hM : MR mn ma ml F T V H n k fr to w pr ord) : ∀ a, a < k → F a = nI (fr a) ∧ T a = nI (to a) ∧ H a = (if pr a = true then 1 else 0) ∧ fr a < n ∧ to a < n := fun a ha => by
  obtain ⟨q1, q2, q3, q4⟩ := hM.2.2.2 a ha
  obtain ⟨r1, r2, -, -⟩ := hG.2.2.2.1 a ha
  exact ⟨q1, q2, q4, r1, r2⟩
theorem CR.arcs {gn gk gs : Int32} {gp : Int64} {F T V O : Nat → Int32} {n k : Nat} {fr to w : Nat → Nat} {pr : Nat → Bool} {ord : List Nat} (hG : GR n k fr to w pr ord) (hC : CR gn gk gs gp F T V O n k fr to w pr ord) : ∀ a, a ∈ ord → a < 30 ∧ F a = nI (fr a) ∧ T a = nI (to a) ∧ fr a < n ∧ to a < n := fun a ha => by
  have h := ((hG.2.2.2.2.2 a).mp ha).1
  obtain ⟨q1, q2, q3⟩ := hC.2.2.2.2.1 a h
  obtain ⟨r1, r2, -, -⟩ := hG.2.2.2.1 a h
  have := hG.2.1
  exact ⟨by omega, q1, q2, r1, r2⟩
theorem partsM {N n k : Nat} {fr to w : Nat → Nat} {pr : Nat → Bool} {ord : List Nat} {mn ma ml : Int32} {F T V H : Nat → Int32} (hN : 100 ≤ N) (hG : GR n k fr to w pr ord) (hM : MR mn ma ml F T V H n k fr to w pr ord) (P : Nat → Int32) :
    ∃ P', f_Mo_parts N mn ma P H F T = some (nI (cnt (kr fr to ord (fun v => v)) n), P') := by
  obtain ⟨P', e1, e2⟩ := joinAll (P := P) hN hG.2.1 hG.1 (hM.arcs hG)
  rw [ord_pal hG] at e2
  refine ⟨P', ?_⟩
  have hn := hG.1
  have h10 := kr10 (m := 10) (fr := fr) (to := to) ord (lab := fun v => v) (fun a ha => by obtain ⟨r1, r2, -, -⟩ := hG.2.2.2.1 a ((hG.2.2.2.2.2 a).mp ha).1; exact ⟨by omega, by omega⟩) (fun v hv => hv)
  have hp := pc_loop (n := n) (lab := kr fr to ord (fun v => v)) (P := P') hn (fun v hv => h10 v (by omega)) (fun v hv => e2 v (by omega)) n 0 N (by omega) (by omega)
  have hp2 : f_Mo_partCount N (nI n) P' = some (nI (cnt (kr fr to ord (fun v => v)) n)) := hp
  rw [hM.1, hM.2.1]
  simp only [f_Mo_parts, e1, bk1, hp2]
theorem st_parts {N : Nat} (hN : 100 ≤ N) : St_parts N InvC := by
  intro t_graph_nodes t_graph_numbered t_graph_size t_graph_present t_graph_from t_graph_to t_graph_weight t_graph_order t_forests_nextWeight t_forests_nextIn t_forests_nextOut t_forests_labels_nodes t_forests_labels_groups t_forests_labels_label t_forests_treeCount_groupOf t_forests_treeCount_links t_forests_treeCount_rows t_forests_treeCount_minor t_forests_heaviest t_boundedTrees_nodes t_boundedTrees_bound t_boundedTrees_between t_boundedTrees_branches t_boundedTrees_branch t_treesFromRoot_nodes t_treesFromRoot_arcs t_treesFromRoot_root t_treesFromRoot_tail t_treesFromRoot_head t_treesFromRoot_cost t_treesFromRoot_leastInto t_treesFromRoot_before t_treesFromRoot_group t_joiningTrees_labels_nodes t_joiningTrees_labels_groups t_joiningTrees_labels_label t_nodes t_arcs t_left t_swapIn t_swapOut t_boundedSet t_joinedSet t_froms t_tos t_weights t_there t_part t_low t_row t_matrix t_own t_chosen t_degrees t_fixed t_grown t_costs t_order hI
  obtain ⟨n, k, fr, to, w, pr, ord, hG, hC, hM⟩ := hI
  obtain ⟨L', e1, -⟩ := findLeast (L := t_forests_labels_label) hN hG.1 (by have := hG.2.1; have := hG.2.2.1; omega) hC.2.2.2.2.2 (hC.arcs hG)
  obtain ⟨P', m1⟩ := partsM hN hG hM t_part
  refine ⟨nI (cnt (kr fr to ord (fun v => v)) n), nI n, nI (cnt (kr fr to ord (fun v => v)) n), L', P', ?_, m1, ⟨n, k, fr, to, w, pr, ord, hG, hC, hM⟩⟩
  rw [hC.1, hC.2.2.1]
  simp only [f_RT_parts, f_Forests_countParts, e1, bk4]
