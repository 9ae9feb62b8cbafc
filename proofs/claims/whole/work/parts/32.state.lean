/-! takeOutOfOrder -/
theorem fl_take {ord : List Nat} {a i : Nat} (h : i < ord.length) : (ord.take (i + 1)).filter (fun x => x != a) = (ord.take i).filter (fun x => x != a) ++ (if ord.getD i 0 = a then [] else [ord.getD i 0]) := by
  have e : ord.take (i + 1) = ord.take i ++ [ord.getD i 0] := by
    rw [List.take_succ, List.getElem?_eq_getElem h, List.getD_eq_getElem?_getD, List.getElem?_eq_getElem h]
    rfl
  rw [e, List.filter_append]
  generalize ord.getD i 0 = v
  by_cases h1 : v = a
  · subst h1
    simp
  · simp [h1]
theorem getD_last (l : List Nat) (v : Nat) : (l ++ [v]).getD l.length 0 = v := by
  rw [List.getD_eq_getElem?_getD]
  simp
theorem getD_left (l : List Nat) (v : Nat) {j : Nat} (h : j < l.length) : (l ++ [v]).getD j 0 = l.getD j 0 := by
  rw [List.getD_eq_getElem?_getD, List.getD_eq_getElem?_getD, List.getElem?_append_left h]
theorem too_loop {a : Nat} {ord : List Nat} (ha : a < 30) (hlen : ord.length ≤ 30) (ho : ∀ x, x ∈ ord → x < 30) :
    ∀ (d i fuel : Nat) (o : Nat → Int32), i + d = ord.length → d < fuel → (∀ j, j < ((ord.take i).filter (fun x => x != a)).length → o j = nI (((ord.take i).filter (fun x => x != a)).getD j 0)) → (∀ j, i ≤ j → j < ord.length → o j = nI (ord.getD j 0)) →
    ∃ o', lo4 (g_Graph_takeOutOfOrder_4 (nI a)) fuel (nI ((ord.take i).filter (fun x => x != a)).length) (nI i) o (nI ord.length) = some (o', nI (ord.filter (fun x => x != a)).length) ∧ (∀ j, j < (ord.filter (fun x => x != a)).length → o' j = nI ((ord.filter (fun x => x != a)).getD j 0)) := by
  intro d
  induction d with
  | zero =>
    intro i fuel o h1 h2 h3 h4
    obtain ⟨f, rfl⟩ : ∃ f, fuel = f + 1 := ⟨fuel - 1, by omega⟩
    have e : i = ord.length := by omega
    subst e
    rw [List.take_length] at h3 ⊢
    refine ⟨o, ?_, h3⟩
    show g_Graph_takeOutOfOrder_4 (nI a) _ _ (nI ord.length) o (nI ord.length) = _
    have hle : nI ord.length ≤ nI ord.length := nI_le (Nat.le_refl _) (by omega)
    simp only [g_Graph_takeOutOfOrder_4, if_pos hle]
  | succ d ih =>
    intro i fuel o h1 h2 h3 h4
    obtain ⟨f, rfl⟩ : ∃ f, fuel = f + 1 := ⟨fuel - 1, by omega⟩
    have hil : i < ord.length := by omega
    have hle : ¬ nI ord.length ≤ nI i := nI_ge hil (by omega)
    have hk : ((ord.take i).filter (fun x => x != a)).length ≤ i := Nat.le_trans (List.length_filter_le _ _) (by rw [List.length_take]; omega)
    have hoi := h4 i (Nat.le_refl _) hil
    have hx := ho _ (getD_mem hil)
    have hf := fl_take (a := a) hil
    by_cases hx2 : ord.getD i 0 = a
    · rw [if_pos hx2, List.append_nil] at hf
      obtain ⟨o', e1, e2⟩ := ih (i + 1) f o (by omega) (by omega) (by rw [hf]; exact h3) (fun j hj hl => h4 j (by omega) hl)
      refine ⟨o', ?_, e2⟩
      rw [← e1, hf]
      show g_Graph_takeOutOfOrder_4 (nI a) _ _ (nI i) o (nI ord.length) = _
      have hc : nI (ord.getD i 0) = nI a := by rw [hx2]
      simp only [g_Graph_takeOutOfOrder_4, if_neg hle, gd_nI (show i < 30 by omega) (by decide), nI_clamp (show i < 2 ^ 31 by omega), hoi, if_pos hc, bn, nI_1]
    · rw [if_neg hx2] at hf
      have hlen2 : ((ord.take (i + 1)).filter (fun x => x != a)).length = ((ord.take i).filter (fun x => x != a)).length + 1 := by rw [hf]; simp
      obtain ⟨o', e1, e2⟩ := ih (i + 1) f (upd o ((ord.take i).filter (fun x => x != a)).length (nI (ord.getD i 0))) (by omega) (by omega) (fun j hj => by
        rw [hlen2] at hj
        by_cases hj2 : j = ((ord.take i).filter (fun x => x != a)).length
        · rw [hj2, upd_self, hf, getD_last]
        · rw [upd_ne _ _ hj2, h3 j (by omega), hf, getD_left _ _ (by omega)]) (fun j hj hl => by
        rw [upd_ne _ _ (by omega)]
        exact h4 j (by omega) hl)
      refine ⟨o', ?_, e2⟩
      rw [← e1, hlen2]
      show g_Graph_takeOutOfOrder_4 (nI a) _ _ (nI i) o (nI ord.length) = _
      have hc : ¬ nI (ord.getD i 0) = nI a := fun q => hx2 ((nI_eq (by omega) (by omega)).mp q)
      simp only [g_Graph_takeOutOfOrder_4, if_neg hle, gd_nI (show i < 30 by omega) (by decide), gd_nI (show ((ord.take i).filter (fun x => x != a)).length < 30 by omega) (by decide), nI_clamp (show i < 2 ^ 31 by omega), nI_clamp (show ((ord.take i).filter (fun x => x != a)).length < 2 ^ 31 by omega), hoi, if_neg hc, bn, nI_1]
theorem too {N : Nat} (hN : 100 ≤ N) {a : Nat} {ord : List Nat} {o : Nat → Int32} (ha : a < 30) (hlen : ord.length ≤ 30) (ho : ∀ x, x ∈ ord → x < 30) (hor : ∀ i, i < ord.length → o i = nI (ord.getD i 0)) :
    ∃ o', f_Graph_takeOutOfOrder N (nI a) (nI ord.length) o = some (o', nI (ord.filter (fun x => x != a)).length) ∧ (∀ j, j < (ord.filter (fun x => x != a)).length → o' j = nI ((ord.filter (fun x => x != a)).getD j 0)) :=
  too_loop ha hlen ho ord.length 0 N o (by omega) (by omega) (fun j hj => absurd hj (by simp)) (fun j _ hl => hor j hl)
theorem ahs_nodup {w : Nat → Nat} {ord : List Nat} (h : ord.Pairwise (ah w)) : ord.Nodup := by
  unfold List.Nodup
  exact h.imp (fun {a b} hab e => by subst e; exact ah_irr hab)
theorem fl_len {ord : List Nat} {a : Nat} (hn : ord.Nodup) (ha : a ∈ ord) : (ord.filter (fun x => x != a)).length + 1 = ord.length := by
  induction ord with
  | nil => cases ha
  | cons b l ih =>
    have hnb := List.nodup_cons.mp hn
    by_cases hb : b = a
    · subst hb
      have hf : l.filter (fun x => x != b) = l := List.filter_eq_self.mpr (fun x hx => by
        have : x ≠ b := fun e => hnb.1 (e ▸ hx)
        simpa using this)
      simp [hf]
    · have ha2 : a ∈ l := by
        rcases List.mem_cons.mp ha with h | h
        · exact absurd h.symm hb
        · exact h
      have h1 := ih hnb.2 ha2
      simp [hb]
      exact h1
/-! nodes and arcs that are there -/
theorem hasNode_v (x : Int32) {n : Nat} (hn : n ≤ 10) : (∃ j, j < n ∧ x = nI j ∧ f_Graph_hasNode x (nI n) = some 1 ∧ f_Mo_isNode x (nI n) = some 1) ∨ (f_Graph_hasNode x (nI n) = some 0 ∧ f_Mo_isNode x (nI n) = some 0) := by
  by_cases h0 : x < 0
  · exact Or.inr ⟨by simp only [f_Graph_hasNode, if_pos h0], by simp only [f_Mo_isNode, if_pos h0]⟩
  · obtain ⟨j, hj, rfl⟩ := nI_of h0
    by_cases h1 : nI n ≤ nI j
    · exact Or.inr ⟨by simp only [f_Graph_hasNode, if_neg h0, if_pos h1], by simp only [f_Mo_isNode, if_neg h0, if_pos h1]⟩
    · have h2 : j < n := by
        rw [nI_leI (by omega) hj] at h1
        omega
      exact Or.inl ⟨j, h2, rfl, by simp only [f_Graph_hasNode, if_neg h0, if_neg h1], by simp only [f_Mo_isNode, if_neg h0, if_neg h1]⟩
theorem hasArc_v (x : Int32) {k : Nat} {pr : Nat → Bool} {gp : Int64} {th : Nat → Int32} (hk : k ≤ 30) (hp : ∀ a, a < 64 → gp.toBitVec.getLsbD a = (decide (a < k) && pr a)) (ht : ∀ a, a < k → th a = (if pr a = true then 1 else 0)) :
    (∃ j, j < k ∧ pr j = true ∧ x = nI j ∧ f_Graph_hasArc x (nI k) gp = some 1 ∧ f_Mo_isArc x (nI k) th = some 1) ∨ (f_Graph_hasArc x (nI k) gp = some 0 ∧ f_Mo_isArc x (nI k) th = some 0) := by
  by_cases h0 : x < 0
  · exact Or.inr ⟨by simp only [f_Graph_hasArc, if_pos h0], by simp only [f_Mo_isArc, if_pos h0]⟩
  · obtain ⟨j, hj, rfl⟩ := nI_of h0
    by_cases h1 : nI k ≤ nI j
    · exact Or.inr ⟨by simp only [f_Graph_hasArc, if_neg h0, if_pos h1], by simp only [f_Mo_isArc, if_neg h0, if_pos h1]⟩
    · have h2 : j < k := by
        rw [nI_leI (by omega) hj] at h1
        omega
      have hb := hp j (by omega)
      have ht2 := ht j h2
      have n1 : ¬ (1 : Int32) = 0 := by decide
      by_cases hpr : pr j = true
      · rw [hpr] at hb
        rw [if_pos hpr] at ht2
        refine Or.inl ⟨j, h2, hpr, rfl, ?_, ?_⟩
        · simp only [f_Graph_hasArc, if_neg h0, if_neg h1, isIn_t (show j < 64 by omega) (by rw [hb]; simp [h2]), bk1, if_neg n1]
        · simp only [f_Mo_isArc, if_neg h0, if_neg h1, gd_nI (show j < 30 by omega) (by decide), nI_clamp (show j < 2 ^ 31 by omega), ht2, if_neg n1]
      · rw [if_neg hpr] at ht2
        refine Or.inr ⟨?_, ?_⟩
        · simp only [f_Graph_hasArc, if_neg h0, if_neg h1, isIn_f (show j < 64 by omega) (by rw [hb]; simp [hpr]), bk1, if_pos]
        · simp only [f_Mo_isArc, if_neg h0, if_neg h1, gd_nI (show j < 30 by omega) (by decide), nI_clamp (show j < 2 ^ 31 by omega), ht2, if_pos]
theorem isWeight_v (x : Int32) : (∃ j, j ≤ 1000 ∧ x = nI j ∧ ¬ x < 0 ∧ x ≤ 1000 ∧ f_RT_isWeight x = some 1) ∨ ((x < 0 ∨ (¬ x < 0 ∧ ¬ x ≤ 1000)) ∧ f_RT_isWeight x = some 0) := by
  by_cases h0 : x < 0
  · exact Or.inr ⟨Or.inl h0, by simp only [f_RT_isWeight, if_pos h0]⟩
  · obtain ⟨j, hj, rfl⟩ := nI_of h0
    by_cases h1 : j ≤ 1000
    · have h2 : nI j ≤ 1000 := nI_le (a := j) (b := 1000) h1 (by decide)
      have h3 : ¬ (1000 : Int32) < nI j := nI_nlt (a := 1000) (b := j) h1 (by decide)
      exact Or.inl ⟨j, h1, rfl, h0, h2, by simp only [f_RT_isWeight, if_neg h0, if_neg h3]⟩
    · have h2 : ¬ nI j ≤ 1000 := nI_ge (a := 1000) (b := j) (by omega) hj
      have h3 : (1000 : Int32) < nI j := nI_lt (a := 1000) (b := j) (by omega) hj
      exact Or.inr ⟨Or.inr ⟨h0, h2⟩, by simp only [f_RT_isWeight, if_neg h0, if_pos h3]⟩
