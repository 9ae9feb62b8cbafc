/-! bits of a long -/
theorem sh64 : ∀ a, a < 64 → (((nI a).toInt64 &&& 63).toBitVec.smod 64).toNat = a := by decide +kernel
theorem tp64 : ∀ a, a < 64 → ((1 : Int64) <<< ((nI a).toInt64 &&& 63)).toBitVec = BitVec.twoPow 64 a := by decide +kernel
theorem bit_or (x : Int64) {a b : Nat} (ha : a < 64) : (x ||| ((1 : Int64) <<< ((nI a).toInt64 &&& 63))).toBitVec.getLsbD b = (x.toBitVec.getLsbD b || decide (a = b)) := by
  rw [Int64.toBitVec_or, tp64 a ha, BitVec.getLsbD_or, BitVec.getLsbD_twoPow]
  simp [ha]
theorem bit_not (x : Int64) {a b : Nat} (ha : a < 64) (hb : b < 64) : (x &&& (((1 : Int64) <<< ((nI a).toInt64 &&& 63)) ^^^ (-1))).toBitVec.getLsbD b = (x.toBitVec.getLsbD b && !decide (a = b)) := by
  rw [Int64.toBitVec_and, Int64.toBitVec_xor, tp64 a ha, BitVec.getLsbD_and, BitVec.getLsbD_xor, BitVec.getLsbD_twoPow]
  have e : (-1 : Int64).toBitVec = BitVec.allOnes 64 := by decide +kernel
  rw [e, BitVec.getLsbD_allOnes]
  simp [ha, hb]
theorem bit_shr (x : Int64) {a : Nat} (ha : a < 64) : ((x >>> ((nI a).toInt64 &&& 63)) &&& (1 : Int64)) = 0 ↔ x.toBitVec.getLsbD a = false := by
  rw [← Int64.toBitVec_inj, Int64.toBitVec_and, Int64.toBitVec_shiftRight, BitVec.sshiftRight_eq', sh64 a ha]
  have e1 : (1 : Int64).toBitVec = 1#64 := by decide +kernel
  have e0 : (0 : Int64).toBitVec = 0#64 := by decide +kernel
  rw [e1, e0]
  constructor
  · intro h
    have h2 := congrArg (fun v => v.getLsbD 0) h
    simp only [BitVec.getLsbD_and, BitVec.getLsbD_sshiftRight, BitVec.getLsbD_one, BitVec.getLsbD_zero] at h2
    simpa [ha] using h2
  · intro h
    apply BitVec.eq_of_getLsbD_eq
    intro i hi
    simp only [BitVec.getLsbD_and, BitVec.getLsbD_sshiftRight, BitVec.getLsbD_one, BitVec.getLsbD_zero]
    by_cases h0 : i = 0
    · subst h0
      rw [BitVec.getLsbD_eq_getElem ha] at h
      simp [ha, h]
    · simp [h0]
theorem isIn_t {x : Int64} {a : Nat} (ha : a < 64) (h : x.toBitVec.getLsbD a = true) : f_Graph_isIn x (nI a) = some 1 := by
  unfold f_Graph_isIn
  rw [if_neg]
  rw [lg_cmp_eq, bit_shr x ha, h]
  simp
theorem isIn_f {x : Int64} {a : Nat} (ha : a < 64) (h : x.toBitVec.getLsbD a = false) : f_Graph_isIn x (nI a) = some 0 := by
  unfold f_Graph_isIn
  rw [if_pos]
  rw [lg_cmp_eq, bit_shr x ha, h]
/-! which of two arcs is ahead -/
theorem isAhead_t {w : Nat → Nat} {wt : Nat → Int32} {p q : Nat} (hp : p < 30) (hq : q < 30) (ep : wt p = nI (w p)) (eq : wt q = nI (w q)) (bp : w p ≤ 1000) (bq : w q ≤ 1000) (h : ah w p q) : f_Graph_isAhead (nI p) (nI q) wt = some 1 := by
  simp only [f_Graph_isAhead, gd_nI hp (by decide), gd_nI hq (by decide), nI_clamp (show p < 2 ^ 31 by omega), nI_clamp (show q < 2 ^ 31 by omega), ep, eq, nI_ltI (show w p < 2 ^ 31 by omega) (show w q < 2 ^ 31 by omega), nI_eq (show w p < 2 ^ 31 by omega) (show w q < 2 ^ 31 by omega), nI_leI (show q < 2 ^ 31 by omega) (show p < 2 ^ 31 by omega)]
  unfold ah at h
  by_cases h1 : w p < w q
  · rw [if_pos h1]
  · rw [if_neg h1, if_pos (by omega), if_neg (by omega)]
theorem isAhead_f {w : Nat → Nat} {wt : Nat → Int32} {p q : Nat} (hp : p < 30) (hq : q < 30) (ep : wt p = nI (w p)) (eq : wt q = nI (w q)) (bp : w p ≤ 1000) (bq : w q ≤ 1000) (h : ¬ ah w p q) : f_Graph_isAhead (nI p) (nI q) wt = some 0 := by
  simp only [f_Graph_isAhead, gd_nI hp (by decide), gd_nI hq (by decide), nI_clamp (show p < 2 ^ 31 by omega), nI_clamp (show q < 2 ^ 31 by omega), ep, eq, nI_ltI (show w p < 2 ^ 31 by omega) (show w q < 2 ^ 31 by omega), nI_eq (show w p < 2 ^ 31 by omega) (show w q < 2 ^ 31 by omega), nI_leI (show q < 2 ^ 31 by omega) (show p < 2 ^ 31 by omega)]
  unfold ah at h
  rw [if_neg (by omega)]
  by_cases h1 : w p = w q
  · rw [if_pos h1, if_pos (by omega)]
  · rw [if_neg h1]
/-! putInOrder -/
theorem pio_loop {w : Nat → Nat} {wt : Nat → Int32} {p len : Nat} {od : Nat → Nat} (hp : p < 30) (ep : wt p = nI (w p)) (bp : w p ≤ 1000) (hlen : len < 30) (ho : ∀ i, i < len → od i < 30 ∧ wt (od i) = nI (w (od i)) ∧ w (od i) ≤ 1000) :
    ∀ (j fuel : Nat) (o : Nat → Int32), j ≤ len → j < fuel → (∀ i, i < j → o i = nI (od i)) → (∀ i, j ≤ i → i < len → o (i + 1) = nI (od i) ∧ ah w p (od i)) →
    ∃ (j' : Nat) (o' : Nat → Int32), lo3 (g_Graph_putInOrder_5 (nI p) wt) fuel (nI j) o (nI len) = some (o', nI (len + 1)) ∧ j' ≤ len ∧ (∀ i, i < j' → o' i = nI (od i)) ∧ o' j' = nI p ∧ (∀ i, j' ≤ i → i < len → o' (i + 1) = nI (od i) ∧ ah w p (od i)) ∧ (j' = 0 ∨ ¬ ah w p (od (j' - 1))) := by
  intro j
  induction j with
  | zero =>
    intro fuel o h1 h2 h3 h4
    obtain ⟨f, rfl⟩ : ∃ f, fuel = f + 1 := ⟨fuel - 1, by omega⟩
    refine ⟨0, upd o 0 (nI p), ?_, by omega, fun i h => absurd h (Nat.not_lt_zero i), upd_self _ _ _, fun i hi hl => ⟨by rw [upd_ne _ _ (by omega)]; exact (h4 i hi hl).1, (h4 i hi hl).2⟩, Or.inl rfl⟩
    show g_Graph_putInOrder_5 (nI p) wt _ (nI 0) o (nI len) = _
    have hz : nI 0 ≤ 0 := by decide
    simp only [g_Graph_putInOrder_5, if_pos hz, g_Graph_putInOrder_45, gd_nI (show 0 < 30 by decide) (by decide), bn, nI_1, nI_clamp (show 0 < 2 ^ 31 by decide)]
  | succ j ih =>
    intro fuel o h1 h2 h3 h4
    obtain ⟨f, rfl⟩ : ∃ f, fuel = f + 1 := ⟨fuel - 1, by omega⟩
    obtain ⟨q1, q2, q3⟩ := ho j (by omega)
    have hz : ¬ nI (j + 1) ≤ 0 := nI_nle (by omega) (by omega)
    by_cases ha : ah w p (od j)
    · obtain ⟨j', o', e1, e2, e3, e4, e5, e6⟩ := ih f (upd o (j + 1) (nI (od j))) (by omega) (by omega) (fun i hi => by rw [upd_ne _ _ (by omega)]; exact h3 i (by omega)) (fun i hi hl => by
        by_cases hij : i = j
        · subst hij
          exact ⟨upd_self _ _ _, ha⟩
        · exact ⟨by rw [upd_ne _ _ (by omega)]; exact (h4 i (by omega) hl).1, (h4 i (by omega) hl).2⟩)
      refine ⟨j', o', ?_, e2, e3, e4, e5, e6⟩
      rw [← e1]
      show g_Graph_putInOrder_5 (nI p) wt _ (nI (j + 1)) o (nI len) = _
      have hne : ¬ (1 : Int32) = 0 := by decide
      simp only [g_Graph_putInOrder_5, if_neg hz, nI_pred, gd_nI (show j < 30 by omega) (by decide), gd_nI (show j + 1 < 30 by omega) (by decide), nI_clamp (show j < 2 ^ 31 by omega), nI_clamp (show j + 1 < 2 ^ 31 by omega), h3 j (by omega), isAhead_t hp q1 ep q2 bp q3 ha, bk1, if_neg hne, bn, pk_m1]
    · refine ⟨j + 1, upd o (j + 1) (nI p), ?_, h1, fun i hi => by rw [upd_ne _ _ (by omega)]; exact h3 i hi, upd_self _ _ _, fun i hi hl => ⟨by rw [upd_ne _ _ (by omega)]; exact (h4 i hi hl).1, (h4 i hi hl).2⟩, Or.inr (by rw [Nat.add_sub_cancel]; exact ha)⟩
      show g_Graph_putInOrder_5 (nI p) wt _ (nI (j + 1)) o (nI len) = _
      simp only [g_Graph_putInOrder_5, if_neg hz, nI_pred, gd_nI (show j < 30 by omega) (by decide), gd_nI (show j + 1 < 30 by omega) (by decide), nI_clamp (show j < 2 ^ 31 by omega), nI_clamp (show j + 1 < 2 ^ 31 by omega), h3 j (by omega), isAhead_f hp q1 ep q2 bp q3 ha, bk1, if_pos, g_Graph_putInOrder_45, bn, nI_1]
/-- a list with p put in at the place j -/
def insA (ord : List Nat) (j p : Nat) : List Nat := ord.take j ++ p :: ord.drop j
theorem insA_len {ord : List Nat} {j p : Nat} (h : j ≤ ord.length) : (insA ord j p).length = ord.length + 1 := by
  simp [insA]; omega
theorem insA_mem {ord : List Nat} {j p a : Nat} : a ∈ insA ord j p ↔ a = p ∨ a ∈ ord := by
  unfold insA
  rw [List.mem_append, List.mem_cons]
  have h : a ∈ ord ↔ a ∈ ord.take j ∨ a ∈ ord.drop j := by
    conv => lhs; rw [← List.take_append_drop j ord]
    rw [List.mem_append]
  rw [h]
  constructor
  · rintro (h | h | h)
    · exact Or.inr (Or.inl h)
    · exact Or.inl h
    · exact Or.inr (Or.inr h)
  · rintro (h | h | h)
    · exact Or.inr (Or.inl h)
    · exact Or.inl h
    · exact Or.inr (Or.inr h)
theorem insA_get {ord : List Nat} {j p i : Nat} (h : j ≤ ord.length) : (insA ord j p).getD i 0 = if i < j then ord.getD i 0 else if i = j then p else ord.getD (i - 1) 0 := by
  unfold insA
  rw [List.getD_eq_getElem?_getD]
  have hl : (ord.take j).length = j := by rw [List.length_take]; omega
  by_cases h1 : i < j
  · rw [if_pos h1, List.getElem?_append_left (by omega), List.getElem?_take, if_pos h1, List.getD_eq_getElem?_getD]
  · rw [if_neg h1, List.getElem?_append_right (by omega), hl]
    by_cases h2 : i = j
    · subst h2
      simp
    · rw [if_neg h2]
      obtain ⟨d, hd⟩ : ∃ d, i - j = d + 1 := ⟨i - j - 1, by omega⟩
      rw [hd, List.getElem?_cons_succ, List.getElem?_drop, List.getD_eq_getElem?_getD]
      congr 2
      omega
theorem getD_mem {ord : List Nat} {i : Nat} (h : i < ord.length) : ord.getD i 0 ∈ ord := by
  rw [List.getD_eq_getElem?_getD, List.getElem?_eq_getElem h]
  exact List.getElem_mem h
theorem mem_getD {ord : List Nat} {a : Nat} (h : a ∈ ord) : ∃ i, i < ord.length ∧ ord.getD i 0 = a := by
  obtain ⟨i, hi, e⟩ := List.getElem_of_mem h
  exact ⟨i, hi, by rw [List.getD_eq_getElem?_getD, List.getElem?_eq_getElem hi]; exact e⟩
theorem pw_get {w : Nat → Nat} {ord : List Nat} (h : ord.Pairwise (ah w)) {i j : Nat} (hij : i < j) (hj : j < ord.length) : ah w (ord.getD i 0) (ord.getD j 0) := by
  have h1 := List.pairwise_iff_getElem.mp h i j (by omega) hj hij
  rw [List.getD_eq_getElem?_getD, List.getD_eq_getElem?_getD, List.getElem?_eq_getElem (by omega), List.getElem?_eq_getElem hj]
  exact h1
theorem pw_of_get {w : Nat → Nat} {ord : List Nat} (h : ∀ i j, i < j → j < ord.length → ah w (ord.getD i 0) (ord.getD j 0)) : ord.Pairwise (ah w) := by
  refine List.pairwise_iff_getElem.mpr (fun i j hi hj hij => ?_)
  have h1 := h i j hij hj
  rw [List.getD_eq_getElem?_getD, List.getD_eq_getElem?_getD, List.getElem?_eq_getElem hi, List.getElem?_eq_getElem hj] at h1
  exact h1
theorem insA_sorted {w : Nat → Nat} {ord : List Nat} {j p : Nat} (hs : ord.Pairwise (ah w)) (hj : j ≤ ord.length) (hp : p ∉ ord) (h1 : ∀ i, j ≤ i → i < ord.length → ah w p (ord.getD i 0)) (h2 : j = 0 ∨ ¬ ah w p (ord.getD (j - 1) 0)) : (insA ord j p).Pairwise (ah w) := by
  apply pw_of_get
  intro a b hab hb
  rw [insA_len hj] at hb
  have hlow : ∀ a, a < j → ah w (ord.getD a 0) p := by
    intro a ha
    have hne : ord.getD (j - 1) 0 ≠ p := fun e => hp (e ▸ getD_mem (by omega))
    have h3 : ah w (ord.getD (j - 1) 0) p := ah_tot (Ne.symm hne) (by rcases h2 with h2 | h2; omega; exact h2)
    by_cases e : a = j - 1
    · rw [e]; exact h3
    · exact ah_trans (pw_get hs (show a < j - 1 by omega) (by omega)) h3
  rw [insA_get hj, insA_get hj]
  by_cases ha : a < j
  · rw [if_pos ha]
    by_cases hb1 : b < j
    · rw [if_pos hb1]
      exact pw_get hs hab (by omega)
    · rw [if_neg hb1]
      by_cases hb2 : b = j
      · rw [if_pos hb2]; exact hlow a ha
      · rw [if_neg hb2]
        exact pw_get hs (by omega) (by omega)
  · rw [if_neg ha, if_neg (show ¬ b < j by omega), if_neg (show ¬ b = j by omega)]
    by_cases ha2 : a = j
    · rw [if_pos ha2]
      exact h1 (b - 1) (by omega) (by omega)
    · rw [if_neg ha2]
      exact pw_get hs (by omega) (by omega)
/-- putInOrder puts an arc at its place -/
theorem pio {N : Nat} (hN : 100 ≤ N) {w : Nat → Nat} {wt o : Nat → Int32} {p : Nat} {ord : List Nat} (hp : p < 30) (ep : wt p = nI (w p)) (bp : w p ≤ 1000) (hlen : ord.length < 30) (ho : ∀ a, a ∈ ord → a < 30 ∧ wt a = nI (w a) ∧ w a ≤ 1000) (hs : ord.Pairwise (ah w)) (hn : p ∉ ord) (hor : ∀ i, i < ord.length → o i = nI (ord.getD i 0)) :
    ∃ (ord' : List Nat) (o' : Nat → Int32), f_Graph_putInOrder N (nI p) (nI ord.length) o wt = some (o', nI ord'.length) ∧ ord'.length = ord.length + 1 ∧ (∀ i, i < ord'.length → o' i = nI (ord'.getD i 0)) ∧ ord'.Pairwise (ah w) ∧ (∀ a, a ∈ ord' ↔ a = p ∨ a ∈ ord) := by
  obtain ⟨j, o', e1, e2, e3, e4, e5, e6⟩ := pio_loop (od := fun i => ord.getD i 0) hp ep bp hlen (fun i hi => ho _ (getD_mem hi)) ord.length N o (Nat.le_refl _) (by omega) hor (fun i h1 h2 => absurd h2 (by omega))
  refine ⟨insA ord j p, o', ?_, insA_len e2, ?_, insA_sorted hs e2 hn (fun i h1 h2 => (e5 i h1 h2).2) e6, fun a => insA_mem⟩
  · rw [insA_len e2]; exact e1
  · intro i hi
    rw [insA_len e2] at hi
    rw [insA_get e2]
    by_cases h1 : i < j
    · rw [if_pos h1]; exact e3 i h1
    · rw [if_neg h1]
      by_cases h2 : i = j
      · rw [if_pos h2, h2]; exact e4
      · rw [if_neg h2]
        have h3 := (e5 (i - 1) (by omega) (by omega)).1
        rw [Nat.sub_add_cancel (by omega)] at h3
        exact h3
