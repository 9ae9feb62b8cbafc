/-! the reference: the arcs that may be taken, in order of their costs -/
theorem getD_el {l : List Nat} {i : Nat} (h : i < l.length) : l.getD i 0 = l[i] := by
  rw [List.getD_eq_getElem?_getD, List.getElem?_eq_getElem h]; rfl
theorem pw_getR {R : Nat → Nat → Prop} {l : List Nat} (h : l.Pairwise R) {i j : Nat} (hij : i < j) (hj : j < l.length) : R (l.getD i 0) (l.getD j 0) := by
  have := List.pairwise_iff_getElem.mp h i j (by omega) hj hij
  rw [getD_el (show i < l.length by omega), getD_el hj]
  exact this
theorem insR_sorted {c : Nat → Nat} {l : List Nat} {j p : Nat} (hs : l.Pairwise (fun a b => c a ≤ c b)) (hj : j ≤ l.length) (h1 : ∀ i, j ≤ i → i < l.length → c p < c (l.getD i 0)) (h2 : j = 0 ∨ c (l.getD (j - 1) 0) ≤ c p) : (insA l j p).Pairwise (fun a b => c a ≤ c b) := by
  have hs2 := hs
  rw [← List.take_append_drop j l, List.pairwise_append] at hs2
  obtain ⟨s1, s2, s3⟩ := hs2
  have ht : ∀ x, x ∈ l.take j → c x ≤ c p := by
    intro x hx
    rcases h2 with h | h
    · rw [h] at hx; simp at hx
    · obtain ⟨i, i1, i2⟩ := List.mem_take_iff_getElem.mp hx
      have hi : i < j := by omega
      have hx2 : x = l.getD i 0 := by rw [getD_el (show i < l.length by omega)]; exact i2.symm
      by_cases e : i = j - 1
      · rw [hx2, e]; exact h
      · have := pw_getR hs (i := i) (j := j - 1) (by omega) (by omega)
        rw [hx2]
        exact Nat.le_trans this h
  have hd : ∀ x, x ∈ l.drop j → c p ≤ c x := by
    intro x hx
    obtain ⟨i, i1, i2⟩ := List.mem_drop_iff_getElem.mp hx
    have hx2 : x = l.getD (j + i) 0 := by rw [getD_el (show j + i < l.length by omega)]; rw [← i2]
    have := h1 (j + i) (by omega) (by omega)
    rw [hx2]
    omega
  unfold insA
  rw [List.pairwise_append]
  refine ⟨s1, List.pairwise_cons.mpr ⟨hd, s2⟩, fun x hx y hy => ?_⟩
  rcases List.mem_cons.mp hy with h | h
  · rw [h]; exact ht x hx
  · exact s3 x hx y h
theorem insA_nodup {l : List Nat} {j p : Nat} (hn : l.Nodup) (hp : p ∉ l) : (insA l j p).Nodup := by
  unfold insA
  rw [List.nodup_append]
  rw [← List.take_append_drop j l, List.nodup_append] at hn
  obtain ⟨s1, s2, s3⟩ := hn
  refine ⟨s1, List.nodup_cons.mpr ⟨fun h => hp (List.mem_of_mem_drop h), s2⟩, fun x hx y hy => ?_⟩
  rcases List.mem_cons.mp hy with h | h
  · rw [h]
    intro g
    exact hp (g ▸ List.mem_of_mem_take hx)
  · exact s3 x hx y h
def LI (k : Nat) (al : Nat → Bool) (cst : Nat → Nat) (l : List Nat) : Prop := (∀ a, a ∈ l ↔ a < k ∧ al a = true) ∧ l.Nodup ∧ l.Pairwise (fun a b => cst a ≤ cst b)
theorem LI_len {k : Nat} {al : Nat → Bool} {cst : Nat → Nat} {l : List Nat} (h : LI k al cst l) : l.length ≤ k := len30 h.2.1 (fun a ha => ((h.1 a).mp ha).1)
/-- the costs as the reference holds them -/
def CO (k : Nat) (al : Nat → Bool) (cst : Nat → Nat) (C : Nat → Int32) : Prop := ∀ a, a < k → (al a = true → C a = nI (cst a) ∧ cst a ≤ 64001) ∧ (al a = false → C a = -1)
theorem insM {k i : Nat} {al : Nat → Bool} {cst : Nat → Nat} {C O P : Nat → Int32} {l : List Nat} {Q : Int32 × (Nat → Int32) × (Nat → Int32) → Prop} {N : Nat} {k4 : Int32 → Int32 → (Nat → Int32) → (Nat → Int32) → Option (Int32 × (Nat → Int32) × (Nat → Int32))} (hN : 100 ≤ N) (hk : k ≤ 30) (hi : i < k) (ha : al i = true) (hC : CO k al cst C) (hl : LI i al cst l) (hO : ∀ j, j < l.length → O j = nI (l.getD j 0))
    (hk4 : ∀ (l' : List Nat) (O' : Nat → Int32), LI (i + 1) al cst l' → l'.length = l.length + 1 → (∀ j, j < l'.length → O' j = nI (l'.getD j 0)) → Ok (k4 (nI l'.length) (nI (i + 1)) O' P) Q) :
    Ok (lo5 (g_Mo_joinedCost_24 C k4) N (nI l.length) (nI i) (nI l.length) O P) Q := by
  have hll := LI_len hl
  have hil : i ∉ l := fun h => by have := ((hl.1 i).mp h).1; omega
  refine Ok_lo5 (fun d v2 v3 v4 A P' => ∃ j, j = d ∧ j ≤ l.length ∧ v2 = nI l.length ∧ v3 = nI i ∧ v4 = nI j ∧ P' = P ∧ (∀ x, x < j → A x = nI (l.getD x 0)) ∧ (∀ x, j ≤ x → x < l.length → A (x + 1) = nI (l.getD x 0) ∧ cst i < cst (l.getD x 0))) ?_ l.length N _ _ _ _ _ (by omega) ⟨l.length, rfl, Nat.le_refl _, rfl, rfl, rfl, rfl, hO, fun x h1 h2 => absurd h2 (by omega)⟩
  rintro kk d v2 v3 v4 A P' ⟨j, rfl, hj, rfl, rfl, rfl, rfl, hA1, hA2⟩ hkk
  obtain ⟨ci, cb⟩ := (hC i hi).1 ha
  have hend : (j = 0 ∨ cst (l.getD (j - 1) 0) ≤ cst i) → Ok (g_Mo_joinedCost_74 k4 (nI l.length) (nI i) (nI j) A P') Q := by
    intro hc
    simp only [g_Mo_joinedCost_74, gd_nI (show j < 30 by omega) (by decide), bn, nI_1, nI_clamp (show j < 2 ^ 31 by omega)]
    have hlen := insA_len (ord := l) (j := j) (p := i) hj
    have h := hk4 (insA l j i) (upd A j (nI i)) ⟨fun a => ?_, insA_nodup hl.2.1 hil, insR_sorted hl.2.2 hj (fun x h1 h2 => (hA2 x h1 h2).2) hc⟩ hlen ?_
    · rw [hlen] at h; exact h
    · rw [insA_mem, hl.1 a]
      constructor
      · rintro (h | h)
        · subst h; exact ⟨by omega, ha⟩
        · exact ⟨by omega, h.2⟩
      · rintro ⟨h1, h2⟩
        by_cases e : a = i
        · exact Or.inl e
        · exact Or.inr ⟨by omega, h2⟩
    · intro x hx
      rw [hlen] at hx
      rw [insA_get hj]
      by_cases h1 : x < j
      · rw [if_pos h1, upd_ne _ _ (by omega)]; exact hA1 x h1
      · rw [if_neg h1]
        by_cases h2 : x = j
        · subst h2; rw [if_pos rfl, upd_self]
        · rw [if_neg h2, upd_ne _ _ h2]
          have := (hA2 (x - 1) (by omega) (by omega)).1
          rw [Nat.sub_add_cancel (by omega)] at this
          exact this
  by_cases hj0 : j = 0
  · have hle : nI j ≤ 0 := by rw [hj0]; decide
    simp only [g_Mo_joinedCost_24, if_pos hle]
    exact hend (Or.inl hj0)
  · have hle : ¬ nI j ≤ 0 := nI_ge (a := 0) (by omega) (by omega)
    have hx := hA1 (j - 1) (by omega)
    have hmem := getD_mem (ord := l) (i := j - 1) (by omega)
    have hlast : l.getD (j - 1) 0 < i ∧ al (l.getD (j - 1) 0) = true := (hl.1 _).mp hmem
    obtain ⟨cp, cpb⟩ := (hC (l.getD (j - 1) 0) (by omega)).1 hlast.2
    simp only [g_Mo_joinedCost_24, if_neg hle, nI_sub1 (show 0 < j by omega), gd_nI (show j - 1 < 30 by omega) (by decide), nI_clamp (show j - 1 < 2 ^ 31 by omega), hx, gd_nI (show l.getD (j - 1) 0 < 30 by omega) (by decide), gd_nI (show i < 30 by omega) (by decide), nI_clamp (show l.getD (j - 1) 0 < 2 ^ 31 by omega), nI_clamp (show i < 2 ^ 31 by omega), ci, cp, gd_nI (show j < 30 by omega) (by decide), bn, nI_m1' (show 0 < j by omega), nI_clamp (show j < 2 ^ 31 by omega)]
    by_cases hcc : cst (l.getD (j - 1) 0) ≤ cst i
    · rw [if_pos (nI_le hcc (by omega))]
      exact hend (Or.inr hcc)
    · rw [if_neg (nI_ge (by omega) (by omega))]
      refine hkk (j - 1) _ _ _ _ _ (by omega) ⟨j - 1, rfl, by omega, rfl, rfl, rfl, rfl, fun x hx2 => ?_, fun x h1 h2 => ?_⟩
      · rw [upd_ne _ _ (by omega)]; exact hA1 x (by omega)
      · by_cases e : x = j - 1
        · subst e
          rw [Nat.sub_add_cancel (by omega), upd_self]
          exact ⟨rfl, by omega⟩
        · rw [upd_ne _ _ (by omega)]
          exact hA2 x (by omega) h2
