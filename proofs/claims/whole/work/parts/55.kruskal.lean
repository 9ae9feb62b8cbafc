/-! sums over lists; the greedy list is least -/
def lsum (c : Nat → Nat) : List Nat → Nat
  | [] => 0
  | a :: l => c a + lsum c l
theorem lsum_app (c : Nat → Nat) : ∀ l1 l2, lsum c (l1 ++ l2) = lsum c l1 + lsum c l2
  | [], l2 => by simp [lsum]
  | a :: l, l2 => by
    have := lsum_app c l l2
    simp only [List.cons_append, lsum, this]
    omega
theorem lsum_filter (c : Nat → Nat) (p : Nat → Bool) : ∀ l, lsum c (l.filter p) ≤ lsum c l
  | [] => Nat.le_refl _
  | a :: l => by
    have := lsum_filter c p l
    by_cases h : p a = true
    · rw [List.filter_cons_of_pos h]; simp only [lsum]; omega
    · rw [List.filter_cons_of_neg h]; simp only [lsum]; omega
theorem lsum_out (c : Nat → Nat) {a : Nat} : ∀ l : List Nat, a ∈ l → lsum c (l.filter (fun b => !decide (b = a))) + c a ≤ lsum c l
  | [], h => absurd h (by simp)
  | b :: l, h => by
    by_cases e : b = a
    · have := lsum_filter c (fun b => !decide (b = a)) l
      rw [List.filter_cons_of_neg (by simp [e])]
      simp only [lsum, e]
      omega
    · have h2 : a ∈ l := by
        rcases List.mem_cons.mp h with h | h
        · exact absurd h.symm e
        · exact h
      have := lsum_out c l h2
      rw [List.filter_cons_of_pos (by simp [e])]
      simp only [lsum]
      omega
theorem lsum_congr {c c' : Nat → Nat} : ∀ l : List Nat, (∀ a, a ∈ l → c a = c' a) → lsum c l = lsum c' l
  | [], _ => rfl
  | a :: l, h => by
    simp only [lsum]
    rw [h a (List.mem_cons_self ..), lsum_congr l (fun b hb => h b (List.mem_cons_of_mem _ hb))]
/-- a relation that the labels of a list keep, and every arc, they keep -/
theorem kr_in {fr to : Nat → Nat} {l : List Nat} {lab g : Nat → Nat} (h0 : ∀ x y, lab x = lab y → g x = g y) (h1 : ∀ a, a ∈ l → g (fr a) = g (to a)) {x y : Nat} (e : kr fr to l lab x = kr fr to l lab y) : g x = g y :=
  kr_least (E := fun x y => g x = g y) (fun _ => rfl) (fun _ _ h => h.symm) (fun _ _ _ h1 h2 => h1.trans h2) l h0 h1 x y e
theorem uni_of {lab g : Nat → Nat} {a b : Nat} (h0 : ∀ x y, lab x = lab y → g x = g y) (hab : g a = g b) : ∀ x y, uni lab a b x = uni lab a b y → g x = g y :=
  uni_least (E := fun x y => g x = g y) (fun _ => rfl) (fun _ _ h => h.symm) (fun _ _ _ h1 h2 => h1.trans h2) h0 hab
theorem greedy {fr to c : Nat → Nat} : ∀ (l : List Nat) (lab : Nat → Nat) (T : List Nat), l.Pairwise (fun a b => c a ≤ c b) → (∀ a, a ∈ T → a ∈ l) → (∀ u v, kr fr to l lab u = kr fr to l lab v → kr fr to T lab u = kr fr to T lab v) → lsum c (kl fr to l lab) ≤ lsum c T
  | [], lab, T, _, _, _ => by simp [kl, lsum]
  | a :: l, lab, T, hs, hm, hsp => by
    have hs1 := (List.pairwise_cons.mp hs).1
    have hs2 := (List.pairwise_cons.mp hs).2
    have hsp2 : ∀ u v, kr fr to l (uni lab (fr a) (to a)) u = kr fr to l (uni lab (fr a) (to a)) v → kr fr to T lab u = kr fr to T lab v := hsp
    unfold kl
    have hmf : ∀ x, x ∈ T.filter (fun b => !decide (b = a)) → x ∈ l := by
      intro x hx
      obtain ⟨h1, h2⟩ := List.mem_filter.mp hx
      rcases List.mem_cons.mp (hm x h1) with h | h
      · simp [h] at h2
      · exact h
    have hta : kr fr to T lab (fr a) = kr fr to T lab (to a) := hsp2 _ _ (kr_keep l (uni_join lab (fr a) (to a)))
    by_cases hl : lab (fr a) = lab (to a)
    · rw [if_pos hl]
      refine Nat.le_trans (greedy l _ (T.filter (fun b => !decide (b = a))) hs2 hmf ?_) (lsum_filter c _ T)
      intro u v e
      rw [uni_same hl] at e ⊢
      refine kr_in (fr := fr) (to := to) (l := T) (lab := lab) (fun x y h => kr_keep _ h) (fun b hb => ?_) (hsp2 u v (by rw [uni_same hl]; exact e))
      by_cases hba : b = a
      · subst hba; exact kr_keep _ hl
      · exact kr_arc _ (List.mem_filter.mpr ⟨hb, by simp [hba]⟩)
    · rw [if_neg hl]
      by_cases ha : a ∈ T
      · have h1 := lsum_out c T ha
        have h2 := greedy (fr := fr) (to := to) (c := c) l (uni lab (fr a) (to a)) (T.filter (fun b => !decide (b = a))) hs2 hmf (by
          intro u v e
          refine kr_in (fr := fr) (to := to) (l := T) (lab := lab) (fun x y h => kr_keep _ (uni_keep h)) (fun b hb => ?_) (hsp2 u v e)
          by_cases hba : b = a
          · subst hba; exact kr_keep _ (uni_join ..)
          · exact kr_arc _ (List.mem_filter.mpr ⟨hb, by simp [hba]⟩))
        simp only [lsum]
        omega
      · obtain ⟨p, b, q, eT, hb⟩ := split_join T hl hta
        have hbl : b ∈ l := by
          have hbT : b ∈ T := by rw [eT]; simp
          rcases List.mem_cons.mp (hm b hbT) with h | h
          · exact absurd (h ▸ hbT) ha
          · exact h
        have hcb := hs1 b hbl
        have h2 := greedy (fr := fr) (to := to) (c := c) l (uni lab (fr a) (to a)) (p ++ q) hs2 (by
          intro x hx
          have hxT : x ∈ T := by
            rw [eT]
            rcases List.mem_append.mp hx with h | h
            · exact List.mem_append.mpr (Or.inl h)
            · exact List.mem_append.mpr (Or.inr (List.mem_cons_of_mem _ h))
          rcases List.mem_cons.mp (hm x hxT) with h | h
          · exact absurd (h ▸ hxT) ha
          · exact h) (by
          intro u v e
          have hk0 : ∀ x y, lab x = lab y → kr fr to (p ++ q) (uni lab (fr a) (to a)) x = kr fr to (p ++ q) (uni lab (fr a) (to a)) y := fun x y h => kr_keep _ (uni_keep h)
          have hkp : ∀ x y, kr fr to p lab x = kr fr to p lab y → kr fr to (p ++ q) (uni lab (fr a) (to a)) x = kr fr to (p ++ q) (uni lab (fr a) (to a)) y := fun x y h => kr_in (fr := fr) (to := to) (l := p) (lab := lab) hk0 (fun b hb => kr_arc _ (List.mem_append.mpr (Or.inl hb))) h
          have hka : kr fr to (p ++ q) (uni lab (fr a) (to a)) (fr a) = kr fr to (p ++ q) (uni lab (fr a) (to a)) (to a) := kr_keep _ (uni_join ..)
          refine kr_in (fr := fr) (to := to) (l := T) (lab := lab) hk0 (fun x hx => ?_) (hsp2 u v e)
          rw [eT] at hx
          rcases List.mem_append.mp hx with h | h
          · exact kr_arc _ (List.mem_append.mpr (Or.inl h))
          · rcases List.mem_cons.mp h with h | h
            · subst h
              rcases hb with ⟨g1, g2⟩ | ⟨g1, g2⟩
              · exact (hkp _ _ g1).symm.trans (hka.trans (hkp _ _ g2))
              · exact (hkp _ _ g2).symm.trans (hka.symm.trans (hkp _ _ g1))
            · exact kr_arc _ (List.mem_append.mpr (Or.inr h)))
        rw [eT, lsum_app]
        rw [lsum_app] at h2
        simp only [lsum]
        omega
/-! the least tree of a set of nodes -/
def ins (fr to : Nat → Nat) (s : Nat → Bool) (l : List Nat) : List Nat := l.filter (fun a => s (fr a) && s (to a))
/-- the nodes of s hang together by T -/
def Jn (fr to : Nat → Nat) (s : Nat → Bool) (T : List Nat) : Prop := ∀ u v, s u = true → s v = true → kr fr to T (fun v => v) u = kr fr to T (fun v => v) v
theorem ins_mem {fr to : Nat → Nat} {s : Nat → Bool} {l : List Nat} {a : Nat} : a ∈ ins fr to s l ↔ a ∈ l ∧ s (fr a) = true ∧ s (to a) = true := by
  unfold ins
  rw [List.mem_filter, Bool.and_eq_true]
theorem ins_only {fr to : Nat → Nat} {s : Nat → Bool} {l : List Nat} {u v : Nat} (e : kr fr to (ins fr to s l) (fun v => v) u = kr fr to (ins fr to s l) (fun v => v) v) : u = v ∨ (s u = true ∧ s v = true) := by
  refine kr_least (E := fun x y => x = y ∨ (s x = true ∧ s y = true)) (fun _ => Or.inl rfl) ?_ ?_ _ (fun x y h => Or.inl h) (fun a ha => Or.inr ((ins_mem.mp ha).2)) u v e
  · rintro x y (h | h)
    · exact Or.inl h.symm
    · exact Or.inr ⟨h.2, h.1⟩
  · rintro x y z (h | h) (g | g)
    · exact Or.inl (h.trans g)
    · exact Or.inr (h ▸ g)
    · exact Or.inr (g ▸ h)
    · exact Or.inr ⟨h.1, g.2⟩
theorem Jn_mono {fr to : Nat → Nat} {s : Nat → Bool} {T T' : List Nat} (h : ∀ a, a ∈ T → a ∈ T') (hj : Jn fr to s T) : Jn fr to s T' := fun u v hu hv => kr_sub h (hj u v hu hv)
theorem Jn_kl {fr to : Nat → Nat} {s : Nat → Bool} {l : List Nat} (hj : Jn fr to s l) : Jn fr to s (kl fr to l (fun v => v)) := by
  intro u v hu hv
  rw [kl_kr]
  exact hj u v hu hv
/-- of a list by which e hang together: the part of e, and its least tree -/
theorem tree_le {fr to c : Nat → Nat} {e : Nat → Bool} {l T : List Nat} {u0 : Nat} (hs : l.Pairwise (fun a b => c a ≤ c b)) (hm : ∀ a, a ∈ T → a ∈ l) (h0 : e u0 = true) (hj : Jn fr to e T) :
    ∃ s : Nat → Bool, (∀ v, s v = true ↔ kr fr to T (fun v => v) v = kr fr to T (fun v => v) u0) ∧ (∀ v, e v = true → s v = true) ∧ Jn fr to s (ins fr to s l) ∧ lsum c (kl fr to (ins fr to s l) (fun v => v)) ≤ lsum c T := by
  refine ⟨fun v => decide (kr fr to T (fun v => v) v = kr fr to T (fun v => v) u0), fun v => by simp, fun v hv => by simp [hj v u0 hv h0], ?_, ?_⟩
  all_goals
    have hcl : ∀ a, a ∈ T → (decide (kr fr to T (fun v => v) (fr a) = kr fr to T (fun v => v) u0) = decide (kr fr to T (fun v => v) (to a) = kr fr to T (fun v => v) u0)) := fun a ha => by rw [kr_arc T ha]
    have hin : ∀ x y, kr fr to T (fun v => v) x = kr fr to T (fun v => v) y → kr fr to T (fun v => v) x = kr fr to T (fun v => v) u0 → kr fr to (ins fr to (fun v => decide (kr fr to T (fun v => v) v = kr fr to T (fun v => v) u0)) T) (fun v => v) x = kr fr to (ins fr to (fun v => decide (kr fr to T (fun v => v) v = kr fr to T (fun v => v) u0)) T) (fun v => v) y := by
      intro x y hxy
      refine (kr_least (E := fun x y => kr fr to T (fun v => v) x = kr fr to T (fun v => v) y ∧ (kr fr to T (fun v => v) x = kr fr to T (fun v => v) u0 → kr fr to (ins fr to (fun v => decide (kr fr to T (fun v => v) v = kr fr to T (fun v => v) u0)) T) (fun v => v) x = kr fr to (ins fr to (fun v => decide (kr fr to T (fun v => v) v = kr fr to T (fun v => v) u0)) T) (fun v => v) y)) (fun _ => ⟨rfl, fun _ => rfl⟩) (fun x y h => ⟨h.1.symm, fun g => (h.2 (h.1.trans g)).symm⟩) (fun x y z h g => ⟨h.1.trans g.1, fun i => (h.2 i).trans (g.2 (h.1.symm.trans i))⟩) T (fun x y h => by rw [show x = y from h]; exact ⟨rfl, fun _ => rfl⟩) (fun a ha => ⟨kr_arc T ha, fun i => kr_arc _ (ins_mem.mpr ⟨ha, ?_, ?_⟩)⟩) x y hxy).2
      · simp [i]
      · simp [← kr_arc T ha, i]
  · intro u v hu hv
    have hu2 := of_decide_eq_true hu
    have hv2 := of_decide_eq_true hv
    refine kr_sub ?_ (hin u v (hu2.trans hv2.symm) hu2)
    intro a ha
    obtain ⟨h1, h2⟩ := ins_mem.mp ha
    exact ins_mem.mpr ⟨hm a h1, h2⟩
  · refine Nat.le_trans (greedy _ _ (ins fr to (fun v => decide (kr fr to T (fun v => v) v = kr fr to T (fun v => v) u0)) T) (hs.filter _) ?_ ?_) (lsum_filter c _ T)
    · intro a ha
      obtain ⟨h1, h2⟩ := ins_mem.mp ha
      exact ins_mem.mpr ⟨hm a h1, h2⟩
    · intro u v e
      rcases ins_only e with h | ⟨hu, hv⟩
      · rw [h]
      · have hu2 := of_decide_eq_true hu
        have hv2 := of_decide_eq_true hv
        exact hin u v (hu2.trans hv2.symm) hu2
