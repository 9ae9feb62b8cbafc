/-! sets without a ring; Kruskal's list -/
theorem kr_app {fr to : Nat → Nat} : ∀ (l1 l2 : List Nat) {lab : Nat → Nat}, kr fr to (l1 ++ l2) lab = kr fr to l2 (kr fr to l1 lab)
  | [], _, _ => rfl
  | a :: l, l2, _ => kr_app l l2
theorem cnt_uni_ge {lab : Nat → Nat} (h : Lb lab) (a b n : Nat) : cnt lab n ≤ cnt (uni lab a b) n + 1 := by
  by_cases hab : lab a = lab b
  · rw [uni_same hab]; omega
  · have := cnt_uni h hab n
    by_cases hm : max (lab a) (lab b) < n
    · rw [if_pos hm] at this; omega
    · rw [if_neg hm] at this; omega
theorem kr_cnt_ge {fr to : Nat → Nat} {n : Nat} : ∀ (l : List Nat) {lab : Nat → Nat}, Lb lab → cnt lab n ≤ cnt (kr fr to l lab) n + l.length
  | [], _, _ => by simp [kr]
  | a :: l, lab, h => by
    have h1 := kr_cnt_ge (fr := fr) (to := to) (n := n) l (Lb_uni h (fr a) (to a))
    have h2 := cnt_uni_ge h (fr a) (to a) n
    simp only [kr, List.length_cons]
    omega
theorem kr_cnt_rl {fr to : Nat → Nat} {n : Nat} : ∀ (l : List Nat) {lab : Nat → Nat}, Lb lab → (∀ a, a ∈ l → fr a < n ∧ to a < n) → rl fr to l lab = true → cnt lab n = cnt (kr fr to l lab) n + l.length
  | [], _, _, _, _ => by simp [kr]
  | a :: l, lab, h, hb, hr => by
    unfold rl at hr
    rw [Bool.and_eq_true, decide_eq_true_iff] at hr
    have h1 := kr_cnt_rl (fr := fr) (to := to) (n := n) l (Lb_uni h (fr a) (to a)) (fun b hb2 => hb b (List.mem_cons_of_mem _ hb2)) hr.2
    have h2 := cnt_uni h hr.1 n
    have hm : max (lab (fr a)) (lab (to a)) < n := by
      have q1 := h.1 (fr a)
      have q2 := h.1 (to a)
      have q3 := hb a List.mem_cons_self
      omega
    rw [if_pos hm] at h2
    simp only [kr, List.length_cons]
    omega
theorem uni_two {lab : Nat → Nat} {a b u v : Nat} (h : ¬ lab u = lab v) (e : uni lab a b u = uni lab a b v) : (lab u = lab a ∧ lab v = lab b) ∨ (lab u = lab b ∧ lab v = lab a) := by
  unfold uni at e
  by_cases h1 : lab u = max (lab a) (lab b)
  · rw [if_pos h1] at e
    by_cases h2 : lab v = max (lab a) (lab b)
    · omega
    · rw [if_neg h2] at e
      omega
  · rw [if_neg h1] at e
    by_cases h2 : lab v = max (lab a) (lab b)
    · rw [if_pos h2] at e
      omega
    · rw [if_neg h2] at e
      omega
theorem split_join {fr to : Nat → Nat} : ∀ (l : List Nat) {lab : Nat → Nat} {u v : Nat}, ¬ lab u = lab v → kr fr to l lab u = kr fr to l lab v → ∃ p a q, l = p ++ a :: q ∧ ((kr fr to p lab u = kr fr to p lab (fr a) ∧ kr fr to p lab v = kr fr to p lab (to a)) ∨ (kr fr to p lab u = kr fr to p lab (to a) ∧ kr fr to p lab v = kr fr to p lab (fr a)))
  | [], _, _, _, h, e => absurd e h
  | a :: l, lab, u, v, h, e => by
    by_cases h1 : uni lab (fr a) (to a) u = uni lab (fr a) (to a) v
    · exact ⟨[], a, l, rfl, uni_two h h1⟩
    · obtain ⟨p, b, q, e1, e2⟩ := split_join l h1 e
      exact ⟨a :: p, b, q, by rw [e1]; rfl, e2⟩
theorem cut_apart {fr to : Nat → Nat} {n : Nat} {p q : List Nat} {a u v : Nat} (hb : ∀ b, b ∈ p ++ a :: q → fr b < n ∧ to b < n) (hr : rl fr to (p ++ a :: q) (fun v => v) = true) (hc : (kr fr to p (fun v => v) u = kr fr to p (fun v => v) (fr a) ∧ kr fr to p (fun v => v) v = kr fr to p (fun v => v) (to a)) ∨ (kr fr to p (fun v => v) u = kr fr to p (fun v => v) (to a) ∧ kr fr to p (fun v => v) v = kr fr to p (fun v => v) (fr a))) : ¬ kr fr to (p ++ q) (fun v => v) u = kr fr to (p ++ q) (fun v => v) v := by
  intro e
  have ea : kr fr to (p ++ q) (fun v => v) (fr a) = kr fr to (p ++ q) (fun v => v) (to a) := by
    rw [kr_app] at e ⊢
    rcases hc with ⟨h1, h2⟩ | ⟨h1, h2⟩
    · exact ((kr_keep q h1).symm.trans e).trans (kr_keep q h2)
    · exact ((kr_keep q h2).symm.trans e.symm).trans (kr_keep q h1)
  have e1 : kr fr to (p ++ q ++ [a]) (fun v => v) = kr fr to (p ++ q) (fun v => v) := by
    rw [kr_app (p ++ q) [a]]
    exact uni_same ea
  have e2 : kr fr to (p ++ a :: q) (fun v => v) = kr fr to (p ++ q ++ [a]) (fun v => v) := kr_perm (fun b => by
    simp only [List.mem_append, List.mem_cons, List.not_mem_nil, or_false]
    constructor
    · rintro (h | h | h)
      · exact Or.inl (Or.inl h)
      · exact Or.inr h
      · exact Or.inl (Or.inr h)
    · rintro ((h | h) | h)
      · exact Or.inl h
      · exact Or.inr (Or.inr h)
      · exact Or.inr (Or.inl h))
  have c1 := kr_cnt_rl (fr := fr) (to := to) (n := n) (p ++ a :: q) Lb_id hb hr
  have c2 := kr_cnt_ge (fr := fr) (to := to) (n := n) (p ++ q) Lb_id
  rw [e2, e1] at c1
  simp only [List.length_append, List.length_cons] at c1 c2
  omega
def kl (fr to : Nat → Nat) : List Nat → (Nat → Nat) → List Nat
  | [], _ => []
  | a :: l, lab => if lab (fr a) = lab (to a) then kl fr to l (uni lab (fr a) (to a)) else a :: kl fr to l (uni lab (fr a) (to a))
theorem kl_kr {fr to : Nat → Nat} : ∀ (l : List Nat) {lab : Nat → Nat}, kr fr to (kl fr to l lab) lab = kr fr to l lab
  | [], _ => rfl
  | a :: l, lab => by
    have ih := kl_kr (fr := fr) (to := to) l (lab := uni lab (fr a) (to a))
    unfold kl
    by_cases h : lab (fr a) = lab (to a)
    · rw [if_pos h]
      simp only [kr]
      rw [← ih, uni_same h]
    · rw [if_neg h]
      simp only [kr]
      exact ih
theorem kl_rl {fr to : Nat → Nat} : ∀ (l : List Nat) {lab : Nat → Nat}, rl fr to (kl fr to l lab) lab = true
  | [], _ => rfl
  | a :: l, lab => by
    have ih := kl_rl (fr := fr) (to := to) l (lab := uni lab (fr a) (to a))
    unfold kl
    by_cases h : lab (fr a) = lab (to a)
    · rw [if_pos h]
      rw [uni_same h] at ih ⊢
      exact ih
    · rw [if_neg h]
      simp only [rl, ih, h, not_false_eq_true, decide_true, Bool.and_true]
theorem kl_sub {fr to : Nat → Nat} {b : Nat} : ∀ (l : List Nat) {lab : Nat → Nat}, b ∈ kl fr to l lab → b ∈ l
  | [], _, h => h
  | a :: l, lab, h => by
    unfold kl at h
    by_cases hq : lab (fr a) = lab (to a)
    · rw [if_pos hq] at h
      exact List.mem_cons_of_mem _ (kl_sub l h)
    · rw [if_neg hq] at h
      rcases List.mem_cons.mp h with rfl | h
      · exact List.mem_cons_self
      · exact List.mem_cons_of_mem _ (kl_sub l h)
theorem kl_nodup {fr to : Nat → Nat} : ∀ (l : List Nat) {lab : Nat → Nat}, l.Nodup → (kl fr to l lab).Nodup
  | [], _, h => h
  | a :: l, lab, h => by
    have h1 := List.nodup_cons.mp h
    unfold kl
    by_cases hq : lab (fr a) = lab (to a)
    · rw [if_pos hq]
      exact kl_nodup l h1.2
    · rw [if_neg hq]
      exact List.nodup_cons.mpr ⟨fun z => h1.1 (kl_sub l z), kl_nodup l h1.2⟩
theorem bl_or (S : Int64) {a b : Nat} (ha : a < 64) : bl (S ||| bitA a) b = (bl S b || decide (a = b)) := bit_or S ha
theorem bl_sw (S : Int64) {a b : Nat} (ha : a < 64) (hb : b < 64) : bl (sw S a) b = (bl S b && !decide (a = b)) := bit_not S ha hb
theorem kset_bl {fr to : Nat → Nat} {b : Nat} : ∀ (l : List Nat) {lab : Nat → Nat} {S : Int64}, (∀ a, a ∈ l → a < 64) → bl (kset fr to l lab S) b = (bl S b || decide (b ∈ kl fr to l lab))
  | [], _, _, _ => by simp [kset, kl]
  | a :: l, lab, S, h => by
    have ih := fun S => kset_bl (fr := fr) (to := to) (b := b) l (lab := uni lab (fr a) (to a)) (S := S) (fun x hx => h x (List.mem_cons_of_mem _ hx))
    unfold kset kl
    by_cases hq : lab (fr a) = lab (to a)
    · rw [if_pos hq, if_pos hq, ih]
    · rw [if_neg hq, if_neg hq, ih, bl_or _ (h a List.mem_cons_self)]
      by_cases e : a = b
      · subst e
        simp
      · have e2 : ¬ b = a := fun z => e z.symm
        simp [e, e2]
theorem bl_0 (b : Nat) : bl 0 b = false := by
  unfold bl
  have z : (0 : Int64).toBitVec = 0#64 := by decide +kernel
  rw [z]; simp
theorem klab_of {fr to : Nat → Nat} {k : Nat} {S : Int64} {l : List Nat} (h1 : ∀ b, b < k → (bl S b = true ↔ b ∈ l)) (h2 : ∀ b, b ∈ l → b < k) : klab fr to k S = kr fr to l (fun v => v) :=
  kr_perm (fun b => by
    rw [pal_mem]
    constructor
    · rintro ⟨q1, q2, q3⟩
      exact (h1 b (by omega)).mp q3
    · intro q
      have := h2 b q
      exact ⟨by omega, by omega, (h1 b this).mpr q⟩)
/-- what an arc outside of the least forest may replace -/
theorem exists_out {n k i : Nat} {fr to w : Nat → Nat} {pr : Nat → Bool} {ord : List Nat} (hG : GR n k fr to w pr ord) (hi : i ∈ ord) : ∃ o, o ∈ kl fr to ord (fun v => v) ∧ ap fr to k (kset fr to ord (fun v => v) 0) i o = true := by
  have hik := ((hG.2.2.2.2.2 i).mp hi).1
  obtain ⟨g1, g2, g3, g4⟩ := hG.2.2.2.1 i hik
  have hk := hG.2.1
  have hlt : ∀ b, b ∈ kl fr to ord (fun v => v) → b < k := fun b hb => ((hG.2.2.2.2.2 b).mp (kl_sub ord hb)).1
  have hbd : ∀ b, b ∈ kl fr to ord (fun v => v) → fr b < n ∧ to b < n := fun b hb => ⟨(hG.2.2.2.1 b (hlt b hb)).1, (hG.2.2.2.1 b (hlt b hb)).2.1⟩
  have e : kr fr to (kl fr to ord (fun v => v)) (fun v => v) (fr i) = kr fr to (kl fr to ord (fun v => v)) (fun v => v) (to i) := by
    rw [kl_kr]; exact kr_arc ord hi
  obtain ⟨p, a, q, e1, e2⟩ := split_join (kl fr to ord (fun v => v)) (lab := fun v => v) g3 e
  have hnd : (kl fr to ord (fun v => v)).Nodup := kl_nodup ord (ahs_nodup hG.2.2.2.2.1)
  have hrl := kl_rl (fr := fr) (to := to) ord (lab := fun v => v)
  have hbt : ∀ b, bl (kset fr to ord (fun v => v) 0) b = decide (b ∈ kl fr to ord (fun v => v)) := fun b => by
    rw [kset_bl ord (fun x hx => by have := ((hG.2.2.2.2.2 x).mp hx).1; omega), bl_0, Bool.false_or]
  have ham : a ∈ kl fr to ord (fun v => v) := by rw [e1]; simp
  have hak := hlt a ham
  refine ⟨a, ham, ?_⟩
  have hcut := cut_apart (n := n) (u := fr i) (v := to i) (fun b hb => hbd b (by rw [e1]; exact hb)) (by rw [← e1]; exact hrl) e2
  have hkl : klab fr to k (sw (kset fr to ord (fun v => v) 0) a) = kr fr to (p ++ q) (fun v => v) := klab_of (fun b hb => by
      rw [bl_sw _ (by omega) (by omega), hbt, Bool.and_eq_true, decide_eq_true_iff, e1]
      rw [e1] at hnd
      have hn2 := List.nodup_append.mp hnd
      have hn3 := List.nodup_cons.mp hn2.2.1
      simp only [List.mem_append, List.mem_cons]
      constructor
      · rintro ⟨h1, h2⟩
        rcases h1 with h | h | h
        · exact Or.inl h
        · subst h; simp at h2
        · exact Or.inr h
      · rintro (h | h)
        · refine ⟨Or.inl h, ?_⟩
          have : ¬ a = b := fun z => hn2.2.2 b h a List.mem_cons_self z.symm
          simp [this]
        · refine ⟨Or.inr (Or.inr h), ?_⟩
          have : ¬ a = b := fun z => hn3.1 (z ▸ h)
          simp [this]) (fun b hb => hlt b (by
      rw [e1]
      rcases List.mem_append.mp hb with h | h
      · exact List.mem_append.mpr (Or.inl h)
      · exact List.mem_append.mpr (Or.inr (List.mem_cons_of_mem _ h))))
  unfold ap
  rw [hkl]
  exact decide_eq_true hcut
