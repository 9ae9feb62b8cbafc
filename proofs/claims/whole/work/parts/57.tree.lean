/-! counting the parts of a set of nodes -/
theorem kl_app {fr to : Nat → Nat} : ∀ (l1 l2 : List Nat) {lab : Nat → Nat}, kl fr to (l1 ++ l2) lab = kl fr to l1 lab ++ kl fr to l2 (kr fr to l1 lab)
  | [], l2, lab => rfl
  | a :: l, l2, lab => by
    have ih := kl_app (fr := fr) (to := to) l l2 (lab := uni lab (fr a) (to a))
    show kl fr to (a :: (l ++ l2)) lab = kl fr to (a :: l) lab ++ kl fr to l2 (kr fr to l (uni lab (fr a) (to a)))
    simp only [kl]
    by_cases h : lab (fr a) = lab (to a)
    · rw [if_pos h, if_pos h, ih]
    · rw [if_neg h, if_neg h, ih, List.cons_append]
theorem kl_none {fr to : Nat → Nat} : ∀ (l : List Nat) {lab : Nat → Nat}, (∀ a, a ∈ l → lab (fr a) = lab (to a)) → kl fr to l lab = []
  | [], lab, _ => rfl
  | a :: l, lab, h => by
    have h1 := h a (List.mem_cons_self ..)
    simp only [kl]
    rw [if_pos h1, uni_same h1]
    exact kl_none l (fun b hb => h b (List.mem_cons_of_mem _ hb))
theorem nbs_congr {q q' : Nat → Bool} : ∀ {n : Nat}, (∀ v, v < n → q v = q' v) → nbs q n = nbs q' n
  | 0, _ => rfl
  | n + 1, h => by
    unfold nbs
    rw [nbs_congr (n := n) (fun v hv => h v (by omega)), h n (by omega)]
theorem nbs_out {q : Nat → Bool} {m : Nat} (hq : q m = true) : ∀ {n : Nat}, m < n → nbs (fun v => q v && !decide (v = m)) n + 1 = nbs q n
  | 0, h => absurd h (Nat.not_lt_zero m)
  | n + 1, h => by
    unfold nbs
    by_cases e : m = n
    · subst e
      rw [nbs_congr (q := fun v => q v && !decide (v = m)) (q' := q) (fun v hv => by have : ¬ v = m := by omega
                                                                                     simp [this])]
      simp [hq]
    · have ih := nbs_out hq (n := n) (by omega)
      have e2 : (q n && !decide (n = m)) = q n := by have : ¬ n = m := fun h => e h.symm
                                                     simp [this]
      simp only [e2]
      omega
theorem nbs_pos {q : Nat → Bool} {u n : Nat} (hq : q u = true) (hu : u < n) : 1 ≤ nbs q n := by
  have := nbs_out hq hu
  omega
theorem nbs_two {q : Nat → Bool} {u v n : Nat} (hq : q u = true) (hu : u < n) (hp : q v = true) (hv : v < n) (h : u ≠ v) : 2 ≤ nbs q n := by
  have h1 := nbs_out hq hu
  have h2 := nbs_pos (q := fun v => q v && !decide (v = u)) (u := v) (n := n) (by simp [hp]; exact fun e => h e.symm) hv
  omega
theorem nbs_one {q : Nat → Bool} (h : ∀ u v, q u = true → q v = true → u = v) : ∀ n, nbs q n ≤ 1
  | 0 => by simp [nbs]
  | n + 1 => by
    unfold nbs
    by_cases hn : q n = true
    · rw [if_pos hn]
      have : nbs q n = 0 := by
        have e : nbs q n = nbs (fun _ => false) n := nbs_congr (fun v hv => by
          cases hv2 : q v with
          | false => rfl
          | true => have := h v n hv2 hn; omega)
        rw [e]
        have : ∀ n, nbs (fun _ => false) n = 0 := by
          intro n
          induction n with
          | zero => rfl
          | succ n ih => unfold nbs; rw [ih]; simp
        exact this n
      omega
    · rw [if_neg hn]
      have := nbs_one h n
      omega
def rc (s : Nat → Bool) (lab : Nat → Nat) : Nat → Bool := fun v => s v && decide (lab v = v)
theorem rc_kl {fr to : Nat → Nat} {s : Nat → Bool} {n : Nat} : ∀ (l : List Nat) {lab : Nat → Nat}, Lb lab → (∀ a, a ∈ l → s (fr a) = true ∧ s (to a) = true ∧ fr a < n ∧ to a < n) → (∀ v, s v = true → s (lab v) = true) → nbs (rc s (kr fr to l lab)) n + (kl fr to l lab).length = nbs (rc s lab) n ∧ ∀ v, s v = true → s (kr fr to l lab v) = true
  | [], lab, _, _, hs => ⟨rfl, hs⟩
  | a :: l, lab, hL, hA, hs => by
    obtain ⟨a1, a2, a3, a4⟩ := hA a (List.mem_cons_self ..)
    have hs2 : ∀ v, s v = true → s (uni lab (fr a) (to a) v) = true := by
      intro v hv
      unfold uni
      by_cases h : lab v = max (lab (fr a)) (lab (to a))
      · rw [if_pos h]
        rcases Nat.le_total (lab (fr a)) (lab (to a)) with g | g
        · rw [Nat.min_eq_left g]; exact hs _ a1
        · rw [Nat.min_eq_right g]; exact hs _ a2
      · rw [if_neg h]; exact hs v hv
    obtain ⟨i1, i2⟩ := rc_kl (fr := fr) (to := to) (s := s) (n := n) l (Lb_uni hL (fr a) (to a)) (fun b hb => hA b (List.mem_cons_of_mem _ hb)) hs2
    refine ⟨?_, i2⟩
    simp only [kl]
    show nbs (rc s (kr fr to l (uni lab (fr a) (to a)))) n + _ = _
    by_cases h : lab (fr a) = lab (to a)
    · rw [if_pos h, i1, uni_same h]
    · rw [if_neg h, List.length_cons]
      have hm : rc s lab (max (lab (fr a)) (lab (to a))) = true := by
        unfold rc
        rcases Nat.le_total (lab (fr a)) (lab (to a)) with g | g
        · rw [Nat.max_eq_right g]; simp [hs _ a2, hL.2]
        · rw [Nat.max_eq_left g]; simp [hs _ a1, hL.2]
      have hmn : max (lab (fr a)) (lab (to a)) < n := by
        have := hL.1 (fr a)
        have := hL.1 (to a)
        omega
      have h3 := nbs_out hm hmn
      have h4 : nbs (rc s (uni lab (fr a) (to a))) n = nbs (fun v => rc s lab v && !decide (v = max (lab (fr a)) (lab (to a)))) n := nbs_congr (fun v _ => by
        unfold rc
        rw [Bool.eq_iff_iff]
        simp only [Bool.and_eq_true, decide_eq_true_eq, uni_root hL h v, Bool.not_eq_true', decide_eq_false_iff_not]
        exact and_assoc.symm)
      omega
/-- the greedy list of a set of nodes: as long as it may be, and just so long where they hang together -/
theorem tree_len {fr to : Nat → Nat} {s : Nat → Bool} {n u0 : Nat} {l : List Nat} (hA : ∀ a, a ∈ l → fr a < n ∧ to a < n) (hs : ∀ v, s v = true → v < n) (h0 : s u0 = true) :
    (kl fr to (ins fr to s l) (fun v => v)).length + 1 ≤ nbs s n ∧ ((kl fr to (ins fr to s l) (fun v => v)).length + 1 = nbs s n ↔ Jn fr to s (ins fr to s l)) := by
  obtain ⟨h1, h2⟩ := rc_kl (fr := fr) (to := to) (s := s) (n := n) (ins fr to s l) Lb_id (fun a ha => by
    obtain ⟨g1, g2, g3⟩ := ins_mem.mp ha
    exact ⟨g2, g3, hA a g1⟩) (fun v hv => hv)
  have e0 : nbs (rc s (fun v => v)) n = nbs s n := nbs_congr (fun v _ => by simp [rc])
  rw [e0] at h1
  have hL := kr_Lb (fr := fr) (to := to) (ins fr to s l) Lb_id
  have hroot : ∀ u, s u = true → rc s (kr fr to (ins fr to s l) (fun v => v)) (kr fr to (ins fr to s l) (fun v => v) u) = true ∧ kr fr to (ins fr to s l) (fun v => v) u < n := by
    intro u hu
    refine ⟨by simp [rc, h2 u hu, hL.2], ?_⟩
    have := hL.1 u
    have := hs u hu
    omega
  have hp := nbs_pos (hroot u0 h0).1 (hroot u0 h0).2
  refine ⟨by omega, fun e u v hu hv => ?_, fun e => ?_⟩
  · apply Classical.byContradiction
    intro hne
    have := nbs_two (hroot u hu).1 (hroot u hu).2 (hroot v hv).1 (hroot v hv).2 hne
    omega
  · have := nbs_one (q := rc s (kr fr to (ins fr to s l) (fun v => v))) (fun u v hu hv => by
      simp only [rc, Bool.and_eq_true, decide_eq_true_eq] at hu hv
      rw [← hu.2, ← hv.2]
      exact e u v hu.1 hv.1) n
    omega
theorem ins_app {fr to : Nat → Nat} {s : Nat → Bool} (l1 l2 : List Nat) : ins fr to s (l1 ++ l2) = ins fr to s l1 ++ ins fr to s l2 := by
  unfold ins
  exact List.filter_append ..
theorem take_s {l : List Nat} {i : Nat} (h : i < l.length) : l.take (i + 1) = l.take i ++ [l.getD i 0] := by
  rw [List.take_succ, List.getD_eq_getElem?_getD]
  simp [h]
theorem ins_no {fr to : Nat → Nat} {s : Nat → Bool} {l : List Nat} {i : Nat} (h : i < l.length) (hn : ¬ (s (fr (l.getD i 0)) = true ∧ s (to (l.getD i 0)) = true)) : ins fr to s (l.take (i + 1)) = ins fr to s (l.take i) := by
  rw [take_s h, ins_app]
  have : ins fr to s [l.getD i 0] = [] := by
    unfold ins
    rw [List.filter_cons_of_neg (by simp only [Bool.and_eq_true]; exact hn)]
    rfl
  rw [this, List.append_nil]
theorem ins_yes {fr to : Nat → Nat} {s : Nat → Bool} {l : List Nat} {i : Nat} (h : i < l.length) (hn : s (fr (l.getD i 0)) = true ∧ s (to (l.getD i 0)) = true) : ins fr to s (l.take (i + 1)) = ins fr to s (l.take i) ++ [l.getD i 0] := by
  rw [take_s h, ins_app]
  have : ins fr to s [l.getD i 0] = [l.getD i 0] := by
    unfold ins
    rw [List.filter_cons_of_pos (by simp only [Bool.and_eq_true]; exact hn)]
    rfl
  rw [this]
theorem kl_one {fr to : Nat → Nat} {l : List Nat} {a : Nat} : kl fr to (l ++ [a]) (fun v => v) = kl fr to l (fun v => v) ++ (if kr fr to l (fun v => v) (fr a) = kr fr to l (fun v => v) (to a) then [] else [a]) := by
  rw [kl_app]
  rfl
theorem kr_one {fr to : Nat → Nat} {l : List Nat} {a : Nat} {lab : Nat → Nat} : kr fr to (l ++ [a]) lab = uni (kr fr to l lab) (fr a) (to a) := by
  rw [kr_app]
  rfl
theorem ins_full {fr to : Nat → Nat} {s : Nat → Bool} {l : List Nat} {i : Nat} (hj : Jn fr to s (ins fr to s (l.take i))) : Jn fr to s (ins fr to s l) ∧ kl fr to (ins fr to s l) (fun v => v) = kl fr to (ins fr to s (l.take i)) (fun v => v) := by
  have e : ins fr to s l = ins fr to s (l.take i) ++ ins fr to s (l.drop i) := by rw [← ins_app, List.take_append_drop]
  constructor
  · refine Jn_mono ?_ hj
    intro a ha
    rw [e]
    exact List.mem_append.mpr (Or.inl ha)
  · rw [e, kl_app, kl_none (ins fr to s (l.drop i)), List.append_nil]
    intro a ha
    obtain ⟨-, h1, h2⟩ := ins_mem.mp ha
    exact hj _ _ h1 h2
theorem ins_part {fr to c : Nat → Nat} {s : Nat → Bool} (l : List Nat) (i : Nat) : lsum c (kl fr to (ins fr to s (l.take i)) (fun v => v)) ≤ lsum c (kl fr to (ins fr to s l) (fun v => v)) := by
  have e : ins fr to s l = ins fr to s (l.take i) ++ ins fr to s (l.drop i) := by rw [← ins_app, List.take_append_drop]
  rw [e, kl_app, lsum_app]
  omega
