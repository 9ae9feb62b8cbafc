/-! the best list, and what fixing arcs one by one finds of it -/
def c64 (w : Nat → Nat) (a : Nat) : Nat := 64 * w a + 1
theorem lsum64 (w : Nat → Nat) : ∀ T : List Nat, lsum (c64 w) T = 64 * lsum w T + T.length
  | [] => rfl
  | a :: T => by
    have := lsum64 w T
    simp only [lsum, List.length_cons, c64] at *
    omega
theorem lsum_split (c : Nat → Nat) (p : Nat → Bool) : ∀ T : List Nat, lsum c (T.filter p) + lsum c (T.filter (fun a => !p a)) = lsum c T
  | [] => rfl
  | a :: T => by
    have ih := lsum_split c p T
    cases h : p a with
    | true =>
      rw [List.filter_cons_of_pos h, List.filter_cons_of_neg (by simp [h])]
      simp only [lsum]
      omega
    | false =>
      rw [List.filter_cons_of_neg (by simp [h]), List.filter_cons_of_pos (by simp [h])]
      simp only [lsum]
      omega
theorem lsum_cut (c : Nat → Nat) (i : Nat) : ∀ T : List Nat, lsum (fun a => if a < i then 0 else c a) T = lsum c (T.filter (fun a => !decide (a < i)))
  | [] => rfl
  | a :: T => by
    have ih := lsum_cut c i T
    by_cases h : a < i
    · rw [List.filter_cons_of_neg (by simp [h])]
      simp only [lsum, if_pos h, ih]
      omega
    · rw [List.filter_cons_of_pos (by simp [h])]
      simp only [lsum, if_neg h, ih]
/-- the arcs of T from i on -/
def frm (i : Nat) (T : List Nat) : List Nat := T.filter (fun a => !decide (a < i))
def upt (i : Nat) (T : List Nat) : List Nat := T.filter (fun a => decide (a < i))
theorem frm_upt (c : Nat → Nat) (i : Nat) (T : List Nat) : lsum c (upt i T) + lsum c (frm i T) = lsum c T := lsum_split c _ T
theorem frm_mem {i a : Nat} {T : List Nat} : a ∈ frm i T ↔ a ∈ T ∧ i ≤ a := by
  unfold frm
  rw [List.mem_filter]
  simp
theorem upt_mem {i a : Nat} {T : List Nat} : a ∈ upt i T ↔ a ∈ T ∧ a < i := by
  unfold upt
  rw [List.mem_filter]
  simp
theorem frm_no {i : Nat} {T : List Nat} (h : i ∉ T) : frm i T = frm (i + 1) T := by
  unfold frm
  apply List.filter_congr
  intro a ha
  have : a ≠ i := fun e => h (e ▸ ha)
  have e2 : (a < i) = (a < i + 1) := by rw [eq_iff_iff]; omega
  simp only [e2]
theorem frm_yes (c : Nat → Nat) {i : Nat} : ∀ {T : List Nat}, T.Nodup → i ∈ T → lsum c (frm i T) = c i + lsum c (frm (i + 1) T)
  | [], _, h => absurd h (by simp)
  | a :: T, hn, h => by
    obtain ⟨h1, h2⟩ := List.nodup_cons.mp hn
    by_cases e : a = i
    · subst e
      have := frm_no h1
      unfold frm at *
      rw [List.filter_cons_of_pos (by simp), List.filter_cons_of_neg (by simp), this]
      rfl
    · have hi : i ∈ T := by
        rcases List.mem_cons.mp h with g | g
        · exact absurd g.symm e
        · exact g
      have ih := frm_yes c h2 hi
      unfold frm at *
      by_cases hlt : a < i
      · rw [List.filter_cons_of_neg (by simp [hlt]), List.filter_cons_of_neg (by simp; omega), ih]
      · rw [List.filter_cons_of_pos (by simp [hlt]), List.filter_cons_of_pos (by simp; omega)]
        simp only [lsum]
        omega
theorem lsum_zero {c : Nat → Nat} (hc : ∀ a, 0 < c a) : ∀ {T : List Nat}, lsum c T = 0 → T = []
  | [], _ => rfl
  | a :: T, h => by
    have := hc a
    simp only [lsum] at h
    omega
/-- T is the class's list for the ends e, by way of the nodes s -/
def Bt (fr to w : Nat → Nat) (e s : Nat → Bool) (ord T : List Nat) : Prop :=
  T.Nodup ∧ (∀ a, a ∈ T → a ∈ ord) ∧ Jn fr to s T ∧ (∀ v, e v = true → s v = true) ∧ (∀ a, a ∈ T → s (fr a) = true ∧ s (to a) = true) ∧ ∀ U : List Nat, (∀ a, a ∈ U → a ∈ ord) → Jn fr to e U → lsum (ce w) T ≤ lsum (ce w) U
theorem Bt_of {fr to w : Nat → Nat} {e : Nat → Bool} {ord : List Nat} {rv : Nat} (hn : ord.Nodup) (h : Mn fr to (ce w) e ord rv) : ∃ s T, Bt fr to w e s ord T ∧ rv = lsum (ce w) T := by
  obtain ⟨⟨s, s1, s2, s3⟩, h2⟩ := h
  refine ⟨s, kl fr to (ins fr to s ord) (fun v => v), ⟨kl_nodup _ (List.Pairwise.filter _ hn), fun a ha => (ins_mem.mp (kl_sub _ ha)).1, Jn_kl s2, s1, fun a ha => (ins_mem.mp (kl_sub _ ha)).2, fun U hU hj => ?_⟩, s3⟩
  rw [← s3]
  exact h2 U hU hj
theorem Bt_e {fr to w : Nat → Nat} {e s : Nat → Bool} {ord T : List Nat} (h : Bt fr to w e s ord T) : Jn fr to e T := fun u v hu hv => h.2.2.1 u v (h.2.2.2.1 u hu) (h.2.2.2.1 v hv)
/-- the reference's least cost is that of the class's list -/
theorem Bt_64 {fr to w : Nat → Nat} {e s : Nat → Bool} {ord l T : List Nat} {rv : Nat} (h : Bt fr to w e s ord T) (h30 : ∀ a, a ∈ ord → a < 30) (hl : ∀ a, a ∈ l ↔ a ∈ ord) (hln : l.Nodup) (hm : Mn fr to (c64 w) e l rv) : rv = lsum (c64 w) T := by
  obtain ⟨⟨x, x1, x2, x3⟩, m2⟩ := hm
  have h1 := m2 T (fun a ha => (hl a).mpr (h.2.1 a ha)) (Bt_e h)
  have hxn : (kl fr to (ins fr to x l) (fun v => v)).Nodup := kl_nodup _ (List.Pairwise.filter _ hln)
  have hxo : ∀ a, a ∈ kl fr to (ins fr to x l) (fun v => v) → a ∈ ord := fun a ha => (hl a).mp (ins_mem.mp (kl_sub _ ha)).1
  have hxj : Jn fr to e (kl fr to (ins fr to x l) (fun v => v)) := fun u v hu hv => Jn_kl x2 u v (x1 u hu) (x1 v hv)
  have h2 := (cost_le h.1 (fun a ha => h30 a (h.2.1 a ha)) hxn (fun a ha => h30 a (hxo a ha)) (h.2.2.2.2.2 _ hxo hxj)).1
  rw [← lsum64, ← lsum64, ← x3] at h2
  omega
theorem Bt_acc {fr to w : Nat → Nat} {e s wi : Nat → Bool} {ord l l' T : List Nat} {rv i : Nat} (h : Bt fr to w e s ord T) (h30 : ∀ a, a ∈ ord → a < 30) (hmin : ∀ U : List Nat, (∀ a, a ∈ U → a ∈ ord) → Jn fr to e U → lsum (c64 w) T ≤ lsum (c64 w) U)
    (hiT : i ∈ T) (hl' : ∀ a, a ∈ l' ↔ ((a < i + 1 ∧ (a ∈ T ∨ a = i)) ∨ (i + 1 ≤ a ∧ a ∈ ord))) (hln : l'.Nodup) (he : ∀ v, e v = true → wi v = true) (hwi : ∀ v, wi v = true → s v = true) :
    Jn fr to wi T ∧ (∀ a, a ∈ T → a ∈ l') ∧ ∀ rv, Mn fr to (fun a => if a < i + 1 then 0 else c64 w a) wi l' rv → rv = lsum (c64 w) (frm (i + 1) T) := by
  have hTl : ∀ a, a ∈ T → a ∈ l' := fun a ha => (hl' a).mpr (by
    by_cases g : a < i + 1
    · exact Or.inl ⟨g, Or.inl ha⟩
    · exact Or.inr ⟨by omega, h.2.1 a ha⟩)
  have hj : Jn fr to wi T := fun u v hu hv => h.2.2.1 u v (hwi u hu) (hwi v hv)
  refine ⟨hj, hTl, fun rv hm => ?_⟩
  obtain ⟨⟨x, x1, x2, x3⟩, m2⟩ := hm
  have h1 := m2 T hTl hj
  rw [lsum_cut] at h1 x3
  have h1' : rv ≤ lsum (c64 w) (frm (i + 1) T) := h1
  have hxm : ∀ a, a ∈ kl fr to (ins fr to x l') (fun v => v) → a ∈ l' := fun a ha => (ins_mem.mp (kl_sub _ ha)).1
  have hxj : Jn fr to e (kl fr to (ins fr to x l') (fun v => v)) := fun u v hu hv => Jn_kl x2 u v (x1 u (he u hu)) (x1 v (he v hv))
  have h2 := hmin (frm (i + 1) (kl fr to (ins fr to x l') (fun v => v)) ++ upt (i + 1) T) (fun a ha => by
    rcases List.mem_append.mp ha with g | g
    · obtain ⟨g1, g2⟩ := frm_mem.mp g
      rcases (hl' a).mp (hxm a g1) with k | k
      · omega
      · exact k.2
    · exact h.2.1 a (upt_mem.mp g).1) (Jn_mono (fun a ha => by
      by_cases g : a < i + 1
      · refine List.mem_append.mpr (Or.inr (upt_mem.mpr ⟨?_, g⟩))
        rcases (hl' a).mp (hxm a ha) with k | k
        · rcases k.2 with q | q
          · exact q
          · rw [q]; exact hiT
        · omega
      · exact List.mem_append.mpr (Or.inl (frm_mem.mpr ⟨ha, by omega⟩))) hxj)
  rw [lsum_app] at h2
  have h3 := frm_upt (c64 w) (i + 1) T
  have x3' : rv = lsum (c64 w) (frm (i + 1) (kl fr to (ins fr to x l') (fun v => v))) := x3
  omega
theorem Bt_rej {fr to w : Nat → Nat} {e s wi : Nat → Bool} {ord l' T : List Nat} {rv i : Nat} (h : Bt fr to w e s ord T) (h30 : ∀ a, a ∈ ord → a < 30)
    (hio : i ∈ ord) (hl' : ∀ a, a ∈ l' ↔ ((a < i + 1 ∧ (a ∈ T ∨ a = i)) ∨ (i + 1 ≤ a ∧ a ∈ ord))) (hln : l'.Nodup) (he : ∀ v, e v = true → wi v = true)
    (hm : Mn fr to (fun a => if a < i + 1 then 0 else c64 w a) wi l' rv) (hrv : rv + c64 w i = lsum (c64 w) (frm i T)) : i ∈ T := by
  apply Classical.byContradiction
  intro hiT
  obtain ⟨⟨x, x1, x2, x3⟩, m2⟩ := hm
  rw [lsum_cut] at x3
  have x3' : rv = lsum (c64 w) (frm (i + 1) (kl fr to (ins fr to x l') (fun v => v))) := x3
  have hxm : ∀ a, a ∈ kl fr to (ins fr to x l') (fun v => v) → a ∈ l' := fun a ha => (ins_mem.mp (kl_sub _ ha)).1
  have hxn : (kl fr to (ins fr to x l') (fun v => v)).Nodup := kl_nodup _ (List.Pairwise.filter _ hln)
  have hxj : Jn fr to e (kl fr to (ins fr to x l') (fun v => v)) := fun u v hu hv => Jn_kl x2 u v (x1 u (he u hu)) (x1 v (he v hv))
  have hUo : ∀ a, a ∈ frm (i + 1) (kl fr to (ins fr to x l') (fun v => v)) ++ i :: upt i T → a ∈ ord := fun a ha => by
    rcases List.mem_append.mp ha with g | g
    · obtain ⟨g1, g2⟩ := frm_mem.mp g
      rcases (hl' a).mp (hxm a g1) with k | k
      · omega
      · exact k.2
    · rcases List.mem_cons.mp g with g | g
      · rw [g]; exact hio
      · exact h.2.1 a (upt_mem.mp g).1
  have hUn : (frm (i + 1) (kl fr to (ins fr to x l') (fun v => v)) ++ i :: upt i T).Nodup := by
    rw [List.nodup_append]
    refine ⟨List.Pairwise.filter _ hxn, List.nodup_cons.mpr ⟨fun g => by have := (upt_mem.mp g).2; omega, List.Pairwise.filter _ h.1⟩, fun a ha b hb => ?_⟩
    have := (frm_mem.mp ha).2
    rcases List.mem_cons.mp hb with g | g
    · omega
    · have := (upt_mem.mp g).2
      omega
  have hUj : Jn fr to e (frm (i + 1) (kl fr to (ins fr to x l') (fun v => v)) ++ i :: upt i T) := Jn_mono (fun a ha => by
      by_cases g : a < i + 1
      · refine List.mem_append.mpr (Or.inr ?_)
        rcases (hl' a).mp (hxm a ha) with k | k
        · rcases k.2 with q | q
          · have : a ≠ i := fun e => hiT (e ▸ q)
            exact List.mem_cons_of_mem _ (upt_mem.mpr ⟨q, by omega⟩)
          · rw [q]; exact List.mem_cons_self ..
        · omega
      · exact List.mem_append.mpr (Or.inl (frm_mem.mpr ⟨ha, by omega⟩))) hxj
  have h2 := cost_le h.1 (fun a ha => h30 a (h.2.1 a ha)) hUn (fun a ha => h30 a (hUo a ha)) (h.2.2.2.2.2 _ hUo hUj)
  rw [← lsum64, ← lsum64, lsum_app] at h2
  have h3 := frm_upt (c64 w) i T
  have h4 := h2.2 (by simp only [lsum]; omega)
  have h5 := mr_first (q := inT T) (q' := inT (frm (i + 1) (kl fr to (ins fr to x l') (fun v => v)) ++ i :: upt i T)) (k := i) (h30 i hio) (fun a ha => by
    unfold inT
    rw [decide_eq_decide]
    constructor
    · intro g
      exact List.mem_append.mpr (Or.inr (List.mem_cons_of_mem _ (upt_mem.mpr ⟨g, ha⟩)))
    · intro g
      rcases List.mem_append.mp g with g | g
      · have := (frm_mem.mp g).2; omega
      · rcases List.mem_cons.mp g with g | g
        · omega
        · exact (upt_mem.mp g).1) (by simp [inT, hiT]) (by simp [inT])
  omega
