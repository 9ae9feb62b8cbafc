/-! sets of arcs in the order in which the reference takes them -/
def Vc (need many : Nat) (c : Nat → Nat) : Prop := (∀ i, i < need → c i < many) ∧ ∀ i j, i < j → j < need → c i < c j
theorem Vc_gap {need many : Nat} {c : Nat → Nat} (h : Vc need many c) {i : Nat} : ∀ {d : Nat}, i + d < need → c i + d ≤ c (i + d)
  | 0, _ => Nat.le_refl _
  | d + 1, hd => by
    have ih := Vc_gap h (i := i) (d := d) (by omega)
    have := h.2 (i + d) (i + (d + 1)) (by omega) hd
    omega
theorem Vc_le {need many : Nat} {c : Nat → Nat} (h : Vc need many c) {i : Nat} (hi : i < need) : c i + (need - i) ≤ many := by
  have h1 := Vc_gap h (i := i) (d := need - 1 - i) (by omega)
  have e : i + (need - 1 - i) = need - 1 := by omega
  rw [e] at h1
  have h2 := h.1 (need - 1) (by omega)
  omega
theorem first_diff (p q : Nat → Nat) : ∀ m, (∀ j, j < m → p j = q j) ∨ ∃ i, i < m ∧ (∀ j, j < i → p j = q j) ∧ p i ≠ q i
  | 0 => Or.inl fun j hj => absurd hj (Nat.not_lt_zero j)
  | m + 1 => by
    rcases first_diff p q m with h | ⟨i, h1, h2, h3⟩
    · by_cases e : p m = q m
      · refine Or.inl fun j hj => ?_
        by_cases g : j = m
        · rw [g]; exact e
        · exact h j (by omega)
      · exact Or.inr ⟨m, by omega, h, e⟩
    · exact Or.inr ⟨i, by omega, h2, h3⟩
theorem m32_up {p q : Nat → Nat} {m i : Nat} (hi : i < m) (h : ∀ j, j < i → p j = q j) (hlt : p i < q i) (hp : ∀ j, j < m → p j < 32) : m32 p m < m32 q m := by
  have e : i + 1 + (m - (i + 1)) = m := by omega
  have := m32_first h hlt (d := m - (i + 1)) (by rw [e]; exact hp)
  rw [e] at this
  exact this
theorem m32_tri {p q : Nat → Nat} {m : Nat} (hp : ∀ j, j < m → p j < 32) (hq : ∀ j, j < m → q j < 32) (h : m32 p m < m32 q m) : ∃ i, i < m ∧ (∀ j, j < i → p j = q j) ∧ p i < q i := by
  rcases first_diff p q m with g | ⟨i, h1, h2, h3⟩
  · rw [m32_congr g] at h; omega
  · refine ⟨i, h1, h2, ?_⟩
    apply Classical.byContradiction
    intro hn
    have := m32_up (p := q) (q := p) h1 (fun j hj => (h2 j hj).symm) (by omega) hq
    omega
theorem m32_inj {p q : Nat → Nat} {m : Nat} (hp : ∀ j, j < m → p j < 32) (hq : ∀ j, j < m → q j < 32) (h : m32 p m = m32 q m) : ∀ j, j < m → p j = q j := by
  rcases first_diff p q m with g | ⟨i, h1, h2, h3⟩
  · exact g
  · rcases Nat.lt_or_gt_of_ne h3 with g | g
    · have := m32_up h1 h2 g hp
      omega
    · have := m32_up (p := q) (q := p) h1 (fun j hj => (h2 j hj).symm) g hq
      omega
def nxc (c : Nat → Nat) (at_ : Nat) (i : Nat) : Nat := if i < at_ then c i else c at_ + 1 + (i - at_)
theorem nxc_V {need many at_ : Nat} {c : Nat → Nat} (h : Vc need many c) (ha : at_ < need) (hl : c at_ + (need - at_) < many) : Vc need many (nxc c at_) := by
  refine ⟨fun i hi => ?_, fun i j hij hj => ?_⟩ <;> unfold nxc
  · by_cases e : i < at_
    · rw [if_pos e]; exact h.1 i hi
    · rw [if_neg e]; omega
  · by_cases e : j < at_
    · rw [if_pos (by omega), if_pos e]; exact h.2 i j hij hj
    · rw [if_neg e]
      by_cases e2 : i < at_
      · rw [if_pos e2]
        have := h.2 i at_ e2 ha
        omega
      · rw [if_neg e2]; omega
theorem nxc_up {need many at_ : Nat} {c : Nat → Nat} (hm : many ≤ 30) (h : Vc need many c) (ha : at_ < need) : m32 c need < m32 (nxc c at_) need := by
  refine m32_up ha (fun j hj => ?_) ?_ (fun j hj => by have := h.1 j hj; omega)
  · unfold nxc; rw [if_pos hj]
  · unfold nxc; rw [if_neg (Nat.lt_irrefl _)]; omega
theorem nxc_next {need many at_ : Nat} {c x : Nat → Nat} (hm : many ≤ 30) (h : Vc need many c) (ha : at_ < need) (hl : c at_ + (need - at_) < many) (hmax : ∀ i, at_ < i → i < need → c i + (need - i) = many) (hx : Vc need many x) (hcx : m32 c need < m32 x need) : m32 (nxc c at_) need ≤ m32 x need := by
  have hd : ∀ y, Vc need many y → ∀ j, j < need → y j < 32 := fun y hy j hj => by have := hy.1 j hj; omega
  have hn := nxc_V h ha hl
  obtain ⟨i, i1, i2, i3⟩ := m32_tri (hd c h) (hd x hx) hcx
  have hia : i ≤ at_ := by
    apply Classical.byContradiction
    intro g
    have h1 := hmax i (by omega) i1
    have h2 := Vc_le hx i1
    omega
  by_cases e : i < at_
  · refine Nat.le_of_lt (m32_up i1 (fun j hj => ?_) ?_ (hd _ hn))
    · unfold nxc; rw [if_pos (by omega)]; exact i2 j hj
    · unfold nxc; rw [if_pos e]; exact i3
  · have e2 : i = at_ := by omega
    subst e2
    rcases first_diff (nxc c i) x need with g | ⟨j, j1, j2, j3⟩
    · rw [m32_congr g]; exact Nat.le_refl _
    · refine Nat.le_of_lt (m32_up j1 j2 ?_ (hd _ hn))
      have hji : i ≤ j := by
        apply Classical.byContradiction
        intro g
        apply j3
        unfold nxc
        rw [if_pos (by omega)]
        exact i2 j (by omega)
      have h1 : nxc c i j = c i + 1 + (j - i) := by unfold nxc; rw [if_neg (by omega)]
      have h2 := Vc_gap hx (i := i) (d := j - i) (by omega)
      have e3 : i + (j - i) = j := by omega
      rw [e3] at h2
      omega
theorem last_c {need many : Nat} {c x : Nat → Nat} (hm : many ≤ 30) (h : Vc need many c) (hmax : ∀ i, i < need → c i + (need - i) = many) (hx : Vc need many x) : m32 x need ≤ m32 c need := by
  apply Classical.byContradiction
  intro hn
  obtain ⟨i, i1, i2, i3⟩ := m32_tri (fun j hj => by have := h.1 j hj; omega) (fun j hj => by have := hx.1 j hj; omega) (show m32 c need < m32 x need by omega)
  have h1 := hmax i i1
  have h2 := Vc_le hx i1
  omega
def Tc (own : List Nat) (need : Nat) (c : Nat → Nat) : List Nat := (List.range need).map (fun i => own.getD (c i) 0)
theorem Tc_mem {own : List Nat} {need a : Nat} {c : Nat → Nat} : a ∈ Tc own need c ↔ ∃ i, i < need ∧ own.getD (c i) 0 = a := by
  unfold Tc
  rw [List.mem_map]
  constructor
  · rintro ⟨i, h1, h2⟩; exact ⟨i, List.mem_range.mp h1, h2⟩
  · rintro ⟨i, h1, h2⟩; exact ⟨i, List.mem_range.mpr h1, h2⟩
theorem Tc_len (own : List Nat) (need : Nat) (c : Nat → Nat) : (Tc own need c).length = need := by
  unfold Tc
  rw [List.length_map, List.length_range]
theorem Tc_succ (own : List Nat) (i : Nat) (c : Nat → Nat) : Tc own (i + 1) c = Tc own i c ++ [own.getD (c i) 0] := by
  unfold Tc
  rw [List.range_succ, List.map_append]
  rfl
theorem Tc_congr {own : List Nat} {need : Nat} {c x : Nat → Nat} (h : ∀ j, j < need → c j = x j) : Tc own need c = Tc own need x := by
  unfold Tc
  apply List.map_congr_left
  intro i hi
  rw [h i (List.mem_range.mp hi)]
theorem Tc_pw {own : List Nat} {need : Nat} {c : Nat → Nat} (ho : own.Pairwise (· < ·)) (h : Vc need own.length c) : (Tc own need c).Pairwise (· < ·) := by
  unfold Tc
  rw [List.pairwise_map]
  refine List.Pairwise.imp_of_mem (R := fun a b => a < b) ?_ List.pairwise_lt_range
  intro a b ha hb hab
  exact pw_getR ho (h.2 a b hab (List.mem_range.mp hb)) (h.1 b (List.mem_range.mp hb))
theorem pw_nodup {l : List Nat} (h : l.Pairwise (· < ·)) : l.Nodup := List.Pairwise.imp (fun {a b} (g : a < b) => Nat.ne_of_lt g) h
theorem Tc_own {own : List Nat} {need a : Nat} {c : Nat → Nat} (h : Vc need own.length c) (ha : a ∈ Tc own need c) : a ∈ own := by
  obtain ⟨i, i1, i2⟩ := Tc_mem.mp ha
  rw [← i2]
  exact getD_mem (h.1 i i1)
/-- every set of as many arcs is told by one choice -/
theorem Tc_of {own T : List Nat} {need : Nat} (ho : own.Pairwise (· < ·)) (h30 : ∀ a, a ∈ own → a < 30) (hT : T.Nodup) (hTo : ∀ a, a ∈ T → a ∈ own) (hl : T.length = need) : ∃ x, Vc need own.length x ∧ ∀ a, a ∈ Tc own need x ↔ a ∈ T := by
  have hsm : ∀ a, a ∈ pal (inT T) 0 30 ↔ a ∈ T := fun a => by
    rw [pal_mem]
    unfold inT
    simp only [decide_eq_true_eq]
    exact ⟨fun h => h.2.2, fun h => ⟨by omega, by have := h30 a (hTo a h); omega, h⟩⟩
  have hsp := pal_pw (p := inT T) (d := 30) (i := 0)
  have hsl : (pal (inT T) 0 30).length = need := by
    rw [← hl, len_wsum, len_wsum T, lsum_wsum (m := 30) (pw_nodup hsp) (fun a ha => h30 a (hTo a ((hsm a).mp ha))), lsum_wsum (m := 30) hT (fun a ha => h30 a (hTo a ha))]
    apply wsum_congr
    intro a _
    rw [decide_eq_decide]
    exact hsm a
  have hex : ∀ i, ∃ j, i < need → j < own.length ∧ own.getD j 0 = (pal (inT T) 0 30).getD i 0 := fun i => by
    by_cases hi : i < need
    · obtain ⟨j, j1, j2⟩ := mem_getD (hTo _ ((hsm _).mp (getD_mem (ord := pal (inT T) 0 30) (i := i) (by omega))))
      exact ⟨j, fun _ => ⟨j1, j2⟩⟩
    · exact ⟨0, fun h => absurd h hi⟩
  refine ⟨fun i => Classical.choose (hex i), ⟨fun i hi => (Classical.choose_spec (hex i) hi).1, fun i j hij hj => ?_⟩, fun a => ?_⟩
  · have g1 := Classical.choose_spec (hex i) (by omega)
    have g2 := Classical.choose_spec (hex j) hj
    have g3 := pw_getR hsp hij (by omega)
    rw [← g1.2, ← g2.2] at g3
    apply Classical.byContradiction
    intro hn
    have hle : Classical.choose (hex j) ≤ Classical.choose (hex i) := by
      have : ¬ Classical.choose (hex i) < Classical.choose (hex j) := hn
      omega
    rcases Nat.lt_or_eq_of_le hle with g | g
    · have := pw_getR ho g g1.1
      omega
    · rw [g] at g3; omega
  · rw [Tc_mem, ← hsm a]
    constructor
    · rintro ⟨i, i1, i2⟩
      have g1 := Classical.choose_spec (hex i) i1
      rw [← i2]
      show own.getD (Classical.choose (hex i)) 0 ∈ _
      rw [g1.2]
      exact getD_mem (by omega)
    · intro ha
      obtain ⟨i, i1, i2⟩ := mem_getD ha
      have g1 := Classical.choose_spec (hex i) (by omega)
      exact ⟨i, by omega, by rw [← i2]; exact g1.2⟩
/-- who comes before has the greater mirror -/
theorem Tc_first {own : List Nat} {need : Nat} {x y : Nat → Nat} (ho : own.Pairwise (· < ·)) (h30 : ∀ a, a ∈ own → a < 30) (hm : own.length ≤ 30) (hx : Vc need own.length x) (hy : Vc need own.length y) (h : m32 y need < m32 x need) : mr (inT (Tc own need x)) 30 < mr (inT (Tc own need y)) 30 := by
  obtain ⟨i, i1, i2, i3⟩ := m32_tri (fun j hj => by have := hy.1 j hj; omega) (fun j hj => by have := hx.1 j hj; omega) h
  have hidx : ∀ p q, p < own.length → q < own.length → own.getD p 0 < own.getD q 0 → p < q := by
    intro p q hp hq hlt
    apply Classical.byContradiction
    intro hn
    rcases Nat.lt_or_eq_of_le (show q ≤ p by omega) with g | g
    · have := pw_getR ho g hp
      omega
    · rw [g] at hlt; omega
  have hord : ∀ c, Vc need own.length c → ∀ p q, p < need → q < need → c p < c q → p < q := by
    intro c hc p q hp hq hlt
    apply Classical.byContradiction
    intro hn
    rcases Nat.lt_or_eq_of_le (show q ≤ p by omega) with g | g
    · have := hc.2 q p g hp
      omega
    · rw [g] at hlt; omega
  refine mr_first (k := own.getD (y i) 0) (h30 _ (getD_mem (hy.1 i i1))) (fun a ha => ?_) ?_ ?_
  · unfold inT
    rw [decide_eq_decide, Tc_mem, Tc_mem]
    constructor
    · rintro ⟨j, j1, j2⟩
      have g1 := hidx (x j) (y i) (hx.1 j j1) (hy.1 i i1) (by omega)
      have g2 := hord x hx j i j1 i1 (by omega)
      exact ⟨j, j1, by rw [i2 j g2]; exact j2⟩
    · rintro ⟨j, j1, j2⟩
      have g1 := hidx (y j) (y i) (hy.1 j j1) (hy.1 i i1) (by omega)
      have g2 := hord y hy j i j1 i1 g1
      exact ⟨j, j1, by rw [← i2 j g2]; exact j2⟩
  · unfold inT
    simp only [decide_eq_false_iff_not]
    intro hm2
    obtain ⟨j, j1, j2⟩ := Tc_mem.mp hm2
    have e : x j = y i := by
      apply Classical.byContradiction
      intro hne
      rcases Nat.lt_or_gt_of_ne hne with g | g
      · have := pw_getR ho g (hy.1 i i1)
        omega
      · have := pw_getR ho g (hx.1 j j1)
        omega
    have g2 := hord x hx j i j1 i1 (by omega)
    have g3 := i2 j g2
    have g4 := hy.2 j i g2 i1
    omega
  · unfold inT
    simp only [decide_eq_true_eq]
    exact Tc_mem.mpr ⟨i, i1, rfl⟩
/-! what the reference asks of a set -/
def GB (fr to : Nat → Nat) (n d : Nat) (ord : List Nat) (T : List Nat) : Prop := T.Nodup ∧ (∀ a, a ∈ T → a ∈ ord) ∧ T.length = n - 1 ∧ Jn fr to (fun u => decide (u < n)) T ∧ ∀ u, u < n → dgr fr to T u ≤ d
theorem bs_all {n u : Nat} (hn : 1 ≤ n) : addN (bs (2 ^ (n - 1) - 1)) 0 u = decide (u < n) := by
  unfold addN bs
  rw [Nat.testBit_two_pow_sub_one]
  by_cases h0 : u = 0
  · subst h0; simp; omega
  · have h1 : 0 < u := by omega
    have e : (u - 1 < n - 1) = (u < n) := by rw [eq_iff_iff]; omega
    simp [h0, h1, e]
theorem nbs_lt_n : ∀ n, nbs (fun u => decide (u < n)) n = n := by
  intro n
  have : ∀ m, m ≤ n → nbs (fun u => decide (u < n)) m = m := by
    intro m
    induction m with
    | zero => intro _; rfl
    | succ m ih =>
      intro hm
      unfold nbs
      rw [ih (by omega), if_pos (by simp; omega)]
  exact this n (Nat.le_refl _)
theorem Tr_GB {fr to : Nat → Nat} {n d : Nat} {ord T : List Nat} (hn : 2 ≤ n) (hA : ∀ a, a ∈ ord → fr a < n ∧ to a < n) (hne : ∀ a, a ∈ ord → fr a ≠ to a) : Tr fr to n (min d (n - 1)) ord 0 (bs (2 ^ (n - 1) - 1)) (min d (n - 1)) T ↔ GB fr to n d ord T := by
  have hU : addN (bs (2 ^ (n - 1) - 1)) 0 = fun u => decide (u < n) := funext fun u => bs_all (by omega)
  have hnb : nbs (bs (2 ^ (n - 1) - 1)) n = n - 1 := by
    have h1 := nbs_addN (S := bs (2 ^ (n - 1) - 1)) (v := 0) (n := n) (bs_zero _) (by omega)
    rw [hU, nbs_lt_n] at h1
    omega
  have hin : ∀ u, u < n → u = 0 ∨ bs (2 ^ (n - 1) - 1) u = true := by
    intro u hu
    have := bs_all (n := n) (u := u) (by omega)
    rcases addN_or (S := bs (2 ^ (n - 1) - 1)) (v := 0) (u := u) (by rw [this]; simp [hu]) with g | g
    · exact Or.inr g
    · exact Or.inl g
  unfold Tr GB
  rw [hU, hnb]
  constructor
  · rintro ⟨h1, h2, h3, h4, h5, h6⟩
    refine ⟨h1, fun a ha => (h2 a ha).1, h4, h3, fun u hu => ?_⟩
    rcases hin u hu with g | g
    · rw [g]; omega
    · have := h6 u g; omega
  · rintro ⟨h1, h2, h3, h4, h5⟩
    have hle : ∀ u, dgr fr to T u ≤ n - 1 := fun u => by
      have := dgr_len (fr := fr) (to := to) (u := u) (T := T) (fun a ha => hne a (h2 a ha))
      omega
    refine ⟨h1, fun a ha => ⟨h2 a ha, ?_, ?_⟩, h4, h3, ?_, fun u hu => ?_⟩
    · simp [(hA a (h2 a ha)).1]
    · simp [(hA a (h2 a ha)).2]
    · have := h5 0 (by omega); have := hle 0; omega
    · have h7 : u < n := by
        have := bs_all (n := n) (u := u) (by omega)
        rw [addN_s hu] at this
        simpa using this.symm
      have := h5 u h7; have := hle u; omega
theorem lsum_mem {c : Nat → Nat} {T U : List Nat} {m : Nat} (hT : T.Nodup) (hU : U.Nodup) (h30 : ∀ a, a ∈ T → a < m) (h : ∀ a, a ∈ U ↔ a ∈ T) : lsum c U = lsum c T := by
  rw [lsum_wsum hT h30, lsum_wsum hU (fun a ha => h30 a ((h a).mp ha))]
  apply wsum_congr
  intro a _
  rw [decide_eq_decide]
  exact h a
theorem GB_mem {fr to : Nat → Nat} {n d : Nat} {ord T U : List Nat} (h30 : ∀ a, a ∈ ord → a < 30) (hT : GB fr to n d ord T) (hU : U.Nodup) (h : ∀ a, a ∈ U ↔ a ∈ T) : GB fr to n d ord U := by
  obtain ⟨h1, h2, h3, h4, h5⟩ := hT
  have hs : ∀ c : Nat → Nat, lsum c U = lsum c T := fun c => lsum_mem h1 hU (fun a ha => h30 a (h2 a ha)) h
  refine ⟨hU, fun a ha => h2 a ((h a).mp ha), ?_, ?_, fun u hu => ?_⟩
  · rw [len_wsum, hs, ← len_wsum]; exact h3
  · intro u v hu hv
    rw [kr_perm h]
    exact h4 u v hu hv
  · unfold dgr
    rw [hs]
    exact h5 u hu
theorem rl_kl {fr to : Nat → Nat} : ∀ (l : List Nat) {lab : Nat → Nat}, rl fr to l lab = true ↔ (kl fr to l lab).length = l.length
  | [], _ => by simp [rl, kl]
  | a :: l, lab => by
    have ih := rl_kl (fr := fr) (to := to) l (lab := uni lab (fr a) (to a))
    have hl := kl_len (fr := fr) (to := to) l (lab := uni lab (fr a) (to a))
    simp only [rl, kl, Bool.and_eq_true, decide_eq_true_eq, ih]
    by_cases h : lab (fr a) = lab (to a)
    · rw [if_pos h, List.length_cons]
      constructor
      · rintro ⟨g, -⟩; exact absurd h g
      · intro g; omega
    · rw [if_neg h, List.length_cons, List.length_cons]
      constructor
      · rintro ⟨-, g⟩; omega
      · intro g; exact ⟨h, by omega⟩
theorem rl_Jn {fr to : Nat → Nat} {n : Nat} {T : List Nat} (hn : 1 ≤ n) (hA : ∀ a, a ∈ T → fr a < n ∧ to a < n) (hl : T.length = n - 1) : rl fr to T (fun v => v) = true ↔ Jn fr to (fun u => decide (u < n)) T := by
  have hins : ins fr to (fun u => decide (u < n)) T = T := by
    unfold ins
    apply List.filter_eq_self.mpr
    intro a ha
    simp [hA a ha]
  have h1 := tree_len (fr := fr) (to := to) (s := fun u => decide (u < n)) (n := n) (u0 := 0) (l := T) hA (fun v h => by simpa using h) (by simp; omega)
  rw [hins, nbs_lt_n] at h1
  rw [rl_kl, ← h1.2]
  have := h1.1
  omega
