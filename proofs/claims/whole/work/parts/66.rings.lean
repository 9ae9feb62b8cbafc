/-! who goes back too often is on a ring -/
theorem pigeon {n : Nat} (f : Nat → Nat) (h : ∀ i, i ≤ n → f i < n) : ∃ i j, i < j ∧ j ≤ n ∧ f i = f j := by
  apply Classical.byContradiction
  intro hn
  have hnd : ((List.range (n + 1)).map f).Nodup := by
    unfold List.Nodup
    rw [List.pairwise_map]
    refine List.Pairwise.imp_of_mem (R := fun a b => a < b) ?_ List.pairwise_lt_range
    intro a b ha hb hab he
    have := List.mem_range.mp hb
    exact hn ⟨a, b, hab, by omega, he⟩
  have := len30 (m := n) hnd (fun a ha => by
    obtain ⟨i, i1, i2⟩ := List.mem_map.mp ha
    have := List.mem_range.mp i1
    rw [← i2]; exact h i (by omega))
  rw [List.length_map, List.length_range] at this
  omega
theorem back_ring {b : Nat → Nat} {n v : Nat} (h : ∀ i, i ≤ n → itb b i v < n) : (∃ p, 1 ≤ p ∧ itb b p (itb b n v) = itb b n v) ∧ ∃ m, m + 1 ≤ n ∧ b (itb b n v) = itb b (m + 1) v := by
  obtain ⟨i, j, hij, hjn, he⟩ := pigeon (fun t => itb b t v) h
  have he2 : itb b i v = itb b j v := he
  have hs : ∀ s, itb b (s + j) v = itb b (s + i) v := fun s => by rw [itb_add, itb_add, he2]
  refine ⟨⟨j - i, by omega, ?_⟩, ?_⟩
  · rw [← itb_add]
    have e1 : j - i + n = (n - i) + j := by omega
    have e2 : n = (n - i) + i := by omega
    rw [e1, hs]
    rw [← e2]
  · have : ∀ d, ∃ m, i ≤ m ∧ m < j ∧ itb b (j + d) v = itb b m v := by
      intro d
      induction d with
      | zero => exact ⟨i, Nat.le_refl _, hij, he2.symm⟩
      | succ d ih =>
        obtain ⟨m, m1, m2, m3⟩ := ih
        have e1 : itb b (j + (d + 1)) v = itb b (m + 1) v := by
          rw [← Nat.add_assoc, itb_s, itb_s, m3]
        by_cases hm : m + 1 = j
        · exact ⟨i, Nat.le_refl _, hij, by rw [e1, hm]; exact he2.symm⟩
        · exact ⟨m + 1, by omega, by omega, e1⟩
    obtain ⟨m, m1, m2, m3⟩ := this (n - j)
    have e1 : j + (n - j) = n := by omega
    rw [e1] at m3
    exact ⟨m, by omega, by rw [m3, itb_s]⟩
/-- the rings that have been numbered -/
def RG (b : Nat → Nat) (n r : Nat) (gr : Nat → Option Nat) (q : Nat) : Prop :=
  gr r = none ∧ (∀ v c, v < n → gr v = some c → c < q) ∧ (∀ u v c, u < n → v < n → gr u = some c → gr v = some c → ∃ l, itb b l v = u) ∧ (∀ c, c < q → ∃ v, v < n ∧ gr v = some c) ∧ nbs (fun v => decide (gr v = none)) n + 2 * q ≤ n
def mkr (b : Nat → Nat) (q : Nat) (gr : Nat → Option Nat) (f : Nat) : Nat → Nat → Option Nat
  | 0 => gr
  | j + 1 => fun v => if v = itb b j f then some q else mkr b q gr f j v
theorem mkr_or {b : Nat → Nat} {q : Nat} {gr : Nat → Option Nat} {f : Nat} : ∀ (j v : Nat), (mkr b q gr f j v = gr v ∧ ∀ i, i < j → v ≠ itb b i f) ∨ (mkr b q gr f j v = some q ∧ ∃ i, i < j ∧ v = itb b i f)
  | 0, v => Or.inl ⟨rfl, fun i hi => absurd hi (Nat.not_lt_zero i)⟩
  | j + 1, v => by
    unfold mkr
    by_cases h : v = itb b j f
    · rw [if_pos h]; exact Or.inr ⟨rfl, j, by omega, h⟩
    · rw [if_neg h]
      rcases mkr_or j v with ⟨h1, h2⟩ | ⟨h1, i, h2, h3⟩
      · refine Or.inl ⟨h1, fun i hi => ?_⟩
        by_cases e : i = j
        · rw [e]; exact h
        · exact h2 i (by omega)
      · exact Or.inr ⟨h1, i, by omega, h3⟩
theorem RG_mark {b : Nat → Nat} {n r q f m p : Nat} {gr : Nat → Option Nat} (h : RG b n r gr q) (hm : 2 ≤ m) (hf : f < n) (hbf : b f < n) (hne : b f ≠ f) (hn1 : gr f = none) (hn2 : gr (b f) = none) (hp : 1 ≤ p) (hpf : itb b p f = f) (hr : ∀ i, i < m → itb b i f ≠ r ∧ gr (itb b i f) = none) : RG b n r (mkr b q gr f m) (q + 1) := by
  obtain ⟨h1, h2, h3, h4, h5⟩ := h
  have hmf : mkr b q gr f m f = some q := by
    rcases mkr_or (b := b) (q := q) (gr := gr) (f := f) m f with ⟨g1, g2⟩ | ⟨g1, -⟩
    · exact absurd rfl (g2 0 (by omega))
    · exact g1
  have hmb : mkr b q gr f m (b f) = some q := by
    rcases mkr_or (b := b) (q := q) (gr := gr) (f := f) m (b f) with ⟨g1, g2⟩ | ⟨g1, -⟩
    · exact absurd rfl (g2 1 (by omega))
    · exact g1
  have hcyc : ∀ t, itb b (p * t) f = f := by
    intro t
    induction t with
    | zero => rfl
    | succ t ih => rw [Nat.mul_succ, itb_add, hpf, ih]
  refine ⟨?_, ?_, ?_, ?_, ?_⟩
  · rcases mkr_or (b := b) (q := q) (gr := gr) (f := f) m r with ⟨g1, g2⟩ | ⟨g1, i, g2, g3⟩
    · rw [g1]; exact h1
    · exact absurd g3.symm (hr i g2).1
  · intro v c hv hc
    rcases mkr_or (b := b) (q := q) (gr := gr) (f := f) m v with ⟨g1, g2⟩ | ⟨g1, -⟩
    · rw [g1] at hc
      have := h2 v c hv hc
      omega
    · rw [g1] at hc; cases hc; omega
  · intro u v c hu hv hcu hcv
    rcases mkr_or (b := b) (q := q) (gr := gr) (f := f) m u with ⟨g1, g2⟩ | ⟨g1, i, g2, g3⟩
    · rw [g1] at hcu
      have hcq := h2 u c hu hcu
      rcases mkr_or (b := b) (q := q) (gr := gr) (f := f) m v with ⟨k1, k2⟩ | ⟨k1, j, k2, k3⟩
      · rw [k1] at hcv
        exact h3 u v c hu hv hcu hcv
      · rw [k1] at hcv; cases hcv; omega
    · rw [g1] at hcu; cases hcu
      rcases mkr_or (b := b) (q := q) (gr := gr) (f := f) m v with ⟨k1, k2⟩ | ⟨k1, j, k2, k3⟩
      · rw [k1] at hcv
        have := h2 v q hv hcv
        omega
      · refine ⟨i + (p * j - j), ?_⟩
        have hle : j ≤ p * j := Nat.le_mul_of_pos_left j (by omega)
        rw [k3, ← itb_add]
        have e1 : i + (p * j - j) + j = i + p * j := by omega
        rw [e1, itb_add, hcyc, g3]
  · intro c hc
    by_cases e : c = q
    · subst e; exact ⟨f, hf, hmf⟩
    · obtain ⟨v, v1, v2⟩ := h4 c (by omega)
      refine ⟨v, v1, ?_⟩
      rcases mkr_or (b := b) (q := q) (gr := gr) (f := f) m v with ⟨g1, g2⟩ | ⟨g1, i, g2, g3⟩
      · rw [g1]; exact v2
      · have := (hr i g2).2
        rw [← g3, v2] at this
        cases this
  · have n1 := nbs_out (q := fun v => decide (gr v = none)) (m := f) (by simp [hn1]) hf
    have n2 := nbs_out (q := fun v => decide (gr v = none) && !decide (v = f)) (m := b f) (n := n) (by simp [hn2, hne]) hbf
    have n3 := nbs_mono (S := fun v => decide (mkr b q gr f m v = none)) (T := fun v => (decide (gr v = none) && !decide (v = f)) && !decide (v = b f)) (fun v hv => by
      have hv2 : mkr b q gr f m v = none := of_decide_eq_true hv
      rcases mkr_or (b := b) (q := q) (gr := gr) (f := f) m v with ⟨g1, g2⟩ | ⟨g1, -⟩
      · rw [g1] at hv2
        have e1 : v ≠ f := g2 0 (by omega)
        have e2 : v ≠ b f := g2 1 (by omega)
        simp [hv2, e1, e2]
      · rw [g1] at hv2; cases hv2) n
    omega
theorem isLoose_v {v r : Nat} {gr : Nat → Option Nat} {G : Nat → Int32} (hv : v < 10) (hr : r < 10) (hG : G v = enc (gr v)) (hb : ∀ c, gr v = some c → c < 2 ^ 31) : f_TreesFromRoot_isLoose (nI v) (nI r) G = some (if v ≠ r ∧ gr v = none then 1 else 0) := by
  by_cases h : v = r
  · subst h
    simp only [f_TreesFromRoot_isLoose, if_pos]
    simp
  · have h1 : ¬ nI v = nI r := fun e => h ((nI_eq (by omega) (by omega)).mp e)
    simp only [f_TreesFromRoot_isLoose, if_neg h1, gd_nI hv (by decide), nI_clamp (show v < 2 ^ 31 by omega), hG]
    cases hg : gr v with
    | none =>
      have h2 : ¬ (0 : Int32) ≤ enc none := by decide
      rw [if_neg h2]
      simp [h]
    | some c =>
      have h2 : (0 : Int32) ≤ enc (some c) := nI_pos' (hb c hg)
      rw [if_pos h2]
      simp
theorem markRing {N n r q f : Nat} {b : Nat → Nat} {gr : Nat → Option Nat} {G B : Nat → Int32} (hN : 100 ≤ N) (hn : n ≤ 10) (hr : r < n) (hb : ∀ w, w < n → w ≠ r → b w < n) (hB : ∀ w, w < n → w ≠ r → B w = nI (b w)) (hG : ∀ v, v < 10 → G v = enc (gr v)) (hq : q < 2 ^ 20) (hgb : ∀ v c, v < n → gr v = some c → c < q) (hf : f < n) (hfr : f ≠ r) (hfn : gr f = none) (hbr : b f ≠ r) (hbn : gr (b f) = none) (hne : b f ≠ f) :
    Ok (f_TreesFromRoot_markRing N (nI f) (nI q) (nI n) (nI r) G B) (fun G' => ∃ m, 2 ≤ m ∧ (∀ v, v < 10 → G' v = enc (mkr b q gr f m v)) ∧ ∀ i, i < m → itb b i f ≠ r ∧ gr (itb b i f) = none) := by
  unfold f_TreesFromRoot_markRing
  have hbf := hb f hf hfr
  refine Ok_lo3 (fun d v3 v4 G1 => ∃ j, j + d = n ∧ v4 = nI j ∧ v3 = nI (itb b j f) ∧ itb b j f < n ∧ (∀ v, v < 10 → G1 v = enc (mkr b q gr f j v)) ∧ ∀ i, i < j → itb b i f ≠ r ∧ gr (itb b i f) = none) ?_ n N _ _ _ (by omega) ⟨0, by omega, rfl, rfl, hf, hG, fun i hi => absurd hi (Nat.not_lt_zero i)⟩
  rintro kk d v3 v4 G1 ⟨j, hd, rfl, rfl, hj, hG1, hi⟩ hkk
  by_cases hjn : j = n
  · have hle : nI n ≤ nI j := nI_le (by omega) (by omega)
    simp only [g_TreesFromRoot_markRing_5, if_pos hle]
    exact Ok_some ⟨j, by omega, hG1, hi⟩
  · have hle : ¬ nI n ≤ nI j := nI_ge (by omega) (by omega)
    have hil := isLoose_v (v := itb b j f) (r := r) (gr := mkr b q gr f j) (G := G1) (by omega) (by omega) (hG1 _ (by omega)) (fun c hc => by
      rcases mkr_or (b := b) (q := q) (gr := gr) (f := f) j (itb b j f) with ⟨g1, g2⟩ | ⟨g1, -⟩
      · rw [g1] at hc
        have := hgb _ c hj hc
        omega
      · rw [g1] at hc; cases hc; omega)
    simp only [g_TreesFromRoot_markRing_5, if_neg hle, hil, bk1]
    by_cases hl : itb b j f ≠ r ∧ mkr b q gr f j (itb b j f) = none
    · rw [if_pos hl]
      have n1 : ¬ (1 : Int32) = 0 := by decide
      simp only [if_neg n1, gd_nI (show itb b j f < 10 by omega) (by decide), nI_clamp (show itb b j f < 2 ^ 31 by omega), bn, hB _ hj hl.1, nI_1]
      refine hkk (d - 1) _ _ _ (by omega) ⟨j + 1, by omega, rfl, by rw [itb_s], by rw [itb_s]; exact hb _ hj hl.1, fun v hv => ?_, fun i hi2 => ?_⟩
      · unfold mkr
        by_cases e : v = itb b j f
        · rw [if_pos e, e, upd_self]; rfl
        · rw [if_neg e, upd_ne _ _ e]; exact hG1 v hv
      · by_cases e : i = j
        · subst e
          refine ⟨hl.1, ?_⟩
          rcases mkr_or (b := b) (q := q) (gr := gr) (f := f) i (itb b i f) with ⟨g1, g2⟩ | ⟨g1, -⟩
          · rw [← g1]; exact hl.2
          · rw [g1] at hl; cases hl.2
        · exact hi i (by omega)
    · rw [if_neg hl]
      simp only [if_pos]
      refine Ok_some ⟨j, ?_, hG1, hi⟩
      apply Classical.byContradiction
      intro h2
      have : j = 0 ∨ j = 1 := by omega
      rcases this with e | e
      · subst e
        exact hl ⟨hfr, hfn⟩
      · subst e
        refine hl ⟨hbr, ?_⟩
        show (if b f = f then some q else gr (b f)) = none
        rw [if_neg hne]; exact hbn
theorem findRings {N n r : Nat} {b : Nat → Nat} {G0 B : Nat → Int32} (hN : 100 ≤ N) (hn : n ≤ 10) (hr : r < n) (hb : ∀ w, w < n → w ≠ r → b w < n) (hne : ∀ w, w < n → w ≠ r → b w ≠ w) (hB : ∀ w, w < n → w ≠ r → B w = nI (b w)) :
    Ok (f_TreesFromRoot_findRings N (nI n) (nI r) G0 B) (fun res => ∃ q gr, res.1 = nI q ∧ (∀ v, v < 10 → res.2 v = enc (gr v)) ∧ RG b n r gr q ∧ (q = 0 → ∀ v, v < n → ∃ l, itb b l v = r)) := by
  obtain ⟨G1, f1, f2⟩ := fill0 (N := N) (n := 10) (-1 : Int32) (by decide) (by omega) G0
  simp only [f_TreesFromRoot_findRings, f1, bk1]
  have hn0 : nbs (fun v => decide ((fun _ : Nat => (none : Option Nat)) v = none)) n ≤ n := nbs_le _ n
  refine Ok_lo3 (fun d v1 v2 G => ∃ i q gr, i + d = n ∧ v2 = nI i ∧ v1 = nI q ∧ (∀ v, v < 10 → G v = enc (gr v)) ∧ RG b n r gr q ∧ (q = 0 → ∀ v, v < i → ∃ l, itb b l v = r)) ?_ n N _ _ _ (by omega) ⟨0, 0, fun _ => none, by omega, rfl, rfl, f2, ⟨rfl, (fun v c _ h => by cases h), (fun u v c _ _ h => by cases h), (fun c hc => absurd hc (Nat.not_lt_zero c)), by omega⟩, fun _ v hv => absurd hv (Nat.not_lt_zero v)⟩
  rintro kk d v1 v2 G ⟨i, q, gr, hd, rfl, rfl, hG, hRG, hz⟩ hkk
  have hqn : 2 * q ≤ n := by have := hRG.2.2.2.2; omega
  have hgb : ∀ v, v < n → ∀ c, gr v = some c → c < 2 ^ 31 := fun v hv c hc => by have := hRG.2.1 v c hv hc; omega
  by_cases hi : i = n
  · have hle : nI n ≤ nI i := nI_le (by omega) (by omega)
    simp only [g_TreesFromRoot_findRings_12, if_pos hle]
    refine Ok_some ⟨q, gr, rfl, hG, hRG, fun h v hv => hz h v (by omega)⟩
  · have hin : i < n := by omega
    have hle : ¬ nI n ≤ nI i := nI_ge hin (by omega)
    simp only [g_TreesFromRoot_findRings_12, if_neg hle]
    refine Ok_lo5 (fun d v1 v2 v3 v4 G' => ∃ j, j + d = n ∧ v1 = nI q ∧ v2 = nI i ∧ v3 = nI (itb b j i) ∧ v4 = nI j ∧ G' = G ∧ itb b j i < n ∧ ∀ t, t < j → itb b t i < n ∧ itb b t i ≠ r ∧ gr (itb b t i) = none) ?_ n N _ _ _ _ _ (by omega) ⟨0, by omega, rfl, rfl, rfl, rfl, rfl, hin, fun t ht => absurd ht (Nat.not_lt_zero t)⟩
    rintro kk2 d2 v1 v2 v3 v4 G' ⟨j, hd2, rfl, rfl, rfl, rfl, rfl, hj, ht⟩ hkk2
    have hil := isLoose_v (v := itb b j i) (r := r) (gr := gr) (G := G') (by omega) (by omega) (hG _ (by omega)) (hgb _ hj)
    have hend : (¬ (itb b j i ≠ r ∧ gr (itb b j i) = none) ∨ j = n) → Ok (g_TreesFromRoot_findRings_55 N (nI n) (nI r) B kk (nI q) (nI i) (nI (itb b j i)) G') (fun res => ∃ q gr, res.1 = nI q ∧ (∀ v, v < 10 → res.2 v = enc (gr v)) ∧ RG b n r gr q ∧ (q = 0 → ∀ v, v < n → ∃ l, itb b l v = r)) := by
      intro hc
      simp only [g_TreesFromRoot_findRings_55, hil, bk1]
      by_cases hl : itb b j i ≠ r ∧ gr (itb b j i) = none
      · rw [if_pos hl]
        have n1 : ¬ (1 : Int32) = 0 := by decide
        simp only [if_neg n1]
        have hjn : j = n := by
          rcases hc with h | h
          · exact absurd hl h
          · exact h
        subst hjn
        have hall : ∀ t, t ≤ j → itb b t i < j ∧ itb b t i ≠ r ∧ gr (itb b t i) = none := fun t h => by
          by_cases e : t = j
          · rw [e]; exact ⟨hj, hl⟩
          · exact ht t (by omega)
        obtain ⟨⟨p, p1, p2⟩, m, m1, m2⟩ := back_ring (b := b) (v := i) (fun t h => (hall t h).1)
        have hbl := hall (m + 1) m1
        rw [← m2] at hbl
        have hnef := hne _ hj hl.1
        refine Ok_bk1 (markRing hN hn hr hb hB hG (by omega) hRG.2.1 hj hl.1 hl.2 hbl.2.1 hbl.2.2 hnef) ?_
        rintro G2 ⟨m', k1, k2, k3⟩
        simp only [bn, nI_1]
        refine hkk (d - 1) _ _ _ (by omega) ⟨i + 1, q + 1, _, by omega, rfl, rfl, k2, RG_mark hRG k1 hj hbl.1 hnef hl.2 hbl.2.2 p1 p2 k3, fun h => by omega⟩
      · rw [if_neg hl]
        simp only [if_pos, bn, nI_1]
        refine hkk (d - 1) _ _ _ (by omega) ⟨i + 1, q, gr, by omega, rfl, rfl, hG, hRG, fun h v hv => ?_⟩
        by_cases e : v = i
        · subst e
          refine ⟨j, ?_⟩
          apply Classical.byContradiction
          intro hjr
          apply hl
          refine ⟨hjr, ?_⟩
          cases hg : gr (itb b j v) with
          | none => rfl
          | some c =>
            have := hRG.2.1 _ c hj hg
            omega
        · exact hz h v (by omega)
    by_cases hjn : j = n
    · have hle2 : nI n ≤ nI j := nI_le (by omega) (by omega)
      simp only [g_TreesFromRoot_findRings_25, if_pos hle2]
      exact hend (Or.inr hjn)
    · have hle2 : ¬ nI n ≤ nI j := nI_ge (by omega) (by omega)
      simp only [g_TreesFromRoot_findRings_25, if_neg hle2, hil, bk1]
      by_cases hl : itb b j i ≠ r ∧ gr (itb b j i) = none
      · rw [if_pos hl]
        have n1 : ¬ (1 : Int32) = 0 := by decide
        simp only [if_neg n1, gd_nI (show itb b j i < 10 by omega) (by decide), nI_clamp (show itb b j i < 2 ^ 31 by omega), bn, hB _ hj hl.1, nI_1]
        refine hkk2 (d2 - 1) _ _ _ _ _ (by omega) ⟨j + 1, by omega, rfl, rfl, by rw [itb_s], rfl, rfl, by rw [itb_s]; exact hb _ hj hl.1, fun t h => ?_⟩
        by_cases e : t = j
        · rw [e]; exact ⟨hj, hl⟩
        · exact ht t (by omega)
      · rw [if_neg hl]
        simp only [if_pos]
        exact hend (Or.inl hl)
