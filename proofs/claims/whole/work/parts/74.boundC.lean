/-! the class's tables -/
theorem stGL_at (M : Nat → Nat → Int64) (a : Nat) (f : Nat → Int64) (i j : Nat) : stGL M a f i j = if i = a then f j else M i j := by
  unfold stGL
  split <;> rfl
/-- nodes 1, 2, .. as bits 0, 1, .. -/
def bs (s : Nat) (u : Nat) : Bool := decide (0 < u) && s.testBit (u - 1)
theorem isBelow_v : ∀ v, v < 7 → ∀ s, s < 64 → f_BoundedTrees_isBelow (nI v) (nI s) = some (if bs s v = true then 1 else 0) := by decide +kernel
theorem row_v : ∀ k, k < 7 → ∀ v, v < 7 → f_BoundedTrees_row (nI k) (nI v) = some (nI (7 * k + v)) := by decide +kernel
def sd (s o : Nat) : Nat := s &&& (63 ^^^ o)
theorem sd_nI : ∀ s, s < 64 → ∀ o, o < 64 → nI s &&& (nI o ^^^ (-1 : Int32)) = nI (sd s o) := by decide +kernel
theorem sd_64 : ∀ s, s < 64 → ∀ o, o < 64 → sd s o ≤ s := by decide +kernel
theorem sd_lt : ∀ s, s < 64 → ∀ o, o < 64 → o &&& s = o → o ≠ 0 → sd s o < s := by decide +kernel
theorem sd_bit {s o i : Nat} (hi : i < 6) : (sd s o).testBit i = (s.testBit i && !o.testBit i) := by
  unfold sd
  rw [Nat.testBit_and, Nat.testBit_xor]
  have : ∀ i, i < 6 → (63 : Nat).testBit i = true := by decide
  rw [this i hi]
  simp
theorem bs_sd {s o u : Nat} (hs : s < 64) : bs (sd s o) u = (bs s u && !bs o u) := by
  unfold bs
  by_cases h : 0 < u
  · simp only [h, decide_true, Bool.true_and]
    by_cases h6 : u - 1 < 6
    · exact sd_bit h6
    · have h1 : s < 2 ^ (u - 1) := Nat.lt_of_lt_of_le hs (Nat.pow_le_pow_right (n := 2) (by omega) (show 6 ≤ u - 1 by omega))
      have h2 : sd s o < 2 ^ (u - 1) := Nat.lt_of_le_of_lt (Nat.and_le_left) h1
      rw [Nat.testBit_lt_two_pow h1, Nat.testBit_lt_two_pow h2]
      rfl
  · simp [h]
theorem bs_pow {t u : Nat} (ht : 0 < t) : bs (2 ^ (t - 1)) u = decide (u = t) := by
  unfold bs
  rw [Nat.testBit_two_pow]
  by_cases h : u = t
  · subst h; simp [ht]
  · by_cases h0 : 0 < u
    · have : ¬ t - 1 = u - 1 := by omega
      simp [h, this]
    · simp [h0, h]
theorem bs_lt {m s u : Nat} (hs : s < 2 ^ m) (h : bs s u = true) : u < m + 1 := by
  unfold bs at h
  simp only [Bool.and_eq_true, decide_eq_true_eq] at h
  apply Classical.byContradiction
  intro hn
  have h1 : s < 2 ^ (u - 1) := Nat.lt_of_lt_of_le hs (Nat.pow_le_pow_right (by omega) (by omega))
  rw [Nat.testBit_lt_two_pow h1] at h
  cases h.2
theorem bs_0 (u : Nat) : bs 0 u = false := by simp [bs]
theorem bs_zero (s : Nat) : bs s 0 = false := by simp [bs]
theorem one_pow : ∀ t, t < 7 → ((1 : Int32) <<< (nI t &&& 31)) = nI (2 ^ t) := by decide +kernel
theorem pow64 {t : Nat} (h : t < 6) : 2 ^ t < 64 := Nat.pow_lt_pow_right (n := 6) (by omega) h
/-- x is the least sum of those with P, or tells that there is none -/
def Mi (c : Nat → Nat) (P : List Nat → Prop) (x : Nat) : Prop := (x = 2 ^ 60 ∧ ∀ T, ¬ P T) ∨ (x < 2 ^ 50 ∧ (∃ T, P T ∧ lsum c T = x) ∧ ∀ T, P T → x ≤ lsum c T)
def mt2 (fr to : Nat → Nat) (a b e : Nat) : Prop := (fr e = a ∧ to e = b) ∨ (fr e = b ∧ to e = a)
def BI (fr to w : Nat → Nat) (n : Nat) (l : List Nat) (M : Nat → Nat → Int64) : Prop := ∀ a b, a < n → b < n → M a b = M b a ∧ ∃ x, M a b = cN x ∧ x ≤ 2 ^ 60 ∧ (∀ e, e ∈ l → mt2 fr to a b e → x ≤ ce w e) ∧ (x = 2 ^ 60 ∨ ∃ e, e ∈ l ∧ mt2 fr to a b e ∧ ce w e = x)
theorem findBetween {N n : Nat} {fr to w : Nat → Nat} {ord : List Nat} {O F T V : Nat → Int32} {M0 : Nat → Nat → Int64} (hN : 100 ≤ N) (hn : n ≤ 7) (hlen : ord.length ≤ 30) (hO : ∀ i, i < ord.length → O i = nI (ord.getD i 0)) (hA : ∀ a, a ∈ ord → a < 30 ∧ F a = nI (fr a) ∧ T a = nI (to a) ∧ fr a < n ∧ to a < n) (hne : ∀ a, a ∈ ord → fr a ≠ to a) (hV : ∀ a, a ∈ ord → V a = nI (w a) ∧ w a ≤ 1000) :
    Ok (f_BoundedTrees_findBetween N (nI n) M0 (nI ord.length) O F T V) (fun M => BI fr to w n ord M) := by
  unfold f_BoundedTrees_findBetween
  refine Ok_lo2 (fun d v1 M => ∃ i, i + d = n ∧ v1 = nI i ∧ ∀ a b, a < i → b < 7 → M a b = cN (2 ^ 60)) ?_ n N _ _ (by omega) ⟨0, by omega, rfl, fun a b ha => absurd ha (Nat.not_lt_zero a)⟩
  rintro kk d v1 M ⟨i, hd, rfl, hM⟩ hkk
  by_cases hi : i = n
  · subst hi
    have hle : nI i ≤ nI i := nI_le (Nat.le_refl _) (by omega)
    simp only [g_BoundedTrees_findBetween_2, if_pos hle]
    refine Ok_lo2 (fun d v1 M => ∃ j, j + d = ord.length ∧ v1 = nI j ∧ BI fr to w i (ord.take j) M) ?_ ord.length N _ _ (by omega) ⟨0, by omega, rfl, fun a b ha hb => ?_⟩
    · rintro kk2 d2 v1 M1 ⟨j, hd2, rfl, hB⟩ hkk2
      by_cases hj : j = ord.length
      · have hle2 : nI ord.length ≤ nI j := nI_le (by omega) (by omega)
        simp only [g_BoundedTrees_findBetween_30, if_pos hle2]
        rw [hj, List.take_length] at hB
        exact Ok_some hB
      · have hjl : j < ord.length := by omega
        have hle2 : ¬ nI ord.length ≤ nI j := nI_ge hjl (by omega)
        have hmem := getD_mem hjl
        have hOj := hO j hjl
        have htk := take_s hjl
        generalize ha : ord.getD j 0 = e at *
        obtain ⟨a1, a2, a3, a4, a5⟩ := hA e hmem
        obtain ⟨w1, w2⟩ := hV e hmem
        have hen := hne e hmem
        obtain ⟨s1, x, x1, x2, x3, x4⟩ := hB (fr e) (to e) a4 a5
        have hce := ce_le w2
        have hcf : f_Cost_of (nI (w e)) (nI e) = some (cN (ce w e)) := cost_f a1 w2
        simp only [g_BoundedTrees_findBetween_30, if_neg hle2, gd_nI (show j < 30 by omega) (by decide), nI_clamp (show j < 2 ^ 31 by omega), bn, hOj, gd_nI (show e < 30 by omega) (by decide), nI_clamp (show e < 2 ^ 31 by omega), a2, a3, w1, gd_nI (show fr e < 7 by omega) (by decide), gd_nI (show to e < 7 by omega) (by decide), nI_clamp (show fr e < 2 ^ 31 by omega), nI_clamp (show to e < 2 ^ 31 by omega), hcf, bk1, x1, nI_1, cN_min (show ce w e < 2 ^ 63 by omega) (show x < 2 ^ 63 by omega)]
        refine hkk2 (d2 - 1) _ _ (by omega) ⟨j + 1, by omega, rfl, fun a b ha hb => ?_⟩
        rw [htk, upGL_at, upGL_at, upGL_at, upGL_at]
        have hin : ∀ f, f ∈ ord.take j ++ [e] ↔ f ∈ ord.take j ∨ f = e := fun f => by rw [List.mem_append, List.mem_singleton]
        by_cases hm : mt2 fr to a b e
        · have e1 : (if a = to e ∧ b = fr e then cN (min x (ce w e)) else if a = fr e ∧ b = to e then cN (min x (ce w e)) else M1 a b) = cN (min x (ce w e)) := by
            rcases hm with ⟨g1, g2⟩ | ⟨g1, g2⟩
            · rw [if_neg (fun h => hen (g1.trans h.1)), if_pos ⟨g1.symm, g2.symm⟩]
            · rw [if_pos ⟨g2.symm, g1.symm⟩]
          have e2 : (if b = to e ∧ a = fr e then cN (min x (ce w e)) else if b = fr e ∧ a = to e then cN (min x (ce w e)) else M1 b a) = cN (min x (ce w e)) := by
            rcases hm with ⟨g1, g2⟩ | ⟨g1, g2⟩
            · rw [if_pos ⟨g2.symm, g1.symm⟩]
            · rw [if_neg (fun h => hen (g1.trans h.1)), if_pos ⟨g1.symm, g2.symm⟩]
          rw [e1, e2]
          have hmt : ∀ f, mt2 fr to a b f ↔ mt2 fr to (fr e) (to e) f := by
            intro f
            unfold mt2
            rcases hm with ⟨g1, g2⟩ | ⟨g1, g2⟩
            · rw [g1, g2]
            · rw [g1, g2]; exact ⟨fun h => h.symm, fun h => h.symm⟩
          refine ⟨rfl, min x (ce w e), rfl, by omega, fun f hf hmf => ?_, ?_⟩
          · rcases (hin f).mp hf with g | g
            · have := x3 f g ((hmt f).mp hmf)
              omega
            · rw [g]; omega
          · rcases Nat.le_total x (ce w e) with h | h
            · rw [Nat.min_eq_left h]
              rcases x4 with g | ⟨f, f1, f2, f3⟩
              · exact Or.inl g
              · exact Or.inr ⟨f, (hin f).mpr (Or.inl f1), (hmt f).mpr f2, f3⟩
            · rw [Nat.min_eq_right h]
              exact Or.inr ⟨e, (hin e).mpr (Or.inr rfl), hm, rfl⟩
        · have n1 : ¬ (a = to e ∧ b = fr e) := fun h => hm (Or.inr ⟨h.2.symm, h.1.symm⟩)
          have n2 : ¬ (a = fr e ∧ b = to e) := fun h => hm (Or.inl ⟨h.1.symm, h.2.symm⟩)
          have n3 : ¬ (b = to e ∧ a = fr e) := fun h => n2 ⟨h.2, h.1⟩
          have n4 : ¬ (b = fr e ∧ a = to e) := fun h => n1 ⟨h.2, h.1⟩
          rw [if_neg n1, if_neg n2, if_neg n3, if_neg n4]
          obtain ⟨t1, y, y1, y2, y3, y4⟩ := hB a b ha hb
          refine ⟨t1, y, y1, y2, fun f hf hmf => ?_, ?_⟩
          · rcases (hin f).mp hf with g | g
            · exact y3 f g hmf
            · rw [g] at hmf; exact absurd hmf hm
          · rcases y4 with g | ⟨f, f1, f2⟩
            · exact Or.inl g
            · exact Or.inr ⟨f, (hin f).mpr (Or.inl f1), f2⟩
    · rw [hM a b ha (by omega), hM b a hb (by omega)]
      exact ⟨rfl, 2 ^ 60, rfl, Nat.le_refl _, fun e he => by simp at he, Or.inl rfl⟩
  · have hin : i < n := by omega
    have hle : ¬ nI n ≤ nI i := nI_ge hin (by omega)
    simp only [g_BoundedTrees_findBetween_2, if_neg hle, gd_nI (show i < 7 by omega) (by decide), nI_clamp (show i < 2 ^ 31 by omega)]
    refine Ok_bk1 (fillL (1152921504606846976 : Int64) (by decide) (by omega) (M i)) ?_
    intro R hR
    simp only [bn, nI_1]
    refine hkk (d - 1) _ _ (by omega) ⟨i + 1, by omega, rfl, fun a b ha hb => ?_⟩
    rw [stGL_at]
    by_cases e : a = i
    · rw [if_pos e, hR b hb, cN_60]
    · rw [if_neg e]; exact hM a b (by omega) hb
/-- how the table of branches holds numbers -/
def TB (n B : Nat) (tb : Nat → Nat → Nat → Nat) (M : Nat → Nat → Int64) : Prop := ∀ k v t, k ≤ B → v < n → t < 64 → M (7 * k + v) t = cN (tb k v t) ∧ tb k v t ≤ 2 ^ 60
theorem startEmpty {N n B : Nat} {M0 : Nat → Nat → Int64} (hN : 100 ≤ N) (hn : n ≤ 7) (hB : B < 7) :
    Ok (f_BoundedTrees_startEmpty N (nI n) (nI B) M0) (fun M => TB n B (fun _ _ t => if t = 0 then 0 else 2 ^ 60) M) := by
  unfold f_BoundedTrees_startEmpty
  refine Ok_lo2 (fun d v1 M => ∃ i, i + d = n ∧ v1 = nI i ∧ TB i B (fun _ _ t => if t = 0 then 0 else 2 ^ 60) M) ?_ n N _ _ (by omega) ⟨0, by omega, rfl, fun k v t _ hv => absurd hv (Nat.not_lt_zero v)⟩
  rintro kk d v1 M ⟨i, hd, rfl, hM⟩ hkk
  by_cases hi : i = n
  · have hle : nI n ≤ nI i := nI_le (by omega) (by omega)
    simp only [g_BoundedTrees_startEmpty_2, if_pos hle]
    rw [hi] at hM
    exact Ok_some hM
  · have hin : i < n := by omega
    have hle : ¬ nI n ≤ nI i := nI_ge hin (by omega)
    simp only [g_BoundedTrees_startEmpty_2, if_neg hle]
    refine Ok_lo3 (fun d v1 v2 M => ∃ j, j + d = B + 1 ∧ v1 = nI i ∧ v2 = nI j ∧ TB i B (fun _ _ t => if t = 0 then 0 else 2 ^ 60) M ∧ ∀ k t, k < j → t < 64 → M (7 * k + i) t = cN (if t = 0 then 0 else 2 ^ 60)) ?_ (B + 1) N _ _ _ (by omega) ⟨0, by omega, rfl, rfl, hM, fun k t hk => absurd hk (Nat.not_lt_zero k)⟩
    rintro kk2 d2 v1 v2 M1 ⟨j, hd2, rfl, rfl, hM1, hM2⟩ hkk2
    by_cases hj : j = B + 1
    · have hlt : nI B < nI j := nI_lt (by omega) (by omega)
      simp only [g_BoundedTrees_startEmpty_12, if_pos hlt, bn, nI_1]
      refine hkk (d - 1) _ _ (by omega) ⟨i + 1, by omega, rfl, fun k v t hk hv ht => ?_⟩
      by_cases e : v = i
      · subst e
        refine ⟨hM2 k t (by omega) ht, ?_⟩
        show (if t = 0 then 0 else 2 ^ 60) ≤ 2 ^ 60
        split <;> omega
      · exact hM1 k v t hk (by omega) ht
    · have hlt : ¬ nI B < nI j := nI_nlt (by omega) (by omega)
      simp only [g_BoundedTrees_startEmpty_12, if_neg hlt, row_v j (by omega) i (by omega), bk1, gd_nI (show 7 * j + i < 49 by omega) (by decide), nI_clamp (show 7 * j + i < 2 ^ 31 by omega)]
      refine Ok_bk1 (fillL (1152921504606846976 : Int64) (by decide) (by omega) (M1 (7 * j + i))) ?_
      intro R hR
      have z0 : (0 : Int32).toNatClampNeg = 0 := by decide
      have zi : inb (0 : Int32) 64 = true := by decide
      simp only [gd_of zi, bn, nI_1, z0]
      have hcell : ∀ r t, r ≠ 7 * j + i → upGL (stGL M1 (7 * j + i) R) (7 * j + i) 0 0 r t = M1 r t := by
        intro r t hr
        rw [upGL_at, if_neg (fun h => hr h.1), stGL_at, if_neg hr]
      refine hkk2 (d2 - 1) _ _ _ (by omega) ⟨j + 1, by omega, rfl, rfl, fun k v t hk hv ht => ?_, fun k t hk ht => ?_⟩
      · rw [hcell _ t (by omega)]
        exact hM1 k v t hk hv ht
      · by_cases e : k = j
        · subst e
          rw [upGL_at]
          by_cases e0 : t = 0
          · rw [if_pos ⟨rfl, e0⟩, if_pos e0]; exact cN_0
          · rw [if_neg (fun h => e0 h.2), if_neg e0, stGL_at, if_pos rfl, hR t ht, cN_60]
        · rw [hcell _ t (by omega)]
          exact hM2 k t (by omega) ht
