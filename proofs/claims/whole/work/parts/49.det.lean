/-! the two determinants -/
def lI (z : Int) : Int64 := Int64.ofInt z
theorem lI_toInt {z : Int} (h1 : -(2 ^ 63) ≤ z) (h2 : z < 2 ^ 63) : (lI z).toInt = z := by
  unfold lI
  rw [Int64.toInt_ofInt]
  have e : Int64.size = 2 ^ 64 := by decide
  rw [e, Int.bmod_eq_of_le (by omega) (by omega)]
theorem lI_0 : lI 0 = 0 := by decide
theorem lI_1 : lI 1 = 1 := by decide
theorem lI_z {z : Int} (h1 : -(2 ^ 63) ≤ z) (h2 : z < 2 ^ 63) : lI z = 0 ↔ z = 0 := by
  constructor
  · intro h
    have e := lI_toInt h1 h2
    rw [h] at e
    have z0 : (0 : Int64).toInt = 0 := by decide
    omega
  · intro h
    rw [h]; exact lI_0
theorem lI_step {x p y q b : Int} (h1 : -(2 ^ 63) ≤ x * p - y * q) (h2 : x * p - y * q ≤ 2 ^ 62) (b1 : 0 < b) (b2 : b ≤ 2 ^ 31) : (lI x * lI p - lI y * lI q) / lI b = lI ((x * p - y * q).tdiv b) := by
  unfold lI
  have e1 : Int64.minValue.toInt = -(2 ^ 63) := by decide
  have e2 : Int64.maxValue.toInt = 2 ^ 63 - 1 := by decide
  rw [Int64.ofInt_tdiv (by rw [e1]; omega) (by rw [e2]; omega) (by rw [e1]; omega) (by rw [e2]; omega), Int64.ofInt_sub, Int64.ofInt_mul, Int64.ofInt_mul]
theorem nzL_of {x : Int64} (h : ¬ x = 0) : nzL x = true := decide_eq_true h
theorem upGL_at (M : Nat → Nat → Int64) (a b : Nat) (x : Int64) (i j : Nat) : upGL M a b x i j = if i = a ∧ j = b then x else M i j := by
  unfold upGL stGL vp_updL
  by_cases h : i = a
  · subst h
    by_cases h2 : j = b
    · simp [h2]
    · simp [h2]
  · simp [h]
theorem detC {N s : Nat} {D : Nat → Nat} {M : Nat → Nat → Int} {mn : Nat → Nat → Int64} (hN : 100 ≤ N) (hs : s ≤ 10) (hD : sN D s ≤ 60) (hG : GM D s M 1 0) (hm : ∀ i j, i < s → j < s → mn i j = lI (M i j)) : Ok (f_TreeCount_determinant N (nI s) mn) (fun r => r.1 = lI (dt M 1 0 s)) := by
  refine Ok_lo3 (fun d v2 v4 m => ∃ (k : Nat) (b : Int) (M' : Nat → Nat → Int), v2 = lI b ∧ v4 = nI k ∧ k + d = s ∧ GM D s M' b k ∧ (∀ i j, i < s → j < s → m i j = lI (M' i j)) ∧ dt M 1 0 s = dt M' b k d) ?_ s N _ _ _ (by omega) ⟨0, 1, M, lI_1.symm, rfl, by omega, hG, hm, rfl⟩
  rintro k5 d v2 v4 m ⟨k, b, M', rfl, rfl, hd, hG', hm', hdt⟩ hk5
  cases d with
  | zero =>
    have e : k = s := by omega
    subst e
    have hle : nI k ≤ nI k := nI_le (Nat.le_refl _) (by omega)
    simp only [g_TreeCount_determinant_5, if_pos hle]
    exact Ok_some (by rw [hdt]; rfl)
  | succ d =>
    have hks : k < s := by omega
    have hle : ¬ nI s ≤ nI k := nI_ge hks (by omega)
    have dk := GM_dg hG' (Nat.le_refl k) hks
    have bk := GM_e hG' hs hD (Nat.le_refl k) hks
    have hbb := GM_b hG' hs hD (show k ≤ s by omega)
    have hb0 := hG'.1
    have hz : lg_cmp (lI (M' k k)) 0 = 0 ↔ M' k k = 0 := by rw [lg_cmp_eq, lI_z (by omega) (by omega)]
    by_cases hp : M' k k = 0
    · simp only [g_TreeCount_determinant_5, if_neg hle, gd_nI (show k < 10 by omega) (by decide), nI_clamp (show k < 2 ^ 31 by omega), bn, hm' k k hks hks, if_pos (hz.mpr hp)]
      refine Ok_some ?_
      rw [hdt]
      simp only [dt, if_pos hp]
      exact lI_0.symm
    · simp only [g_TreeCount_determinant_5, if_neg hle, gd_nI (show k < 10 by omega) (by decide), nI_clamp (show k < 2 ^ 31 by omega), bn, hm' k k hks hks, if_neg (fun q => hp (hz.mp q)), nI_1]
      have hdt2 : dt M 1 0 s = dt (el M' b k) (M' k k) (k + 1) d := by rw [hdt]; simp only [dt, if_neg hp]
      have hG2 := GM_step hG' hks hp
      refine Ok_lo5 (fun d2 v2 v4 v5 v7 m => ∃ r, v2 = lI b ∧ v4 = nI k ∧ v5 = lI (M' k k) ∧ v7 = nI r ∧ k + 1 ≤ r ∧ r + d2 = s ∧ (∀ i j, i < s → j < s → m i j = lI (if i < r then el M' b k i j else M' i j))) ?_ d N _ _ _ _ _ (by omega) ⟨k + 1, rfl, rfl, rfl, rfl, by omega, by omega, fun i j hi hj => ?_⟩
      · rintro k38 d2 v2 v4 v5 v7 m2 ⟨r, rfl, rfl, rfl, rfl, hkr, hd2, hm2⟩ hk38
        by_cases hr : r = s
        · subst hr
          have hle2 : nI r ≤ nI r := nI_le (Nat.le_refl _) (by omega)
          simp only [g_TreeCount_determinant_38, if_pos hle2, bn, nI_1]
          refine hk5 d _ _ _ (by omega) ⟨k + 1, M' k k, el M' b k, rfl, rfl, by omega, hG2, fun i j hi hj => ?_, hdt2⟩
          rw [hm2 i j hi hj, if_pos hi]
        · have hrs : r < s := by omega
          have hle2 : ¬ nI s ≤ nI r := nI_ge hrs (by omega)
          simp only [g_TreeCount_determinant_38, if_neg hle2, bn, nI_1]
          refine Ok_lo6 (fun d3 v2 v4 v5 v7 v8 m => ∃ c, v2 = lI b ∧ v4 = nI k ∧ v5 = lI (M' k k) ∧ v7 = nI r ∧ v8 = nI c ∧ k + 1 ≤ c ∧ c + d3 = s ∧ (∀ i j, i < s → j < s → m i j = lI (if i < r ∨ (i = r ∧ j < c) then el M' b k i j else M' i j))) ?_ d N _ _ _ _ _ _ (by omega) ⟨k + 1, rfl, rfl, rfl, rfl, rfl, by omega, by omega, fun i j hi hj => ?_⟩
          · rintro k50 d3 v2 v4 v5 v7 v8 m3 ⟨c, rfl, rfl, rfl, rfl, rfl, hkc, hd3, hm3⟩ hk50
            by_cases hc : c = s
            · subst hc
              have hle3 : nI c ≤ nI c := nI_le (Nat.le_refl _) (by omega)
              simp only [g_TreeCount_determinant_50, if_pos hle3, bn, nI_1]
              refine hk38 (d2 - 1) _ _ _ _ _ (by omega) ⟨r + 1, rfl, rfl, rfl, rfl, by omega, by omega, fun i j hi hj => ?_⟩
              rw [hm3 i j hi hj]
              congr 1
              by_cases h : i < r + 1
              · rw [if_pos h, if_pos (by omega)]
              · rw [if_neg h, if_neg (by omega)]
            · have hcs : c < s := by omega
              have hle3 : ¬ nI s ≤ nI c := nI_ge hcs (by omega)
              have e1 : m3 r c = lI (M' r c) := by rw [hm3 r c hrs hcs, if_neg (by omega)]
              have e2 : m3 r k = lI (M' r k) := by
                rw [hm3 r k hrs hks, if_pos (by omega)]
                unfold el
                rw [if_neg (by omega)]
              have e3 : m3 k c = lI (M' k c) := by
                rw [hm3 k c hks hcs, if_pos (by omega)]
                unfold el
                rw [if_neg (by omega)]
              have room := GM_room hG' hs hD (show k < r by omega) hrs (show k < c by omega) hcs
              have hnz : nzL (lI b) = true := nzL_of (fun q => by have := (lI_z (by omega) (by omega)).mp q; omega)
              simp only [g_TreeCount_determinant_50, if_neg hle3, gd_nI (show r < 10 by omega) (by decide), gd_nI (show c < 10 by omega) (by decide), gd_nI (show k < 10 by omega) (by decide), nI_clamp (show k < 2 ^ 31 by omega), nI_clamp (show r < 2 ^ 31 by omega), nI_clamp (show c < 2 ^ 31 by omega), gd_of hnz, bn, nI_1, e1, e2, e3, lI_step room.1 room.2 hb0 hbb]
              refine hk50 (d3 - 1) _ _ _ _ _ _ (by omega) ⟨c + 1, rfl, rfl, rfl, rfl, rfl, by omega, by omega, fun i j hi hj => ?_⟩
              rw [upGL_at]
              by_cases h : i = r ∧ j = c
              · rw [if_pos h, if_pos (by omega), h.1, h.2]
                unfold el
                rw [if_pos (by omega)]
              · rw [if_neg h, hm3 i j hi hj]
                congr 1
                by_cases h2 : i < r ∨ (i = r ∧ j < c)
                · rw [if_pos h2, if_pos (by omega)]
                · rw [if_neg h2, if_neg (by omega)]
          · rw [hm2 i j hi hj]
            congr 1
            by_cases h : i < r
            · rw [if_pos h, if_pos (by omega)]
            · rw [if_neg h]
              by_cases h2 : i < r ∨ (i = r ∧ j < k + 1)
              · rw [if_pos h2]
                unfold el
                rw [if_neg (by omega)]
              · rw [if_neg h2]
      · rw [hm' i j hi hj]
        congr 1
        by_cases h : i < k + 1
        · rw [if_pos h]
          unfold el
          rw [if_neg (by omega)]
        · rw [if_neg h]
theorem ix10 (i j : Nat) : (10 : Int32) * nI i + nI j = nI (10 * i + j) := by
  have e : (10 : Int32) = Int32.ofNat 10 := rfl
  unfold nI
  rw [e, ← Int32.ofNat_mul, ← Int32.ofNat_add]
theorem detM {N s : Nat} {D : Nat → Nat} {M : Nat → Nat → Int} {mt : Nat → Int64} (hN : 100 ≤ N) (hs : s ≤ 10) (hD : sN D s ≤ 60) (hG : GM D s M 1 0) (hm : ∀ i j, i < s → j < s → mt (10 * i + j) = lI (M i j)) : Ok (f_Mo_determinant N (nI s) mt) (fun r => r.1 = lI (dt M 1 0 s)) := by
  refine Ok_lo4 (fun d v2 v4 v6 m => ∃ (k : Nat) (b : Int) (M' : Nat → Nat → Int), v2 = lI b ∧ v4 = 1 ∧ v6 = nI k ∧ k + d = s ∧ GM D s M' b k ∧ (∀ i j, i < s → j < s → m (10 * i + j) = lI (M' i j)) ∧ dt M 1 0 s = dt M' b k d) ?_ s N _ _ _ _ (by omega) ⟨0, 1, M, lI_1.symm, rfl, rfl, by omega, hG, hm, rfl⟩
  rintro k8 d v2 v4 v6 m ⟨k, b, M', rfl, rfl, rfl, hd, hG', hm', hdt⟩ hk8
  cases d with
  | zero =>
    have e : k = s := by omega
    subst e
    have hle : nI k ≤ nI k := nI_le (Nat.le_refl _) (by omega)
    simp only [g_Mo_determinant_8, if_pos hle, Int64.one_mul]
    exact Ok_some (by rw [hdt]; rfl)
  | succ d =>
    have hks : k < s := by omega
    have hle : ¬ nI s ≤ nI k := nI_ge hks (by omega)
    have dk := GM_dg hG' (Nat.le_refl k) hks
    have bk := GM_e hG' hs hD (Nat.le_refl k) hks
    have hbb := GM_b hG' hs hD (show k ≤ s by omega)
    have hb0 := hG'.1
    have hz : lg_cmp (lI (M' k k)) 0 = 0 ↔ M' k k = 0 := by rw [lg_cmp_eq, lI_z (by omega) (by omega)]
    simp only [g_Mo_determinant_8, if_neg hle]
    by_cases hp : M' k k = 0
    · refine Ok_lo5 (fun d2 v2 v4 v6 v7 m2 => ∃ p, v6 = nI k ∧ v7 = nI p ∧ k ≤ p ∧ p + d2 = s ∧ m2 = m) ?_ (d + 1) N _ _ _ _ _ (by omega) ⟨k, rfl, rfl, Nat.le_refl _, by omega, rfl⟩
      rintro k18 d2 v2 v4 v6 v7 m2 ⟨p, rfl, rfl, hkp, hd2, rfl⟩ hk18
      by_cases hps : p = s
      · subst hps
        have hle2 : nI p ≤ nI p := nI_le (Nat.le_refl _) (by omega)
        simp only [g_Mo_determinant_18, if_pos hle2, g_Mo_determinant_48, if_pos]
        refine Ok_some ?_
        rw [hdt]
        simp only [dt, if_pos hp]
        exact lI_0.symm
      · have hps2 : p < s := by omega
        have hle2 : ¬ nI s ≤ nI p := nI_ge hps2 (by omega)
        have hzz : lg_cmp (m2 (10 * p + k)) 0 = 0 := by rw [lg_cmp_eq, hm' p k hps2 hks, GM_zero hG' hp hkp hps2]; exact lI_0
        simp only [g_Mo_determinant_18, if_neg hle2, ix10, gd_nI (show 10 * p + k < 100 by omega) (by decide), nI_clamp (show 10 * p + k < 2 ^ 31 by omega), if_pos hzz, bn, nI_1]
        exact hk18 (d2 - 1) _ _ _ _ _ (by omega) ⟨p + 1, rfl, rfl, by omega, by omega, rfl⟩
    · have hdt2 : dt M 1 0 s = dt (el M' b k) (M' k k) (k + 1) d := by rw [hdt]; simp only [dt, if_neg hp]
      have hG2 := GM_step hG' hks hp
      have hzz : ¬ lg_cmp (m (10 * k + k)) 0 = 0 := by rw [hm' k k hks hks]; exact fun q => hp (hz.mp q)
      have hne : ¬ nI k = nI s := fun q => by have := (nI_eq (by omega) (by omega)).mp q; omega
      obtain ⟨N', rfl⟩ : ∃ N', N = N' + 1 := ⟨N - 1, by omega⟩
      show Ok (g_Mo_determinant_18 (N' + 1) (nI s) k8 (lo5 (g_Mo_determinant_18 (N' + 1) (nI s) k8) N') (lI b) 1 (nI k) (nI k) m) _
      simp only [g_Mo_determinant_18, if_neg hle, ix10, gd_nI (show 10 * k + k < 100 by omega) (by decide), nI_clamp (show 10 * k + k < 2 ^ 31 by omega), if_neg hzz, g_Mo_determinant_48, if_neg hne, if_pos, bn, nI_1]
      refine Ok_lo5 (fun d2 v2 v4 v6 v8 m => ∃ r, v2 = lI b ∧ v4 = 1 ∧ v6 = nI k ∧ v8 = nI r ∧ k + 1 ≤ r ∧ r + d2 = s ∧ (∀ i j, i < s → j < s → m (10 * i + j) = lI (if i < r then el M' b k i j else M' i j))) ?_ d (N' + 1) _ _ _ _ _ (by omega) ⟨k + 1, rfl, rfl, rfl, rfl, by omega, by omega, fun i j hi hj => ?_⟩
      · rintro k145 d2 v2 v4 v6 v8 m2 ⟨r, rfl, rfl, rfl, rfl, hkr, hd2, hm2⟩ hk145
        by_cases hr : r = s
        · subst hr
          have hle2 : nI r ≤ nI r := nI_le (Nat.le_refl _) (by omega)
          have ekk : m2 (10 * k + k) = lI (M' k k) := by
            rw [hm2 k k hks hks, if_pos hks]
            unfold el
            rw [if_neg (by omega)]
          simp only [g_Mo_determinant_145, if_pos hle2, ix10, gd_nI (show 10 * k + k < 100 by omega) (by decide), nI_clamp (show 10 * k + k < 2 ^ 31 by omega), bn, nI_1, ekk]
          refine hk8 d _ _ _ _ (by omega) ⟨k + 1, M' k k, el M' b k, rfl, rfl, rfl, by omega, hG2, fun i j hi hj => ?_, hdt2⟩
          rw [hm2 i j hi hj, if_pos hi]
        · have hrs : r < s := by omega
          have hle2 : ¬ nI s ≤ nI r := nI_ge hrs (by omega)
          simp only [g_Mo_determinant_145, if_neg hle2, bn, nI_1]
          refine Ok_lo6 (fun d3 v2 v4 v6 v8 v9 m => ∃ c, v2 = lI b ∧ v4 = 1 ∧ v6 = nI k ∧ v8 = nI r ∧ v9 = nI c ∧ k + 1 ≤ c ∧ c + d3 = s ∧ (∀ i j, i < s → j < s → m (10 * i + j) = lI (if i < r ∨ (i = r ∧ j < c) then el M' b k i j else M' i j))) ?_ d (N' + 1) _ _ _ _ _ _ (by omega) ⟨k + 1, rfl, rfl, rfl, rfl, rfl, by omega, by omega, fun i j hi hj => ?_⟩
          · rintro k157 d3 v2 v4 v6 v8 v9 m3 ⟨c, rfl, rfl, rfl, rfl, rfl, hkc, hd3, hm3⟩ hk157
            by_cases hc : c = s
            · subst hc
              have hle3 : nI c ≤ nI c := nI_le (Nat.le_refl _) (by omega)
              simp only [g_Mo_determinant_157, if_pos hle3, bn, nI_1]
              refine hk145 (d2 - 1) _ _ _ _ _ (by omega) ⟨r + 1, rfl, rfl, rfl, rfl, by omega, by omega, fun i j hi hj => ?_⟩
              rw [hm3 i j hi hj]
              congr 1
              by_cases h : i < r + 1
              · rw [if_pos h, if_pos (by omega)]
              · rw [if_neg h, if_neg (by omega)]
            · have hcs : c < s := by omega
              have hle3 : ¬ nI s ≤ nI c := nI_ge hcs (by omega)
              have e1 : m3 (10 * r + c) = lI (M' r c) := by rw [hm3 r c hrs hcs, if_neg (by omega)]
              have e2 : m3 (10 * r + k) = lI (M' r k) := by
                rw [hm3 r k hrs hks, if_pos (by omega)]
                unfold el
                rw [if_neg (by omega)]
              have e3 : m3 (10 * k + c) = lI (M' k c) := by
                rw [hm3 k c hks hcs, if_pos (by omega)]
                unfold el
                rw [if_neg (by omega)]
              have e4 : m3 (10 * k + k) = lI (M' k k) := by
                rw [hm3 k k hks hks, if_pos (by omega)]
                unfold el
                rw [if_neg (by omega)]
              have room := GM_room hG' hs hD (show k < r by omega) hrs (show k < c by omega) hcs
              have hnz : nzL (lI b) = true := nzL_of (fun q => by have := (lI_z (by omega) (by omega)).mp q; omega)
              simp only [g_Mo_determinant_157, if_neg hle3, ix10, gd_nI (show 10 * r + c < 100 by omega) (by decide), gd_nI (show 10 * k + k < 100 by omega) (by decide), gd_nI (show 10 * r + k < 100 by omega) (by decide), gd_nI (show 10 * k + c < 100 by omega) (by decide), nI_clamp (show 10 * r + c < 2 ^ 31 by omega), nI_clamp (show 10 * k + k < 2 ^ 31 by omega), nI_clamp (show 10 * r + k < 2 ^ 31 by omega), nI_clamp (show 10 * k + c < 2 ^ 31 by omega), gd_of hnz, bn, nI_1, e1, e2, e3, e4, lI_step room.1 room.2 hb0 hbb]
              refine hk157 (d3 - 1) _ _ _ _ _ _ (by omega) ⟨c + 1, rfl, rfl, rfl, rfl, rfl, by omega, by omega, fun i j hi hj => ?_⟩
              unfold vp_updL
              by_cases h : i = r ∧ j = c
              · rw [if_pos (by omega), if_pos (by omega), h.1, h.2]
                unfold el
                rw [if_pos (by omega)]
              · rw [if_neg (by omega), hm3 i j hi hj]
                congr 1
                by_cases h2 : i < r ∨ (i = r ∧ j < c)
                · rw [if_pos h2, if_pos (by omega)]
                · rw [if_neg h2, if_neg (by omega)]
          · rw [hm2 i j hi hj]
            congr 1
            by_cases h : i < r
            · rw [if_pos h, if_pos (by omega)]
            · rw [if_neg h]
              by_cases h2 : i < r ∨ (i = r ∧ j < k + 1)
              · rw [if_pos h2]
                unfold el
                rw [if_neg (by omega)]
              · rw [if_neg h2]
      · rw [hm' i j hi hj]
        congr 1
        by_cases h : i < k + 1
        · rw [if_pos h]
          unfold el
          rw [if_neg (by omega)]
        · rw [if_neg h]
