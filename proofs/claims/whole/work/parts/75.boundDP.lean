theorem low_bit : ∀ s, s < 64 → s ≠ 0 → ∃ l, l < 6 ∧ nI s &&& (-nI s) = nI (2 ^ l) ∧ s.testBit l = true := by decide +kernel
theorem has_low : ∀ o, o < 64 → ∀ l, l < 6 → ((nI o &&& nI (2 ^ l)) = 0 ↔ o.testBit l = false) := by decide +kernel
theorem sub_n1 : ∀ s, s < 64 → ∀ o, o < 64 → o &&& s = o → o ≠ 0 → (nI o - (1 : Int32)) &&& nI s = nI ((o - 1) &&& s) := by decide +kernel
theorem sub_n2 : ∀ s, s < 64 → ∀ o, o < 64 → o &&& s = o → o ≠ 0 → ((o - 1) &&& s) &&& s = ((o - 1) &&& s) := by decide +kernel
theorem sub_n3 : ∀ s, s < 64 → ∀ o, o < 64 → o &&& s = o → o ≠ 0 → (o - 1) &&& s < o := by decide +kernel
def snx (s o : Nat) : Bool := (List.range o).all (fun x => !(x &&& s == x) || decide (x ≤ (o - 1) &&& s))
theorem sub_n5 : ∀ s, s < 64 → ∀ o, o < 64 → o &&& s = o → snx s o = true := by decide +kernel
theorem sub_n4 {s o x : Nat} (hs : s < 64) (ho : o < 64) (h : o &&& s = o) (hx : x < o) (hxs : x &&& s = x) : x ≤ (o - 1) &&& s := by
  have h1 := sub_n5 s hs o ho h
  unfold snx at h1
  rw [List.all_eq_true] at h1
  have h2 := h1 x (List.mem_range.mpr hx)
  rw [hxs] at h2
  simpa using h2
theorem mask_of {s : Nat} (hs : s < 64) {one : Nat → Bool} (h : ∀ u, one u = true → bs s u = true) : ∃ o, o < 64 ∧ bs o = one ∧ o &&& s = o := by
  obtain ⟨o, o1, o2⟩ := num_of 6 (fun i => one (i + 1))
  have hb : bs o = one := by
    funext u
    unfold bs
    by_cases h0 : 0 < u
    · simp only [h0, decide_true, Bool.true_and]
      by_cases h6 : u - 1 < 6
      · rw [o2 (u - 1) h6]
        show one (u - 1 + 1) = one u
        rw [Nat.sub_add_cancel h0]
      · have h1 : o < 2 ^ (u - 1) := Nat.lt_of_lt_of_le o1 (Nat.pow_le_pow_right (by omega) (by omega))
        rw [Nat.testBit_lt_two_pow h1]
        cases hu : one u with
        | false => rfl
        | true =>
          have := bs_lt (m := 6) hs (h u hu)
          omega
    · have e : u = 0 := by omega
      subst e
      cases hu : one 0 with
      | false => simp
      | true =>
        have := h 0 hu
        rw [bs_zero] at this
        cases this
  refine ⟨o, o1, hb, ?_⟩
  apply Nat.eq_of_testBit_eq
  intro i
  rw [Nat.testBit_and]
  cases hi : o.testBit i with
  | false => simp
  | true =>
    have h1 : bs o (i + 1) = true := by simp [bs, hi]
    rw [hb] at h1
    have h2 := h (i + 1) h1
    simp [bs] at h2
    rw [h2]; rfl
theorem bs_ex {s : Nat} (h : s ≠ 0) : ∃ u, bs s u = true := by
  apply Classical.byContradiction
  intro hn
  apply h
  apply Nat.eq_of_testBit_eq
  intro i
  rw [Nat.zero_testBit]
  cases hi : s.testBit i with
  | false => rfl
  | true => exact absurd ⟨i + 1, by simp [bs, hi]⟩ hn
theorem bs_sub {o s u : Nat} (h : o &&& s = o) (hu : bs o u = true) : bs s u = true := by
  unfold bs at *
  simp only [Bool.and_eq_true, decide_eq_true_eq] at *
  refine ⟨hu.1, ?_⟩
  have := hu.2
  rw [← h, Nat.testBit_and, Bool.and_eq_true] at this
  exact this.2
theorem Tr_small {fr to w : Nat → Nat} {n B k v : Nat} {ord : List Nat} {S : Nat → Bool} {T : List Nat} (hn : n ≤ 7) (hV : ∀ a, a ∈ ord → w a ≤ 1000) (h : Tr fr to n B ord v S k T) : lsum (ce w) T ≤ 2 ^ 48 := by
  have h1 := lsum_le (c := ce w) (B := 2 ^ 45) T (fun a ha => ce_le (hV a (h.2.1 a ha).1))
  have h2 := nbs_le S n
  rw [h.2.2.2.1] at h1
  have h3 : 2 ^ 45 * nbs S n ≤ 2 ^ 45 * 7 := Nat.mul_le_mul_left _ (by omega)
  omega
theorem oneBranch {N n B s : Nat} {fr to w : Nat → Nat} {ord : List Nat} {Mb M R0 : Nat → Nat → Int64} {tb : Nat → Nat → Nat → Nat} (hN : 100 ≤ N) (hn : n ≤ 7) (hB1 : 1 ≤ B) (hB : B < 7) (hs : s < 2 ^ (n - 1)) (hs0 : s ≠ 0) (hA : ∀ a, a ∈ ord → fr a < n ∧ to a < n) (hne : ∀ a, a ∈ ord → fr a ≠ to a) (hV : ∀ a, a ∈ ord → w a ≤ 1000) (hBI : BI fr to w n ord Mb) (hTB : TB n B tb M) (hMi : ∀ v t, v < n → t < s → bs t v = false → Mi (ce w) (Tr fr to n B ord v (bs t) (B - 1)) (tb (B - 1) v t)) :
    Ok (f_BoundedTrees_findOneBranch N (nI s) (nI n) (nI B) Mb M R0) (fun R => (∀ v t, t ≠ s → R v t = R0 v t) ∧ ∀ v, v < n → ∃ x, R v s = cN x ∧ x ≤ 2 ^ 60 ∧ (bs s v = false → Mi (ce w) (Tr fr to n B ord v (bs s) 1) x)) := by
  have hs64 : s < 64 := Nat.lt_of_lt_of_le hs (Nat.pow_le_pow_right (n := 2) (i := n - 1) (j := 6) (by omega) (by omega))
  have hn1 : 1 < n := by
    apply Classical.byContradiction
    intro h
    have : n - 1 = 0 := by omega
    rw [this] at hs
    omega
  have hSn : ∀ u, bs s u = true → u < n := fun u hu => by have := bs_lt hs hu; omega
  have hsd : ∀ top, 0 < top → bs (sd s (2 ^ (top - 1))) = (fun u => bs s u && !decide (u = top)) := fun top ht => by
    funext u
    rw [bs_sd hs64, bs_pow ht]
  have hb0 : ∀ top, top < 1 → ¬ bs s top = true := fun top ht hb => by
    have e : top = 0 := by omega
    rw [e, bs_zero] at hb
    cases hb
  unfold f_BoundedTrees_findOneBranch
  refine Ok_lo2 (fun d v2 R => ∃ i, i + d = n ∧ v2 = nI i ∧ (∀ v t, t ≠ s → R v t = R0 v t) ∧ ∀ v, v < i → ∃ x, R v s = cN x ∧ x ≤ 2 ^ 60 ∧ (bs s v = false → Mi (ce w) (Tr fr to n B ord v (bs s) 1) x)) ?_ n N _ _ (by omega) ⟨0, by omega, rfl, fun v t _ => rfl, fun v hv => absurd hv (Nat.not_lt_zero v)⟩
  rintro kk d v2 R ⟨i, hd, rfl, hR1, hR2⟩ hkk
  by_cases hi : i = n
  · have hle : nI n ≤ nI i := nI_le (by omega) (by omega)
    simp only [g_BoundedTrees_findOneBranch_2, if_pos hle]
    rw [hi] at hR2
    exact Ok_some ⟨hR1, hR2⟩
  · have hin : i < n := by omega
    have hle : ¬ nI n ≤ nI i := nI_ge hin (by omega)
    simp only [g_BoundedTrees_findOneBranch_2, if_neg hle]
    refine Ok_lo4 (fun d v2 v3 v5 R' => ∃ j x, j + d = n ∧ 1 ≤ j ∧ v2 = nI i ∧ v3 = cN x ∧ v5 = nI j ∧ R' = R ∧ x ≤ 2 ^ 60 ∧ (∀ top e T', top < j → bs s top = true → bs s i = false → e ∈ ord → mt2 fr to i top e → Tr fr to n B ord top (bs (sd s (2 ^ (top - 1)))) (B - 1) T' → x ≤ ce w e + lsum (ce w) T') ∧ (x = 2 ^ 60 ∨ (bs s i = false ∧ ∃ top e T', bs s top = true ∧ e ∈ ord ∧ mt2 fr to i top e ∧ Tr fr to n B ord top (bs (sd s (2 ^ (top - 1)))) (B - 1) T' ∧ x = ce w e + lsum (ce w) T'))) ?_ (n - 1) N _ _ _ _ (by omega) ⟨1, 2 ^ 60, by omega, Nat.le_refl _, rfl, cN_60, rfl, rfl, Nat.le_refl _, fun top e T' ht hb => absurd hb (hb0 top ht), Or.inl rfl⟩
    rintro kk2 d2 v2 v3 v5 R' ⟨j, x, hd2, hj1, rfl, rfl, rfl, rfl, hx60, hlow, hatt⟩ hkk2
    by_cases hj : j = n
    · have hle2 : nI n ≤ nI j := nI_le (by omega) (by omega)
      simp only [g_BoundedTrees_findOneBranch_17, if_pos hle2, gd_nI (show i < 7 by omega) (by decide), gd_nI hs64 (by decide), nI_clamp (show i < 2 ^ 31 by omega), nI_clamp (show s < 2 ^ 31 by omega), bn, nI_1]
      refine hkk (d - 1) _ _ (by omega) ⟨i + 1, by omega, rfl, fun v t ht => ?_, fun v hv => ?_⟩
      · rw [upGL_at, if_neg (fun h => ht h.2)]
        exact hR1 v t ht
      · rw [upGL_at]
        by_cases e : v = i
        · subst e
          rw [if_pos ⟨rfl, rfl⟩]
          refine ⟨x, rfl, hx60, fun hbv => ?_⟩
          obtain ⟨u0, hu0⟩ := bs_ex hs0
          have hTo : ∀ T, Tr fr to n B ord v (bs s) 1 T → x ≤ lsum (ce w) T := by
            intro T hT
            obtain ⟨top, a, T', t1, t2, t3, t4, t5⟩ := Tr_one (c := ce w) hne hSn hbv hu0 hT
            have ht0 : 0 < top := by
              apply Classical.byContradiction
              intro h
              have e0 : top = 0 := by omega
              rw [e0, bs_zero] at t1
              cases t1
            rw [← hsd top ht0] at t4
            have := hlow top a T' (by have := hSn top t1; omega) t1 hbv t2 t3 t4
            omega
          rcases hatt with h | ⟨-, top, e, T', t1, t2, t3, t4, t5⟩
          · refine Or.inl ⟨h, fun T hT => ?_⟩
            have g1 := hTo T hT
            have g2 := Tr_small hn hV hT
            omega
          · have ht0 : 0 < top := by
              apply Classical.byContradiction
              intro h
              have e0 : top = 0 := by omega
              rw [e0, bs_zero] at t1
              cases t1
            rw [hsd top ht0] at t4
            have hT := Tr_arc hB1 hSn hbv t1 t2 t3 t4
            have g2 := Tr_small hn hV hT
            have e3 : lsum (ce w) (e :: T') = x := t5.symm
            refine Or.inr ⟨by omega, ⟨e :: T', hT, e3⟩, hTo⟩
        · rw [if_neg (fun h => e h.1)]
          exact hR2 v (by omega)
    · have hjn : j < n := by omega
      have hle2 : ¬ nI n ≤ nI j := nI_ge hjn (by omega)
      have n1 : ¬ (1 : Int32) = 0 := by decide
      -- the node is passed over
      have hskip : ¬ (bs s j = true ∧ bs s i = false) → Ok (kk2 (nI i) (cN x) (nI (j + 1)) R') (fun R => (∀ v t, t ≠ s → R v t = R0 v t) ∧ ∀ v, v < n → ∃ x, R v s = cN x ∧ x ≤ 2 ^ 60 ∧ (bs s v = false → Mi (ce w) (Tr fr to n B ord v (bs s) 1) x)) := by
        intro hno
        refine hkk2 (d2 - 1) _ _ _ _ (by omega) ⟨j + 1, x, by omega, by omega, rfl, rfl, rfl, rfl, hx60, fun top e T' ht hb hbi => ?_, hatt⟩
        by_cases e1 : top = j
        · subst e1; exact absurd ⟨hb, hbi⟩ hno
        · exact hlow top e T' (by omega) hb hbi
      simp only [g_BoundedTrees_findOneBranch_17, if_neg hle2, isBelow_v j (by omega) s hs64, isBelow_v i (by omega) s hs64, bk1]
      cases hbj : bs s j with
      | false =>
        simp only [Bool.false_eq_true, if_false, if_pos, bn, nI_1]
        exact hskip (fun h => by rw [hbj] at h; cases h.1)
      | true =>
        simp only [if_pos, if_neg n1]
        cases hbi : bs s i with
        | true =>
          simp only [if_pos, if_neg n1, bn, nI_1]
          exact hskip (fun h => by rw [hbi] at h; cases h.2)
        | false =>
          simp only [Bool.false_eq_true, if_false, if_pos, bn]
          have hj0 : 0 < j := hj1
          have hp64 : 2 ^ (j - 1) < 64 := pow64 (by omega)
          have e1 : nI j - (1 : Int32) = nI (j - 1) := nI_sub1 hj0
          have e2 : nI B - (1 : Int32) = nI (B - 1) := nI_sub1 (by omega)
          have hosub : 2 ^ (j - 1) &&& s = 2 ^ (j - 1) := by
            apply Nat.eq_of_testBit_eq
            intro u
            rw [Nat.testBit_and, Nat.testBit_two_pow]
            by_cases g : j - 1 = u
            · subst g
              simp [bs] at hbj
              rw [hbj.2]; simp
            · simp [g]
          have hlt := sd_lt s hs64 (2 ^ (j - 1)) hp64 hosub (by have := Nat.pow_pos (n := j - 1) (show 0 < 2 by omega); omega)
          have hbsd : bs (sd s (2 ^ (j - 1))) j = false := by rw [hsd j hj0]; simp
          have hMij := hMi j (sd s (2 ^ (j - 1))) hjn hlt hbsd
          obtain ⟨c1, c2⟩ := hTB (B - 1) j (sd s (2 ^ (j - 1))) (by omega) hjn (by omega)
          obtain ⟨-, y, y1, y2, y3, y4⟩ := hBI i j hin hjn
          simp only [e1, e2, one_pow (j - 1) (by omega), sd_nI s hs64 (2 ^ (j - 1)) hp64, row_v (B - 1) (by omega) j (by omega), bk1, gd_nI (show i < 7 by omega) (by decide), gd_nI (show j < 7 by omega) (by decide), gd_nI (show 7 * (B - 1) + j < 49 by omega) (by decide), gd_nI (show sd s (2 ^ (j - 1)) < 64 by omega) (by decide), nI_clamp (show i < 2 ^ 31 by omega), nI_clamp (show j < 2 ^ 31 by omega), nI_clamp (show 7 * (B - 1) + j < 2 ^ 31 by omega), nI_clamp (show sd s (2 ^ (j - 1)) < 2 ^ 31 by omega), y1, c1, cN_add, cN_min (show y + tb (B - 1) j (sd s (2 ^ (j - 1))) < 2 ^ 63 by omega) (show x < 2 ^ 63 by omega), nI_1]
          refine hkk2 (d2 - 1) _ _ _ _ (by omega) ⟨j + 1, min x (y + tb (B - 1) j (sd s (2 ^ (j - 1)))), by omega, by omega, rfl, rfl, rfl, rfl, by omega, fun top e T' ht hb hbi' hem hmt hT' => ?_, ?_⟩
          · by_cases e3 : top = j
            · subst e3
              have g1 := y3 e hem hmt
              rcases hMij with ⟨q1, q2⟩ | ⟨q1, q2, q3⟩
              · exact absurd hT' (q2 T')
              · have := q3 T' hT'
                omega
            · have := hlow top e T' (by omega) hb hbi' hem hmt hT'
              omega
          · by_cases hmin : x ≤ y + tb (B - 1) j (sd s (2 ^ (j - 1)))
            · rw [Nat.min_eq_left hmin]
              rcases hatt with h | ⟨-, h⟩
              · exact Or.inl h
              · exact Or.inr ⟨hbi, h⟩
            · rw [Nat.min_eq_right (by omega)]
              rcases y4 with g | ⟨e, e3, e4, e5⟩
              · omega
              · rcases hMij with ⟨q1, q2⟩ | ⟨q1, ⟨T', t1, t2⟩, q3⟩
                · omega
                · exact Or.inr ⟨hbi, j, e, T', hbj, e3, e4, t1, by rw [e5, t2]⟩
