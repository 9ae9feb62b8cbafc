theorem upGL_tb {n B k0 v0 s0 x0 : Nat} {tb : Nat → Nat → Nat → Nat} {M : Nat → Nat → Int64} (hn : n ≤ 7) (hv0 : v0 < n) (h : TB n B tb M) (hx : x0 ≤ 2 ^ 60) : TB n B (fun k v t => if k = k0 ∧ v = v0 ∧ t = s0 then x0 else tb k v t) (upGL M (7 * k0 + v0) s0 (cN x0)) := by
  intro k v t hk hv ht
  rw [upGL_at]
  by_cases e : k = k0 ∧ v = v0 ∧ t = s0
  · obtain ⟨e1, e2, e3⟩ := e
    subst e1 e2 e3
    simp only [and_self, if_pos]
    exact ⟨trivial, hx⟩
  · rw [if_neg (fun h => e (by omega))]
    simp only [if_neg e]
    exact h k v t hk hv ht
theorem splitOff {N n B s v : Nat} {fr to w : Nat → Nat} {ord : List Nat} {M0 R : Nat → Nat → Int64} {tb : Nat → Nat → Nat → Nat} (hN : 100 ≤ N) (hn : n ≤ 7) (hB1 : 1 ≤ B) (hB : B < 7) (hs : s < 2 ^ (n - 1)) (hs0 : s ≠ 0) (hv : v < n) (hbv : bs s v = false) (hne : ∀ a, a ∈ ord → fr a ≠ to a) (hV : ∀ a, a ∈ ord → w a ≤ 1000) (hTB : TB n B tb M0)
    (hMi : ∀ k t, k ≤ B → t < s → bs t v = false → Mi (ce w) (Tr fr to n B ord v (bs t) k) (tb k v t)) (hst : ∀ k, k ≤ B → tb k v s = 2 ^ 60)
    (hON : ∀ t, 1 ≤ t → t ≤ s → ∃ x, R v t = cN x ∧ x ≤ 2 ^ 60 ∧ (bs t v = false → Mi (ce w) (Tr fr to n B ord v (bs t) 1) x)) :
    Ok (f_BoundedTrees_splitOffOne N (nI v) (nI s) (nI B) R M0) (fun M => ∃ tb', TB n B tb' M ∧ (∀ k v' t, v' ≠ v ∨ t ≠ s → tb' k v' t = tb k v' t) ∧ ∀ k, k ≤ B → Mi (ce w) (Tr fr to n B ord v (bs s) k) (tb' k v s)) := by
  have hs64 : s < 64 := Nat.lt_of_lt_of_le hs (Nat.pow_le_pow_right (n := 2) (i := n - 1) (j := 6) (by omega) (by omega))
  have hSn : ∀ u, bs s u = true → u < n := fun u hu => by have := bs_lt hs hu; omega
  obtain ⟨l, hl6, hl1, hl2⟩ := low_bit s hs64 hs0
  have hla : bs s (l + 1) = true := by simp [bs, hl2]
  have hp64 : 2 ^ l < 64 := pow64 hl6
  have hsd : ∀ o, bs (sd s o) = (fun u => bs s u && !bs o u) := fun o => by
    funext u
    exact bs_sd hs64
  simp only [f_BoundedTrees_splitOffOne, hl1, bn]
  refine Ok_lo3 (fun d v3 v4 M => ∃ o tb', o = d ∧ o ≤ s ∧ o &&& s = o ∧ v3 = nI (2 ^ l) ∧ v4 = nI o ∧ TB n B tb' M ∧ (∀ k v' t, (v' ≠ v ∨ t ≠ s) ∨ k = 0 → tb' k v' t = tb k v' t) ∧ ∀ k, 1 ≤ k → k ≤ B → (∀ x T1 T2, o < x → x < 64 → x &&& s = x → x.testBit l = true → Tr fr to n B ord v (bs x) 1 T1 → Tr fr to n B ord v (bs (sd s x)) (k - 1) T2 → tb' k v s ≤ lsum (ce w) T1 + lsum (ce w) T2) ∧ (tb' k v s = 2 ^ 60 ∨ ∃ T, Tr fr to n B ord v (bs s) k T ∧ lsum (ce w) T = tb' k v s)) ?_ s N _ _ _ (by omega) ⟨s, tb, rfl, Nat.le_refl _, Nat.and_self s, rfl, rfl, hTB, fun _ _ _ _ => rfl, fun k _ hk => ⟨fun x T1 T2 hx _ hxs => ?_, Or.inl (hst k hk)⟩⟩
  · rintro kk d v3 v4 M ⟨o, tb', rfl, hos, hsub, rfl, rfl, hTB', hkeep, hacc⟩ hkk
    have ho64 : o < 64 := by omega
    by_cases ho0 : o = 0
    · have hle : nI o ≤ 0 := by rw [ho0]; decide
      simp only [g_BoundedTrees_splitOffOne_8, if_pos hle]
      refine Ok_some ⟨tb', hTB', fun k v' t h => hkeep k v' t (Or.inl h), fun k hk => ?_⟩
      by_cases hk0 : k = 0
      · subst hk0
        refine Or.inl ⟨by rw [hkeep 0 v s (Or.inr rfl)]; exact hst 0 (by omega), fun T hT => ?_⟩
        have := (Tr_split (c := ce w) hne hSn hv hbv hla hT).1
        omega
      · obtain ⟨hlow, hatt⟩ := hacc k (by omega) hk
        have hTo : ∀ T, Tr fr to n B ord v (bs s) k T → tb' k v s ≤ lsum (ce w) T := by
          intro T hT
          obtain ⟨-, one, T1, T2, t1, t2, t3, t4, t5⟩ := Tr_split (c := ce w) hne hSn hv hbv hla hT
          obtain ⟨x, x1, x2, x3⟩ := mask_of hs64 t1
          rw [← x2] at t2 t3 t4
          rw [← hsd x] at t4
          have hxl : x.testBit l = true := by simpa [bs] using t2
          have hx0 : 0 < x := by
            apply Classical.byContradiction
            intro h
            have e : x = 0 := by omega
            rw [e] at hxl
            simp at hxl
          have := hlow x T1 T2 (by omega) x1 x3 hxl t3 t4
          omega
        rcases hatt with h | ⟨T, t1, t2⟩
        · refine Or.inl ⟨h, fun T hT => ?_⟩
          have g1 := hTo T hT
          have g2 := Tr_small hn hV hT
          omega
        · have g2 := Tr_small hn hV t1
          exact Or.inr ⟨by omega, ⟨T, t1, t2⟩, hTo⟩
    · have hle : ¬ nI o ≤ 0 := nI_ge (a := 0) (by omega) (by omega)
      have hnx := sub_n3 s hs64 o ho64 hsub ho0
      -- the next one
      have hnext : ∀ M2 tb2, TB n B tb2 M2 → (∀ k v' t, (v' ≠ v ∨ t ≠ s) ∨ k = 0 → tb2 k v' t = tb k v' t) → (∀ k, 1 ≤ k → k ≤ B → (∀ x T1 T2, o ≤ x → x < 64 → x &&& s = x → x.testBit l = true → Tr fr to n B ord v (bs x) 1 T1 → Tr fr to n B ord v (bs (sd s x)) (k - 1) T2 → tb2 k v s ≤ lsum (ce w) T1 + lsum (ce w) T2) ∧ (tb2 k v s = 2 ^ 60 ∨ ∃ T, Tr fr to n B ord v (bs s) k T ∧ lsum (ce w) T = tb2 k v s)) → Ok (g_BoundedTrees_splitOffOne_121 (nI s) kk (nI (2 ^ l)) (nI o) M2) (fun M => ∃ tb', TB n B tb' M ∧ (∀ k v' t, v' ≠ v ∨ t ≠ s → tb' k v' t = tb k v' t) ∧ ∀ k, k ≤ B → Mi (ce w) (Tr fr to n B ord v (bs s) k) (tb' k v s)) := by
        intro M2 tb2 h1 h2 h3
        simp only [g_BoundedTrees_splitOffOne_121, bn, sub_n1 s hs64 o ho64 hsub ho0]
        refine hkk ((o - 1) &&& s) _ _ _ hnx ⟨(o - 1) &&& s, tb2, rfl, by omega, sub_n2 s hs64 o ho64 hsub ho0, rfl, rfl, h1, h2, fun k hk1 hk2 => ⟨fun x T1 T2 hx hx64 hxs => ?_, (h3 k hk1 hk2).2⟩⟩
        refine (h3 k hk1 hk2).1 x T1 T2 ?_ hx64 hxs
        apply Classical.byContradiction
        intro hn2
        have := sub_n4 hs64 ho64 hsub (show x < o by omega) hxs
        omega
      simp only [g_BoundedTrees_splitOffOne_8, if_neg hle]
      by_cases hbl : o.testBit l = true
      · have hc : ¬ (nI o &&& nI (2 ^ l)) = 0 := fun h => by rw [(has_low o ho64 l hl6).mp h] at hbl; cases hbl
        rw [if_neg hc]
        obtain ⟨xo, r1, r2, r3⟩ := hON o (by omega) hos
        have hbo : bs o v = false := by
          cases g : bs o v with
          | false => rfl
          | true => have := bs_sub hsub g; rw [hbv] at this; cases this
        simp only [gd_nI (show v < 7 by omega) (by decide), gd_nI ho64 (by decide), nI_clamp (show v < 2 ^ 31 by omega), nI_clamp (show o < 2 ^ 31 by omega), r1]
        rcases r3 hbo with ⟨q1, q2⟩ | ⟨q1, ⟨To, to1, to2⟩, q3⟩
        · have hcmp : 0 ≤ lg_cmp (cN xo) (1152921504606846976 : Int64) := by
            rw [lg_cmp_ge, cN_60, cN_le (by omega) (by omega)]
            omega
          rw [if_pos hcmp]
          refine hnext M tb' hTB' hkeep (fun k hk1 hk2 => ⟨fun x T1 T2 hx hx64 hxs hxl h1 h2 => ?_, (hacc k hk1 hk2).2⟩)
          by_cases e : x = o
          · subst e; exact absurd h1 (q2 T1)
          · exact (hacc k hk1 hk2).1 x T1 T2 (by omega) hx64 hxs hxl h1 h2
        · have hcmp : ¬ 0 ≤ lg_cmp (cN xo) (1152921504606846976 : Int64) := by
            rw [lg_cmp_ge, cN_60, cN_le (by omega) (by omega)]
            omega
          rw [if_neg hcmp]
          have hsdl := sd_lt s hs64 o ho64 hsub ho0
          have hbsd : bs (sd s o) v = false := by rw [hsd o]; simp [hbv]
          refine Ok_lo4 (fun d v3 v4 v5 M => ∃ j tb2, j + d = B + 1 ∧ 1 ≤ j ∧ v3 = nI (2 ^ l) ∧ v4 = nI o ∧ v5 = nI j ∧ TB n B tb2 M ∧ (∀ k v' t, (v' ≠ v ∨ t ≠ s) ∨ k = 0 → tb2 k v' t = tb k v' t) ∧ (∀ k, 1 ≤ k → k ≤ B → (∀ x T1 T2, (o < x ∨ (x = o ∧ k < j)) → x < 64 → x &&& s = x → x.testBit l = true → Tr fr to n B ord v (bs x) 1 T1 → Tr fr to n B ord v (bs (sd s x)) (k - 1) T2 → tb2 k v s ≤ lsum (ce w) T1 + lsum (ce w) T2) ∧ (tb2 k v s = 2 ^ 60 ∨ ∃ T, Tr fr to n B ord v (bs s) k T ∧ lsum (ce w) T = tb2 k v s))) ?_ B N _ _ _ _ (by omega) ⟨1, tb', by omega, Nat.le_refl _, rfl, rfl, rfl, hTB', hkeep, fun k hk1 hk2 => ⟨fun x T1 T2 hx => (hacc k hk1 hk2).1 x T1 T2 (by omega), (hacc k hk1 hk2).2⟩⟩
          rintro kk2 d2 v3 v4 v5 M2 ⟨j, tb2, hd2, hj1, rfl, rfl, rfl, hTB2, hkeep2, hacc2⟩ hkk2
          by_cases hj : j = B + 1
          · have hlt : nI B < nI j := nI_lt (by omega) (by omega)
            simp only [g_BoundedTrees_splitOffOne_39, if_pos hlt]
            refine hnext M2 tb2 hTB2 hkeep2 (fun k hk1 hk2 => ⟨fun x T1 T2 hx => (hacc2 k hk1 hk2).1 x T1 T2 (by omega), (hacc2 k hk1 hk2).2⟩)
          · have hjB : j ≤ B := by omega
            have hlt : ¬ nI B < nI j := nI_nlt (by omega) (by omega)
            have e1 : nI j - (1 : Int32) = nI (j - 1) := nI_sub1 hj1
            obtain ⟨c1, c2⟩ := hTB2 (j - 1) v (sd s o) (by omega) hv (by omega)
            obtain ⟨c3, c4⟩ := hTB2 j v s hjB hv hs64
            have hy := hMi (j - 1) (sd s o) (by omega) hsdl hbsd
            have hyk := hkeep2 (j - 1) v (sd s o) (Or.inl (Or.inr (by omega)))
            rw [← hyk] at hy
            simp only [g_BoundedTrees_splitOffOne_39, if_neg hlt, e1, row_v (j - 1) (by omega) v (by omega), row_v j (by omega) v (by omega), bk1, bn, sd_nI s hs64 o ho64, gd_nI (show v < 7 by omega) (by decide), gd_nI ho64 (by decide), gd_nI hs64 (by decide), gd_nI (show 7 * (j - 1) + v < 49 by omega) (by decide), gd_nI (show 7 * j + v < 49 by omega) (by decide), gd_nI (show sd s o < 64 by omega) (by decide), nI_clamp (show v < 2 ^ 31 by omega), nI_clamp (show o < 2 ^ 31 by omega), nI_clamp (show s < 2 ^ 31 by omega), nI_clamp (show 7 * (j - 1) + v < 2 ^ 31 by omega), nI_clamp (show 7 * j + v < 2 ^ 31 by omega), nI_clamp (show sd s o < 2 ^ 31 by omega), r1, c1, c3, cN_add, cN_min (show xo + tb2 (j - 1) v (sd s o) < 2 ^ 63 by omega) (show tb2 j v s < 2 ^ 63 by omega), nI_1]
            refine hkk2 (d2 - 1) _ _ _ _ (by omega) ⟨j + 1, (fun k v' t => if k = j ∧ v' = v ∧ t = s then min (tb2 j v s) (xo + tb2 (j - 1) v (sd s o)) else tb2 k v' t), by omega, by omega, rfl, rfl, rfl, upGL_tb hn hv hTB2 (by omega), fun k v' t h => ?_, fun k hk1 hk2 => ?_⟩
            · show (if k = j ∧ v' = v ∧ t = s then _ else tb2 k v' t) = _
              rw [if_neg (by omega)]
              exact hkeep2 k v' t h
            · obtain ⟨hlow, hatt⟩ := hacc2 k hk1 hk2
              by_cases ek : k = j
              · subst ek
                simp only [and_self, if_pos]
                constructor
                · intro x T1 T2 hx hx64 hxs hxl h1 h2
                  by_cases e : x = o
                  · subst e
                    have g1 := q3 T1 h1
                    rcases hy with ⟨y1, y2⟩ | ⟨y1, y2, y3⟩
                    · exact absurd h2 (y2 T2)
                    · have := y3 T2 h2
                      omega
                  · have := hlow x T1 T2 (by omega) hx64 hxs hxl h1 h2
                    omega
                · by_cases hmin : tb2 k v s ≤ xo + tb2 (k - 1) v (sd s o)
                  · rw [Nat.min_eq_left hmin]; exact hatt
                  · rw [Nat.min_eq_right (by omega)]
                    rcases hy with ⟨y1, y2⟩ | ⟨y1, ⟨T2, y2, y3⟩, -⟩
                    · omega
                    · rw [hsd o] at y2
                      have hJ := Tr_join hne hbv (fun u hu => bs_sub hsub hu) to1 y2
                      have e3 : 1 + (k - 1) = k := by omega
                      rw [e3] at hJ
                      exact Or.inr ⟨To ++ T2, hJ, by rw [lsum_app, to2, y3]⟩
              · have e3 : ¬ (k = j ∧ v = v ∧ s = s) := fun h => ek h.1
                constructor
                · intro x T1 T2 hx hx64 hxs hxl h1 h2
                  show (if k = j ∧ v = v ∧ s = s then _ else tb2 k v s) ≤ _
                  rw [if_neg e3]
                  exact hlow x T1 T2 (by omega) hx64 hxs hxl h1 h2
                · show (if k = j ∧ v = v ∧ s = s then _ else tb2 k v s) = _ ∨ ∃ T, _ ∧ _ = (if k = j ∧ v = v ∧ s = s then _ else tb2 k v s)
                  rw [if_neg e3]
                  exact hatt
      · have hbl2 : o.testBit l = false := by
          cases g : o.testBit l with
          | false => rfl
          | true => exact absurd g hbl
        rw [if_pos ((has_low o ho64 l hl6).mpr hbl2)]
        refine hnext M tb' hTB' hkeep (fun k hk1 hk2 => ⟨fun x T1 T2 hx hx64 hxs hxl h1 h2 => ?_, (hacc k hk1 hk2).2⟩)
        by_cases e : x = o
        · subst e; exact absurd hxl hbl
        · exact (hacc k hk1 hk2).1 x T1 T2 (by omega) hx64 hxs hxl h1 h2
  · have := Nat.and_le_right (n := x) (m := s)
    omega
