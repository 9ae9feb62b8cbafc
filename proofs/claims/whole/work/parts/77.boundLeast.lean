theorem findBranches {N n B s : Nat} {fr to w : Nat → Nat} {ord : List Nat} {M0 R : Nat → Nat → Int64} {tb : Nat → Nat → Nat → Nat} (hN : 100 ≤ N) (hn : n ≤ 7) (hB1 : 1 ≤ B) (hB : B < 7) (hs : s < 2 ^ (n - 1)) (hs0 : s ≠ 0) (hne : ∀ a, a ∈ ord → fr a ≠ to a) (hV : ∀ a, a ∈ ord → w a ≤ 1000) (hTB : TB n B tb M0)
    (hMi : ∀ k v t, k ≤ B → v < n → t < s → bs t v = false → Mi (ce w) (Tr fr to n B ord v (bs t) k) (tb k v t)) (hst : ∀ k v t, k ≤ B → v < n → s ≤ t → t < 64 → tb k v t = 2 ^ 60)
    (hON : ∀ v t, v < n → 1 ≤ t → t ≤ s → ∃ x, R v t = cN x ∧ x ≤ 2 ^ 60 ∧ (bs t v = false → Mi (ce w) (Tr fr to n B ord v (bs t) 1) x)) :
    Ok (f_BoundedTrees_findBranches N (nI s) (nI n) (nI B) R M0) (fun M => ∃ tb', TB n B tb' M ∧ (∀ k v t, k ≤ B → v < n → t < s + 1 → bs t v = false → Mi (ce w) (Tr fr to n B ord v (bs t) k) (tb' k v t)) ∧ ∀ k v t, k ≤ B → v < n → s + 1 ≤ t → t < 64 → tb' k v t = 2 ^ 60) := by
  have hs64 : s < 64 := Nat.lt_of_lt_of_le hs (Nat.pow_le_pow_right (n := 2) (i := n - 1) (j := 6) (by omega) (by omega))
  unfold f_BoundedTrees_findBranches
  refine Ok_lo2 (fun d v2 M => ∃ i tb', i + d = n ∧ v2 = nI i ∧ TB n B tb' M ∧ (∀ k v t, k ≤ B → v < n → t ≠ s → tb' k v t = tb k v t) ∧ (∀ k v, k ≤ B → i ≤ v → v < n → tb' k v s = 2 ^ 60) ∧ ∀ k v, k ≤ B → v < i → bs s v = false → Mi (ce w) (Tr fr to n B ord v (bs s) k) (tb' k v s)) ?_ n N _ _ (by omega) ⟨0, tb, by omega, rfl, hTB, fun _ _ _ _ _ _ => rfl, fun k v hk _ hv => hst k v s hk hv (Nat.le_refl _) hs64, fun k v _ hv => absurd hv (Nat.not_lt_zero v)⟩
  rintro kk d v2 M ⟨i, tb', hd, rfl, hTB', hkeep, hun, hdone⟩ hkk
  by_cases hi : i = n
  · have hle : nI n ≤ nI i := nI_le (by omega) (by omega)
    simp only [g_BoundedTrees_findBranches_2, if_pos hle]
    refine Ok_some ⟨tb', hTB', fun k v t hk hv ht hb => ?_, fun k v t hk hv h1 h2 => ?_⟩
    · by_cases e : t = s
      · subst e; exact hdone k v hk (by omega) hb
      · rw [hkeep k v t hk hv e]
        exact hMi k v t hk hv (by omega) hb
    · rw [hkeep k v t hk hv (by omega)]
      exact hst k v t hk hv (by omega) h2
  · have hin : i < n := by omega
    have hle : ¬ nI n ≤ nI i := nI_ge hin (by omega)
    have n1 : ¬ (1 : Int32) = 0 := by decide
    simp only [g_BoundedTrees_findBranches_2, if_neg hle, isBelow_v i (by omega) s hs64, bk1]
    cases hb : bs s i with
    | true =>
      simp only [if_pos, if_neg n1, bn, nI_1]
      refine hkk (d - 1) _ _ (by omega) ⟨i + 1, tb', by omega, rfl, hTB', hkeep, fun k v hk h1 h2 => hun k v hk (by omega) h2, fun k v hk h1 h2 => ?_⟩
      by_cases e : v = i
      · subst e; rw [hb] at h2; cases h2
      · exact hdone k v hk (by omega) h2
    | false =>
      simp only [Bool.false_eq_true, if_false, if_pos]
      refine Ok_bk1 (splitOff (tb := tb') hN hn hB1 hB hs hs0 hin hb hne hV hTB' (fun k t hk ht hbt => ?_) (fun k hk => hun k i hk (Nat.le_refl _) hin) (fun t h1 h2 => hON i t hin h1 h2)) ?_
      · rw [hkeep k i t hk hin (by omega)]
        exact hMi k i t hk hin ht hbt
      · rintro M2 ⟨tb2, q1, q2, q3⟩
        simp only [bn, nI_1]
        refine hkk (d - 1) _ _ (by omega) ⟨i + 1, tb2, by omega, rfl, q1, fun k v t hk hv ht => ?_, fun k v hk h1 h2 => ?_, fun k v hk h1 h2 => ?_⟩
        · rw [q2 k v t (Or.inr ht)]
          exact hkeep k v t hk hv ht
        · rw [q2 k v s (Or.inl (by omega))]
          exact hun k v hk (by omega) h2
        · by_cases e : v = i
          · subst e; exact q3 k hk
          · rw [q2 k v s (Or.inl e)]
            exact hdone k v hk (by omega) h2
theorem leastB {N n d : Nat} {fr to w : Nat → Nat} {ord : List Nat} {O F T V : Nat → Int32} {Mb0 M0 R0 : Nat → Nat → Int64} {b0 : Int32} (hN : 100 ≤ N) (hn : n ≤ 7) (hn2 : 2 ≤ n) (hd1 : 1 ≤ d) (hd9 : d ≤ 9) (hlen : ord.length ≤ 30) (hO : ∀ i, i < ord.length → O i = nI (ord.getD i 0)) (hA : ∀ a, a ∈ ord → a < 30 ∧ F a = nI (fr a) ∧ T a = nI (to a) ∧ fr a < n ∧ to a < n) (hne : ∀ a, a ∈ ord → fr a ≠ to a) (hV : ∀ a, a ∈ ord → V a = nI (w a) ∧ w a ≤ 1000) :
    Ok (f_BoundedTrees_leastCost N (nI d) b0 (nI n) (nI ord.length) Mb0 O F T V M0 R0) (fun res => ∃ x, res.1 = cN x ∧ Mi (ce w) (Tr fr to n (min d (n - 1)) ord 0 (bs (2 ^ (n - 1) - 1)) (min d (n - 1))) x) := by
  have hB1 : 1 ≤ min d (n - 1) := by omega
  have hB7 : min d (n - 1) < 7 := by omega
  have hpw : 2 ^ (n - 1) ≤ 64 := Nat.pow_le_pow_right (n := 2) (i := n - 1) (j := 6) (by omega) (by omega)
  have hpp : 1 < 2 ^ (n - 1) := Nat.one_lt_two_pow (by omega)
  have x1 : (if (7 : Int32) < nI n then (7 : Int32) else nI n) = nI n := if_neg (nI_nlt (a := 7) (b := n) hn (by omega))
  have x2 : (1 : Int32) < nI n := nI_lt (a := 1) (by omega) (by omega)
  have x3 : (0 : Int32) < nI d := nI_lt (a := 0) (by omega) (by omega)
  have e1 : nI n - (1 : Int32) = nI (n - 1) := nI_sub1 (by omega)
  have x4 : (if nI (n - 1) < nI d then nI (n - 1) else nI d) = nI (min d (n - 1)) := by
    by_cases h : n - 1 < d
    · rw [if_pos (nI_lt h (by omega)), Nat.min_eq_right (by omega)]
    · rw [if_neg (nI_nlt (by omega) (by omega)), Nat.min_eq_left (by omega)]
  have hnem := hne
  have hVm : ∀ a, a ∈ ord → w a ≤ 1000 := fun a ha => (hV a ha).2
  have hAm : ∀ a, a ∈ ord → fr a < n ∧ to a < n := fun a ha => (hA a ha).2.2.2
  simp only [f_BoundedTrees_leastCost, bn, x1, if_pos x2, if_pos x3, e1, x4, (all_nI (n - 1) (by omega)).2]
  generalize hBd : min d (n - 1) = B at *
  refine Ok_bk1 (findBetween hN hn hlen hO hA hne hV) ?_
  intro Mb hMb
  refine Ok_bk1 (startEmpty (M0 := M0) hN hn hB7) ?_
  intro M1 hM1
  refine Ok_lo7 (fun d v2 v3 nd bd Mb' M R => ∃ s tb, s + d = 2 ^ (n - 1) ∧ 1 ≤ s ∧ v2 = nI (2 ^ (n - 1) - 1) ∧ v3 = nI s ∧ nd = nI n ∧ bd = nI B ∧ Mb' = Mb ∧ TB n B tb M ∧ (∀ k v t, k ≤ B → v < n → t < s → bs t v = false → Mi (ce w) (Tr fr to n B ord v (bs t) k) (tb k v t)) ∧ (∀ k v t, k ≤ B → v < n → s ≤ t → t < 64 → tb k v t = 2 ^ 60) ∧ ∀ v t, v < n → 1 ≤ t → t < s → ∃ x, R v t = cN x ∧ x ≤ 2 ^ 60 ∧ (bs t v = false → Mi (ce w) (Tr fr to n B ord v (bs t) 1) x)) ?_ (2 ^ (n - 1) - 1) N _ _ _ _ _ _ _ (by omega) ⟨1, _, by omega, Nat.le_refl _, rfl, rfl, rfl, rfl, rfl, hM1, fun k v t hk hv ht hb => ?_, fun k v t hk hv h1 h2 => if_neg (by omega), fun v t _ h1 h2 => by omega⟩
  · rintro kk d2 v2 v3 nd bd Mb' M R ⟨s, tb, hd2, hs1, rfl, rfl, rfl, rfl, rfl, hTB, hMi, hst, hON⟩ hkk
    by_cases hs : s = 2 ^ (n - 1)
    · have hlt : nI (2 ^ (n - 1) - 1) < nI s := nI_lt (by omega) (by omega)
      have e0 : f_BoundedTrees_row (nI B) (0 : Int32) = some (nI (7 * B + 0)) := row_v B hB7 0 (by omega)
      obtain ⟨c1, c2⟩ := hTB B 0 (2 ^ (n - 1) - 1) (Nat.le_refl _) (by omega) (by omega)
      simp only [g_BoundedTrees_leastCost_69, if_pos hlt, e0, bk1, gd_nI (show 7 * B + 0 < 49 by omega) (by decide), gd_nI (show 2 ^ (n - 1) - 1 < 64 by omega) (by decide), nI_clamp (show 7 * B + 0 < 2 ^ 31 by omega), nI_clamp (show 2 ^ (n - 1) - 1 < 2 ^ 31 by omega), c1]
      exact Ok_some ⟨tb B 0 (2 ^ (n - 1) - 1), rfl, hMi B 0 _ (Nat.le_refl _) (by omega) (by omega) (bs_zero _)⟩
    · have hlt : ¬ nI (2 ^ (n - 1) - 1) < nI s := nI_nlt (by omega) (by omega)
      have hsl : s < 2 ^ (n - 1) := by omega
      simp only [g_BoundedTrees_leastCost_69, if_neg hlt]
      refine Ok_bk1 (oneBranch (R0 := R) hN hn hB1 hB7 hsl (by omega) hAm hne hVm hMb hTB (fun v t hv ht hb => hMi (B - 1) v t (by omega) hv ht hb)) ?_
      rintro R2 ⟨r1, r2⟩
      have hON2 : ∀ v t, v < n → 1 ≤ t → t ≤ s → ∃ x, R2 v t = cN x ∧ x ≤ 2 ^ 60 ∧ (bs t v = false → Mi (ce w) (Tr fr to n B ord v (bs t) 1) x) := by
        intro v t hv h1 h2
        by_cases e : t = s
        · subst e; exact r2 v hv
        · rw [r1 v t e]
          exact hON v t hv h1 (by omega)
      refine Ok_bk1 (findBranches hN hn hB1 hB7 hsl (by omega) hne hVm hTB hMi hst hON2) ?_
      rintro M2 ⟨tb2, q1, q2, q3⟩
      simp only [bn, nI_1]
      exact hkk (d2 - 1) _ _ _ _ _ _ _ (by omega) ⟨s + 1, tb2, by omega, by omega, rfl, rfl, rfl, rfl, rfl, q1, q2, q3, fun v t hv h1 h2 => hON2 v t hv h1 (by omega)⟩
  · have e0 : t = 0 := by omega
    subst e0
    show Mi (ce w) _ (if (0 : Nat) = 0 then 0 else 2 ^ 60)
    rw [if_pos rfl]
    exact Or.inr ⟨by omega, ⟨[], Tr_nil bs_0, rfl⟩, fun T _ => Nat.zero_le _⟩
