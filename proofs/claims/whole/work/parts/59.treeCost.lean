/-! the class: the least tree of a set of nodes, and the best of the sets that have the ends -/
theorem treeCost {N n m known : Nat} {fr to w : Nat → Nat} {ord : List Nat} {O F T V L : Nat → Int32} (hN : 100 ≤ N) (hn : n ≤ 10) (hlen : ord.length ≤ 30) (hO : ∀ i, i < ord.length → O i = nI (ord.getD i 0)) (hA : ∀ a, a ∈ ord → a < 30 ∧ F a = nI (fr a) ∧ T a = nI (to a) ∧ fr a < n ∧ to a < n) (hV : ∀ a, a ∈ ord → V a = nI (w a) ∧ w a ≤ 1000) (hm : m < 2 ^ n) (h0 : ∃ u0, bi (nI m) u0 = true) (hk : known ≤ 2 ^ 60) :
    Ok (f_JoiningTrees_treeCost N (nI m) (cN known) (nI n) (nI ord.length) L O F T V) (fun r => ∃ rv, r.1 = cN rv ∧ rv ≤ 2 ^ 60 ∧ (Jn fr to (bi (nI m)) (ins fr to (bi (nI m)) ord) → min known rv = min known (lsum (ce w) (kl fr to (ins fr to (bi (nI m)) ord) (fun v => v)))) ∧ (¬ Jn fr to (bi (nI m)) (ins fr to (bi (nI m)) ord) → min known rv = known)) := by
  obtain ⟨L1, s1, s2⟩ := sep hN hn L
  obtain ⟨u0, hu0⟩ := h0
  have hs : ∀ v, bi (nI m) v = true → v < n := fun v h => bi_lt hn hm h
  have hpc := nbs_le (bi (nI m)) n
  have hp1 := nbs_pos hu0 (hs u0 hu0)
  simp only [f_JoiningTrees_treeCost, s1, bk3, bitCount hn hm, bk1, bn]
  have e1 : nI (nbs (bi (nI m)) n) - (1 : Int32) = nI (nbs (bi (nI m)) n - 1) := nI_sub1 hp1
  rw [e1]
  generalize hS : bi (nI m) = s at *
  have hAt : ∀ i a, a ∈ ord.take i → fr a < n ∧ to a < n := fun i a ha => (hA a (List.mem_of_mem_take ha)).2.2.2
  have hlab : ∀ i v, v < n → kr fr to (ins fr to s (ord.take i)) (fun v => v) v < 10 := fun i v hv => Nat.lt_of_lt_of_le (kr_ltn _ (fun a ha => hAt i a (ins_mem.mp ha).1) (fun v hv => hv) v hv) hn
  have hTL := fun i => tree_len (s := s) (u0 := u0) (hAt i) hs hu0
  have hsm : ∀ i, lsum (ce w) (kl fr to (ins fr to s (ord.take i)) (fun v => v)) ≤ 2 ^ 50 := fun i => by
    have h1 := lsum_le (c := ce w) (B := 2 ^ 45) (kl fr to (ins fr to s (ord.take i)) (fun v => v)) (fun a ha => ce_le (hV a (List.mem_of_mem_take (ins_mem.mp (kl_sub _ ha)).1)).2)
    have h2 := (hTL i).1
    have h3 : (kl fr to (ins fr to s (ord.take i)) (fun v => v)).length ≤ 10 := by omega
    generalize lsum (ce w) (kl fr to (ins fr to s (ord.take i)) (fun v => v)) = x at *
    generalize (kl fr to (ins fr to s (ord.take i)) (fun v => v)).length = y at *
    have : 2 ^ 45 * y ≤ 2 ^ 45 * 10 := Nat.mul_le_mul_left _ h3
    omega
  refine Ok_lo6 (fun d v4 v5 v7 c1 _ c3 => ∃ i, i + d = ord.length ∧ v7 = nI i ∧ c1 = nI n ∧ v5 = cN (lsum (ce w) (kl fr to (ins fr to s (ord.take i)) (fun v => v))) ∧ v4 = nI (nbs s n - 1 - (kl fr to (ins fr to s (ord.take i)) (fun v => v)).length) ∧ ∀ v, v < n → c3 v = nI (kr fr to (ins fr to s (ord.take i)) (fun v => v) v)) ?_ ord.length N _ _ _ _ _ _ (by omega) ⟨0, by omega, rfl, rfl, by simp [ins, kl, lsum, cN_0], by simp [ins, kl], by simpa [ins, kr] using s2⟩
  rintro kk d v4 v5 v7 c1 c2 c3 ⟨i, hd, rfl, rfl, rfl, rfl, hc3⟩ hkk
  have hTi := hTL i
  have hsi := hsm i
  have hpart := ins_part (fr := fr) (to := to) (c := ce w) (s := s) ord i
  -- what is answered at the end
  have hend : (Jn fr to s (ins fr to s (ord.take i)) ∨ i = ord.length ∨ known ≤ lsum (ce w) (kl fr to (ins fr to s (ord.take i)) (fun v => v))) → Ok (g_JoiningTrees_treeCost_145 (nI (nbs s n - 1 - (kl fr to (ins fr to s (ord.take i)) (fun v => v)).length)) (cN (lsum (ce w) (kl fr to (ins fr to s (ord.take i)) (fun v => v)))) (nI n) c2 c3) (fun r => ∃ rv, r.1 = cN rv ∧ rv ≤ 2 ^ 60 ∧ (Jn fr to s (ins fr to s ord) → min known rv = min known (lsum (ce w) (kl fr to (ins fr to s ord) (fun v => v)))) ∧ (¬ Jn fr to s (ins fr to s ord) → min known rv = known)) := by
    intro hcase
    by_cases hz : Jn fr to s (ins fr to s (ord.take i))
    · have hz0 := hTi.2.mpr hz
      have hv : nI (nbs s n - 1 - (kl fr to (ins fr to s (ord.take i)) (fun v => v)).length) = 0 := by
        have : nbs s n - 1 - (kl fr to (ins fr to s (ord.take i)) (fun v => v)).length = 0 := by omega
        rw [this]; rfl
      obtain ⟨f1, f2⟩ := ins_full hz
      simp only [g_JoiningTrees_treeCost_145, if_pos hv]
      exact Ok_some ⟨_, rfl, by omega, fun _ => by rw [f2], fun h => absurd f1 h⟩
    · have hz0 : ¬ (kl fr to (ins fr to s (ord.take i)) (fun v => v)).length + 1 = nbs s n := fun h => hz (hTi.2.mp h)
      have hv : ¬ nI (nbs s n - 1 - (kl fr to (ins fr to s (ord.take i)) (fun v => v)).length) = 0 := by
        intro h
        have h2 := (nI_eq (a := nbs s n - 1 - (kl fr to (ins fr to s (ord.take i)) (fun v => v)).length) (b := 0) (by omega) (by omega)).mp h
        omega
      simp only [g_JoiningTrees_treeCost_145, if_neg hv]
      refine Ok_some ⟨2 ^ 60, cN_60, by omega, fun hj => ?_, fun _ => by omega⟩
      rcases hcase with h | h | h
      · exact absurd h hz
      · rw [h, List.take_length] at hz
        exact absurd hj hz
      · omega
  by_cases hi : i = ord.length
  · have hle : nI ord.length ≤ nI i := nI_le (by omega) (by omega)
    simp only [g_JoiningTrees_treeCost_28, if_pos hle]
    exact hend (Or.inr (Or.inl hi))
  · have hil : i < ord.length := by omega
    have hle : ¬ nI ord.length ≤ nI i := nI_ge hil (by omega)
    by_cases hz : Jn fr to s (ins fr to s (ord.take i))
    · have hz0 := hTi.2.mpr hz
      have hv : nI (nbs s n - 1 - (kl fr to (ins fr to s (ord.take i)) (fun v => v)).length) ≤ 0 := by
        have : nbs s n - 1 - (kl fr to (ins fr to s (ord.take i)) (fun v => v)).length = 0 := by omega
        rw [this]; decide
      simp only [g_JoiningTrees_treeCost_28, if_neg hle, if_pos hv]
      exact hend (Or.inl hz)
    · have hz0 : ¬ (kl fr to (ins fr to s (ord.take i)) (fun v => v)).length + 1 = nbs s n := fun h => hz (hTi.2.mp h)
      have hv : ¬ nI (nbs s n - 1 - (kl fr to (ins fr to s (ord.take i)) (fun v => v)).length) ≤ 0 := nI_ge (a := 0) (by omega) (by omega)
      by_cases hkn : known ≤ lsum (ce w) (kl fr to (ins fr to s (ord.take i)) (fun v => v))
      · have hc : 0 ≤ lg_cmp (cN (lsum (ce w) (kl fr to (ins fr to s (ord.take i)) (fun v => v)))) (cN known) := (lg_cmp_ge _ _).mpr ((cN_le (by omega) (by omega)).mpr hkn)
        simp only [g_JoiningTrees_treeCost_28, if_neg hle, if_neg hv, if_pos hc]
        exact hend (Or.inr (Or.inr hkn))
      · have hc : ¬ 0 ≤ lg_cmp (cN (lsum (ce w) (kl fr to (ins fr to s (ord.take i)) (fun v => v)))) (cN known) := fun h => hkn ((cN_le (by omega) (by omega)).mp ((lg_cmp_ge _ _).mp h))
        have hmem := getD_mem hil
        have hOi := hO i hil
        generalize ha : ord.getD i 0 = a at *
        obtain ⟨a1, a2, a3, a4, a5⟩ := hA a hmem
        obtain ⟨w1, w2⟩ := hV a hmem
        have hoe : (O i) = nI a := hOi
        simp only [g_JoiningTrees_treeCost_28, if_neg hle, if_neg hv, if_neg hc, gd_nI (show i < 30 by omega) (by decide), nI_clamp (show i < 2 ^ 31 by omega), bn, hoe, gd_nI (show a < 30 by omega) (by decide), nI_clamp (show a < 2 ^ 31 by omega), a2, a3, w1]
        have htb := two_bits (nI m) (a := fr a) (b := to a) (by omega) (by omega)
        rw [hS] at htb
        by_cases hb : s (fr a) = true ∧ s (to a) = true
        · have hb2 : ¬ (((nI m >>> (nI (fr a) &&& 31)) &&& (nI m >>> (nI (to a) &&& 31))) &&& (1 : Int32)) = 0 := fun h => (htb.mp h) hb
          rw [if_neg hb2]
          have ey := ins_yes (fr := fr) (to := to) (s := s) hil (by rw [ha]; exact hb)
          rw [ha] at ey
          obtain ⟨L', u1, u2⟩ := unite hN hn a4 a5 (hlab i) hc3 c2
          have hTs := hTL (i + 1)
          have hks : kl fr to (ins fr to s (ord.take (i + 1))) (fun v => v) = kl fr to (ins fr to s (ord.take i)) (fun v => v) ++ (if kr fr to (ins fr to s (ord.take i)) (fun v => v) (fr a) = kr fr to (ins fr to s (ord.take i)) (fun v => v) (to a) then [] else [a]) := by
            rw [ey]; exact kl_one
          have hrs : kr fr to (ins fr to s (ord.take (i + 1))) (fun v => v) = uni (kr fr to (ins fr to s (ord.take i)) (fun v => v)) (fr a) (to a) := by rw [ey]; exact kr_one
          simp only [u1, bk3]
          by_cases he : kr fr to (ins fr to s (ord.take i)) (fun v => v) (fr a) = kr fr to (ins fr to s (ord.take i)) (fun v => v) (to a)
          · rw [if_pos he] at hks ⊢
            rw [List.append_nil] at hks
            simp only [if_pos, nI_1]
            exact hkk (d - 1) _ _ _ _ _ _ (by omega) ⟨i + 1, by omega, rfl, rfl, by rw [hks], by rw [hks], fun v hv => by rw [hrs]; exact u2 v hv⟩
          · rw [if_neg he] at hks ⊢
            have n1 : ¬ (1 : Int32) = 0 := by decide
            have ecf : ce (fun _ => w a) a = ce w a := rfl
            simp only [if_neg n1, cost_f a1 w2, bk1, nI_1, ecf, cN_add]
            rw [hks, List.length_append] at hTs
            have hl2 := hTs.1
            simp only [List.length_cons, List.length_nil] at hl2
            refine hkk (d - 1) _ _ _ _ _ _ (by omega) ⟨i + 1, by omega, rfl, rfl, ?_, ?_, fun v hv => by rw [hrs]; exact u2 v hv⟩
            · rw [hks, lsum_app]
              rfl
            · rw [hks, List.length_append, nI_m1' (by omega)]
              simp only [List.length_cons, List.length_nil]
              congr 1
        · have hb2 : (((nI m >>> (nI (fr a) &&& 31)) &&& (nI m >>> (nI (to a) &&& 31))) &&& (1 : Int32)) = 0 := htb.mpr hb
          rw [if_pos hb2]
          have ey := ins_no (fr := fr) (to := to) (s := s) hil (by rw [ha]; exact hb)
          simp only [nI_1]
          exact hkk (d - 1) _ _ _ _ _ _ (by omega) ⟨i + 1, by omega, rfl, rfl, by rw [ey], by rw [ey], fun v hv => by rw [ey]; exact hc3 v hv⟩
