/-! sets of nodes as numbers -/
theorem bi_nI {m v : Nat} (hm : m < 2 ^ 31) : bi (nI m) v = m.testBit v := by
  unfold bi nI
  rw [Int32.toBitVec_ofNat', BitVec.getLsbD_ofNat]
  by_cases h : v < 32
  · simp [h]
  · have : m < 2 ^ v := Nat.lt_of_lt_of_le hm (Nat.pow_le_pow_right (by omega) (by omega))
    rw [Nat.testBit_lt_two_pow this]
    simp
theorem p10 {n : Nat} (hn : n ≤ 10) : 2 ^ n ≤ 1024 := by
  have := Nat.pow_le_pow_right (show 0 < 2 by omega) hn
  simpa using this
theorem bi_lt {n m v : Nat} (hn : n ≤ 10) (hm : m < 2 ^ n) (h : bi (nI m) v = true) : v < n := by
  have := p10 hn
  rw [bi_nI (by omega)] at h
  apply Classical.byContradiction
  intro hv
  have h2 : m < 2 ^ v := Nat.lt_of_lt_of_le hm (Nat.pow_le_pow_right (by omega) (by omega))
  rw [Nat.testBit_lt_two_pow h2] at h
  cases h
theorem num_of : ∀ (n : Nat) (s : Nat → Bool), ∃ m, m < 2 ^ n ∧ ∀ v, v < n → m.testBit v = s v
  | 0, s => ⟨0, by omega, fun v h => absurd h (Nat.not_lt_zero v)⟩
  | n + 1, s => by
    obtain ⟨m, h1, h2⟩ := num_of n s
    have h3 : m < 2 ^ (n + 1) := by rw [Nat.pow_succ]; omega
    cases hs : s n with
    | false =>
      refine ⟨m, h3, fun v hv => ?_⟩
      by_cases e : v = n
      · subst e; rw [hs, Nat.testBit_lt_two_pow h1]
      · exact h2 v (by omega)
    | true =>
      refine ⟨m ||| 2 ^ n, Nat.or_lt_two_pow h3 (by rw [Nat.pow_succ]; have := Nat.pow_pos (n := n) (show 0 < 2 by omega); omega), fun v hv => ?_⟩
      rw [Nat.testBit_or, Nat.testBit_two_pow]
      by_cases e : v = n
      · subst e; simp [hs]
      · rw [h2 v (by omega)]
        have : ¬ n = v := fun h => e h.symm
        simp [this]
theorem bitCount1 : ∀ m, m < 1024 → f_Int_bitCount (nI m) = some (nI (nbs (bi (nI m)) 10)) := by decide +kernel
theorem nbs_ext {q : Nat → Bool} {n : Nat} (h : ∀ v, q v = true → v < n) : ∀ d, nbs q (n + d) = nbs q n
  | 0 => rfl
  | d + 1 => by
    have ih := nbs_ext h d
    have e : nbs q (n + (d + 1)) = nbs q (n + d) + (if q (n + d) = true then 1 else 0) := rfl
    rw [e, ih, if_neg (fun g => by have := h _ g; omega), Nat.add_zero]
theorem bitCount {n m : Nat} (hn : n ≤ 10) (hm : m < 2 ^ n) : f_Int_bitCount (nI m) = some (nI (nbs (bi (nI m)) n)) := by
  have := p10 hn
  rw [bitCount1 m (by omega)]
  have e := nbs_ext (q := bi (nI m)) (n := n) (fun v h => bi_lt hn hm h) (10 - n)
  have e2 : n + (10 - n) = 10 := by omega
  rw [e2] at e
  rw [e]
theorem two_bits (x : Int32) {a b : Nat} (ha : a < 32) (hb : b < 32) : (((x >>> (nI a &&& 31)) &&& (x >>> (nI b &&& 31))) &&& (1 : Int32)) = 0 ↔ ¬ (bi x a = true ∧ bi x b = true) := by
  rw [Int32.and_assoc]
  cases h : bi x b with
  | false =>
    rw [(bi_0 x hb).mpr h, Int32.and_zero]
    simp
  | true =>
    rw [(bi_1 x hb).mpr h, bi_0 x ha]
    simp
theorem and_nI {m e : Nat} (hm : m < 2 ^ 31) (he : e < 2 ^ 31) : (nI m &&& nI e) = nI e ↔ ∀ v, bi (nI e) v = true → bi (nI m) v = true := by
  constructor
  · intro h v hv
    rw [← h] at hv
    unfold bi at *
    rw [Int32.toBitVec_and, BitVec.getLsbD_and, Bool.and_eq_true] at hv
    exact hv.1
  · intro h
    apply bi_ext
    funext v
    unfold bi at *
    rw [Int32.toBitVec_and, BitVec.getLsbD_and]
    cases hv : (nI e).toBitVec.getLsbD v with
    | false => simp
    | true => rw [h v hv]; rfl
theorem and_ge {m e : Nat} (hm : m < 2 ^ 31) (he : e < 2 ^ 31) (h : ∀ v, bi (nI e) v = true → bi (nI m) v = true) : e ≤ m := by
  have h2 : m &&& e = e := by
    apply Nat.eq_of_testBit_eq
    intro v
    rw [Nat.testBit_and]
    cases hv : e.testBit v with
    | false => simp
    | true =>
      have := h v (by rw [bi_nI he]; exact hv)
      rw [bi_nI hm] at this
      rw [this]; rfl
  have := Nat.and_le_left (n := m) (m := e)
  omega
theorem lsum_le {c : Nat → Nat} {B : Nat} : ∀ l : List Nat, (∀ a, a ∈ l → c a ≤ B) → lsum c l ≤ B * l.length
  | [], _ => by simp [lsum]
  | a :: l, h => by
    have h1 := h a (List.mem_cons_self ..)
    have h2 := lsum_le l (fun b hb => h b (List.mem_cons_of_mem _ hb))
    simp only [lsum, List.length_cons, Nat.mul_succ]
    omega
/-! the class's costs -/
theorem cost_f {w a : Nat} (ha : a < 30) (hw : w ≤ 1000) : f_Cost_of (nI w) (nI a) = some (cN (ce (fun _ => w) a)) := by
  simp only [f_Cost_of, bn]
  rw [ce1 w (by omega), ce2 a ha, cN_sub]
  · rfl
  · have := p2le a
    omega
theorem weightIn_f {w : Nat → Nat} {T : List Nat} (hn : T.Nodup) (hm : ∀ a, a ∈ T → a < 30 ∧ w a ≤ 1000) : f_Cost_weightIn (cN (lsum (ce w) T)) = some (nI (lsum w T)) := by
  have h1 := cost_of (w := w) hn (fun a ha => (hm a ha).1)
  have h2 := len30 hn (fun a ha => (hm a ha).1)
  have h3 := lsum_le (c := w) (B := 1000) T (fun a ha => (hm a ha).2)
  have h4 := mr_lt (inT T) 30
  have e : lsum (ce w) T = (32 * lsum w T + T.length) * 2 ^ 30 - mr (inT T) 30 := by omega
  have e2 : (32 * lsum w T + T.length) / 32 = lsum w T := by omega
  simp only [f_Cost_weightIn, f_Cost_mirrored, bk1]
  rw [e, mirrored h4 (by omega) (by omega), weightIn0 (by omega) (by omega), e2]
theorem setIn_f {N : Nat} {w : Nat → Nat} {T : List Nat} (hN : 100 ≤ N) (hn : T.Nodup) (hm : ∀ a, a ∈ T → a < 30 ∧ w a ≤ 1000) : Ok (f_Cost_setIn N (cN (lsum (ce w) T))) (fun S => bl S = inT T) := by
  have h1 := cost_of (w := w) hn (fun a ha => (hm a ha).1)
  have h2 := len30 hn (fun a ha => (hm a ha).1)
  have h3 := lsum_le (c := w) (B := 1000) T (fun a ha => (hm a ha).2)
  have h4 := mr_lt (inT T) 30
  have e : lsum (ce w) T = (32 * lsum w T + T.length) * 2 ^ 30 - mr (inT T) 30 := by omega
  simp only [f_Cost_setIn, f_Cost_mirrored, bk1]
  rw [e, mirrored h4 (by omega) (by omega)]
  refine Ok_lo3 (fun d v2 v4 v6 => ∃ i, i + d = 30 ∧ v2 = cN (mr (inT T) 30) ∧ v6 = nI i ∧ bl v4 = fun a => decide (a < i) && inT T a) ?_ 30 N _ _ _ (by omega) ⟨0, by omega, rfl, rfl, by funext a; simp [bl_0]⟩
  rintro kk d v2 v4 v6 ⟨i, hd, rfl, rfl, hb⟩ hkk
  have e30 : (30 : Int32) = nI 30 := rfl
  by_cases hi : i = 30
  · subst hi
    have hle : (30 : Int32) ≤ nI 30 := by decide
    simp only [g_Cost_setIn_11, if_pos hle]
    refine Ok_some ?_
    rw [hb]
    funext a
    by_cases ha : a < 30
    · simp [ha]
    · have : inT T a = false := by
        unfold inT
        simp only [decide_eq_false_iff_not]
        intro h
        exact ha (hm a h).1
      simp [this]
  · have hi2 : i < 30 := by omega
    have hle : ¬ (30 : Int32) ≤ nI i := by rw [e30]; exact nI_ge hi2 (by decide)
    have hbit := mr_bit (inT T) 30 i hi2
    have e3 : 30 - 1 - i = 29 - i := by omega
    rw [e3] at hbit
    have hb29 := bit29 (M := mr (inT T) 30) (a := i) h4 hi2
    rw [hbit] at hb29
    cases hq : inT T i with
    | false =>
      have hc : (lg_cmp ((cN (mr (inT T) 30) >>> (((29 : Int32) - nI i).toInt64 &&& 63)) &&& (1 : Int64)) (0 : Int64)) = 0 := (lg_cmp_eq _ _).mpr (hb29.mpr hq)
      simp only [g_Cost_setIn_11, if_neg hle, if_pos hc, bn, nI_1]
      refine hkk (d - 1) _ _ _ (by omega) ⟨i + 1, by omega, rfl, rfl, ?_⟩
      rw [hb]
      funext a
      by_cases ha : a = i
      · subst ha; simp [hq]
      · have : (a < i + 1) = (a < i) := by rw [eq_iff_iff]; omega
        simp only [this]
    | true =>
      have hc : ¬ (lg_cmp ((cN (mr (inT T) 30) >>> (((29 : Int32) - nI i).toInt64 &&& 63)) &&& (1 : Int64)) (0 : Int64)) = 0 := fun h => by
        have := hb29.mp ((lg_cmp_eq _ _).mp h)
        rw [hq] at this
        cases this
      simp only [g_Cost_setIn_11, if_neg hle, if_neg hc, bn, nI_1]
      refine hkk (d - 1) _ _ _ (by omega) ⟨i + 1, by omega, rfl, rfl, ?_⟩
      funext a
      have h5 := bl_or v4 (a := i) (b := a) (by omega)
      unfold bitA at h5
      rw [h5, hb]
      by_cases ha : a = i
      · subst ha; simp [hq]
      · have h6 : (a < i + 1) = (a < i) := by rw [eq_iff_iff]; omega
        have h7 : ¬ i = a := fun h => ha h.symm
        simp only [h6, h7, decide_false, Bool.or_false]
