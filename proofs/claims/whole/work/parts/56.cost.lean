/-! the class's costs: weight, number of arcs, mirrored set -/
def cN (m : Nat) : Int64 := Int64.ofNat m
theorem cN_toInt {m : Nat} (h : m < 2 ^ 63) : (cN m).toInt = (m : Int) := by
  unfold cN
  rw [Int64.toInt_ofNat']
  have e : Int64.size = 2 ^ 64 := by decide
  rw [e, Int.bmod_eq_of_le (by omega) (by omega)]
theorem cN_add (a b : Nat) : cN a + cN b = cN (a + b) := (Int64.ofNat_add a b).symm
theorem cN_sub {a b : Nat} (h : b ≤ a) : cN a - cN b = cN (a - b) := by
  have e : cN a = cN (a - b) + cN b := by rw [cN_add, Nat.sub_add_cancel h]
  rw [e, Int64.add_sub_cancel]
theorem cN_lt {a b : Nat} (ha : a < 2 ^ 63) (hb : b < 2 ^ 63) : cN a < cN b ↔ a < b := by
  rw [Int64.lt_iff_toInt_lt, cN_toInt ha, cN_toInt hb]
  omega
theorem cN_le {a b : Nat} (ha : a < 2 ^ 63) (hb : b < 2 ^ 63) : cN a ≤ cN b ↔ a ≤ b := by
  rw [Int64.le_iff_toInt_le, cN_toInt ha, cN_toInt hb]
  omega
theorem cN_eq {a b : Nat} (ha : a < 2 ^ 63) (hb : b < 2 ^ 63) : cN a = cN b ↔ a = b := by
  rw [← Int64.toInt_inj, cN_toInt ha, cN_toInt hb]
  omega
theorem cN_60 : (1152921504606846976 : Int64) = cN (2 ^ 60) := by decide
theorem cN_0 : (0 : Int64) = cN 0 := by decide
def NC : Nat := 2 ^ 60
theorem cN_min {a b : Nat} (ha : a < 2 ^ 63) (hb : b < 2 ^ 63) : (if cN a < cN b then cN a else cN b) = cN (min b a) := by
  by_cases h : a < b
  · rw [if_pos ((cN_lt ha hb).mpr h), Nat.min_eq_right (by omega)]
  · rw [if_neg (fun g => h ((cN_lt ha hb).mp g)), Nat.min_eq_left (by omega)]
def ce (w : Nat → Nat) (a : Nat) : Nat := (32 * w a + 1) * 2 ^ 30 - 2 ^ (29 - a)
theorem ce1 : ∀ w, w < 1001 → (((nI w).toInt64 <<< ((5 : Int32).toInt64 &&& 63)) + (1 : Int64)) <<< ((30 : Int32).toInt64 &&& 63) = cN ((32 * w + 1) * 2 ^ 30) := by decide +kernel
theorem ce2 : ∀ a, a < 30 → ((1 : Int64) <<< (((29 : Int32) - nI a).toInt64 &&& 63)) = cN (2 ^ (29 - a)) := by decide +kernel
theorem p2le (a : Nat) : 2 ^ (29 - a) ≤ 2 ^ 30 := Nat.pow_le_pow_right (by omega) (by omega)
theorem ce_pos (w : Nat → Nat) (a : Nat) : 2 ^ 29 ≤ ce w a := by
  have h : 2 ^ (29 - a) ≤ 2 ^ 29 := Nat.pow_le_pow_right (by omega) (by omega)
  unfold ce
  generalize 2 ^ (29 - a) = x at *
  omega
theorem ce_le {w : Nat → Nat} {a : Nat} (h : w a ≤ 1000) : ce w a ≤ 2 ^ 45 := by
  unfold ce
  generalize 2 ^ (29 - a) = x
  omega
theorem ce_add (w : Nat → Nat) (a : Nat) : ce w a + 2 ^ (29 - a) = (32 * w a + 1) * 2 ^ 30 := by
  have h := p2le a
  unfold ce
  generalize 2 ^ (29 - a) = x at *
  omega
theorem ce_mono {w : Nat → Nat} {a b : Nat} (hb : b < 30) (h : w a < w b ∨ (w a = w b ∧ a < b)) : ce w a ≤ ce w b := by
  have h1 := ce_add w a
  have h2 := ce_add w b
  have p1 : 2 ^ (29 - b) ≤ 2 ^ 29 := Nat.pow_le_pow_right (by omega) (by omega)
  have p3 : 0 < 2 ^ (29 - a) := Nat.pow_pos (by omega)
  rcases h with h | ⟨h, hab⟩
  · generalize 2 ^ (29 - a) = x at *
    generalize 2 ^ (29 - b) = y at *
    omega
  · have p2 : 2 ^ (29 - b) ≤ 2 ^ (29 - a) := Nat.pow_le_pow_right (by omega) (by omega)
    rw [h] at h1
    omega
def mw (a : Nat) : Nat := 2 ^ (29 - a)
theorem ce_sum (w : Nat → Nat) : ∀ T : List Nat, lsum (ce w) T + lsum mw T = (32 * lsum w T + T.length) * 2 ^ 30
  | [] => by simp [lsum]
  | a :: T => by
    have h := ce_sum w T
    have h1 := ce_add w a
    have e : mw a = 2 ^ (29 - a) := rfl
    simp only [lsum, List.length_cons]
    omega
/-- the set as a number, arc 0 uppermost -/
def mr (q : Nat → Bool) : Nat → Nat
  | 0 => 0
  | j + 1 => 2 * mr q j + (if q j = true then 1 else 0)
theorem mr_lt (q : Nat → Bool) : ∀ j, mr q j < 2 ^ j
  | 0 => by simp [mr]
  | j + 1 => by
    have := mr_lt q j
    unfold mr
    rw [Nat.pow_succ]
    by_cases h : q j = true
    · rw [if_pos h]; omega
    · rw [if_neg h]; omega
theorem mr_bit (q : Nat → Bool) : ∀ (j a : Nat), a < j → (mr q j).testBit (j - 1 - a) = q a
  | 0, a, h => absurd h (Nat.not_lt_zero a)
  | j + 1, a, h => by
    unfold mr
    by_cases e : a = j
    · subst e
      have : a + 1 - 1 - a = 0 := by omega
      rw [this, Nat.testBit_zero]
      cases q a <;> simp <;> omega
    · have ih := mr_bit q j a (by omega)
      have : j + 1 - 1 - a = (j - 1 - a) + 1 := by omega
      rw [this, Nat.testBit_succ]
      have e2 : (2 * mr q j + (if q j = true then 1 else 0)) / 2 = mr q j := by
        by_cases h : q j = true
        · rw [if_pos h]; omega
        · rw [if_neg h]; omega
      rw [e2, ih]
theorem mr_wsum (q : Nat → Bool) : ∀ j, j ≤ 30 → mr q j * 2 ^ (30 - j) = wsum mw q j
  | 0, _ => by simp [mr, wsum]
  | j + 1, h => by
    have ih := mr_wsum q j (by omega)
    unfold mr wsum
    have e1 : 2 ^ (30 - j) = 2 * 2 ^ (30 - (j + 1)) := by
      have : 30 - j = (30 - (j + 1)) + 1 := by omega
      rw [this, Nat.pow_succ, Nat.mul_comm]
    have e2 : mw j = 2 ^ (30 - (j + 1)) := by
      unfold mw
      have : 29 - j = 30 - (j + 1) := by omega
      rw [this]
    rw [e1] at ih
    rw [e2, ← ih]
    by_cases hq : q j = true
    · rw [if_pos hq, if_pos hq]; grind
    · rw [if_neg hq, if_neg hq]; grind
theorem mr_congr {q q' : Nat → Bool} : ∀ {j : Nat}, (∀ a, a < j → q a = q' a) → mr q j = mr q' j
  | 0, _ => rfl
  | j + 1, h => by
    unfold mr
    rw [mr_congr (j := j) (fun a ha => h a (by omega)), h j (by omega)]
theorem mr_up {q q' : Nat → Bool} {m : Nat} (h : mr q m < mr q' m) : ∀ d, mr q (m + d) < mr q' (m + d)
  | 0 => h
  | d + 1 => by
    have ih := mr_up h d
    have e : ∀ p, mr p (m + (d + 1)) = 2 * mr p (m + d) + (if p (m + d) = true then 1 else 0) := fun _ => rfl
    rw [e, e]
    split <;> split <;> omega
/-- who has the least number by which they differ has the greater mirror -/
theorem mr_first {q q' : Nat → Bool} {k : Nat} (hk : k < 30) (h : ∀ a, a < k → q a = q' a) (h1 : q k = false) (h2 : q' k = true) : mr q 30 < mr q' 30 := by
  have e : mr q (k + 1) < mr q' (k + 1) := by
    unfold mr
    rw [mr_congr h, h1, h2]
    simp
  have := mr_up e (30 - (k + 1))
  have e2 : k + 1 + (30 - (k + 1)) = 30 := by omega
  rw [e2] at this
  exact this
theorem wsum_congr {c : Nat → Nat} {q q' : Nat → Bool} : ∀ {m : Nat}, (∀ a, a < m → q a = q' a) → wsum c q m = wsum c q' m
  | 0, _ => rfl
  | m + 1, h => by
    unfold wsum
    rw [wsum_congr (m := m) (fun a ha => h a (by omega)), h m (by omega)]
theorem wsum_ins {c : Nat → Nat} {q : Nat → Bool} {a : Nat} (hq : q a = false) : ∀ {m : Nat}, a < m → wsum c (fun b => decide (b = a) || q b) m = c a + wsum c q m
  | 0, h => absurd h (Nat.not_lt_zero a)
  | m + 1, h => by
    unfold wsum
    by_cases e : a = m
    · subst e
      rw [wsum_congr (q := fun b => decide (b = a) || q b) (q' := q) (fun b hb => by simp; intro h; omega)]
      simp [hq]
      omega
    · rw [wsum_ins hq (m := m) (by omega)]
      have e2 : (decide (m = a) || q m) = q m := by simp; intro h; exact absurd h.symm e
      simp only [e2]
      omega
theorem lsum_wsum {c : Nat → Nat} {m : Nat} : ∀ {T : List Nat}, T.Nodup → (∀ a, a ∈ T → a < m) → lsum c T = wsum c (fun b => decide (b ∈ T)) m
  | [], _, _ => by
    have : ∀ m, wsum c (fun b => decide (b ∈ ([] : List Nat))) m = 0 := by
      intro m
      induction m with
      | zero => rfl
      | succ m ih => unfold wsum; rw [ih]; simp
    rw [this]; rfl
  | a :: T, hn, hm => by
    obtain ⟨h1, h2⟩ := List.nodup_cons.mp hn
    have ih := lsum_wsum (c := c) (m := m) (T := T) h2 (fun b hb => hm b (List.mem_cons_of_mem _ hb))
    simp only [lsum, ih]
    rw [← wsum_ins (q := fun b => decide (b ∈ T)) (a := a) (by simp [h1]) (hm a (List.mem_cons_self ..))]
    exact wsum_congr (fun b _ => by simp)
def inT (T : List Nat) : Nat → Bool := fun b => decide (b ∈ T)
theorem mir {T : List Nat} (hn : T.Nodup) (hm : ∀ a, a ∈ T → a < 30) : lsum mw T = mr (inT T) 30 := by
  rw [lsum_wsum hn hm, ← mr_wsum _ 30 (by omega)]
  show mr (inT T) 30 * 2 ^ (30 - 30) = _
  omega
theorem len_wsum : ∀ T : List Nat, T.length = lsum (fun _ => 1) T
  | [] => rfl
  | a :: T => by simp only [lsum, List.length_cons, len_wsum T]; omega
theorem wsum_one (q : Nat → Bool) : ∀ m, wsum (fun _ => 1) q m ≤ m
  | 0 => Nat.le_refl 0
  | m + 1 => by
    have := wsum_one q m
    unfold wsum
    by_cases h : q m = true
    · rw [if_pos h]; omega
    · rw [if_neg h]; omega
theorem len30 {T : List Nat} {m : Nat} (hn : T.Nodup) (hm : ∀ a, a ∈ T → a < m) : T.length ≤ m := by
  rw [len_wsum, lsum_wsum hn hm]
  exact wsum_one _ _
/-- what a cost tells -/
theorem cost_of {w : Nat → Nat} {T : List Nat} (hn : T.Nodup) (hm : ∀ a, a ∈ T → a < 30) : lsum (ce w) T + mr (inT T) 30 = (32 * lsum w T + T.length) * 2 ^ 30 := by
  rw [← mir hn hm, ce_sum]
/-- the least cost: of least weight, of these of fewest arcs, of these the first -/
theorem cost_le {w : Nat → Nat} {T U : List Nat} (hn : T.Nodup) (hm : ∀ a, a ∈ T → a < 30) (hn' : U.Nodup) (hm' : ∀ a, a ∈ U → a < 30) (h : lsum (ce w) T ≤ lsum (ce w) U) : 64 * lsum w T + T.length ≤ 64 * lsum w U + U.length ∧ (64 * lsum w T + T.length = 64 * lsum w U + U.length → mr (inT U) 30 ≤ mr (inT T) 30) := by
  have h1 := cost_of (w := w) hn hm
  have h2 := cost_of (w := w) hn' hm'
  have h3 := len30 hn hm
  have h4 := len30 hn' hm'
  have h5 := mr_lt (inT T) 30
  have h6 := mr_lt (inT U) 30
  omega
theorem cN_bv (m : Nat) : (cN m).toBitVec = BitVec.ofNat 64 m := rfl
theorem mirrored {X M : Nat} (hM : M < 2 ^ 30) (h1 : M ≤ X * 2 ^ 30) (h2 : X * 2 ^ 30 < 2 ^ 62) : (-(cN (X * 2 ^ 30 - M))) &&& (1073741823 : Int64) = cN M := by
  apply Int64.toBitVec_inj.mp
  apply BitVec.eq_of_toNat_eq
  rw [Int64.toBitVec_and, Int64.toBitVec_neg, BitVec.toNat_and, BitVec.toNat_neg, cN_bv, cN_bv, BitVec.toNat_ofNat, BitVec.toNat_ofNat]
  have e : (1073741823 : Int64).toBitVec.toNat = 2 ^ 30 - 1 := by decide
  rw [e, Nat.and_two_pow_sub_one_eq_mod]
  omega
theorem sh35 : (((35 : Int32).toInt64 &&& 63).toBitVec.smod 64).toNat = 35 := by decide +kernel
theorem weightIn0 {X M : Nat} (h1 : M ≤ X * 2 ^ 30) (h2 : X * 2 ^ 30 < 2 ^ 62) : ((cN (X * 2 ^ 30 - M) + cN M) >>> ((35 : Int32).toInt64 &&& 63)).toInt32 = nI (X / 32) := by
  rw [cN_add, Nat.sub_add_cancel h1]
  apply Int32.toBitVec_inj.mp
  apply BitVec.eq_of_toNat_eq
  have e : (cN (X * 2 ^ 30)).toBitVec.msb = false := by
    rw [cN_bv, BitVec.msb_eq_decide, BitVec.toNat_ofNat]
    simp
    omega
  rw [Int64.toBitVec_toInt32, Int64.toBitVec_shiftRight, BitVec.sshiftRight_eq', sh35, BitVec.sshiftRight_eq_of_msb_false e]
  unfold nI
  rw [Int32.toBitVec_ofNat', cN_bv]
  rw [BitVec.signExtend_eq_setWidth_of_le _ (by omega), BitVec.toNat_setWidth, BitVec.toNat_ushiftRight, BitVec.toNat_ofNat, BitVec.toNat_ofNat, Nat.shiftRight_eq_div_pow]
  omega
theorem bit29 {M a : Nat} (hM : M < 2 ^ 30) (ha : a < 30) : ((cN M >>> (((29 : Int32) - nI a).toInt64 &&& 63)) &&& (1 : Int64)) = 0 ↔ M.testBit (29 - a) = false := by
  have e0 : ∀ a, a < 30 → (29 : Int32) - nI a = nI (29 - a) := by decide +kernel
  rw [e0 a ha]
  rw [bit_shr (cN M) (by omega), cN_bv, BitVec.getLsbD_ofNat]
  have : 29 - a < 64 := by omega
  simp [this]
