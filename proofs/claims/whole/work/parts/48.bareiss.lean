/-! elimination over whole numbers -/
def sm (f : Nat → Int) (k : Nat) : Nat → Int
  | 0 => 0
  | d + 1 => f k + sm f (k + 1) d
theorem sm_np {f : Nat → Int} : ∀ {d k : Nat}, (∀ j, k ≤ j → j < k + d → f j ≤ 0) → sm f k d ≤ 0
  | 0, k, _ => by simp [sm]
  | d + 1, k, h => by
    have h1 := h k (Nat.le_refl _) (by omega)
    have h2 := sm_np (f := f) (d := d) (k := k + 1) (fun j q1 q2 => h j (by omega) (by omega))
    simp only [sm]; omega
theorem sm_le1 {f : Nat → Int} {i : Nat} : ∀ {d k : Nat}, k ≤ i → i < k + d → (∀ j, k ≤ j → j < k + d → j ≠ i → f j ≤ 0) → sm f k d ≤ f i
  | 0, k, h1, h2, _ => by omega
  | d + 1, k, h1, h2, h => by
    simp only [sm]
    by_cases e : k = i
    · subst e
      have := sm_np (f := f) (d := d) (k := k + 1) (fun j q1 q2 => h j (by omega) (by omega) (by omega))
      omega
    · have a1 := h k (Nat.le_refl _) (by omega) e
      have a2 := sm_le1 (f := f) (i := i) (d := d) (k := k + 1) (by omega) (by omega) (fun j q1 q2 q3 => h j (by omega) (by omega) q3)
      omega
theorem sm_le2 {f : Nat → Int} {i m : Nat} (him : i ≠ m) : ∀ {d k : Nat}, k ≤ i → i < k + d → k ≤ m → m < k + d → (∀ j, k ≤ j → j < k + d → j ≠ i → j ≠ m → f j ≤ 0) → sm f k d ≤ f i + f m
  | 0, k, h1, h2, _, _, _ => by omega
  | d + 1, k, h1, h2, h3, h4, h => by
    simp only [sm]
    by_cases e : k = i
    · subst e
      have := sm_le1 (f := f) (i := m) (d := d) (k := k + 1) (by omega) (by omega) (fun j q1 q2 q3 => h j (by omega) (by omega) (by omega) q3)
      omega
    · by_cases e2 : k = m
      · subst e2
        have := sm_le1 (f := f) (i := i) (d := d) (k := k + 1) (by omega) (by omega) (fun j q1 q2 q3 => h j (by omega) (by omega) q3 (by omega))
        omega
      · have a1 := h k (Nat.le_refl _) (by omega) e e2
        have a2 := sm_le2 him (f := f) (d := d) (k := k + 1) (by omega) (by omega) (by omega) (by omega) (fun j q1 q2 q3 q4 => h j (by omega) (by omega) q3 q4)
        omega
theorem sm_lin {f g : Nat → Int} (p q : Int) : ∀ {d k : Nat}, sm (fun j => f j * p - q * g j) k d = p * sm f k d - q * sm g k d
  | 0, k => by simp [sm]
  | d + 1, k => by
    have ih := sm_lin (f := f) (g := g) p q (d := d) (k := k + 1)
    simp only [sm, ih]
    grind
theorem sm_congr {f g : Nat → Int} : ∀ {d k : Nat}, (∀ j, k ≤ j → j < k + d → f j = g j) → sm f k d = sm g k d
  | 0, k, _ => rfl
  | d + 1, k, h => by
    simp only [sm]
    rw [h k (Nat.le_refl _) (by omega), sm_congr (d := d) (k := k + 1) (fun j q1 q2 => h j (by omega) (by omega))]
theorem td_np {x b : Int} (hb : 0 < b) (hx : x ≤ 0) : x.tdiv b ≤ 0 ∧ x ≤ b * x.tdiv b := by
  have e : x.tdiv b = -((-x).tdiv b) := by rw [Int.neg_tdiv, Int.neg_neg]
  rw [e, Int.tdiv_eq_ediv_of_nonneg (by omega)]
  have h1 : 0 ≤ (-x) / b := Int.ediv_nonneg (by omega) (by omega)
  have h2 : b * ((-x) / b) ≤ -x := Int.mul_ediv_self_le (by omega)
  refine ⟨by omega, ?_⟩
  rw [Int.mul_neg]
  omega
theorem td_nn {x b : Int} (hb : 0 < b) (hx : 0 ≤ x) : 0 ≤ x.tdiv b ∧ b * x.tdiv b ≤ x ∧ x < b * x.tdiv b + b := by
  rw [Int.tdiv_eq_ediv_of_nonneg hx]
  exact ⟨Int.ediv_nonneg hx (by omega), Int.mul_ediv_self_le (by omega), Int.lt_mul_ediv_self_add hb⟩
theorem sm_td {x : Nat → Int} {b : Int} {i : Nat} (hb : 0 < b) (hi : 0 ≤ x i) : ∀ {d k : Nat}, (∀ j, k ≤ j → j < k + d → j ≠ i → x j ≤ 0) → sm x k d - (if k ≤ i ∧ i < k + d then b - 1 else 0) ≤ b * sm (fun j => (x j).tdiv b) k d
  | 0, k, _ => by
    rw [if_neg (by omega)]
    simp [sm]
  | d + 1, k, h => by
    have ih := sm_td (x := x) (i := i) hb hi (d := d) (k := k + 1) (fun j q1 q2 q3 => h j (by omega) (by omega) q3)
    simp only [sm, Int.mul_add]
    by_cases e : k = i
    · subst e
      rw [if_neg (by omega)] at ih
      rw [if_pos (by omega)]
      have := td_nn hb hi
      omega
    · have := (td_np hb (h k (Nat.le_refl _) (by omega) e)).2
      by_cases q : k + 1 ≤ i ∧ i < k + 1 + d
      · rw [if_pos q] at ih
        rw [if_pos (by omega)]
        omega
      · rw [if_neg q] at ih
        rw [if_neg (by omega)]
        omega
def el (M : Nat → Nat → Int) (b : Int) (k i j : Nat) : Int := if k < i ∧ k < j then (M i j * M k k - M i k * M k j).tdiv b else M i j
def pd (D : Nat → Nat) : Nat → Int
  | 0 => 1
  | k + 1 => pd D k * (D k : Int)
theorem pd_nn (D : Nat → Nat) : ∀ k, 0 ≤ pd D k
  | 0 => by simp [pd]
  | k + 1 => Int.mul_nonneg (pd_nn D k) (by omega)
def GM (D : Nat → Nat) (s : Nat) (M : Nat → Nat → Int) (b : Int) (k : Nat) : Prop :=
  0 < b ∧ b ≤ pd D k ∧ (∀ i j, k ≤ i → i < s → k ≤ j → j < s → M i j = M j i) ∧ (∀ i j, k ≤ i → i < s → k ≤ j → j < s → i ≠ j → M i j ≤ 0) ∧ (∀ i, k ≤ i → i < s → 0 ≤ sm (M i) k (s - k)) ∧ (∀ i, k ≤ i → i < s → M i i ≤ b * (D i : Int))
theorem GM_dg {D : Nat → Nat} {s : Nat} {M : Nat → Nat → Int} {b : Int} {k : Nat} (h : GM D s M b k) {i : Nat} (h1 : k ≤ i) (h2 : i < s) : 0 ≤ M i i := by
  obtain ⟨-, -, -, g4, g5, -⟩ := h
  have a := g5 i h1 h2
  have c := sm_le1 (f := M i) (i := i) (d := s - k) (k := k) h1 (by omega) (fun j q1 q2 q3 => g4 i j h1 h2 q1 (by omega) (fun e => q3 e.symm))
  omega
theorem GM_od {D : Nat → Nat} {s : Nat} {M : Nat → Nat → Int} {b : Int} {k : Nat} (h : GM D s M b k) {i j : Nat} (h1 : k ≤ i) (h2 : i < s) (h3 : k ≤ j) (h4 : j < s) (hij : i ≠ j) : 0 ≤ M i i + M i j ∧ M i j ≤ 0 := by
  obtain ⟨-, -, -, g4, g5, -⟩ := h
  have a := g5 i h1 h2
  have c := sm_le2 (f := M i) hij (d := s - k) (k := k) h1 (by omega) h3 (by omega) (fun m q1 q2 q3 q4 => g4 i m h1 h2 q1 (by omega) (fun e => q3 e.symm))
  exact ⟨by omega, g4 i j h1 h2 h3 h4 hij⟩
theorem GM_zero {D : Nat → Nat} {s : Nat} {M : Nat → Nat → Int} {b : Int} {k : Nat} (h : GM D s M b k) (hz : M k k = 0) {j : Nat} (h3 : k ≤ j) (h4 : j < s) : M j k = 0 := by
  by_cases e : j = k
  · rw [e]; exact hz
  · have a := GM_od h (Nat.le_refl k) (show k < s by omega) h3 h4 (fun q => e q.symm)
    rw [h.2.2.1 j k h3 h4 (Nat.le_refl _) (by omega)]
    omega
/-- the numerators -/
theorem GM_num {D : Nat → Nat} {s : Nat} {M : Nat → Nat → Int} {b : Int} {k : Nat} (h : GM D s M b k) {i : Nat} (h1 : k < i) (h2 : i < s) : 0 ≤ M i i * M k k - M i k * M k i := by
  have a1 := GM_od h (show k ≤ i by omega) h2 (Nat.le_refl k) (by omega) (show i ≠ k by omega)
  have a2 := GM_od h (Nat.le_refl k) (show k < s by omega) (show k ≤ i by omega) h2 (show k ≠ i by omega)
  have e : (-(M i k)) * (-(M k i)) ≤ M i i * M k k := Int.mul_le_mul (by omega) (by omega) (by omega) (GM_dg h (by omega) h2)
  rw [Int.neg_mul_neg] at e
  omega
theorem GM_numo {D : Nat → Nat} {s : Nat} {M : Nat → Nat → Int} {b : Int} {k : Nat} (h : GM D s M b k) {i j : Nat} (h1 : k < i) (h2 : i < s) (h3 : k < j) (h4 : j < s) (hij : i ≠ j) : M i j * M k k - M i k * M k j ≤ 0 := by
  have a1 := GM_od h (show k ≤ i by omega) h2 (Nat.le_refl k) (by omega) (show i ≠ k by omega)
  have a2 := GM_od h (Nat.le_refl k) (show k < s by omega) (show k ≤ j by omega) h4 (show k ≠ j by omega)
  have a3 := GM_od h (show k ≤ i by omega) h2 (show k ≤ j by omega) h4 hij
  have a4 := GM_dg h (Nat.le_refl k) (show k < s by omega)
  have e1 : M i j * M k k ≤ 0 := Int.mul_nonpos_of_nonpos_of_nonneg a3.2 a4
  have e2 : 0 ≤ M i k * M k j := Int.mul_nonneg_of_nonpos_of_nonpos a1.2 a2.2
  omega
theorem GM_step {D : Nat → Nat} {s : Nat} {M : Nat → Nat → Int} {b : Int} {k : Nat} (h : GM D s M b k) (hk : k < s) (hp : M k k ≠ 0) : GM D s (el M b k) (M k k) (k + 1) := by
  have hdk := GM_dg h (Nat.le_refl k) hk
  have h0 := h
  obtain ⟨g1, g2, g3, g4, g5, g6⟩ := h0
  have hel : ∀ i j, k + 1 ≤ i → k + 1 ≤ j → el M b k i j = (M i j * M k k - M i k * M k j).tdiv b := fun i j q1 q2 => by
    unfold el
    rw [if_pos (by omega)]
  refine ⟨by omega, ?_, ?_, ?_, ?_, ?_⟩
  · have q := g6 k (Nat.le_refl _) hk
    have q2 : b * (D k : Int) ≤ pd D k * (D k : Int) := Int.mul_le_mul_of_nonneg_right g2 (by omega)
    simp only [pd]
    omega
  · intro i j q1 q2 q3 q4
    rw [hel i j q1 q3, hel j i q3 q1, g3 i j (by omega) q2 (by omega) q4, g3 i k (by omega) q2 (Nat.le_refl _) hk, g3 k j (Nat.le_refl _) hk (by omega) q4, Int.mul_comm (M k i)]
  · intro i j q1 q2 q3 q4 q5
    rw [hel i j q1 q3]
    exact (td_np g1 (GM_numo h q1 q2 q3 q4 q5)).1
  · intro i q1 q2
    have hnum := GM_num h q1 q2
    have e1 : sm (el M b k i) (k + 1) (s - (k + 1)) = sm (fun j => (M i j * M k k - M i k * M k j).tdiv b) (k + 1) (s - (k + 1)) := sm_congr (fun j r1 r2 => hel i j q1 r1)
    have e2 := sm_td (x := fun j => M i j * M k k - M i k * M k j) (b := b) (i := i) g1 hnum (d := s - (k + 1)) (k := k + 1) (fun j r1 r2 r3 => GM_numo h q1 q2 r1 (by omega) (fun e => r3 e.symm))
    rw [sm_lin, if_pos (by omega)] at e2
    have hs : s - k = (s - (k + 1)) + 1 := by omega
    have r1 := g5 i (by omega) q2
    have r2 := g5 k (Nat.le_refl _) hk
    rw [hs] at r1 r2
    simp only [sm] at r1 r2
    have hik := (GM_od h (show k ≤ i by omega) q2 (Nat.le_refl k) hk (show i ≠ k by omega)).2
    rw [e1]
    generalize sm (fun j => (M i j * M k k - M i k * M k j).tdiv b) (k + 1) (s - (k + 1)) = Y at e2 ⊢
    generalize sm (M i) (k + 1) (s - (k + 1)) = A at r1 e2
    generalize sm (M k) (k + 1) (s - (k + 1)) = B at r2 e2
    have t1 : 0 ≤ M k k * (M i k + A) := Int.mul_nonneg hdk r1
    have t2 : 0 ≤ (-(M i k)) * (M k k + B) := Int.mul_nonneg (by omega) r2
    have t3 : M k k * A - M i k * B = M k k * (M i k + A) + (-(M i k)) * (M k k + B) := by grind
    have t4 : -b < b * Y := by omega
    apply Classical.byContradiction
    intro hneg
    have t5 : b * Y ≤ b * (-1) := Int.mul_le_mul_of_nonneg_left (by omega) (by omega)
    omega
  · intro i q1 q2
    rw [hel i i q1 q1]
    have hnum := GM_num h q1 q2
    have t1 := td_nn g1 hnum
    have hik := GM_od h (show k ≤ i by omega) q2 (Nat.le_refl k) hk (show i ≠ k by omega)
    have hki := GM_od h (Nat.le_refl k) hk (show k ≤ i by omega) q2 (show k ≠ i by omega)
    have t2 : 0 ≤ M i k * M k i := Int.mul_nonneg_of_nonpos_of_nonpos hik.2 hki.2
    have t3 : M i i * M k k ≤ (b * (D i : Int)) * M k k := Int.mul_le_mul_of_nonneg_right (g6 i (by omega) q2) hdk
    have t4 : (b * (D i : Int)) * M k k = b * (M k k * (D i : Int)) := by grind
    have t5 : b * (M i i * M k k - M i k * M k i).tdiv b ≤ b * (M k k * (D i : Int)) := by omega
    exact Int.le_of_mul_le_mul_left t5 g1
/-! how great the numbers become -/
def sN (D : Nat → Nat) : Nat → Nat
  | 0 => 0
  | k + 1 => sN D k + D k
def pN (D : Nat → Nat) : Nat → Nat
  | 0 => 1
  | k + 1 => pN D k * D k
theorem pd_pN (D : Nat → Nat) : ∀ k, pd D k = (pN D k : Int)
  | 0 => rfl
  | k + 1 => by
    simp only [pd, pN, pd_pN D k]
    rw [Int.natCast_mul]
theorem sq2 : ∀ d : Nat, 8 * (d * d) ≤ 9 * 2 ^ d
  | 0 => by decide
  | 1 => by decide
  | 2 => by decide
  | 3 => by decide
  | d + 4 => by
    have ih := sq2 (d + 3)
    have e : 2 ^ (d + 4) = 2 * 2 ^ (d + 3) := by rw [Nat.pow_succ]; omega
    rw [e]
    have h : (d + 4) * (d + 4) ≤ 2 * ((d + 3) * (d + 3)) := by
      have a1 : (d + 4) * (d + 4) = d * d + 8 * d + 16 := by grind
      have a2 : (d + 3) * (d + 3) = d * d + 6 * d + 9 := by grind
      have a3 : 0 ≤ d * d := Nat.zero_le _
      omega
    omega
theorem pN_b (D : Nat → Nat) : ∀ k, 8 ^ k * (pN D k * pN D k) ≤ 9 ^ k * 2 ^ (sN D k)
  | 0 => by simp [pN, sN]
  | k + 1 => by
    have ih := pN_b D k
    have h2 := sq2 (D k)
    simp only [pN, sN]
    have e1 : 8 ^ (k + 1) * (pN D k * D k * (pN D k * D k)) = (8 ^ k * (pN D k * pN D k)) * (8 * (D k * D k)) := by
      rw [Nat.pow_succ]
      generalize 8 ^ k = x
      grind
    have e2 : 9 ^ (k + 1) * 2 ^ (sN D k + D k) = (9 ^ k * 2 ^ (sN D k)) * (9 * 2 ^ (D k)) := by
      rw [Nat.pow_succ, Nat.pow_add]
      generalize 9 ^ k = x
      generalize 2 ^ (sN D k) = y
      generalize 2 ^ (D k) = z
      grind
    rw [e1, e2]
    exact Nat.mul_le_mul ih h2
theorem sN_mono (D : Nat → Nat) {k i : Nat} (h : k ≤ i) : sN D k ≤ sN D i := by
  induction i with
  | zero => have : k = 0 := by omega
            rw [this]; exact Nat.le_refl _
  | succ i ih =>
    by_cases e : k = i + 1
    · rw [e]; exact Nat.le_refl _
    · have := ih (by omega)
      simp only [sN]; omega
theorem nine8 : ∀ m, m ≤ 10 → 9 ^ m ≤ 4 * 8 ^ m := by decide
theorem pN_31 {D : Nat → Nat} {s k i : Nat} (hs : s ≤ 10) (hD : sN D s ≤ 60) (hk : k ≤ i) (hi : i < s) : pN D k * D i ≤ 2 ^ 31 := by
  have h1 := pN_b D k
  have h2 := sq2 (D i)
  have h3 := sN_mono D hk
  have h4 := sN_mono D (show i + 1 ≤ s by omega)
  simp only [sN] at h4
  have e0 : (8 ^ k * (pN D k * pN D k)) * (8 * (D i * D i)) ≤ (9 ^ k * 2 ^ (sN D k)) * (9 * 2 ^ (D i)) := Nat.mul_le_mul h1 h2
  have e1 : (8 ^ k * (pN D k * pN D k)) * (8 * (D i * D i)) = 8 ^ (k + 1) * (pN D k * D i * (pN D k * D i)) := by
    rw [Nat.pow_succ]
    generalize 8 ^ k = x
    grind
  have e2 : (9 ^ k * 2 ^ (sN D k)) * (9 * 2 ^ (D i)) = 9 ^ (k + 1) * 2 ^ (sN D k + D i) := by
    rw [Nat.pow_succ, Nat.pow_add]
    generalize 9 ^ k = x
    generalize 2 ^ (sN D k) = y
    generalize 2 ^ (D i) = z
    grind
  rw [e1, e2] at e0
  have e3 : 9 ^ (k + 1) * 2 ^ (sN D k + D i) ≤ (4 * 8 ^ (k + 1)) * 2 ^ 60 := Nat.mul_le_mul (nine8 (k + 1) (by omega)) (Nat.pow_le_pow_right (by decide) (by omega))
  have e4 : (4 * 8 ^ (k + 1)) * 2 ^ 60 = 8 ^ (k + 1) * (2 ^ 31 * 2 ^ 31) := by
    generalize 8 ^ (k + 1) = x
    omega
  have e5 : 8 ^ (k + 1) * (pN D k * D i * (pN D k * D i)) ≤ 8 ^ (k + 1) * (2 ^ 31 * 2 ^ 31) := by omega
  have e6 : pN D k * D i * (pN D k * D i) ≤ 2 ^ 31 * 2 ^ 31 := Nat.le_of_mul_le_mul_left e5 (Nat.pow_pos (by decide))
  exact Nat.mul_self_le_mul_self_iff.mp e6
theorem GM_e {D : Nat → Nat} {s : Nat} {M : Nat → Nat → Int} {b : Int} {k : Nat} (h : GM D s M b k) (hs : s ≤ 10) (hD : sN D s ≤ 60) {i : Nat} (h1 : k ≤ i) (h2 : i < s) : M i i ≤ 2 ^ 31 := by
  obtain ⟨g1, g2, -, -, -, g6⟩ := h
  have a := g6 i h1 h2
  have c : b * (D i : Int) ≤ pd D k * (D i : Int) := Int.mul_le_mul_of_nonneg_right g2 (by omega)
  have e := pN_31 hs hD h1 h2
  rw [pd_pN, ← Int.natCast_mul] at c
  omega
theorem GM_b {D : Nat → Nat} {s : Nat} {M : Nat → Nat → Int} {b : Int} {k : Nat} (h : GM D s M b k) (hs : s ≤ 10) (hD : sN D s ≤ 60) (hk : k ≤ s) : b ≤ 2 ^ 31 := by
  obtain ⟨g1, g2, -, -, -, -⟩ := h
  cases k with
  | zero => simp only [pd] at g2; omega
  | succ k =>
    have e := pN_31 (i := k) hs hD (Nat.le_refl k) (by omega)
    rw [pd_pN] at g2
    simp only [pN] at g2
    omega
/-- each numerator has room -/
theorem GM_room {D : Nat → Nat} {s : Nat} {M : Nat → Nat → Int} {b : Int} {k : Nat} (h : GM D s M b k) (hs : s ≤ 10) (hD : sN D s ≤ 60) {i j : Nat} (h1 : k < i) (h2 : i < s) (h3 : k < j) (h4 : j < s) : -(2 ^ 63) ≤ M i j * M k k - M i k * M k j ∧ M i j * M k k - M i k * M k j ≤ 2 ^ 62 := by
  have di := GM_dg h (show k ≤ i by omega) h2
  have dk := GM_dg h (Nat.le_refl k) (show k < s by omega)
  have bi := GM_e h hs hD (show k ≤ i by omega) h2
  have bk := GM_e h hs hD (Nat.le_refl k) (show k < s by omega)
  have hik := GM_od h (show k ≤ i by omega) h2 (Nat.le_refl k) (show k < s by omega) (show i ≠ k by omega)
  have hkj := GM_od h (Nat.le_refl k) (show k < s by omega) (show k ≤ j by omega) h4 (show k ≠ j by omega)
  have t2 : 0 ≤ M i k * M k j := Int.mul_nonneg_of_nonpos_of_nonpos hik.2 hkj.2
  by_cases e : i = j
  · subst e
    have t1 := GM_num h h1 h2
    have t3 : M i i * M k k ≤ 2 ^ 31 * 2 ^ 31 := Int.mul_le_mul bi bk dk (by decide)
    omega
  · have t0 := GM_numo h h1 h2 h3 h4 e
    have hij := GM_od h (show k ≤ i by omega) h2 (show k ≤ j by omega) h4 e
    have t3 : (-(M i j)) * M k k ≤ 2 ^ 31 * 2 ^ 31 := Int.mul_le_mul (by omega) bk dk (by decide)
    have t4 : (-(M i k)) * (-(M k j)) ≤ 2 ^ 31 * 2 ^ 31 := Int.mul_le_mul (by omega) (by omega) (by omega) (by decide)
    rw [Int.neg_mul_neg] at t4
    rw [Int.neg_mul] at t3
    omega
def dt (M : Nat → Nat → Int) (b : Int) (k : Nat) : Nat → Int
  | 0 => b
  | d + 1 => if M k k = 0 then 0 else dt (el M b k) (M k k) (k + 1) d
