/-! bits of an int -/
def bi (x : Int32) : Nat → Bool := fun v => x.toBitVec.getLsbD v
theorem sh32 : ∀ a, a < 32 → ((nI a &&& 31).toBitVec.smod 32).toNat = a := by decide +kernel
theorem tp32 : ∀ a, a < 32 → ((1 : Int32) <<< (nI a &&& 31)).toBitVec = BitVec.twoPow 32 a := by decide +kernel
theorem bi_or (x : Int32) {a : Nat} (ha : a < 32) : bi (x ||| ((1 : Int32) <<< (nI a &&& 31))) = fun v => bi x v || decide (a = v) := by
  funext v
  show (x ||| ((1 : Int32) <<< (nI a &&& 31))).toBitVec.getLsbD v = _
  rw [Int32.toBitVec_or, tp32 a ha, BitVec.getLsbD_or, BitVec.getLsbD_twoPow]
  simp [ha, bi]
theorem bi_one {a : Nat} (ha : a < 32) : bi ((1 : Int32) <<< (nI a &&& 31)) = fun v => decide (a = v) := by
  funext v
  show ((1 : Int32) <<< (nI a &&& 31)).toBitVec.getLsbD v = _
  rw [tp32 a ha, BitVec.getLsbD_twoPow]
  simp [ha]
theorem bi_0 (x : Int32) {a : Nat} (ha : a < 32) : ((x >>> (nI a &&& 31)) &&& (1 : Int32)) = 0 ↔ bi x a = false := by
  rw [← Int32.toBitVec_inj, Int32.toBitVec_and, Int32.toBitVec_shiftRight, BitVec.sshiftRight_eq', sh32 a ha]
  have e1 : (1 : Int32).toBitVec = 1#32 := by decide +kernel
  have e0 : (0 : Int32).toBitVec = 0#32 := by decide +kernel
  rw [e1, e0]
  constructor
  · intro h
    have h2 := congrArg (fun v => v.getLsbD 0) h
    simp only [BitVec.getLsbD_and, BitVec.getLsbD_sshiftRight, BitVec.getLsbD_one, BitVec.getLsbD_zero] at h2
    simpa [ha, bi] using h2
  · intro h
    apply BitVec.eq_of_getLsbD_eq
    intro i hi
    simp only [BitVec.getLsbD_and, BitVec.getLsbD_sshiftRight, BitVec.getLsbD_one, BitVec.getLsbD_zero]
    by_cases h0 : i = 0
    · subst h0
      unfold bi at h
      rw [BitVec.getLsbD_eq_getElem ha] at h
      simp [ha, h]
    · simp [h0]
theorem bi_1 (x : Int32) {a : Nat} (ha : a < 32) : ((x >>> (nI a &&& 31)) &&& (1 : Int32)) = 1 ↔ bi x a = true := by
  constructor
  · intro h
    cases hb : bi x a with
    | true => rfl
    | false =>
      rw [(bi_0 x ha).mpr hb] at h
      exact absurd h (by decide)
  · intro h
    rw [← Int32.toBitVec_inj, Int32.toBitVec_and, Int32.toBitVec_shiftRight, BitVec.sshiftRight_eq', sh32 a ha]
    have e1 : (1 : Int32).toBitVec = 1#32 := by decide +kernel
    rw [e1]
    apply BitVec.eq_of_getLsbD_eq
    intro i hi
    simp only [BitVec.getLsbD_and, BitVec.getLsbD_sshiftRight, BitVec.getLsbD_one]
    by_cases h0 : i = 0
    · subst h0
      unfold bi at h
      rw [BitVec.getLsbD_eq_getElem ha] at h
      simp [ha, h]
    · simp [h0]
theorem bi_ext {x y : Int32} (h : bi x = bi y) : x = y := by
  rw [← Int32.toBitVec_inj]
  apply BitVec.eq_of_getLsbD_eq
  intro i hi
  exact congrFun h i
/-! what a root reaches -/
def psl (fr to : Nat → Nat) : List Nat → (Nat → Bool) → Nat → Bool
  | [], S => S
  | a :: l, S => psl fr to l (if S (fr a) = true then fun v => S v || decide (to a = v) else S)
def Clo (fr to : Nat → Nat) (l : List Nat) (S : Nat → Bool) : Prop := ∀ a, a ∈ l → S (fr a) = true → S (to a) = true
theorem psl_mono {fr to : Nat → Nat} : ∀ (l : List Nat) {S : Nat → Bool} {v : Nat}, S v = true → psl fr to l S v = true
  | [], _, _, h => h
  | a :: l, S, v, h => by
    unfold psl
    apply psl_mono l
    by_cases hs : S (fr a) = true
    · rw [if_pos hs]; simp [h]
    · rw [if_neg hs]; exact h
theorem psl_arc {fr to : Nat → Nat} : ∀ (l : List Nat) {S : Nat → Bool} {a : Nat}, a ∈ l → S (fr a) = true → psl fr to l S (to a) = true
  | [], _, _, h, _ => by cases h
  | b :: l, S, a, h, hs => by
    unfold psl
    rcases List.mem_cons.mp h with rfl | h
    · rw [if_pos hs]
      exact psl_mono l (by simp)
    · apply psl_arc l h
      by_cases hb : S (fr b) = true
      · rw [if_pos hb]; simp [hs]
      · rw [if_neg hb]; exact hs
theorem psl_sound {fr to : Nat → Nat} {C : Nat → Bool} : ∀ (l : List Nat) {S : Nat → Bool}, Clo fr to l C → (∀ v, S v = true → C v = true) → ∀ v, psl fr to l S v = true → C v = true
  | [], _, _, h => h
  | a :: l, S, hc, h => by
    unfold psl
    apply psl_sound l (fun b hb => hc b (List.mem_cons_of_mem _ hb))
    intro v hv
    by_cases hs : S (fr a) = true
    · rw [if_pos hs] at hv
      simp at hv
      rcases hv with hv | hv
      · exact h v hv
      · rw [← hv]
        exact hc a List.mem_cons_self (h _ hs)
    · rw [if_neg hs] at hv
      exact h v hv
theorem psl_clo {fr to : Nat → Nat} : ∀ (l : List Nat) {S : Nat → Bool}, Clo fr to l S → psl fr to l S = S
  | [], _, _ => rfl
  | a :: l, S, hc => by
    have e : (if S (fr a) = true then fun v => S v || decide (to a = v) else S) = S := by
      by_cases hs : S (fr a) = true
      · rw [if_pos hs]
        funext v
        have h1 := hc a List.mem_cons_self hs
        by_cases hv : to a = v
        · rw [← hv]; simp [h1]
        · simp [hv]
      · rw [if_neg hs]
    unfold psl
    rw [e]
    exact psl_clo l (fun b hb => hc b (List.mem_cons_of_mem _ hb))
def nbs (S : Nat → Bool) : Nat → Nat
  | 0 => 0
  | n + 1 => nbs S n + (if S n = true then 1 else 0)
theorem nbs_le (S : Nat → Bool) : ∀ n, nbs S n ≤ n
  | 0 => Nat.le_refl 0
  | n + 1 => by
    have := nbs_le S n
    unfold nbs
    by_cases h : S n = true
    · rw [if_pos h]; omega
    · rw [if_neg h]; omega
theorem nbs_mono {S T : Nat → Bool} (h : ∀ v, S v = true → T v = true) : ∀ n, nbs S n ≤ nbs T n
  | 0 => Nat.le_refl 0
  | n + 1 => by
    have := nbs_mono h n
    unfold nbs
    by_cases hs : S n = true
    · rw [if_pos hs, if_pos (h n hs)]; omega
    · rw [if_neg hs]
      by_cases ht : T n = true
      · rw [if_pos ht]; omega
      · rw [if_neg ht]; omega
theorem nbs_lt {S T : Nat → Bool} (h : ∀ v, S v = true → T v = true) {u : Nat} (hs : S u = false) (ht : T u = true) : ∀ n, u < n → nbs S n + 1 ≤ nbs T n
  | 0, hu => absurd hu (Nat.not_lt_zero u)
  | n + 1, hu => by
    unfold nbs
    by_cases e : u = n
    · subst e
      have := nbs_mono h u
      rw [if_neg (by rw [hs]; simp), if_pos ht]
      omega
    · have := nbs_lt h hs ht n (by omega)
      by_cases hs2 : S n = true
      · rw [if_pos hs2, if_pos (h n hs2)]; omega
      · rw [if_neg hs2]
        by_cases ht2 : T n = true
        · rw [if_pos ht2]; omega
        · rw [if_neg ht2]; omega
theorem nbs_all {S : Nat → Bool} : ∀ {n : Nat}, n ≤ nbs S n → ∀ v, v < n → S v = true
  | 0, _, v, hv => absurd hv (Nat.not_lt_zero v)
  | n + 1, h, v, hv => by
    unfold nbs at h
    have h1 := nbs_le S n
    by_cases hs : S n = true
    · rw [if_pos hs] at h
      by_cases e : v = n
      · rw [e]; exact hs
      · exact nbs_all (n := n) (by omega) v (by omega)
    · rw [if_neg hs] at h
      omega
theorem psl_grow {fr to : Nat → Nat} {l : List Nat} {S : Nat → Bool} {n : Nat} (ht : ∀ a, a ∈ l → to a < n) (hc : ¬ Clo fr to l S) : nbs S n + 1 ≤ nbs (psl fr to l S) n := by
  have h1 : ∃ a, a ∈ l ∧ S (fr a) = true ∧ S (to a) = false := by
    apply Classical.byContradiction
    intro hn
    apply hc
    intro a ha hs
    cases hb : S (to a) with
    | true => rfl
    | false => exact absurd ⟨a, ha, hs, hb⟩ hn
  obtain ⟨a, ha, hs, hb⟩ := h1
  exact nbs_lt (S := S) (T := psl fr to l S) (u := to a) (fun v hv => psl_mono l hv) hb (psl_arc l ha hs) n (ht a ha)
def pit (fr to : Nat → Nat) (l : List Nat) : Nat → (Nat → Bool) → Nat → Bool
  | 0, S => S
  | j + 1, S => pit fr to l j (psl fr to l S)
theorem pit_clo {fr to : Nat → Nat} {l : List Nat} {n : Nat} (ht : ∀ a, a ∈ l → to a < n) : ∀ (j : Nat) (S : Nat → Bool), (Clo fr to l S ∨ n ≤ nbs S n + j) → Clo fr to l (pit fr to l j S)
  | 0, S, h => by
    rcases h with h | h
    · exact h
    · intro a ha hs
      show S (to a) = true
      exact nbs_all (S := S) (n := n) (by omega) (to a) (ht a ha)
  | j + 1, S, h => by
    unfold pit
    apply pit_clo ht j
    rcases h with h | h
    · left; rw [psl_clo l h]; exact h
    · by_cases hc : Clo fr to l S
      · left; rw [psl_clo l hc]; exact hc
      · right
        have := psl_grow ht hc
        omega
theorem pit_mono {fr to : Nat → Nat} {l : List Nat} : ∀ (j : Nat) {S : Nat → Bool} {v : Nat}, S v = true → pit fr to l j S v = true
  | 0, _, _, h => h
  | j + 1, _, _, h => pit_mono j (psl_mono l h)
theorem pit_sound {fr to : Nat → Nat} {l : List Nat} {C : Nat → Bool} (hc : Clo fr to l C) : ∀ (j : Nat) {S : Nat → Bool}, (∀ v, S v = true → C v = true) → ∀ v, pit fr to l j S v = true → C v = true
  | 0, _, h => h
  | j + 1, _, h => pit_sound hc j (psl_sound l hc h)
