/-! rows of the matrix -/
def cw (rp : Nat → Bool) : Nat → Nat
  | 0 => 0
  | v + 1 => cw rp v + (if rp v = true then 1 else 0)
theorem cw_mono {rp : Nat → Bool} {u : Nat} : ∀ {v : Nat}, u ≤ v → cw rp u ≤ cw rp v
  | 0, h => by
    have : u = 0 := by omega
    rw [this]; exact Nat.le_refl _
  | v + 1, h => by
    by_cases e : u = v + 1
    · rw [e]; exact Nat.le_refl _
    · have := cw_mono (rp := rp) (u := u) (v := v) (by omega)
      simp only [cw]; omega
theorem cw_lt {rp : Nat → Bool} {u v : Nat} (hu : rp u = true) (h : u < v) : cw rp u < cw rp v := by
  have h1 := cw_mono (rp := rp) (show u + 1 ≤ v by omega)
  simp only [cw, if_pos hu] at h1
  omega
theorem cw_inj {rp : Nat → Bool} {u v : Nat} (hu : rp u = true) (hv : rp v = true) : cw rp u = cw rp v ↔ u = v := by
  constructor
  · intro h
    rcases Nat.lt_trichotomy u v with q | q | q
    · have := cw_lt hu q; omega
    · exact q
    · have := cw_lt hv q; omega
  · intro h; rw [h]
theorem cw_le (rp : Nat → Bool) : ∀ v, cw rp v ≤ v
  | 0 => Nat.le_refl 0
  | v + 1 => by
    have := cw_le rp v
    simp only [cw]
    by_cases h : rp v = true
    · rw [if_pos h]; omega
    · rw [if_neg h]; omega
theorem cw_ex {rp : Nat → Bool} {i : Nat} : ∀ {n : Nat}, i < cw rp n → ∃ v, v < n ∧ rp v = true ∧ cw rp v = i
  | 0, h => by simp [cw] at h
  | n + 1, h => by
    by_cases h1 : i < cw rp n
    · obtain ⟨v, q1, q2, q3⟩ := cw_ex h1
      exact ⟨v, by omega, q2, q3⟩
    · simp only [cw] at h
      by_cases hp : rp n = true
      · rw [if_pos hp] at h
        exact ⟨n, by omega, hp, by omega⟩
      · rw [if_neg hp] at h; omega
def rho (rp : Nat → Bool) (v : Nat) : Option Nat := if rp v = true then some (cw rp v) else none
theorem rho_s {rp : Nat → Bool} {a u : Nat} (hu : rp u = true) : rho rp a = some (cw rp u) ↔ a = u := by
  unfold rho
  by_cases ha : rp a = true
  · rw [if_pos ha, Option.some.injEq]
    exact cw_inj ha hu
  · rw [if_neg ha]
    constructor
    · intro h; cases h
    · intro h; rw [h] at ha; exact absurd hu ha
/-! what an arc adds to the matrix -/
def ct (x y : Option Nat) (i j : Nat) : Int := (if x = some i ∧ i = j then 1 else 0) + (if y = some i ∧ i = j then 1 else 0) - (if x = some i ∧ y = some j then 1 else 0) - (if y = some i ∧ x = some j then 1 else 0)
def mt (rp : Nat → Bool) (fr to lab : Nat → Nat) : List Nat → Nat → Nat → Int
  | [], _, _ => 0
  | a :: l, i, j => (if lab (fr a) = lab (to a) then 0 else ct (rho rp (lab (fr a))) (rho rp (lab (to a))) i j) + mt rp fr to lab l i j
theorem mt_app {rp : Nat → Bool} {fr to lab : Nat → Nat} {i j : Nat} : ∀ (l1 l2 : List Nat), mt rp fr to lab (l1 ++ l2) i j = mt rp fr to lab l1 i j + mt rp fr to lab l2 i j
  | [], l2 => by simp [mt]
  | a :: l, l2 => by
    have ih := mt_app (rp := rp) (fr := fr) (to := to) (lab := lab) (i := i) (j := j) l l2
    simp only [List.cons_append, mt, ih]
    omega
def dc (x : Option Nat) (i : Nat) : Nat := if x = some i then 1 else 0
def dg (rp : Nat → Bool) (fr to lab : Nat → Nat) : List Nat → Nat → Nat
  | [], _ => 0
  | a :: l, i => dc (rho rp (lab (fr a))) i + dc (rho rp (lab (to a))) i + dg rp fr to lab l i
theorem ct_sym (x y : Option Nat) (i j : Nat) : ct x y i j = ct x y j i := by
  unfold ct
  by_cases e : i = j
  · rw [e]
  · have e2 : ¬ j = i := fun q => e q.symm
    simp only [e, e2, and_false, if_false]
    have c1 : (x = some i ∧ y = some j) ↔ (y = some j ∧ x = some i) := And.comm
    have c2 : (y = some i ∧ x = some j) ↔ (x = some j ∧ y = some i) := And.comm
    simp only [c1, c2]
    omega
theorem ct_off (x y : Option Nat) {i j : Nat} (e : i ≠ j) : ct x y i j ≤ 0 := by
  unfold ct
  simp only [e, and_false, if_false]
  split <;> split <;> omega
theorem ct_dg (x y : Option Nat) (i : Nat) : ct x y i i ≤ ((dc x i + dc y i : Nat) : Int) := by
  unfold ct dc
  by_cases h1 : x = some i <;> by_cases h2 : y = some i <;> simp [h1, h2]
theorem sm_4 {f g h u : Nat → Int} : ∀ {d k : Nat}, sm (fun j => f j + g j - h j - u j) k d = sm f k d + sm g k d - sm h k d - sm u k d
  | 0, k => by simp [sm]
  | d + 1, k => by
    have := sm_4 (f := f) (g := g) (h := h) (u := u) (d := d) (k := k + 1)
    simp only [sm, this]
    omega
theorem sm_i0 {P : Prop} [Decidable P] {i : Nat} : ∀ {d k : Nat}, i < k → sm (fun j => if P ∧ i = j then 1 else 0) k d = 0
  | 0, k, _ => rfl
  | d + 1, k, h => by
    simp only [sm]
    rw [if_neg (by omega), sm_i0 (by omega)]
    rfl
theorem sm_i {P : Prop} [Decidable P] {i : Nat} : ∀ {d k : Nat}, k ≤ i → i < k + d → sm (fun j => if P ∧ i = j then 1 else 0) k d = if P then 1 else 0
  | 0, k, h1, h2 => by omega
  | d + 1, k, h1, h2 => by
    simp only [sm]
    by_cases e : i = k
    · subst e
      rw [sm_i0 (by omega)]
      by_cases hp : P
      · rw [if_pos ⟨hp, rfl⟩, if_pos hp]; rfl
      · rw [if_neg (fun q => hp q.1), if_neg hp]; rfl
    · rw [if_neg (fun q => e q.2), sm_i (by omega) (by omega)]
      omega
theorem sm_o0 {P : Prop} [Decidable P] {i : Nat} {y : Option Nat} (hy : y = some i) : ∀ {d k : Nat}, i < k → sm (fun j => if P ∧ y = some j then 1 else 0) k d = 0
  | 0, k, _ => rfl
  | d + 1, k, h => by
    simp only [sm]
    rw [if_neg (fun q => by rw [hy, Option.some.injEq] at q; omega), sm_o0 hy (by omega)]
    rfl
theorem sm_o {P : Prop} [Decidable P] {y : Option Nat} : ∀ {d k : Nat}, sm (fun j => if P ∧ y = some j then 1 else 0) k d ≤ if P then 1 else 0
  | 0, k => by
    simp only [sm]
    split <;> omega
  | d + 1, k => by
    simp only [sm]
    by_cases e : P ∧ y = some k
    · rw [if_pos e, sm_o0 e.2 (by omega), if_pos e.1]
      omega
    · rw [if_neg e]
      have := sm_o (P := P) (y := y) (d := d) (k := k + 1)
      omega
theorem ct_row (x y : Option Nat) {i k d : Nat} (h1 : k ≤ i) (h2 : i < k + d) : 0 ≤ sm (ct x y i) k d := by
  have e : sm (ct x y i) k d = _ := sm_4 (f := fun j => if x = some i ∧ i = j then 1 else 0) (g := fun j => if y = some i ∧ i = j then 1 else 0) (h := fun j => if x = some i ∧ y = some j then 1 else 0) (u := fun j => if y = some i ∧ x = some j then 1 else 0) (d := d) (k := k)
  rw [e, sm_i h1 h2, sm_i h1 h2]
  have a1 := sm_o (P := x = some i) (y := y) (d := d) (k := k)
  have a2 := sm_o (P := y = some i) (y := x) (d := d) (k := k)
  omega
theorem sm_add {f g : Nat → Int} : ∀ {d k : Nat}, sm (fun j => f j + g j) k d = sm f k d + sm g k d
  | 0, k => by simp [sm]
  | d + 1, k => by
    have := sm_add (f := f) (g := g) (d := d) (k := k + 1)
    simp only [sm, this]
    omega
theorem sm_zero : ∀ {d k : Nat}, sm (fun _ => 0) k d = 0
  | 0, k => rfl
  | d + 1, k => by
    simp only [sm]
    rw [sm_zero (d := d) (k := k + 1)]
    rfl
theorem sN_add {f g : Nat → Nat} : ∀ k, sN (fun i => f i + g i) k = sN f k + sN g k
  | 0 => rfl
  | k + 1 => by
    have := sN_add (f := f) (g := g) k
    simp only [sN, this]; omega
theorem sN_zero : ∀ k, sN (fun _ => 0) k = 0
  | 0 => rfl
  | k + 1 => by simp only [sN, sN_zero k]
theorem sN_dc (x : Option Nat) : ∀ k, sN (dc x) k ≤ 1 ∧ ((∀ i, x = some i → k ≤ i) → sN (dc x) k = 0)
  | 0 => ⟨by simp [sN], fun _ => rfl⟩
  | k + 1 => by
    obtain ⟨h1, h2⟩ := sN_dc x k
    simp only [sN]
    by_cases e : x = some k
    · have h3 := h2 (fun i hi => by rw [e, Option.some.injEq] at hi; omega)
      refine ⟨?_, fun q => ?_⟩
      · unfold dc at h3 ⊢
        rw [if_pos e]; omega
      · have := q k e; omega
    · have h0 : dc x k = 0 := by unfold dc; rw [if_neg e]
      rw [h0]
      exact ⟨by omega, fun q => by rw [h2 (fun i hi => by have := q i hi; omega)]⟩
theorem dg_sum {rp : Nat → Bool} {fr to lab : Nat → Nat} : ∀ (l : List Nat) (s : Nat), sN (dg rp fr to lab l) s ≤ 2 * l.length
  | [], s => by
    have e : dg rp fr to lab [] = fun _ => 0 := by funext i; rfl
    rw [e, sN_zero]; omega
  | a :: l, s => by
    have ih := dg_sum (rp := rp) (fr := fr) (to := to) (lab := lab) l s
    have e : dg rp fr to lab (a :: l) = fun i => (fun i => dc (rho rp (lab (fr a))) i + dc (rho rp (lab (to a))) i) i + dg rp fr to lab l i := by funext i; rfl
    rw [e, sN_add, sN_add]
    have h1 := (sN_dc (rho rp (lab (fr a))) s).1
    have h2 := (sN_dc (rho rp (lab (to a))) s).1
    have e1 : sN (fun i => dc (rho rp (lab (fr a))) i) s = sN (dc (rho rp (lab (fr a)))) s := rfl
    have e2 : sN (fun i => dc (rho rp (lab (to a))) i) s = sN (dc (rho rp (lab (to a)))) s := rfl
    simp only [List.length_cons]
    omega
theorem mt_GM {rp : Nat → Bool} {fr to lab : Nat → Nat} {s : Nat} : ∀ (l : List Nat), GM (dg rp fr to lab l) s (mt rp fr to lab l) 1 0
  | [] => by
    refine ⟨by decide, by simp [pd], fun i j _ _ _ _ => rfl, fun i j _ _ _ _ _ => by simp [mt], fun i _ _ => ?_, fun i _ _ => by simp [mt, dg]⟩
    have e : mt rp fr to lab [] i = fun _ => 0 := by funext j; rfl
    rw [e, sm_zero]
    omega
  | a :: l => by
    obtain ⟨-, -, g3, g4, g5, g6⟩ := mt_GM (rp := rp) (fr := fr) (to := to) (lab := lab) (s := s) l
    by_cases hq : lab (fr a) = lab (to a)
    · have e : mt rp fr to lab (a :: l) = mt rp fr to lab l := by
        funext i j
        simp only [mt, if_pos hq]; omega
      rw [e]
      refine ⟨by decide, by simp [pd], g3, g4, g5, fun i h1 h2 => ?_⟩
      have := g6 i h1 h2
      simp only [dg]
      omega
    · have e : ∀ i j, mt rp fr to lab (a :: l) i j = ct (rho rp (lab (fr a))) (rho rp (lab (to a))) i j + mt rp fr to lab l i j := fun i j => by simp only [mt, if_neg hq]
      refine ⟨by decide, by simp [pd], fun i j h1 h2 h3 h4 => ?_, fun i j h1 h2 h3 h4 h5 => ?_, fun i h1 h2 => ?_, fun i h1 h2 => ?_⟩
      · rw [e, e, g3 i j h1 h2 h3 h4, ct_sym]
      · rw [e]
        have := g4 i j h1 h2 h3 h4 h5
        have := ct_off (rho rp (lab (fr a))) (rho rp (lab (to a))) h5
        omega
      · have e2 : mt rp fr to lab (a :: l) i = fun j => ct (rho rp (lab (fr a))) (rho rp (lab (to a))) i j + mt rp fr to lab l i j := by funext j; exact e i j
        rw [e2, sm_add]
        have := g5 i h1 h2
        have h3 := ct_row (rho rp (lab (fr a))) (rho rp (lab (to a))) h1 (show i < 0 + (s - 0) by omega)
        have e3 : sm (fun j => ct (rho rp (lab (fr a))) (rho rp (lab (to a))) i j) 0 (s - 0) = sm (ct (rho rp (lab (fr a))) (rho rp (lab (to a))) i) 0 (s - 0) := rfl
        omega
      · rw [e]
        have := g6 i h1 h2
        have h3 := ct_dg (rho rp (lab (fr a))) (rho rp (lab (to a))) i
        simp only [dg]
        omega
/-- the choices among arcs of the same weight -/
def rwp (lab0 lab1 : Nat → Nat) (v : Nat) : Bool := decide (lab0 v = v ∧ ¬ lab1 v = v)
def chv (n : Nat) (fr to lab : Nat → Nat) (g : List Nat) : Int64 := lI (dt (mt (rwp lab (kr fr to g lab)) fr to lab g) 1 0 (cw (rwp lab (kr fr to g lab)) n))
theorem lI_add1 (z : Int) : lI z + 1 = lI (z + 1) := by
  rw [← lI_1]
  unfold lI
  rw [Int64.ofInt_add]
theorem lI_sub1 (z : Int) : lI z - 1 = lI (z - 1) := by
  rw [← lI_1]
  unfold lI
  rw [Int64.ofInt_sub]
/-! the class -/
theorem link {n a b : Nat} {rp : Nat → Bool} {lab : Nat → Nat} {G : Nat → Int32} {K : Nat → Nat → Int64} {M : Nat → Nat → Int} (hn : n ≤ 10) (ha : a < n) (hb : b < n) (hl : ∀ v, v < n → lab v < n) (hG : ∀ v, v < n → G v = nI (lab v)) (hK : ∀ u v, rp u = true → rp v = true → u < n → v < n → K u v = lI (M (cw rp u) (cw rp v))) :
    Ok (f_TreeCount_link (nI a) (nI b) G K) (fun K' => ∀ u v, rp u = true → rp v = true → u < n → v < n → K' u v = lI ((if lab a = lab b then 0 else ct (rho rp (lab a)) (rho rp (lab b)) (cw rp u) (cw rp v)) + M (cw rp u) (cw rp v))) := by
  have l1 := hl a ha
  have l2 := hl b hb
  by_cases hq : lab a = lab b
  · have hc : nI (lab a) = nI (lab b) := by rw [hq]
    simp only [f_TreeCount_link, gd_nI (show a < 10 by omega) (by decide), gd_nI (show b < 10 by omega) (by decide), nI_clamp (show a < 2 ^ 31 by omega), nI_clamp (show b < 2 ^ 31 by omega), hG a ha, hG b hb, bn, if_pos hc]
    refine Ok_some (fun u v hu hv h1 h2 => ?_)
    rw [if_pos hq, hK u v hu hv h1 h2]
    congr 1
    omega
  · have hc : ¬ nI (lab a) = nI (lab b) := fun z => hq ((nI_eq (by omega) (by omega)).mp z)
    simp only [f_TreeCount_link, gd_nI (show a < 10 by omega) (by decide), gd_nI (show b < 10 by omega) (by decide), nI_clamp (show a < 2 ^ 31 by omega), nI_clamp (show b < 2 ^ 31 by omega), hG a ha, hG b hb, bn, if_neg hc, gd_nI (show lab a < 10 by omega) (by decide), gd_nI (show lab b < 10 by omega) (by decide), nI_clamp (show lab a < 2 ^ 31 by omega), nI_clamp (show lab b < 2 ^ 31 by omega)]
    refine Ok_some (fun u v hu hv h1 h2 => ?_)
    rw [if_neg hq]
    have hKuv := hK u v hu hv h1 h2
    generalize lab a = A at *
    generalize lab b = B at *
    have hAB : ¬ B = A := fun z => hq z.symm
    have cuv := cw_inj hu hv
    simp only [upGL_at, ct, rho_s hu, rho_s hv, cuv]
    by_cases e1 : A = u
    · subst e1
      have f1 : ¬ B = A := hAB
      have f2 : ¬ A = B := hq
      by_cases e2 : A = v
      · subst e2
        simp only [f1, f2, and_false, false_and, and_self, if_true, if_false, hKuv, lI_add1]
        congr 1; omega
      · have e3 : ¬ v = A := fun z => e2 z.symm
        by_cases e4 : B = v
        · subst e4
          simp only [f1, f2, and_false, false_and, and_self, if_true, if_false, hKuv, lI_sub1]
          congr 1; omega
        · have e5 : ¬ v = B := fun z => e4 z.symm
          simp only [f1, f2, e2, e3, e4, e5, and_false, false_and, and_self, if_true, if_false, hKuv]
          congr 1; omega
    · have g1 : ¬ u = A := fun z => e1 z.symm
      by_cases e2 : B = u
      · subst e2
        by_cases e3 : B = v
        · subst e3
          simp only [hAB, hq, and_false, false_and, and_self, if_true, if_false, hKuv, lI_add1]
          congr 1; omega
        · have e4 : ¬ v = B := fun z => e3 z.symm
          by_cases e5 : A = v
          · subst e5
            simp only [hAB, hq, and_false, false_and, and_self, if_true, if_false, hKuv, lI_sub1]
            congr 1; omega
          · have e6 : ¬ v = A := fun z => e5 z.symm
            simp only [hAB, hq, e3, e4, e5, e6, and_false, false_and, and_self, if_true, if_false, hKuv]
            congr 1; omega
      · have g2 : ¬ u = B := fun z => e2 z.symm
        simp only [e1, e2, g1, g2, false_and, if_false, hKuv]
        congr 1; omega
