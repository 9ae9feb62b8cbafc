/-! what hangs together by a set of arcs -/
def bl (S : Int64) : Nat → Bool := fun a => S.toBitVec.getLsbD a
def b2 (b : Bool) : Int32 := match b with
  | true => 1
  | false => 0
theorem b2_zb (b : Bool) : zb (b2 b) = true := by cases b <;> decide
def rl (fr to : Nat → Nat) : List Nat → (Nat → Nat) → Bool
  | [], _ => true
  | a :: l, lab => decide (¬ lab (fr a) = lab (to a)) && rl fr to l (uni lab (fr a) (to a))
theorem hb_loop {N n k : Nat} {fr to : Nat → Nat} {S : Int64} {F T : Nat → Int32} (hN : 100 ≤ N) (hn : n ≤ 10) (hk : k ≤ 30) (hA : ∀ a, a < k → F a = nI (fr a) ∧ T a = nI (to a) ∧ fr a < n ∧ to a < n) :
    ∀ (d i fuel : Nat) (r : Bool) (lab : Nat → Nat) (L : Nat → Int32), i + d = k → d < fuel → Lb lab → (∀ v, v < n → lab v < 10) → (∀ v, v < n → L v = nI (lab v)) →
    ∃ L', lo5 (g_Forests_hangBy_19 N S (nI k) F T) fuel (b2 r) (nI i) (nI n) (nI (cnt lab n)) L = some (b2 (r && rl fr to (pal (bl S) i d) lab), nI n, nI (cnt (kr fr to (pal (bl S) i d) lab) n), L') ∧ ∀ v, v < n → L' v = nI (kr fr to (pal (bl S) i d) lab v) := by
  intro d
  induction d with
  | zero =>
    intro i fuel r lab L h1 h2 h3 h4 h5
    obtain ⟨f, rfl⟩ : ∃ f, fuel = f + 1 := ⟨fuel - 1, by omega⟩
    refine ⟨L, ?_, h5⟩
    show g_Forests_hangBy_19 N S (nI k) F T _ (b2 r) (nI i) (nI n) (nI (cnt lab n)) L = _
    have hle : nI k ≤ nI i := nI_le (by omega) (by omega)
    simp only [g_Forests_hangBy_19, if_pos hle, gd_of (b2_zb r), pal, rl, kr, Bool.and_true]
  | succ d ih =>
    intro i fuel r lab L h1 h2 h3 h4 h5
    obtain ⟨f, rfl⟩ : ∃ f, fuel = f + 1 := ⟨fuel - 1, by omega⟩
    have hle : ¬ nI k ≤ nI i := nI_ge (by omega) (by omega)
    obtain ⟨a1, a2, a3, a4⟩ := hA i (by omega)
    have n1 : ¬ (1 : Int32) = 0 := by decide
    cases hb : bl S i with
    | true =>
      obtain ⟨L1, u1, u2⟩ := unite hN hn a3 a4 h4 h5 (nI (cnt lab n))
      by_cases hq : lab (fr i) = lab (to i)
      · obtain ⟨L', e1, e2⟩ := ih (i + 1) f false (uni lab (fr i) (to i)) L1 (by omega) (by omega) (Lb_uni h3 _ _) (uni10 a3 a4 h4) u2
        refine ⟨L', ?_, ?_⟩
        · have e3 : (r && rl fr to (pal (bl S) i (d + 1)) lab) = (false && rl fr to (pal (bl S) (i + 1) d) (uni lab (fr i) (to i))) := by
            simp only [pal, hb, if_pos, rl, hq, not_true, decide_false, Bool.false_and, Bool.and_false]
          have e4 : kr fr to (pal (bl S) i (d + 1)) lab = kr fr to (pal (bl S) (i + 1) d) (uni lab (fr i) (to i)) := by
            simp only [pal, hb, if_pos, kr]
          rw [e3, e4, ← e1]
          show g_Forests_hangBy_19 N S (nI k) F T _ (b2 r) (nI i) (nI n) (nI (cnt lab n)) L = _
          simp only [if_pos hq] at u1
          simp only [g_Forests_hangBy_19, if_neg hle, isIn_t (show i < 64 by omega) hb, bk1, if_neg n1, gd_nI (show i < 30 by omega) (by decide), nI_clamp (show i < 2 ^ 31 by omega), a1, a2, u1, bk3, if_pos, bn, nI_1, b2, uni_same hq]
        · intro v hv
          rw [e2 v hv]
          simp only [pal, hb, if_pos, kr]
      · have hc := cnt_uni h3 hq n
        have hm : max (lab (fr i)) (lab (to i)) < n := by
          have q1 := h3.1 (fr i)
          have q2 := h3.1 (to i)
          omega
        rw [if_pos hm] at hc
        obtain ⟨L', e1, e2⟩ := ih (i + 1) f r (uni lab (fr i) (to i)) L1 (by omega) (by omega) (Lb_uni h3 _ _) (uni10 a3 a4 h4) u2
        refine ⟨L', ?_, ?_⟩
        · have e3 : (r && rl fr to (pal (bl S) i (d + 1)) lab) = (r && rl fr to (pal (bl S) (i + 1) d) (uni lab (fr i) (to i))) := by
            simp only [pal, hb, if_pos, rl, hq, not_false_eq_true, decide_true, Bool.true_and]
          have e4 : kr fr to (pal (bl S) i (d + 1)) lab = kr fr to (pal (bl S) (i + 1) d) (uni lab (fr i) (to i)) := by
            simp only [pal, hb, if_pos, kr]
          rw [e3, e4, ← e1]
          show g_Forests_hangBy_19 N S (nI k) F T _ (b2 r) (nI i) (nI n) (nI (cnt lab n)) L = _
          simp only [if_neg hq, ← hc, nI_pred] at u1
          simp only [g_Forests_hangBy_19, if_neg hle, isIn_t (show i < 64 by omega) hb, bk1, if_neg n1, gd_nI (show i < 30 by omega) (by decide), nI_clamp (show i < 2 ^ 31 by omega), a1, a2, ← hc, u1, bk3, bn, nI_1]
        · intro v hv
          rw [e2 v hv]
          simp only [pal, hb, if_pos, kr]
    | false =>
      obtain ⟨L', e1, e2⟩ := ih (i + 1) f r lab L (by omega) (by omega) h3 h4 h5
      have e4 : pal (bl S) i (d + 1) = pal (bl S) (i + 1) d := by
        simp only [pal, hb, Bool.false_eq_true, if_false]
      rw [e4]
      refine ⟨L', ?_, e2⟩
      rw [← e1]
      show g_Forests_hangBy_19 N S (nI k) F T _ (b2 r) (nI i) (nI n) (nI (cnt lab n)) L = _
      simp only [g_Forests_hangBy_19, if_neg hle, isIn_f (show i < 64 by omega) hb, bk1, if_pos, bn, nI_1]
def klab (fr to : Nat → Nat) (k : Nat) (S : Int64) : Nat → Nat := kr fr to (pal (bl S) 0 k) (fun v => v)
theorem hangBy {N n k : Nat} {fr to : Nat → Nat} {S : Int64} {F T L : Nat → Int32} (hN : 100 ≤ N) (hn : n ≤ 10) (hk : k ≤ 30) (hA : ∀ a, a < k → F a = nI (fr a) ∧ T a = nI (to a) ∧ fr a < n ∧ to a < n) :
    ∃ L', f_Forests_hangBy N S (nI n) (nI k) L F T = some (b2 (rl fr to (pal (bl S) 0 k) (fun v => v)), nI n, nI (cnt (klab fr to k S) n), L') ∧ ∀ v, v < n → L' v = nI (klab fr to k S v) := by
  obtain ⟨L1, s1, s2⟩ := sep hN hn L
  obtain ⟨L', e1, e2⟩ := hb_loop (S := S) hN hn hk hA k 0 N true (fun v => v) L1 (by omega) (by omega) Lb_id (fun v hv => by omega) s2
  rw [cnt_id, Bool.true_and] at e1
  refine ⟨L', ?_, e2⟩
  simp only [f_Forests_hangBy, s1, bk3]
  exact e1
theorem hg_loop {N n k a b : Nat} {fr to : Nat → Nat} {S : Int64} {F T : Nat → Int32} (hN : 100 ≤ N) (hn : n ≤ 10) (hk : k ≤ 30) (ha : a < 10) (hb : b < 10) (hA : ∀ a, a < k → F a = nI (fr a) ∧ T a = nI (to a) ∧ fr a < n ∧ to a < n) :
    ∀ (d i fuel : Nat) (lab : Nat → Nat) (P : Nat → Int32), i + d = k → d < fuel → (∀ v, v < 10 → lab v < 10) → (∀ v, v < 10 → P v = nI (lab v)) →
    ∃ P', lo2 (g_Mo_hangs_7 N S (nI a) (nI b) (nI k) F T) fuel (nI i) P = some (if kr fr to (pal (bl S) i d) lab a = kr fr to (pal (bl S) i d) lab b then 1 else 0, P') := by
  intro d
  induction d with
  | zero =>
    intro i fuel lab P h1 h2 h3 h4
    obtain ⟨f, rfl⟩ : ∃ f, fuel = f + 1 := ⟨fuel - 1, by omega⟩
    refine ⟨P, ?_⟩
    show g_Mo_hangs_7 N S (nI a) (nI b) (nI k) F T _ (nI i) P = _
    have hle : nI k ≤ nI i := nI_le (by omega) (by omega)
    have q1 := h3 a ha
    have q2 := h3 b hb
    by_cases hq : lab a = lab b
    · have hc : nI (lab a) = nI (lab b) := by rw [hq]
      simp only [g_Mo_hangs_7, if_pos hle, gd_nI ha (by decide), gd_nI hb (by decide), nI_clamp (show a < 2 ^ 31 by omega), nI_clamp (show b < 2 ^ 31 by omega), h4 a ha, h4 b hb, if_pos hc, pal, kr, if_pos hq]
    · have hc : ¬ nI (lab a) = nI (lab b) := fun z => hq ((nI_eq (by omega) (by omega)).mp z)
      simp only [g_Mo_hangs_7, if_pos hle, gd_nI ha (by decide), gd_nI hb (by decide), nI_clamp (show a < 2 ^ 31 by omega), nI_clamp (show b < 2 ^ 31 by omega), h4 a ha, h4 b hb, if_neg hc, pal, kr, if_neg hq]
  | succ d ih =>
    intro i fuel lab P h1 h2 h3 h4
    obtain ⟨f, rfl⟩ : ∃ f, fuel = f + 1 := ⟨fuel - 1, by omega⟩
    have hle : ¬ nI k ≤ nI i := nI_ge (by omega) (by omega)
    obtain ⟨a1, a2, a3, a4⟩ := hA i (by omega)
    cases hbb : bl S i with
    | true =>
      obtain ⟨P1, j1, j2⟩ := join hN (show i < 30 by omega) a1 a2 (by omega) (by omega) h3 h4
      obtain ⟨P', e1⟩ := ih (i + 1) f (uni lab (fr i) (to i)) P1 (by omega) (by omega) (uni10 (by omega) (by omega) h3) j2
      refine ⟨P', ?_⟩
      have e4 : kr fr to (pal (bl S) i (d + 1)) lab = kr fr to (pal (bl S) (i + 1) d) (uni lab (fr i) (to i)) := by
        simp only [pal, hbb, if_pos, kr]
      rw [e4, ← e1]
      show g_Mo_hangs_7 N S (nI a) (nI b) (nI k) F T _ (nI i) P = _
      have hc : lg_cmp ((S >>> ((nI i).toInt64 &&& 63)) &&& (1 : Int64)) (1 : Int64) = 0 := by rw [lg_cmp_eq, bit_shr1 S (show i < 64 by omega)]; exact hbb
      simp only [g_Mo_hangs_7, if_neg hle, if_pos hc, j1, bk2, bn, nI_1]
    | false =>
      obtain ⟨P', e1⟩ := ih (i + 1) f lab P (by omega) (by omega) h3 h4
      refine ⟨P', ?_⟩
      have e4 : pal (bl S) i (d + 1) = pal (bl S) (i + 1) d := by
        simp only [pal, hbb, Bool.false_eq_true, if_false]
      rw [e4, ← e1]
      show g_Mo_hangs_7 N S (nI a) (nI b) (nI k) F T _ (nI i) P = _
      have hc : ¬ lg_cmp ((S >>> ((nI i).toInt64 &&& 63)) &&& (1 : Int64)) (1 : Int64) = 0 := by rw [lg_cmp_eq, bit_shr1 S (show i < 64 by omega)]; unfold bl at hbb; rw [hbb]; simp
      simp only [g_Mo_hangs_7, if_neg hle, if_neg hc, bn, nI_1]
theorem hangs {N n k a b : Nat} {fr to : Nat → Nat} {S : Int64} {F T P : Nat → Int32} (hN : 100 ≤ N) (hn : n ≤ 10) (hk : k ≤ 30) (ha : a < 10) (hb : b < 10) (hA : ∀ a, a < k → F a = nI (fr a) ∧ T a = nI (to a) ∧ fr a < n ∧ to a < n) :
    ∃ P', f_Mo_hangs N S (nI a) (nI b) (nI k) P F T = some (if klab fr to k S a = klab fr to k S b then 1 else 0, P') := by
  obtain ⟨P1, s1, s2⟩ := alone hN P
  obtain ⟨P', e1⟩ := hg_loop (S := S) hN hn hk ha hb hA k 0 N (fun v => v) P1 (by omega) (by omega) (fun v hv => hv) s2
  refine ⟨P', ?_⟩
  simp only [f_Mo_hangs, s1, bk1]
  exact e1
/-! Arrays.fill of ints -/
theorem fill_loop {n : Nat} (x : Int32) (hn : n < 2 ^ 20) : ∀ (d i fuel : Nat) (A : Nat → Int32), i + d = n → d < fuel → (∀ v, v < i → A v = x) → ∃ A', lo3 (g_Arr_fill0_5 x n) fuel (nI i) (nI n) A = some A' ∧ ∀ v, v < n → A' v = x := by
  intro d
  induction d with
  | zero =>
    intro i fuel A h1 h2 h3
    obtain ⟨f, rfl⟩ : ∃ f, fuel = f + 1 := ⟨fuel - 1, by omega⟩
    refine ⟨A, ?_, fun v hv => h3 v (by omega)⟩
    show g_Arr_fill0_5 x n _ (nI i) (nI n) A = _
    have hle : nI n ≤ nI i := nI_le (by omega) (by omega)
    simp only [g_Arr_fill0_5, if_pos hle]
  | succ d ih =>
    intro i fuel A h1 h2 h3
    obtain ⟨f, rfl⟩ : ∃ f, fuel = f + 1 := ⟨fuel - 1, by omega⟩
    obtain ⟨A', e1, e2⟩ := ih (i + 1) f (upd A i x) (by omega) (by omega) (fun v hv => by
      by_cases h : v = i
      · rw [h, upd_self]
      · rw [upd_ne _ _ h]; exact h3 v (by omega))
    refine ⟨A', ?_, e2⟩
    rw [← e1]
    show g_Arr_fill0_5 x n _ (nI i) (nI n) A = _
    have hle : ¬ nI n ≤ nI i := nI_ge (by omega) (by omega)
    simp only [g_Arr_fill0_5, if_neg hle, gd_nI (show i < n by omega) (by omega), bn, nI_1, nI_clamp (show i < 2 ^ 31 by omega)]
