/-! the reference's labels -/
theorem alone_loop : ∀ (d i fuel : Nat) (P : Nat → Int32), i + d = 10 → d < fuel → (∀ v, v < i → P v = nI v) → ∃ P', lo2 g_Mo_alone_2 fuel (nI i) P = some P' ∧ ∀ v, v < 10 → P' v = nI v := by
  intro d
  induction d with
  | zero =>
    intro i fuel P h1 h2 h3
    obtain ⟨f, rfl⟩ : ∃ f, fuel = f + 1 := ⟨fuel - 1, by omega⟩
    refine ⟨P, ?_, fun v hv => h3 v (by omega)⟩
    show g_Mo_alone_2 _ (nI i) P = _
    have hle : (10 : Int32) ≤ nI i := nI_le (a := 10) (b := i) (by omega) (by omega)
    simp only [g_Mo_alone_2, if_pos hle]
  | succ d ih =>
    intro i fuel P h1 h2 h3
    obtain ⟨f, rfl⟩ : ∃ f, fuel = f + 1 := ⟨fuel - 1, by omega⟩
    obtain ⟨P', e1, e2⟩ := ih (i + 1) f (upd P i (nI i)) (by omega) (by omega) (fun v hv => by
      by_cases h : v = i
      · rw [h, upd_self]
      · rw [upd_ne _ _ h]; exact h3 v (by omega))
    refine ⟨P', ?_, e2⟩
    rw [← e1]
    show g_Mo_alone_2 _ (nI i) P = _
    have hle : ¬ (10 : Int32) ≤ nI i := nI_ge (a := i) (b := 10) (by omega) (by decide)
    simp only [g_Mo_alone_2, if_neg hle, gd_nI (show i < 10 by omega) (by decide), bn, nI_1, nI_clamp (show i < 2 ^ 31 by omega)]
theorem alone {N : Nat} (hN : 100 ≤ N) (P : Nat → Int32) : ∃ P', f_Mo_alone N P = some P' ∧ ∀ v, v < 10 → P' v = nI v :=
  alone_loop 10 0 N P (by omega) (by omega) (fun v hv => absurd hv (Nat.not_lt_zero v))
theorem join_loop {lo hi : Nat} {lab : Nat → Nat} (hlh : lo < hi) (hh : hi < 10) (hlab : ∀ v, v < 10 → lab v < 10) : ∀ (d i fuel : Nat) (P : Nat → Int32), i + d = 10 → d < fuel → (∀ v, v < 10 → P v = nI (if v < i ∧ lab v = hi then lo else lab v)) →
    ∃ P', lo4 g_Mo_join_58 fuel (nI lo) (nI hi) (nI i) P = some (1, P') ∧ ∀ v, v < 10 → P' v = nI (if lab v = hi then lo else lab v) := by
  intro d
  induction d with
  | zero =>
    intro i fuel P h1 h2 h3
    obtain ⟨f, rfl⟩ : ∃ f, fuel = f + 1 := ⟨fuel - 1, by omega⟩
    refine ⟨P, ?_, fun v hv => by rw [h3 v hv]; congr 1; by_cases q : lab v = hi; rw [if_pos ⟨by omega, q⟩, if_pos q]; rw [if_neg (fun z => q z.2), if_neg q]⟩
    show g_Mo_join_58 _ (nI lo) (nI hi) (nI i) P = _
    have hle : (10 : Int32) ≤ nI i := nI_le (a := 10) (b := i) (by omega) (by omega)
    simp only [g_Mo_join_58, if_pos hle]
  | succ d ih =>
    intro i fuel P h1 h2 h3
    obtain ⟨f, rfl⟩ : ∃ f, fuel = f + 1 := ⟨fuel - 1, by omega⟩
    have hle : ¬ (10 : Int32) ≤ nI i := nI_ge (a := i) (b := 10) (by omega) (by decide)
    have hPi : P i = nI (lab i) := by rw [h3 i (by omega), if_neg (by omega)]
    by_cases hq : lab i = hi
    · obtain ⟨P', e1, e2⟩ := ih (i + 1) f (upd P i (nI lo)) (by omega) (by omega) (fun v hv => by
        by_cases h : v = i
        · subst h
          rw [upd_self, if_pos ⟨by omega, hq⟩]
        · rw [upd_ne _ _ h, h3 v hv]
          congr 1
          by_cases h5 : v < i ∧ lab v = hi
          · rw [if_pos h5, if_pos ⟨by omega, h5.2⟩]
          · rw [if_neg h5, if_neg (fun z => h5 ⟨by omega, z.2⟩)])
      refine ⟨P', ?_, e2⟩
      rw [← e1]
      show g_Mo_join_58 _ (nI lo) (nI hi) (nI i) P = _
      have hc : nI (lab i) = nI hi := by rw [hq]
      simp only [g_Mo_join_58, if_neg hle, gd_nI (show i < 10 by omega) (by decide), bn, nI_1, nI_clamp (show i < 2 ^ 31 by omega), hPi, if_pos hc]
    · obtain ⟨P', e1, e2⟩ := ih (i + 1) f (upd P i (nI (lab i))) (by omega) (by omega) (fun v hv => by
        by_cases h6 : v = i
        · subst h6
          rw [upd_self, if_neg (fun z => hq z.2)]
        · rw [upd_ne _ _ h6, h3 v hv]
          congr 1
          by_cases h5 : v < i ∧ lab v = hi
          · rw [if_pos h5, if_pos ⟨by omega, h5.2⟩]
          · rw [if_neg h5, if_neg (fun z => h5 ⟨by omega, z.2⟩)])
      refine ⟨P', ?_, e2⟩
      rw [← e1]
      show g_Mo_join_58 _ (nI lo) (nI hi) (nI i) P = _
      have hlt := hlab i (by omega)
      have hc : ¬ nI (lab i) = nI hi := fun q => hq ((nI_eq (by omega) (by omega)).mp q)
      simp only [g_Mo_join_58, if_neg hle, gd_nI (show i < 10 by omega) (by decide), bn, nI_1, nI_clamp (show i < 2 ^ 31 by omega), hPi, if_neg hc]
theorem join {N k : Nat} {fr to lab : Nat → Nat} {P F T : Nat → Int32} (hN : 100 ≤ N) (hk : k < 30) (hf : F k = nI (fr k)) (ht : T k = nI (to k)) (hfb : fr k < 10) (htb : to k < 10) (hlab : ∀ v, v < 10 → lab v < 10) (hP : ∀ v, v < 10 → P v = nI (lab v)) :
    ∃ P', f_Mo_join N (nI k) F P T = some (if lab (fr k) = lab (to k) then 0 else 1, P') ∧ ∀ v, v < 10 → P' v = nI (uni lab (fr k) (to k) v) := by
  have l1 := hlab (fr k) hfb
  have l2 := hlab (to k) htb
  by_cases he : lab (fr k) = lab (to k)
  · refine ⟨P, ?_, fun v hv => by rw [uni_same he]; exact hP v hv⟩
    have hc : nI (lab (fr k)) = nI (lab (to k)) := by rw [he]
    simp only [f_Mo_join, gd_nI hk (by decide), nI_clamp (show k < 2 ^ 31 by omega), hf, ht, gd_nI hfb (by decide), gd_nI htb (by decide), nI_clamp (show fr k < 2 ^ 31 by omega), nI_clamp (show to k < 2 ^ 31 by omega), hP _ hfb, hP _ htb, bn, if_pos hc, if_pos he]
  · have hc : ¬ nI (lab (fr k)) = nI (lab (to k)) := fun q => he ((nI_eq (by omega) (by omega)).mp q)
    have hlh : min (lab (fr k)) (lab (to k)) < max (lab (fr k)) (lab (to k)) := by omega
    obtain ⟨P', e1, e2⟩ := join_loop (lab := lab) hlh (by omega) hlab 10 0 N P (by omega) (by omega) (fun v hv => by rw [hP v hv, if_neg (by omega)])
    refine ⟨P', ?_, e2⟩
    simp only [f_Mo_join, gd_nI hk (by decide), nI_clamp (show k < 2 ^ 31 by omega), hf, ht, gd_nI hfb (by decide), gd_nI htb (by decide), nI_clamp (show fr k < 2 ^ 31 by omega), nI_clamp (show to k < 2 ^ 31 by omega), hP _ hfb, hP _ htb, bn, if_neg hc, if_neg he]
    by_cases h : lab (to k) ≤ lab (fr k)
    · have h1 : nI (lab (to k)) ≤ nI (lab (fr k)) := nI_le h (by omega)
      rw [Nat.min_eq_right h, Nat.max_eq_left h] at e1
      simp only [if_pos h1, g_Mo_join_41]
      exact e1
    · have h1 : ¬ nI (lab (to k)) ≤ nI (lab (fr k)) := nI_ge (by omega) (by omega)
      rw [Nat.min_eq_left (by omega), Nat.max_eq_right (by omega)] at e1
      simp only [if_neg h1, g_Mo_join_41]
      exact e1
/-! Kruskal's set, of a list of arcs in its order -/
def bitA (a : Nat) : Int64 := (1 : Int64) <<< ((nI a).toInt64 &&& 63)
def kset (fr to : Nat → Nat) : List Nat → (Nat → Nat) → Int64 → Int64
  | [], _, s => s
  | a :: l, lab, s => kset fr to l (uni lab (fr a) (to a)) (if lab (fr a) = lab (to a) then s else s ||| bitA a)
theorem uni10 {lab : Nat → Nat} {a b m : Nat} (ha : a < m) (hb : b < m) (h : ∀ v, v < m → lab v < 10) : ∀ v, v < m → uni lab a b v < 10 := fun v hv => uni_lt (h a ha) (h b hb) (h v hv)
/-- the class's loop over the order -/
theorem fl_loop {N n : Nat} {fr to : Nat → Nat} {ord : List Nat} {O F T : Nat → Int32} (hN : 100 ≤ N) (hn : n ≤ 10) (hlen : ord.length ≤ 30) (hO : ∀ i, i < ord.length → O i = nI (ord.getD i 0)) (hA : ∀ a, a ∈ ord → a < 30 ∧ F a = nI (fr a) ∧ T a = nI (to a) ∧ fr a < n ∧ to a < n) :
    ∀ (d i fuel : Nat) (S : Int64) (lab : Nat → Nat) (L : Nat → Int32), i + d = ord.length → d < fuel → Lb lab → (∀ v, v < n → lab v < 10) → (∀ v, v < n → L v = nI (lab v)) →
    ∃ L', lo5 (g_Forests_findLeast_18 N (nI ord.length) O F T) fuel S (nI i) (nI n) (nI (cnt lab n)) L = some (kset fr to (ord.drop i) lab S, nI n, nI (cnt (kr fr to (ord.drop i) lab) n), L') ∧ ∀ v, v < n → L' v = nI (kr fr to (ord.drop i) lab v) := by
  intro d
  induction d with
  | zero =>
    intro i fuel S lab L h1 h2 h3 h4 h5
    obtain ⟨f, rfl⟩ : ∃ f, fuel = f + 1 := ⟨fuel - 1, by omega⟩
    have e : ord.drop i = [] := List.drop_eq_nil_of_le (by omega)
    rw [e]
    refine ⟨L, ?_, h5⟩
    show g_Forests_findLeast_18 N (nI ord.length) O F T _ S (nI i) (nI n) (nI (cnt lab n)) L = _
    have hle : nI ord.length ≤ nI i := nI_le (by omega) (by omega)
    simp only [g_Forests_findLeast_18, if_pos hle, kset, kr]
  | succ d ih =>
    intro i fuel S lab L h1 h2 h3 h4 h5
    obtain ⟨f, rfl⟩ : ∃ f, fuel = f + 1 := ⟨fuel - 1, by omega⟩
    have hil : i < ord.length := by omega
    have hle : ¬ nI ord.length ≤ nI i := nI_ge hil (by omega)
    have e : ord.drop i = ord.getD i 0 :: ord.drop (i + 1) := by
      rw [List.drop_eq_getElem_cons hil, List.getD_eq_getElem?_getD, List.getElem?_eq_getElem hil]
      rfl
    generalize hx : ord.getD i 0 = x at e
    obtain ⟨a1, a2, a3, a4, a5⟩ := hA x (by rw [← hx]; exact getD_mem hil)
    obtain ⟨L1, u1, u2⟩ := unite hN hn a4 a5 h4 h5 (nI (cnt lab n))
    have n1 : ¬ (1 : Int32) = 0 := by decide
    rw [e]
    by_cases hq : lab (fr x) = lab (to x)
    · obtain ⟨L', e1, e2⟩ := ih (i + 1) f S (uni lab (fr x) (to x)) L1 (by omega) (by omega) (Lb_uni h3 _ _) (uni10 a4 a5 h4) u2
      refine ⟨L', ?_, e2⟩
      simp only [kset, kr, if_pos hq]
      rw [← e1]
      show g_Forests_findLeast_18 N (nI ord.length) O F T _ S (nI i) (nI n) (nI (cnt lab n)) L = _
      simp only [if_pos hq] at u1
      simp only [g_Forests_findLeast_18, if_neg hle, gd_nI (show i < 30 by omega) (by decide), nI_clamp (show i < 2 ^ 31 by omega), hO i hil, hx, bn, gd_nI a1 (by decide), nI_clamp (show x < 2 ^ 31 by omega), a2, a3, u1, bk3, if_pos, nI_1, uni_same hq]
    · have hc := cnt_uni h3 hq n
      have hm : max (lab (fr x)) (lab (to x)) < n := by
        have q1 := h3.1 (fr x)
        have q2 := h3.1 (to x)
        omega
      rw [if_pos hm] at hc
      obtain ⟨L', e1, e2⟩ := ih (i + 1) f (S ||| bitA x) (uni lab (fr x) (to x)) L1 (by omega) (by omega) (Lb_uni h3 _ _) (uni10 a4 a5 h4) u2
      refine ⟨L', ?_, e2⟩
      simp only [kset, kr, if_neg hq]
      rw [← e1]
      show g_Forests_findLeast_18 N (nI ord.length) O F T _ S (nI i) (nI n) (nI (cnt lab n)) L = _
      simp only [if_neg hq, ← hc, nI_pred] at u1
      simp only [g_Forests_findLeast_18, if_neg hle, gd_nI (show i < 30 by omega) (by decide), nI_clamp (show i < 2 ^ 31 by omega), hO i hil, hx, bn, gd_nI a1 (by decide), nI_clamp (show x < 2 ^ 31 by omega), a2, a3, ← hc, u1, bk3, if_neg n1, nI_1, bitA]
theorem findLeast {N n : Nat} {fr to : Nat → Nat} {ord : List Nat} {O F T L : Nat → Int32} (hN : 100 ≤ N) (hn : n ≤ 10) (hlen : ord.length ≤ 30) (hO : ∀ i, i < ord.length → O i = nI (ord.getD i 0)) (hA : ∀ a, a ∈ ord → a < 30 ∧ F a = nI (fr a) ∧ T a = nI (to a) ∧ fr a < n ∧ to a < n) :
    ∃ L', f_Forests_findLeast N (nI n) (nI ord.length) L O F T = some (kset fr to ord (fun v => v) 0, nI n, nI (cnt (kr fr to ord (fun v => v)) n), L') ∧ ∀ v, v < n → L' v = nI (kr fr to ord (fun v => v) v) := by
  obtain ⟨L1, s1, s2⟩ := sep hN hn L
  obtain ⟨L', e1, e2⟩ := fl_loop hN hn hlen hO hA ord.length 0 N 0 (fun v => v) L1 (by omega) (by omega) Lb_id (fun v hv => by omega) s2
  refine ⟨L', ?_, e2⟩
  rw [cnt_id] at e1
  simp only [f_Forests_findLeast, s1, bk3]
  exact e1
