/-! labels: each node has the least node of what it hangs together with -/
def uni (lab : Nat → Nat) (a b : Nat) : Nat → Nat := fun v => if lab v = max (lab a) (lab b) then min (lab a) (lab b) else lab v
def Lb (lab : Nat → Nat) : Prop := (∀ v, lab v ≤ v) ∧ ∀ v, lab (lab v) = lab v
theorem Lb_id : Lb (fun v => v) := ⟨fun v => Nat.le_refl v, fun v => rfl⟩
theorem uni_same {lab : Nat → Nat} {a b : Nat} (h : lab a = lab b) : uni lab a b = lab := by
  funext v
  unfold uni
  rw [h, Nat.max_self, Nat.min_self]
  by_cases hv : lab v = lab b
  · rw [if_pos hv, hv]
  · rw [if_neg hv]
theorem Lb_uni {lab : Nat → Nat} (h : Lb lab) (a b : Nat) : Lb (uni lab a b) := by
  obtain ⟨h1, h2⟩ := h
  have hroot : lab (min (lab a) (lab b)) = min (lab a) (lab b) := by
    rcases Nat.le_total (lab a) (lab b) with q | q
    · rw [Nat.min_eq_left q, h2]
    · rw [Nat.min_eq_right q, h2]
  refine ⟨fun v => ?_, fun v => ?_⟩
  · unfold uni
    by_cases hv : lab v = max (lab a) (lab b)
    · rw [if_pos hv]
      have := h1 v
      omega
    · rw [if_neg hv]
      exact h1 v
  · unfold uni
    by_cases hv : lab v = max (lab a) (lab b)
    · rw [if_pos hv, hroot]
      by_cases he : min (lab a) (lab b) = max (lab a) (lab b)
      · rw [if_pos he]
      · rw [if_neg he]
    · rw [if_neg hv, h2, if_neg hv]
theorem uni_lt {lab : Nat → Nat} {m a b v : Nat} (ha : lab a < m) (hb : lab b < m) (hv : lab v < m) : uni lab a b v < m := by
  unfold uni
  by_cases h : lab v = max (lab a) (lab b)
  · rw [if_pos h]; omega
  · rw [if_neg h]; exact hv
/-- the equivalence of the labels is the least one -/
theorem uni_join (lab : Nat → Nat) (a b : Nat) : uni lab a b a = uni lab a b b := by
  unfold uni
  rcases Nat.le_total (lab a) (lab b) with q | q
  · rw [Nat.max_eq_right q, Nat.min_eq_left q, if_pos rfl]
    by_cases h : lab a = lab b
    · rw [if_pos h]
    · rw [if_neg h]
  · rw [Nat.max_eq_left q, Nat.min_eq_right q, if_pos rfl]
    by_cases h : lab b = lab a
    · rw [if_pos h]
    · rw [if_neg h]
theorem uni_keep {lab : Nat → Nat} {a b u v : Nat} (h : lab u = lab v) : uni lab a b u = uni lab a b v := by
  unfold uni
  rw [h]
theorem uni_least {E : Nat → Nat → Prop} (rf : ∀ x, E x x) (sy : ∀ x y, E x y → E y x) (tr : ∀ x y z, E x y → E y z → E x z) {lab : Nat → Nat} (hl : ∀ x y, lab x = lab y → E x y) {a b : Nat} (hab : E a b) : ∀ x y, uni lab a b x = uni lab a b y → E x y := by
  intro x y h
  unfold uni at h
  have hm : ∀ z, (lab z = max (lab a) (lab b) ∨ lab z = min (lab a) (lab b)) → E z a := by
    intro z hz
    rcases Nat.le_total (lab a) (lab b) with q | q
    · rw [Nat.max_eq_right q, Nat.min_eq_left q] at hz
      rcases hz with hz | hz
      · exact tr _ _ _ (hl z b hz) (sy _ _ hab)
      · exact hl z a hz
    · rw [Nat.max_eq_left q, Nat.min_eq_right q] at hz
      rcases hz with hz | hz
      · exact hl z a hz
      · exact tr _ _ _ (hl z b hz) (sy _ _ hab)
  by_cases hx : lab x = max (lab a) (lab b)
  · rw [if_pos hx] at h
    by_cases hy : lab y = max (lab a) (lab b)
    · exact hl x y (hx.trans hy.symm)
    · rw [if_neg hy] at h
      exact tr _ _ _ (hm x (Or.inl hx)) (sy _ _ (hm y (Or.inr h.symm)))
  · rw [if_neg hx] at h
    by_cases hy : lab y = max (lab a) (lab b)
    · rw [if_pos hy] at h
      exact tr _ _ _ (hm x (Or.inr h)) (sy _ _ (hm y (Or.inl hy)))
    · rw [if_neg hy] at h
      exact hl x y h
/-- all arcs of a list -/
def kr (fr to : Nat → Nat) : List Nat → (Nat → Nat) → Nat → Nat
  | [], lab => lab
  | a :: l, lab => kr fr to l (uni lab (fr a) (to a))
theorem kr_Lb {fr to : Nat → Nat} : ∀ (l : List Nat) {lab : Nat → Nat}, Lb lab → Lb (kr fr to l lab)
  | [], _, h => h
  | a :: l, _, h => kr_Lb l (Lb_uni h _ _)
theorem kr_keep {fr to : Nat → Nat} : ∀ (l : List Nat) {lab : Nat → Nat} {u v : Nat}, lab u = lab v → kr fr to l lab u = kr fr to l lab v
  | [], _, _, _, h => h
  | a :: l, _, _, _, h => kr_keep l (uni_keep h)
theorem kr_arc {fr to : Nat → Nat} : ∀ (l : List Nat) {lab : Nat → Nat} {a : Nat}, a ∈ l → kr fr to l lab (fr a) = kr fr to l lab (to a)
  | [], _, _, h => by cases h
  | b :: l, lab, a, h => by
    rcases List.mem_cons.mp h with rfl | h
    · exact kr_keep l (uni_join lab _ _)
    · exact kr_arc l h
theorem kr_least {fr to : Nat → Nat} {E : Nat → Nat → Prop} (rf : ∀ x, E x x) (sy : ∀ x y, E x y → E y x) (tr : ∀ x y z, E x y → E y z → E x z) : ∀ (l : List Nat) {lab : Nat → Nat}, (∀ x y, lab x = lab y → E x y) → (∀ a, a ∈ l → E (fr a) (to a)) → ∀ x y, kr fr to l lab x = kr fr to l lab y → E x y
  | [], _, hl, _ => hl
  | a :: l, _, hl, ha => kr_least rf sy tr l (uni_least rf sy tr hl (ha a List.mem_cons_self)) (fun b hb => ha b (List.mem_cons_of_mem _ hb))
/-- the labels don't depend on the order of the arcs -/
theorem kr_sub {fr to : Nat → Nat} {l1 l2 : List Nat} (h : ∀ a, a ∈ l1 → a ∈ l2) {u v : Nat} (e : kr fr to l1 (fun v => v) u = kr fr to l1 (fun v => v) v) : kr fr to l2 (fun v => v) u = kr fr to l2 (fun v => v) v :=
  kr_least (E := fun x y => kr fr to l2 (fun v => v) x = kr fr to l2 (fun v => v) y) (fun _ => rfl) (fun _ _ h => h.symm) (fun _ _ _ h1 h2 => h1.trans h2) l1 (fun x y (q : x = y) => by rw [q]) (fun a ha => kr_arc l2 (h a ha)) u v e
theorem lb_eq {f g : Nat → Nat} (hf : Lb f) (hg : Lb g) (h1 : ∀ u v, f u = f v → g u = g v) (h2 : ∀ u v, g u = g v → f u = f v) : f = g := by
  funext v
  have e1 : g (f v) = g v := h1 _ _ (hf.2 v)
  have e2 : f (g v) = f v := h2 _ _ (hg.2 v)
  have e3 := hg.1 (f v)
  have e4 := hf.1 (g v)
  omega
theorem kr_perm {fr to : Nat → Nat} {l1 l2 : List Nat} (h : ∀ a, a ∈ l1 ↔ a ∈ l2) : kr fr to l1 (fun v => v) = kr fr to l2 (fun v => v) :=
  lb_eq (kr_Lb l1 Lb_id) (kr_Lb l2 Lb_id) (fun _ _ e => kr_sub (fun a => (h a).mp) e) (fun _ _ e => kr_sub (fun a => (h a).mpr) e)
/-- how many parts there are -/
def cnt (lab : Nat → Nat) : Nat → Nat
  | 0 => 0
  | n + 1 => cnt lab n + (if lab n = n then 1 else 0)
theorem cnt_le (lab : Nat → Nat) : ∀ n, cnt lab n ≤ n
  | 0 => Nat.le_refl 0
  | n + 1 => by
    have := cnt_le lab n
    unfold cnt
    by_cases h : lab n = n
    · rw [if_pos h]; omega
    · rw [if_neg h]; omega
theorem cnt_id : ∀ n, cnt (fun v => v) n = n
  | 0 => rfl
  | n + 1 => by
    unfold cnt
    rw [cnt_id n, if_pos rfl]
theorem uni_root {lab : Nat → Nat} (h : Lb lab) {a b : Nat} (hab : lab a ≠ lab b) (v : Nat) : uni lab a b v = v ↔ lab v = v ∧ v ≠ max (lab a) (lab b) := by
  unfold uni
  by_cases hv : lab v = max (lab a) (lab b)
  · rw [if_pos hv]
    have := h.1 v
    constructor
    · intro q; omega
    · rintro ⟨q1, q2⟩
      exact absurd (q1.symm.trans hv) q2
  · rw [if_neg hv]
    constructor
    · intro q
      exact ⟨q, fun e => hv (by rw [q]; exact e)⟩
    · exact fun q => q.1
theorem cnt_uni {lab : Nat → Nat} (h : Lb lab) {a b : Nat} (hab : lab a ≠ lab b) : ∀ n, cnt (uni lab a b) n + (if max (lab a) (lab b) < n then 1 else 0) = cnt lab n
  | 0 => by simp [cnt]
  | n + 1 => by
    have ih := cnt_uni h hab n
    have hr := uni_root h hab n
    have hm : lab (max (lab a) (lab b)) = max (lab a) (lab b) := by
      rcases Nat.le_total (lab a) (lab b) with q | q
      · rw [Nat.max_eq_right q, h.2]
      · rw [Nat.max_eq_left q, h.2]
    unfold cnt
    by_cases h1 : n = max (lab a) (lab b)
    · have h2 : lab n = n := by rw [h1]; exact hm
      rw [if_neg (fun q => (hr.mp q).2 h1), if_pos h2]
      rw [if_neg (by omega)] at ih
      rw [if_pos (by omega)]
      omega
    · by_cases h2 : lab n = n
      · rw [if_pos (hr.mpr ⟨h2, h1⟩), if_pos h2]
        by_cases h3 : max (lab a) (lab b) < n
        · rw [if_pos h3] at ih
          rw [if_pos (by omega)]
          omega
        · rw [if_neg h3] at ih
          rw [if_neg (by omega)]
          omega
      · rw [if_neg (fun q => h2 (hr.mp q).1), if_neg h2]
        by_cases h3 : max (lab a) (lab b) < n
        · rw [if_pos h3] at ih
          rw [if_pos (by omega)]
          omega
        · rw [if_neg h3] at ih
          rw [if_neg (by omega)]
          omega
/-! the class's labels -/
theorem sep_loop {n : Nat} (hn : n ≤ 10) (A B : Int32) : ∀ (d i fuel : Nat) (L : Nat → Int32), i + d = n → d < fuel → (∀ v, v < i → L v = nI v) → ∃ L', lo4 (g_Labels_separate_12 (nI n)) fuel (nI i) A B L = some (A, B, L') ∧ ∀ v, v < n → L' v = nI v := by
  intro d
  induction d with
  | zero =>
    intro i fuel L h1 h2 h3
    obtain ⟨f, rfl⟩ : ∃ f, fuel = f + 1 := ⟨fuel - 1, by omega⟩
    refine ⟨L, ?_, fun v hv => h3 v (by omega)⟩
    show g_Labels_separate_12 (nI n) _ (nI i) A B L = _
    have hle : nI n ≤ nI i := nI_le (by omega) (by omega)
    simp only [g_Labels_separate_12, if_pos hle]
  | succ d ih =>
    intro i fuel L h1 h2 h3
    obtain ⟨f, rfl⟩ : ∃ f, fuel = f + 1 := ⟨fuel - 1, by omega⟩
    obtain ⟨L', e1, e2⟩ := ih (i + 1) f (upd L i (nI i)) (by omega) (by omega) (fun v hv => by
      by_cases h : v = i
      · rw [h, upd_self]
      · rw [upd_ne _ _ h]; exact h3 v (by omega))
    refine ⟨L', ?_, e2⟩
    rw [← e1]
    show g_Labels_separate_12 (nI n) _ (nI i) A B L = _
    have hle : ¬ nI n ≤ nI i := nI_ge (by omega) (by omega)
    simp only [g_Labels_separate_12, if_neg hle, gd_nI (show i < 10 by omega) (by decide), bn, nI_1, nI_clamp (show i < 2 ^ 31 by omega)]
theorem sep {N n : Nat} (hN : 100 ≤ N) (hn : n ≤ 10) (L : Nat → Int32) : ∃ L', f_Labels_separate N (nI n) L = some (nI n, nI n, L') ∧ ∀ v, v < n → L' v = nI v :=
  sep_loop hn (nI n) (nI n) n 0 N L (by omega) (by omega) (fun v hv => absurd hv (Nat.not_lt_zero v))
theorem unite_loop {n lo hi : Nat} {lab : Nat → Nat} (hn : n ≤ 10) (hlh : lo < hi) (hh : hi < 10) (hlab : ∀ v, v < n → lab v < 10) (g : Int32) : ∀ (d i fuel : Nat) (L : Nat → Int32), i + d = n → d < fuel → (∀ v, v < n → L v = nI (if v < i ∧ lab v = hi then lo else lab v)) →
    ∃ L', lo5 (g_Labels_unite_44 (nI n)) fuel (nI lo) (nI hi) (nI i) L g = some (1, L', g - 1) ∧ ∀ v, v < n → L' v = nI (if lab v = hi then lo else lab v) := by
  intro d
  induction d with
  | zero =>
    intro i fuel L h1 h2 h3
    obtain ⟨f, rfl⟩ : ∃ f, fuel = f + 1 := ⟨fuel - 1, by omega⟩
    refine ⟨L, ?_, fun v hv => by rw [h3 v hv]; congr 1; by_cases q : lab v = hi; rw [if_pos ⟨by omega, q⟩, if_pos q]; rw [if_neg (fun z => q z.2), if_neg q]⟩
    show g_Labels_unite_44 (nI n) _ (nI lo) (nI hi) (nI i) L g = _
    have hle : nI n ≤ nI i := nI_le (by omega) (by omega)
    simp only [g_Labels_unite_44, if_pos hle, bn]
  | succ d ih =>
    intro i fuel L h1 h2 h3
    obtain ⟨f, rfl⟩ : ∃ f, fuel = f + 1 := ⟨fuel - 1, by omega⟩
    have hle : ¬ nI n ≤ nI i := nI_ge (by omega) (by omega)
    have hLi : L i = nI (lab i) := by rw [h3 i (by omega), if_neg (by omega)]
    by_cases hq : lab i = hi
    · obtain ⟨L', e1, e2⟩ := ih (i + 1) f (upd L i (nI lo)) (by omega) (by omega) (fun v hv => by
        by_cases h : v = i
        · subst h
          rw [upd_self, if_pos ⟨by omega, hq⟩]
        · rw [upd_ne _ _ h, h3 v hv]
          congr 1
          by_cases h5 : v < i ∧ lab v = hi
          · rw [if_pos h5, if_pos ⟨by omega, h5.2⟩]
          · rw [if_neg h5, if_neg (fun z => h5 ⟨by omega, z.2⟩)])
      refine ⟨L', ?_, e2⟩
      rw [← e1]
      show g_Labels_unite_44 (nI n) _ (nI lo) (nI hi) (nI i) L g = _
      have hc : nI (lab i) = nI hi := by rw [hq]
      simp only [g_Labels_unite_44, if_neg hle, gd_nI (show i < 10 by omega) (by decide), bn, nI_1, nI_clamp (show i < 2 ^ 31 by omega), hLi, if_pos hc]
    · obtain ⟨L', e1, e2⟩ := ih (i + 1) f L (by omega) (by omega) (fun v hv => by
        rw [h3 v hv]
        congr 1
        by_cases h5 : v < i ∧ lab v = hi
        · rw [if_pos h5, if_pos ⟨by omega, h5.2⟩]
        · by_cases h6 : v = i
          · subst h6
            rw [if_neg (by omega), if_neg (fun z => hq z.2)]
          · rw [if_neg h5, if_neg (fun z => h5 ⟨by omega, z.2⟩)])
      refine ⟨L', ?_, e2⟩
      rw [← e1]
      show g_Labels_unite_44 (nI n) _ (nI lo) (nI hi) (nI i) L g = _
      have hlt := hlab i (by omega)
      have hc : ¬ nI (lab i) = nI hi := fun q => hq ((nI_eq (by omega) (by omega)).mp q)
      simp only [g_Labels_unite_44, if_neg hle, gd_nI (show i < 10 by omega) (by decide), bn, nI_1, nI_clamp (show i < 2 ^ 31 by omega), hLi, if_neg hc]
theorem unite {N n a b : Nat} {lab : Nat → Nat} {L : Nat → Int32} (hN : 100 ≤ N) (hn : n ≤ 10) (ha : a < n) (hb : b < n) (hlab : ∀ v, v < n → lab v < 10) (hL : ∀ v, v < n → L v = nI (lab v)) (g : Int32) :
    ∃ L', f_Labels_unite N (nI a) (nI b) (nI n) g L = some (if lab a = lab b then 0 else 1, L', if lab a = lab b then g else g - 1) ∧ ∀ v, v < n → L' v = nI (uni lab a b v) := by
  have l1 := hlab a ha
  have l2 := hlab b hb
  have s1 : (if nI (lab b) < nI (lab a) then nI (lab b) else nI (lab a)) = nI (min (lab a) (lab b)) := by
    by_cases h : lab b < lab a
    · rw [if_pos (nI_lt h (by omega)), Nat.min_eq_right (by omega)]
    · rw [if_neg (nI_nlt (by omega) (by omega)), Nat.min_eq_left (by omega)]
  have s2 : (if nI (lab a) < nI (lab b) then nI (lab b) else nI (lab a)) = nI (max (lab a) (lab b)) := by
    by_cases h : lab a < lab b
    · rw [if_pos (nI_lt h (by omega)), Nat.max_eq_right (by omega)]
    · rw [if_neg (nI_nlt (by omega) (by omega)), Nat.max_eq_left (by omega)]
  by_cases he : lab a = lab b
  · refine ⟨L, ?_, fun v hv => by rw [uni_same he]; exact hL v hv⟩
    have hc : nI (min (lab a) (lab b)) = nI (max (lab a) (lab b)) := by rw [he, Nat.min_self, Nat.max_self]
    simp only [f_Labels_unite, gd_nI (show a < 10 by omega) (by decide), gd_nI (show b < 10 by omega) (by decide), nI_clamp (show a < 2 ^ 31 by omega), nI_clamp (show b < 2 ^ 31 by omega), hL a ha, hL b hb, s1, s2, bn, if_pos hc, if_pos he]
  · have hlh : min (lab a) (lab b) < max (lab a) (lab b) := by omega
    obtain ⟨L', e1, e2⟩ := unite_loop (lab := lab) hn hlh (by omega) hlab g n 0 N L (by omega) (by omega) (fun v hv => by rw [hL v hv, if_neg (by omega)])
    refine ⟨L', ?_, e2⟩
    have hc : ¬ nI (min (lab a) (lab b)) = nI (max (lab a) (lab b)) := fun q => by
      have := (nI_eq (by omega) (by omega)).mp q
      omega
    have z0 : (0 : Int32) = nI 0 := rfl
    simp only [f_Labels_unite, gd_nI (show a < 10 by omega) (by decide), gd_nI (show b < 10 by omega) (by decide), nI_clamp (show a < 2 ^ 31 by omega), nI_clamp (show b < 2 ^ 31 by omega), hL a ha, hL b hb, s1, s2, bn, if_neg hc, if_neg he]
    exact e1
