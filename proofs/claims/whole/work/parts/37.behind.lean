/-! the next arc in the order -/
def af (w : Nat → Nat) : Option Nat → Nat → Prop
  | none, _ => True
  | some q, j => ah w q j
def enc : Option Nat → Int32
  | none => -1
  | some f => nI f
def Bst (w : Nat → Nat) (pr : Nat → Bool) (p : Option Nat) (i : Nat) : Option Nat → Prop
  | none => ∀ j, j < i → pr j = true → ¬ af w p j
  | some f => f < i ∧ pr f = true ∧ af w p f ∧ ∀ j, j < i → pr j = true → af w p j → j = f ∨ ah w f j
theorem Bst_skip {w : Nat → Nat} {pr : Nat → Bool} {p : Option Nat} {i : Nat} {fo : Option Nat} (h : Bst w pr p i fo) (hn : ¬ (pr i = true ∧ af w p i)) : Bst w pr p (i + 1) fo := by
  cases fo with
  | none =>
    intro j hj hp ha
    by_cases e : j = i
    · subst e
      exact hn ⟨hp, ha⟩
    · exact h j (by omega) hp ha
  | some f =>
    obtain ⟨h1, h2, h3, h4⟩ := h
    refine ⟨by omega, h2, h3, fun j hj hp ha => ?_⟩
    by_cases e : j = i
    · subst e
      exact absurd ⟨hp, ha⟩ hn
    · exact h4 j (by omega) hp ha
theorem Bst_new {w : Nat → Nat} {pr : Nat → Bool} {p : Option Nat} {i : Nat} (h : Bst w pr p i none) (hp : pr i = true) (ha : af w p i) : Bst w pr p (i + 1) (some i) := by
  refine ⟨by omega, hp, ha, fun j hj hp2 ha2 => ?_⟩
  by_cases e : j = i
  · exact Or.inl e
  · exact absurd ha2 (h j (by omega) hp2)
theorem Bst_keep {w : Nat → Nat} {pr : Nat → Bool} {p : Option Nat} {i f : Nat} (h : Bst w pr p i (some f)) (hw : w f ≤ w i) : Bst w pr p (i + 1) (some f) := by
  obtain ⟨h1, h2, h3, h4⟩ := h
  refine ⟨by omega, h2, h3, fun j hj hp ha => ?_⟩
  by_cases e : j = i
  · subst e
    refine Or.inr ?_
    unfold ah
    omega
  · exact h4 j (by omega) hp ha
theorem Bst_less {w : Nat → Nat} {pr : Nat → Bool} {p : Option Nat} {i f : Nat} (h : Bst w pr p i (some f)) (hp : pr i = true) (ha : af w p i) (hw : w i < w f) : Bst w pr p (i + 1) (some i) := by
  obtain ⟨h1, h2, h3, h4⟩ := h
  have hif : ah w i f := Or.inl hw
  refine ⟨by omega, hp, ha, fun j hj hp2 ha2 => ?_⟩
  by_cases e : j = i
  · exact Or.inl e
  · rcases h4 j (by omega) hp2 ha2 with rfl | q
    · exact Or.inr hif
    · exact Or.inr (ah_trans hif q)
theorem bh_loop {k : Nat} {w : Nat → Nat} {pr : Nat → Bool} {p : Option Nat} {H V : Nat → Int32} (hk : k ≤ 30) (hA : ∀ a, a < k → V a = nI (w a) ∧ H a = (if pr a = true then 1 else 0) ∧ w a ≤ 1000) (hp : ∀ q, p = some q → q < k) :
    ∀ (d i fuel : Nat) (fo : Option Nat), i + d = k → d < fuel → Bst w pr p i fo → ∃ fo', lo2 (g_Mo_behind_4 (enc p) (nI k) H V) fuel (enc fo) (nI i) = some (enc fo') ∧ Bst w pr p k fo' := by
  intro d
  induction d with
  | zero =>
    intro i fuel fo h1 h2 h3
    obtain ⟨f, rfl⟩ : ∃ f, fuel = f + 1 := ⟨fuel - 1, by omega⟩
    have e : i = k := by omega
    subst e
    refine ⟨fo, ?_, h3⟩
    show g_Mo_behind_4 (enc p) (nI i) H V _ (enc fo) (nI i) = _
    have hle : nI i ≤ nI i := nI_le (Nat.le_refl _) (by omega)
    simp only [g_Mo_behind_4, if_pos hle]
  | succ d ih =>
    intro i fuel fo h1 h2 h3
    obtain ⟨fu, rfl⟩ : ∃ f, fuel = f + 1 := ⟨fuel - 1, by omega⟩
    have hle : ¬ nI k ≤ nI i := nI_ge (by omega) (by omega)
    obtain ⟨v1, v2, v3⟩ := hA i (by omega)
    have n1 : ¬ (1 : Int32) = 0 := by decide
    have nm : (-1 : Int32) < 0 := by decide
    -- what the two ways do
    have w0 : g_Mo_behind_64 V (lo2 (g_Mo_behind_4 (enc p) (nI k) H V) fu) (enc fo) (nI i) = lo2 (g_Mo_behind_4 (enc p) (nI k) H V) fu (enc fo) (nI (i + 1)) := by
      simp only [g_Mo_behind_64, g_Mo_behind_65, if_pos, bn, nI_1]
    have hskip : ¬ (pr i = true ∧ af w p i) → ∃ fo', g_Mo_behind_64 V (lo2 (g_Mo_behind_4 (enc p) (nI k) H V) fu) (enc fo) (nI i) = some (enc fo') ∧ Bst w pr p k fo' := fun hn => by
      rw [w0]
      exact ih (i + 1) fu fo (by omega) (by omega) (Bst_skip h3 hn)
    have htake : pr i = true → af w p i → ∃ fo', g_Mo_behind_60 V (lo2 (g_Mo_behind_4 (enc p) (nI k) H V) fu) (enc fo) (nI i) = some (enc fo') ∧ Bst w pr p k fo' := fun hpi hai => by
      cases fo with
      | none =>
        obtain ⟨fo', e1, e2⟩ := ih (i + 1) fu (some i) (by omega) (by omega) (Bst_new h3 hpi hai)
        refine ⟨fo', ?_, e2⟩
        rw [← e1]
        simp only [g_Mo_behind_60, g_Mo_behind_65, if_neg n1, enc, if_pos nm, bn, nI_1]
      | some f =>
        have hfi : f < i := h3.1
        obtain ⟨u1, u2, u3⟩ := hA f (by omega)
        have hf0 : ¬ nI f < 0 := nI_pos (by omega)
        by_cases hw : w f ≤ w i
        · obtain ⟨fo', e1, e2⟩ := ih (i + 1) fu (some f) (by omega) (by omega) (Bst_keep h3 hw)
          refine ⟨fo', ?_, e2⟩
          rw [← e1]
          have hc : nI (w f) ≤ nI (w i) := nI_le hw (by omega)
          simp only [g_Mo_behind_60, g_Mo_behind_65, if_neg n1, enc, if_neg hf0, gd_nI (show i < 30 by omega) (by decide), gd_nI (show f < 30 by omega) (by decide), nI_clamp (show i < 2 ^ 31 by omega), nI_clamp (show f < 2 ^ 31 by omega), v1, u1, if_pos hc, bn, nI_1]
        · obtain ⟨fo', e1, e2⟩ := ih (i + 1) fu (some i) (by omega) (by omega) (Bst_less h3 hpi hai (by omega))
          refine ⟨fo', ?_, e2⟩
          rw [← e1]
          have hc : ¬ nI (w f) ≤ nI (w i) := nI_ge (by omega) (by omega)
          simp only [g_Mo_behind_60, g_Mo_behind_65, if_neg n1, enc, if_neg hf0, gd_nI (show i < 30 by omega) (by decide), gd_nI (show f < 30 by omega) (by decide), nI_clamp (show i < 2 ^ 31 by omega), nI_clamp (show f < 2 ^ 31 by omega), v1, u1, if_neg hc, bn, nI_1]
    show ∃ fo', g_Mo_behind_4 (enc p) (nI k) H V _ (enc fo) (nI i) = some (enc fo') ∧ Bst w pr p k fo'
    by_cases hpi : pr i = true
    · rw [if_pos hpi] at v2
      cases p with
      | none =>
        simp only [g_Mo_behind_4, if_neg hle, gd_nI (show i < 30 by omega) (by decide), nI_clamp (show i < 2 ^ 31 by omega), v2, if_neg n1, enc, if_pos nm]
        exact htake hpi trivial
      | some q =>
        have hq := hp q rfl
        obtain ⟨u1, u2, u3⟩ := hA q hq
        have hq0 : ¬ nI q < 0 := nI_pos (by omega)
        have htake' : pr i = true → ah w q i → ∃ fo', g_Mo_behind_60 V (lo2 (g_Mo_behind_4 (nI q) (nI k) H V) fu) (enc fo) (nI i) = some (enc fo') ∧ Bst w pr (some q) k fo' := htake
        have hskip' : ¬ (pr i = true ∧ ah w q i) → ∃ fo', g_Mo_behind_64 V (lo2 (g_Mo_behind_4 (nI q) (nI k) H V) fu) (enc fo) (nI i) = some (enc fo') ∧ Bst w pr (some q) k fo' := hskip
        show ∃ fo', g_Mo_behind_4 (nI q) (nI k) H V (lo2 (g_Mo_behind_4 (nI q) (nI k) H V) fu) (enc fo) (nI i) = some (enc fo') ∧ Bst w pr (some q) k fo'
        by_cases c1 : w q < w i
        · have hc : nI (w q) < nI (w i) := nI_lt c1 (by omega)
          simp only [g_Mo_behind_4, if_neg hle, gd_nI (show i < 30 by omega) (by decide), gd_nI (show q < 30 by omega) (by decide), nI_clamp (show i < 2 ^ 31 by omega), nI_clamp (show q < 2 ^ 31 by omega), v2, if_neg n1, if_neg hq0, v1, u1, if_pos hc]
          exact htake' hpi (Or.inl c1)
        · have hc : ¬ nI (w q) < nI (w i) := nI_nlt (by omega) (by omega)
          by_cases c2 : w i = w q
          · have hc2 : nI (w i) = nI (w q) := by rw [c2]
            by_cases c3 : i ≤ q
            · have hc3 : nI i ≤ nI q := nI_le c3 (by omega)
              simp only [g_Mo_behind_4, if_neg hle, gd_nI (show i < 30 by omega) (by decide), gd_nI (show q < 30 by omega) (by decide), nI_clamp (show i < 2 ^ 31 by omega), nI_clamp (show q < 2 ^ 31 by omega), v2, if_neg n1, if_neg hq0, v1, u1, if_neg hc, if_pos hc2, if_pos hc3]
              exact hskip' (fun z => by have := z.2; unfold ah at this; omega)
            · have hc3 : ¬ nI i ≤ nI q := nI_ge (by omega) (by omega)
              simp only [g_Mo_behind_4, if_neg hle, gd_nI (show i < 30 by omega) (by decide), gd_nI (show q < 30 by omega) (by decide), nI_clamp (show i < 2 ^ 31 by omega), nI_clamp (show q < 2 ^ 31 by omega), v2, if_neg n1, if_neg hq0, v1, u1, if_neg hc, if_pos hc2, if_neg hc3]
              exact htake' hpi (Or.inr ⟨c2.symm, by omega⟩)
          · have hc2 : ¬ nI (w i) = nI (w q) := fun z => c2 ((nI_eq (by omega) (by omega)).mp z)
            simp only [g_Mo_behind_4, if_neg hle, gd_nI (show i < 30 by omega) (by decide), gd_nI (show q < 30 by omega) (by decide), nI_clamp (show i < 2 ^ 31 by omega), nI_clamp (show q < 2 ^ 31 by omega), v2, if_neg n1, if_neg hq0, v1, u1, if_neg hc, if_neg hc2]
            exact hskip' (fun z => by have := z.2; unfold ah at this; omega)
    · rw [if_neg hpi] at v2
      simp only [g_Mo_behind_4, if_neg hle, gd_nI (show i < 30 by omega) (by decide), nI_clamp (show i < 2 ^ 31 by omega), v2, if_pos]
      exact hskip (fun z => hpi z.1)
theorem ah_asym {w : Nat → Nat} {a b : Nat} (h1 : ah w a b) (h2 : ah w b a) : False := ah_irr (ah_trans h1 h2)
/-- a place of the order, from the left: what is behind what stands left of it -/
theorem bst_ord {k : Nat} {w : Nat → Nat} {pr : Nat → Bool} {ord : List Nat} {p fo : Option Nat} {j : Nat} (hs : ord.Pairwise (ah w)) (hm : ∀ a, a ∈ ord ↔ (a < k ∧ pr a = true)) (hj : ∀ i, i < ord.length → (af w p (ord.getD i 0) ↔ j ≤ i)) (h : Bst w pr p k fo) : fo = ord[j]? := by
  by_cases hl : j < ord.length
  · have hx : ord.getD j 0 ∈ ord := getD_mem hl
    have hxm := (hm _).mp hx
    have hxa := (hj j hl).mpr (Nat.le_refl j)
    have e0 : ord[j]? = some (ord.getD j 0) := by rw [List.getD_eq_getElem?_getD, List.getElem?_eq_getElem hl]; rfl
    rw [e0]
    cases fo with
    | none => exact absurd hxa (h _ hxm.1 hxm.2)
    | some f =>
      obtain ⟨h1, h2, h3, h4⟩ := h
      obtain ⟨i, hi, ei⟩ := mem_getD ((hm f).mpr ⟨h1, h2⟩)
      rw [← ei] at h3
      have hji := (hj i hi).mp h3
      rcases h4 _ hxm.1 hxm.2 hxa with q | q
      · rw [q]
      · by_cases e : j = i
        · rw [← ei, e]
        · exact absurd q (fun q => ah_asym q (by rw [← ei]; exact pw_get hs (by omega) hi))
  · rw [List.getElem?_eq_none (by omega)]
    cases fo with
    | none => rfl
    | some f =>
      obtain ⟨h1, h2, h3, h4⟩ := h
      obtain ⟨i, hi, ei⟩ := mem_getD ((hm f).mpr ⟨h1, h2⟩)
      rw [← ei] at h3
      have := (hj i hi).mp h3
      omega
theorem behind0 {N k : Nat} {w : Nat → Nat} {pr : Nat → Bool} {ord : List Nat} {H V : Nat → Int32} (hN : 100 ≤ N) (hk : k ≤ 30) (hA : ∀ a, a < k → V a = nI (w a) ∧ H a = (if pr a = true then 1 else 0) ∧ w a ≤ 1000) (hs : ord.Pairwise (ah w)) (hm : ∀ a, a ∈ ord ↔ (a < k ∧ pr a = true)) : f_Mo_behind N (-1) (nI k) H V = some (enc ord[0]?) := by
  obtain ⟨fo, e1, e2⟩ := bh_loop (p := none) hk hA (fun q e => by cases e) k 0 N none (by omega) (by omega) (fun j hj => absurd hj (Nat.not_lt_zero j))
  rw [← bst_ord (p := none) (j := 0) hs hm (fun i _ => ⟨fun _ => Nat.zero_le i, fun _ => trivial⟩) e2]
  exact e1
theorem behindS {N k i : Nat} {w : Nat → Nat} {pr : Nat → Bool} {ord : List Nat} {H V : Nat → Int32} (hN : 100 ≤ N) (hk : k ≤ 30) (hA : ∀ a, a < k → V a = nI (w a) ∧ H a = (if pr a = true then 1 else 0) ∧ w a ≤ 1000) (hs : ord.Pairwise (ah w)) (hm : ∀ a, a ∈ ord ↔ (a < k ∧ pr a = true)) (hi : i < ord.length) : f_Mo_behind N (nI (ord.getD i 0)) (nI k) H V = some (enc ord[i + 1]?) := by
  obtain ⟨fo, e1, e2⟩ := bh_loop (p := some (ord.getD i 0)) hk hA (fun q e => by cases e; exact ((hm _).mp (getD_mem hi)).1) k 0 N none (by omega) (by omega) (fun j hj => absurd hj (Nat.not_lt_zero j))
  rw [← bst_ord (p := some (ord.getD i 0)) (j := i + 1) hs hm (fun b hb => ⟨fun h => by
    by_cases q : b ≤ i
    · by_cases e : b = i
      · subst e; exact absurd h ah_irr
      · exact absurd (pw_get hs (show b < i by omega) hi) (fun z => ah_asym z h)
    · omega, fun h => pw_get hs (by omega) hb⟩) e2]
  exact e1
/-- leastOf -/
theorem lo_loop {N k n : Nat} {fr to w : Nat → Nat} {pr : Nat → Bool} {ord : List Nat} {H V F T : Nat → Int32} (hN : 100 ≤ N) (hk : k ≤ 30) (hn : n ≤ 10) (hA : ∀ a, a < k → V a = nI (w a) ∧ H a = (if pr a = true then 1 else 0) ∧ w a ≤ 1000) (hB : ∀ a, a < k → F a = nI (fr a) ∧ T a = nI (to a) ∧ fr a < n ∧ to a < n) (hs : ord.Pairwise (ah w)) (hm : ∀ a, a ∈ ord ↔ (a < k ∧ pr a = true)) :
    ∀ (d i fuel : Nat) (S : Int64) (lab : Nat → Nat) (P : Nat → Int32), i + d = ord.length → d < fuel → (∀ v, v < 10 → lab v < 10) → (∀ v, v < 10 → P v = nI (lab v)) →
    ∃ P', lo3 (g_Mo_leastOf_12 N (nI k) H V F T) fuel S (enc ord[i]?) P = some (kset fr to (ord.drop i) lab S, P') ∧ ∀ v, v < 10 → P' v = nI (kr fr to (ord.drop i) lab v) := by
  intro d
  induction d with
  | zero =>
    intro i fuel S lab P h1 h2 h3 h4
    obtain ⟨f, rfl⟩ : ∃ f, fuel = f + 1 := ⟨fuel - 1, by omega⟩
    have e : ord.drop i = [] := List.drop_eq_nil_of_le (by omega)
    have e0 : ord[i]? = none := List.getElem?_eq_none (by omega)
    rw [e, e0]
    refine ⟨P, ?_, h4⟩
    show g_Mo_leastOf_12 N (nI k) H V F T _ S (-1) P = _
    have nm : (-1 : Int32) < 0 := by decide
    simp only [g_Mo_leastOf_12, if_pos nm, kset]
  | succ d ih =>
    intro i fuel S lab P h1 h2 h3 h4
    obtain ⟨f, rfl⟩ : ∃ f, fuel = f + 1 := ⟨fuel - 1, by omega⟩
    have hil : i < ord.length := by omega
    have e : ord.drop i = ord.getD i 0 :: ord.drop (i + 1) := by
      rw [List.drop_eq_getElem_cons hil, List.getD_eq_getElem?_getD, List.getElem?_eq_getElem hil]
      rfl
    have e0 : ord[i]? = some (ord.getD i 0) := by rw [List.getD_eq_getElem?_getD, List.getElem?_eq_getElem hil]; rfl
    have hbh := behindS hN hk hA hs hm hil
    generalize hx : ord.getD i 0 = x at e e0 hbh
    have hxk : x < k := by rw [← hx]; exact ((hm _).mp (getD_mem hil)).1
    obtain ⟨b1, b2, b3, b4⟩ := hB x hxk
    obtain ⟨P1, j1, j2⟩ := join hN (show x < 30 by omega) b1 b2 (by omega) (by omega) h3 h4
    have n1 : ¬ (1 : Int32) = 0 := by decide
    have hx0 : ¬ nI x < 0 := nI_pos (by omega)
    rw [e, e0]
    by_cases hq : lab (fr x) = lab (to x)
    · obtain ⟨P', e1, e2⟩ := ih (i + 1) f S (uni lab (fr x) (to x)) P1 (by omega) (by omega) (uni10 (by omega) (by omega) h3) j2
      refine ⟨P', ?_, e2⟩
      simp only [kset, kr, if_pos hq]
      rw [← e1]
      show g_Mo_leastOf_12 N (nI k) H V F T _ S (nI x) P = _
      simp only [if_pos hq] at j1
      have ho : S ||| (0 : Int64) = S := by
        rw [← Int64.toBitVec_inj, Int64.toBitVec_or]
        have z : (0 : Int64).toBitVec = 0#64 := by decide +kernel
        rw [z, BitVec.or_zero]
      simp only [g_Mo_leastOf_12, if_neg hx0, j1, bk2, if_pos, g_Mo_leastOf_32, bn, ho, hbh, bk1]
    · obtain ⟨P', e1, e2⟩ := ih (i + 1) f (S ||| bitA x) (uni lab (fr x) (to x)) P1 (by omega) (by omega) (uni10 (by omega) (by omega) h3) j2
      refine ⟨P', ?_, e2⟩
      simp only [kset, kr, if_neg hq]
      rw [← e1]
      show g_Mo_leastOf_12 N (nI k) H V F T _ S (nI x) P = _
      simp only [if_neg hq] at j1
      simp only [g_Mo_leastOf_12, if_neg hx0, j1, bk2, if_neg n1, g_Mo_leastOf_32, bn, bitA, hbh, bk1]
theorem leastOf {N n k : Nat} {fr to w : Nat → Nat} {pr : Nat → Bool} {ord : List Nat} {mn ma ml : Int32} {F T V H : Nat → Int32} (hN : 100 ≤ N) (hG : GR n k fr to w pr ord) (hM : MR mn ma ml F T V H n k fr to w pr ord) (P : Nat → Int32) :
    ∃ P', f_Mo_leastOf N (nI k) P H V F T = some (kset fr to ord (fun v => v) 0, P') ∧ ∀ v, v < 10 → P' v = nI (kr fr to ord (fun v => v) v) := by
  obtain ⟨P1, s1, s2⟩ := alone hN P
  have hA : ∀ a, a < k → V a = nI (w a) ∧ H a = (if pr a = true then 1 else 0) ∧ w a ≤ 1000 := fun a ha => ⟨(hM.2.2.2 a ha).2.2.1, (hM.2.2.2 a ha).2.2.2, (hG.2.2.2.1 a ha).2.2.2⟩
  have hB : ∀ a, a < k → F a = nI (fr a) ∧ T a = nI (to a) ∧ fr a < n ∧ to a < n := fun a ha => ⟨(hM.2.2.2 a ha).1, (hM.2.2.2 a ha).2.1, (hG.2.2.2.1 a ha).1, (hG.2.2.2.1 a ha).2.1⟩
  have hl : ord.length ≤ 30 := by have := hG.2.1; have := hG.2.2.1; omega
  obtain ⟨P', e1, e2⟩ := lo_loop hN hG.2.1 hG.1 hA hB hG.2.2.2.2.1 hG.2.2.2.2.2 ord.length 0 N 0 (fun v => v) P1 (by omega) (by omega) (fun v hv => hv) s2
  refine ⟨P', ?_, e2⟩
  simp only [f_Mo_leastOf, s1, bk1, behind0 hN hG.2.1 hA hG.2.2.2.2.1 hG.2.2.2.2.2]
  exact e1
theorem st_leastSet {N : Nat} (hN : 100 ≤ N) : St_leastSet N InvC := by
  intro t_graph_nodes t_graph_numbered t_graph_size t_graph_present t_graph_from t_graph_to t_graph_weight t_graph_order t_forests_nextWeight t_forests_nextIn t_forests_nextOut t_forests_labels_nodes t_forests_labels_groups t_forests_labels_label t_forests_treeCount_groupOf t_forests_treeCount_links t_forests_treeCount_rows t_forests_treeCount_minor t_forests_heaviest t_boundedTrees_nodes t_boundedTrees_bound t_boundedTrees_between t_boundedTrees_branches t_boundedTrees_branch t_treesFromRoot_nodes t_treesFromRoot_arcs t_treesFromRoot_root t_treesFromRoot_tail t_treesFromRoot_head t_treesFromRoot_cost t_treesFromRoot_leastInto t_treesFromRoot_before t_treesFromRoot_group t_joiningTrees_labels_nodes t_joiningTrees_labels_groups t_joiningTrees_labels_label t_nodes t_arcs t_left t_swapIn t_swapOut t_boundedSet t_joinedSet t_froms t_tos t_weights t_there t_part t_low t_row t_matrix t_own t_chosen t_degrees t_fixed t_grown t_costs t_order hI
  obtain ⟨n, k, fr, to, w, pr, ord, hG, hC, hM⟩ := hI
  obtain ⟨L', e1, -⟩ := findLeast (L := t_forests_labels_label) hN hG.1 (by have := hG.2.1; have := hG.2.2.1; omega) hC.2.2.2.2.2 (hC.arcs hG)
  obtain ⟨P', m1, -⟩ := leastOf hN hG hM t_part
  refine ⟨kset fr to ord (fun v => v) 0, nI n, nI (cnt (kr fr to ord (fun v => v)) n), L', P', ?_, ?_, ⟨n, k, fr, to, w, pr, ord, hG, hC, hM⟩⟩
  · rw [hC.1, hC.2.2.1]
    simp only [f_RT_leastSet, e1, bk4]
  · rw [hM.2.1]
    simp only [f_Mo_leastSet, m1, bk2]
theorem st_least {N : Nat} (hN : 100 ≤ N) : St_least N InvC := by
  intro t_graph_nodes t_graph_numbered t_graph_size t_graph_present t_graph_from t_graph_to t_graph_weight t_graph_order t_forests_nextWeight t_forests_nextIn t_forests_nextOut t_forests_labels_nodes t_forests_labels_groups t_forests_labels_label t_forests_treeCount_groupOf t_forests_treeCount_links t_forests_treeCount_rows t_forests_treeCount_minor t_forests_heaviest t_boundedTrees_nodes t_boundedTrees_bound t_boundedTrees_between t_boundedTrees_branches t_boundedTrees_branch t_treesFromRoot_nodes t_treesFromRoot_arcs t_treesFromRoot_root t_treesFromRoot_tail t_treesFromRoot_head t_treesFromRoot_cost t_treesFromRoot_leastInto t_treesFromRoot_before t_treesFromRoot_group t_joiningTrees_labels_nodes t_joiningTrees_labels_groups t_joiningTrees_labels_label t_nodes t_arcs t_left t_swapIn t_swapOut t_boundedSet t_joinedSet t_froms t_tos t_weights t_there t_part t_low t_row t_matrix t_own t_chosen t_degrees t_fixed t_grown t_costs t_order hI
  obtain ⟨n, k, fr, to, w, pr, ord, hG, hC, hM⟩ := hI
  obtain ⟨L', e1, -⟩ := findLeast (L := t_forests_labels_label) hN hG.1 (by have := hG.2.1; have := hG.2.2.1; omega) hC.2.2.2.2.2 (hC.arcs hG)
  obtain ⟨P', m1, -⟩ := leastOf hN hG hM t_part
  refine ⟨nI (wsum w (fun a => (kset fr to ord (fun v => v) 0).toBitVec.getLsbD a) k), nI n, nI (cnt (kr fr to ord (fun v => v)) n), L', P', ?_, ?_, ⟨n, k, fr, to, w, pr, ord, hG, hC, hM⟩⟩
  · rw [hC.1, hC.2.2.1, hC.2.1]
    simp only [f_RT_least, e1, bk4, weightC hN hG.2.1 (fun a ha => (hC.2.2.2.2.1 a ha).2.2), bk1]
  · rw [hM.2.1]
    simp only [f_Mo_least, m1, bk2, weightM hN hG.2.1 (fun a ha => (hM.2.2.2 a ha).2.2.1), bk1]
