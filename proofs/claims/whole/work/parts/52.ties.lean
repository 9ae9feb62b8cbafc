/-! ties: the class -/
def tw (n : Nat) (fr to w : Nat → Nat) (ord : List Nat) : Nat → Nat → Nat → Int64 → Int64
  | 0, _, _, acc => acc
  | d + 1, st, en, acc => if en = ord.length ∨ ¬ w (ord.getD en 0) = w (ord.getD st 0) then tw n fr to w ord d en (en + 1) (acc * chv n fr to (kr fr to (ord.take st) (fun v => v)) (seg ord st en)) else tw n fr to w ord d st (en + 1) acc
theorem take_seg {ord : List Nat} {st en : Nat} (h : st ≤ en) : ord.take en = ord.take st ++ seg ord st en := by
  unfold seg
  have e : en = st + (en - st) := by omega
  conv => lhs; rw [e]
  rw [List.take_add]
theorem mem_take {ord : List Nat} {a st : Nat} (h : a ∈ ord.take st) : a ∈ ord := List.mem_of_mem_take h
theorem countLeast {N n k : Nat} {fr to w : Nat → Nat} {pr : Nat → Bool} {ord : List Nat} {pres : Int64} {O F T V L G R : Nat → Int32} {K mn : Nat → Nat → Int64} {gn gk gs : Int32} (hN : 100 ≤ N) (hG : GR n k fr to w pr ord) (hC : CR gn gk gs pres F T V O n k fr to w pr ord) :
    Ok (f_Forests_countLeast N gn gs L O V G K F T R mn) (fun r => r.1 = tw n fr to w ord ord.length 0 1 1) := by
  have hn := hG.1
  have hlen : ord.length ≤ 30 := by have := hG.2.1; have := hG.2.2.1; omega
  have hO := hC.2.2.2.2.2
  have hA := hC.arcs hG
  have hW : ∀ a, a ∈ ord → V a = nI (w a) ∧ w a ≤ 1000 := fun a ha => by
    have h := ((hG.2.2.2.2.2 a).mp ha).1
    exact ⟨(hC.2.2.2.2.1 a h).2.2, (hG.2.2.2.1 a h).2.2.2⟩
  obtain ⟨L1, s1, s2⟩ := sep hN hn L
  rw [hC.1, hC.2.2.1]
  unfold f_Forests_countLeast
  rw [s1]
  have hlt : ∀ st v, v < n → kr fr to (ord.take st) (fun v => v) v < n := fun st => kr_ltn _ (fun a ha => ⟨(hA a (mem_take ha)).2.2.2.1, (hA a (mem_take ha)).2.2.2.2⟩) (fun v hv => hv)
  refine Ok_lo10 (fun d v1 v3 v4 nd _ L' _ _ _ _ => ∃ st en, v3 = nI st ∧ v4 = nI en ∧ nd = nI n ∧ en + d = ord.length + 1 ∧ st < en ∧ (∀ v, v < n → L' v = nI (kr fr to (ord.take st) (fun v => v) v)) ∧ tw n fr to w ord ord.length 0 1 1 = tw n fr to w ord d st en v1) ?_ ord.length N _ _ _ _ _ _ _ _ _ _ (by omega) ⟨0, 1, rfl, rfl, rfl, by omega, by omega, by rw [List.take_zero]; exact s2, rfl⟩
  rintro k21 d v1 v3 v4 nd grp L' G' K' R' mn' ⟨st, en, rfl, rfl, rfl, hd, hse, hL', hv⟩ hk21
  cases d with
  | zero =>
    have hlt2 : nI ord.length < nI en := nI_lt (by omega) (by omega)
    simp only [g_Forests_countLeast_21, if_pos hlt2]
    exact Ok_some hv.symm
  | succ d =>
    have hnl : ¬ nI ord.length < nI en := nI_nlt (by omega) (by omega)
    have go : (en = ord.length ∨ ¬ w (ord.getD en 0) = w (ord.getD st 0)) → Ok (g_Forests_countLeast_59 N O F T k21 v1 (nI st) (nI en) (nI n) grp L' G' K' R' mn') (fun r => r.1 = tw n fr to w ord ord.length 0 1 1) := by
      intro hcond
      obtain ⟨⟨q1, q2, q3, q4, q5, q6, q7⟩, c1, c2, c3⟩ := choices (st := st) (en := en) (L := L') (G := G') (R := R') (K := K') (mn := mn') (g := grp) hN hn hlen hO hA (by omega) (by omega) (hlt st) hL'
      simp only [g_Forests_countLeast_59, c1, bk7, bn, nI_1]
      refine hk21 d _ _ _ _ _ _ _ _ _ _ (by omega) ⟨en, en + 1, rfl, rfl, rfl, by omega, by omega, fun v hv2 => ?_, ?_⟩
      · rw [take_seg (show st ≤ en by omega), kr_app]
        exact c3 v hv2
      · rw [hv]
        have c2' : q1 = chv n fr to (kr fr to (ord.take st) (fun v => v)) (seg ord st en) := c2
        rw [c2']
        simp only [tw, if_pos hcond]
    by_cases he : en = ord.length
    · have hc : nI en = nI ord.length := by rw [he]
      simp only [g_Forests_countLeast_21, if_neg hnl, if_pos hc]
      exact go (Or.inl he)
    · have hc : ¬ nI en = nI ord.length := fun q => he ((nI_eq (by omega) (by omega)).mp q)
      have hel : en < ord.length := by omega
      have hsl : st < ord.length := by omega
      have me := getD_mem hel
      have ms := getD_mem hsl
      obtain ⟨a1, -, -, -, -⟩ := hA _ me
      obtain ⟨b1, -, -, -, -⟩ := hA _ ms
      obtain ⟨w1, w2⟩ := hW _ me
      obtain ⟨w3, w4⟩ := hW _ ms
      have we : f_Forests_weightAt (nI en) O V = some (nI (w (ord.getD en 0))) := by
        simp only [f_Forests_weightAt, gd_nI (show en < 30 by omega) (by decide), nI_clamp (show en < 2 ^ 31 by omega), hO en hel, gd_nI a1 (by decide), nI_clamp (show ord.getD en 0 < 2 ^ 31 by omega), w1]
      have ws : f_Forests_weightAt (nI st) O V = some (nI (w (ord.getD st 0))) := by
        simp only [f_Forests_weightAt, gd_nI (show st < 30 by omega) (by decide), nI_clamp (show st < 2 ^ 31 by omega), hO st hsl, gd_nI b1 (by decide), nI_clamp (show ord.getD st 0 < 2 ^ 31 by omega), w3]
      by_cases hq : w (ord.getD en 0) = w (ord.getD st 0)
      · have hc2 : nI (w (ord.getD en 0)) = nI (w (ord.getD st 0)) := by rw [hq]
        simp only [g_Forests_countLeast_21, if_neg hnl, if_neg hc, we, ws, bk1, if_pos hc2, bn, nI_1]
        refine hk21 d _ _ _ _ _ _ _ _ _ _ (by omega) ⟨st, en + 1, rfl, rfl, rfl, by omega, by omega, hL', ?_⟩
        rw [hv]
        simp only [tw]
        rw [if_neg (fun z => by rcases z with z | z; exact he z; exact z hq)]
      · have hc2 : ¬ nI (w (ord.getD en 0)) = nI (w (ord.getD st 0)) := fun z => hq ((nI_eq (by omega) (by omega)).mp z)
        simp only [g_Forests_countLeast_21, if_neg hnl, if_neg hc, we, ws, bk1, if_neg hc2]
        exact go (Or.inr hq)
/-! ties: the reference's matrix -/
theorem pal_succ {p : Nat → Bool} : ∀ {d i : Nat}, pal p i (d + 1) = pal p i d ++ (if p (i + d) = true then [i + d] else [])
  | 0, i => by
    simp only [pal, Nat.add_zero, List.nil_append]
  | d + 1, i => by
    have ih := pal_succ (p := p) (d := d) (i := i + 1)
    have e : i + 1 + d = i + (d + 1) := by omega
    rw [e] at ih
    rw [pal, ih]
    conv => rhs; rw [pal]
    by_cases h : p i = true
    · rw [if_pos h, if_pos h]; rfl
    · rw [if_neg h, if_neg h]
theorem pal_len {p : Nat → Bool} : ∀ {d i : Nat}, (pal p i d).length ≤ d
  | 0, i => by simp [pal]
  | d + 1, i => by
    have := pal_len (p := p) (d := d) (i := i + 1)
    unfold pal
    by_cases h : p i = true
    · rw [if_pos h, List.length_cons]; omega
    · rw [if_neg h]; omega
theorem ct_nn (i j : Nat) : ct none none i j = 0 := by
  unfold ct
  simp
theorem ct_sn (p i j : Nat) : ct (some p) none i j = if i = p ∧ j = p then 1 else 0 := by
  unfold ct
  simp only [Option.some.injEq, reduceCtorEq, false_and, and_false, if_false]
  split <;> split <;> omega
theorem ct_ns (q i j : Nat) : ct none (some q) i j = if i = q ∧ j = q then 1 else 0 := by
  unfold ct
  simp only [Option.some.injEq, reduceCtorEq, false_and, and_false, if_false]
  split <;> split <;> omega
theorem ct_ss {p q : Nat} (h : p ≠ q) (i j : Nat) : ct (some p) (some q) i j = if i = p ∧ j = p then 1 else if i = q ∧ j = q then 1 else if i = p ∧ j = q then -1 else if i = q ∧ j = p then -1 else 0 := by
  unfold ct
  simp only [Option.some.injEq]
  split <;> split <;> split <;> split <;> (repeat' split) <;> omega
/-- an arc of the weight goes into the reference's matrix -/
theorem linkM {s p q : Nat} {mx : Nat → Int64} {M : Nat → Nat → Int} (hs : s ≤ 10) (hp : p < s) (hq : q < s) (hpq : p ≠ q) (hm : ∀ i j, i < s → j < s → mx (10 * i + j) = lI (M i j)) (i j : Nat) (hi : i < s) (hj : j < s) :
    (vp_updL (vp_updL (vp_updL (vp_updL mx (10 * p + p) (mx (10 * p + p) + 1)) (10 * q + q) ((vp_updL mx (10 * p + p) (mx (10 * p + p) + 1)) (10 * q + q) + 1)) (10 * p + q) ((vp_updL (vp_updL mx (10 * p + p) (mx (10 * p + p) + 1)) (10 * q + q) ((vp_updL mx (10 * p + p) (mx (10 * p + p) + 1)) (10 * q + q) + 1)) (10 * p + q) - 1)) (10 * q + p) ((vp_updL (vp_updL (vp_updL mx (10 * p + p) (mx (10 * p + p) + 1)) (10 * q + q) ((vp_updL mx (10 * p + p) (mx (10 * p + p) + 1)) (10 * q + q) + 1)) (10 * p + q) ((vp_updL (vp_updL mx (10 * p + p) (mx (10 * p + p) + 1)) (10 * q + q) ((vp_updL mx (10 * p + p) (mx (10 * p + p) + 1)) (10 * q + q) + 1)) (10 * p + q) - 1)) (10 * q + p) - 1)) (10 * i + j) = lI (ct (some p) (some q) i j + M i j) := by
  rw [ct_ss hpq]
  have h1 : ¬ 10 * q + q = 10 * p + p := by omega
  have h2 : ¬ 10 * p + q = 10 * p + p := by omega
  have h3 : ¬ 10 * p + q = 10 * q + q := by omega
  have h4 : ¬ 10 * q + p = 10 * p + p := by omega
  have h5 : ¬ 10 * q + p = 10 * q + q := by omega
  have h6 : ¬ 10 * q + p = 10 * p + q := by omega
  simp only [vp_updL, if_neg h1, if_neg h2, if_neg h3, if_neg h4, if_neg h5, if_neg h6]
  by_cases c1 : i = p ∧ j = p
  · rw [if_pos c1, if_neg (by omega), if_neg (by omega), if_neg (by omega), if_pos (by omega), c1.1, c1.2, hm p p hp hp, lI_add1]
    congr 1; omega
  · rw [if_neg c1]
    by_cases c2 : i = q ∧ j = q
    · rw [if_pos c2, if_neg (by omega), if_neg (by omega), if_pos (by omega), c2.1, c2.2, hm q q hq hq, lI_add1]
      congr 1; omega
    · rw [if_neg c2]
      by_cases c3 : i = p ∧ j = q
      · rw [if_pos c3, if_neg (by omega), if_pos (by omega), c3.1, c3.2, hm p q hp hq, lI_sub1]
        congr 1; omega
      · rw [if_neg c3]
        by_cases c4 : i = q ∧ j = p
        · rw [if_pos c4, if_pos (by omega), c4.1, c4.2, hm q p hq hp, lI_sub1]
          congr 1; omega
        · rw [if_neg c4, if_neg (by omega), if_neg (by omega), if_neg (by omega), if_neg (by omega), hm i j hi hj]
          congr 1; omega
theorem linkM1 {s p : Nat} {mx : Nat → Int64} {M : Nat → Nat → Int} (hs : s ≤ 10) (hp : p < s) (hm : ∀ i j, i < s → j < s → mx (10 * i + j) = lI (M i j)) (i j : Nat) (hi : i < s) (hj : j < s) :
    (vp_updL mx (10 * p + p) (mx (10 * p + p) + 1)) (10 * i + j) = lI ((if i = p ∧ j = p then 1 else 0) + M i j) := by
  simp only [vp_updL]
  by_cases c1 : i = p ∧ j = p
  · rw [if_pos c1, if_pos (by omega), c1.1, c1.2, hm p p hp hp, lI_add1]
    congr 1; omega
  · rw [if_neg c1, if_neg (by omega), hm i j hi hj]
    congr 1; omega
