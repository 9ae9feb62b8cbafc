/-! the reference: sets of nodes grown from the root -/
theorem Gw_snoc {tl hd : Nat → Nat} {a : Nat} : ∀ (l : List Nat) {X : Nat → Bool}, Gw tl hd X (l ++ [a]) ↔ Gw tl hd X l ∧ grow hd X l (tl a) = true ∧ grow hd X l (hd a) = false
  | [], X => by simp [Gw, grow]
  | b :: l, X => by
    simp only [List.cons_append, Gw, grow, Gw_snoc l]
    constructor
    · rintro ⟨h1, h2, h3, h4⟩; exact ⟨⟨h1, h2, h3⟩, h4⟩
    · rintro ⟨⟨h1, h2, h3⟩, h4⟩; exact ⟨h1, h2, h3, h4⟩
theorem grow_snoc {hd : Nat → Nat} {a : Nat} : ∀ (l : List Nat) {X : Nat → Bool}, grow hd X (l ++ [a]) = addN (grow hd X l) (hd a)
  | [], X => rfl
  | b :: l, X => by simp only [List.cons_append, grow, grow_snoc l]
theorem tb_add (s v : Nat) : (s ||| 2 ^ v).testBit = addN s.testBit v := by
  funext u
  rw [Nat.testBit_or, Nat.testBit_two_pow]
  unfold addN
  congr 1
  rw [decide_eq_decide]
  exact ⟨fun h => h.symm, fun h => h.symm⟩
theorem tb_sgl (r : Nat) : (2 ^ r).testBit = sgl r := by
  funext u
  rw [Nat.testBit_two_pow]
  unfold sgl
  rw [decide_eq_decide]
  exact ⟨fun h => h.symm, fun h => h.symm⟩
theorem or_gt {s v : Nat} (h : s.testBit v = false) : s < s ||| 2 ^ v := by
  refine Nat.lt_of_le_of_ne Nat.left_le_or (fun e => ?_)
  have h2 : (s ||| 2 ^ v).testBit v = true := by rw [Nat.testBit_or, Nat.testBit_two_pow]; simp
  rw [← e, h] at h2
  cases h2
theorem or_lt {n s v : Nat} (hs : s < 2 ^ n) (hv : v < n) : s ||| 2 ^ v < 2 ^ n := Nat.or_lt_two_pow hs (Nat.pow_lt_pow_right (by omega) hv)
theorem nI_or {s v : Nat} (hs : s < 2 ^ 31) (hv : v < 31) : nI s ||| ((1 : Int32) <<< (nI v &&& 31)) = nI (s ||| 2 ^ v) := by
  apply bi_ext
  rw [bi_or _ (by omega)]
  funext u
  have h2 : s ||| 2 ^ v < 2 ^ 31 := or_lt hs hv
  rw [bi_nI hs, bi_nI h2, tb_add]
  unfold addN
  congr 1
  rw [decide_eq_decide]
  exact ⟨fun h => h.symm, fun h => h.symm⟩
/-- arcs that may be taken when fx tells some of them -/
def adm (to : Nat → Nat) (k : Nat) (pr : Nat → Bool) (fx : Nat → Option Nat) (a : Nat) : Prop := a < k ∧ pr a = true ∧ (fx (to a) = none ∨ fx (to a) = some a)
/-- a tree from r over all nodes -/
def FA (fr to : Nat → Nat) (n k r : Nat) (pr : Nat → Bool) (fx : Nat → Option Nat) (la : List Nat) : Prop := Gw fr to (sgl r) la ∧ (∀ a, a ∈ la → adm to k pr fx a) ∧ ∀ v, v < n → grow to (sgl r) la v = true
def Snd (fr to w : Nat → Nat) (n k r : Nat) (pr : Nat → Bool) (fx : Nat → Option Nat) (gw : Nat → Option Nat) : Prop := ∀ t x, t < 2 ^ n → gw t = some x → ∃ la, Gw fr to (sgl r) la ∧ (∀ a, a ∈ la → adm to k pr fx a) ∧ grow to (sgl r) la = t.testBit ∧ lsum w la = x
def Cmp (fr to w : Nat → Nat) (n k : Nat) (pr : Nat → Bool) (fx : Nat → Option Nat) (gw : Nat → Option Nat) (s j : Nat) : Prop := ∀ t x a, t < 2 ^ n → (t < s ∨ (t = s ∧ a < j)) → gw t = some x → adm to k pr fx a → t.testBit (fr a) = true → t.testBit (to a) = false → ∃ y, gw (t ||| 2 ^ (to a)) = some y ∧ y ≤ x + w a
theorem comp {fr to w : Nat → Nat} {n k : Nat} {pr : Nat → Bool} {fx gw : Nat → Option Nat} (hC : Cmp fr to w n k pr fx gw (2 ^ n) 0) (hto : ∀ a, a < k → to a < n) : ∀ (la : List Nat) (t x : Nat), t < 2 ^ n → gw t = some x → Gw fr to t.testBit la → (∀ a, a ∈ la → adm to k pr fx a) → ∃ t' y, t' < 2 ^ n ∧ grow to t.testBit la = t'.testBit ∧ gw t' = some y ∧ y ≤ x + lsum w la
  | [], t, x, ht, hx, _, _ => ⟨t, x, ht, rfl, hx, by simp [lsum]⟩
  | a :: la, t, x, ht, hx, ⟨g1, g2, g3⟩, hadm => by
    have ha := hadm a (List.mem_cons_self ..)
    obtain ⟨y, y1, y2⟩ := hC t x a ht (Or.inl ht) hx ha g1 g2
    rw [← tb_add] at g3
    obtain ⟨t', z, z1, z2, z3, z4⟩ := comp hC hto la (t ||| 2 ^ (to a)) y (or_lt ht (hto a ha.1)) y1 g3 (fun b hb => hadm b (List.mem_cons_of_mem _ hb))
    refine ⟨t', z, z1, ?_, z3, by simp only [lsum]; omega⟩
    show grow to (addN t.testBit (to a)) la = _
    rw [← tb_add, z2]
theorem Gw_len {fr to : Nat → Nat} {n r : Nat} {la : List Nat} (h : Gw fr to (sgl r) la) (hto : ∀ a, a ∈ la → to a < n) : la.length ≤ n := by
  have g3 := len30 (m := n) (Gw_heads la h).1 (fun v hv => by
    obtain ⟨e, e1, e2⟩ := List.mem_map.mp hv
    rw [← e2]; exact hto e e1)
  rw [List.length_map] at g3
  exact g3
def updO (gw : Nat → Option Nat) (t z : Nat) : Nat → Option Nat := fun u => if u = t then some z else gw u
theorem updO_mono {gw : Nat → Option Nat} {t z : Nat} (h : ∀ y, gw t = some y → z ≤ y) {u y : Nat} (hu : gw u = some y) : ∃ y', updO gw t z u = some y' ∧ y' ≤ y := by
  unfold updO
  by_cases e : u = t
  · rw [if_pos e]; exact ⟨z, rfl, h y (e ▸ hu)⟩
  · rw [if_neg e]; exact ⟨y, hu, Nat.le_refl _⟩
theorem rootedCost {N n k r : Nat} {fr to w : Nat → Nat} {pr : Nat → Bool} {fx : Nat → Option Nat} {G0 F T V H FX : Nat → Int32} (hN : 2000 ≤ N) (hn : n ≤ 10) (hk : k ≤ 30) (hr : r < n) (hA : ∀ a, a < k → F a = nI (fr a) ∧ T a = nI (to a) ∧ H a = (if pr a = true then 1 else 0) ∧ fr a < n ∧ to a < n) (hV : ∀ a, a < k → V a = nI (w a) ∧ w a ≤ 1000) (hFX : ∀ v, v < 10 → FX v = enc (fx v)) (hfb : ∀ v a, fx v = some a → a < 30) :
    Ok (f_Mo_rootedCost N (nI r) (nI n) (nI k) G0 T H F FX V) (fun res => ∃ o, res.1 = enc o ∧ (o = none → ∀ la, ¬ FA fr to n k r pr fx la) ∧ ∀ x, o = some x → x ≤ 10000 ∧ (∃ la, FA fr to n k r pr fx la ∧ lsum w la = x) ∧ ∀ la, FA fr to n k r pr fx la → x ≤ lsum w la) := by
  have h1024 := p10 hn
  have hpos : 0 < 2 ^ n := Nat.pow_pos (by omega)
  have hrp : 2 ^ r < 2 ^ n := Nat.pow_lt_pow_right (by omega) hr
  have hr1 : 0 < 2 ^ r := Nat.pow_pos (by omega)
  have hto : ∀ a, a < k → to a < n := fun a ha => (hA a ha).2.2.2.2
  have hbd : ∀ gw, Snd fr to w n k r pr fx gw → ∀ t x, t < 2 ^ n → gw t = some x → x ≤ 10000 := by
    intro gw hS t x ht hx
    obtain ⟨la, g1, g2, g3, g4⟩ := hS t x ht hx
    have h1 := Gw_len (n := n) g1 (fun a ha => hto a (g2 a ha).1)
    have h2 := lsum_le (c := w) (B := 1000) la (fun a ha => (hV a (g2 a ha).1).2)
    omega
  simp only [f_Mo_rootedCost, (all_nI n hn).2, bn]
  refine Ok_lo3 (fun d v2 v3 G => ∃ s, s + d = 2 ^ n ∧ v2 = nI (2 ^ n - 1) ∧ v3 = nI s ∧ ∀ t, t < s → G t = -1) ?_ (2 ^ n) N _ _ _ (by omega) ⟨0, by omega, rfl, rfl, fun t ht => absurd ht (Nat.not_lt_zero t)⟩
  rintro kk d v2 v3 G ⟨s, hd, rfl, rfl, hG⟩ hkk
  by_cases hs : s = 2 ^ n
  · subst hs
    have hlt : nI (2 ^ n - 1) < nI (2 ^ n) := nI_lt (by omega) (by omega)
    have e1 : ((1 : Int32) <<< (nI r &&& 31)) = nI (2 ^ r) := (all_nI r (by omega)).1
    simp only [g_Mo_rootedCost_11, if_pos hlt, e1, gd_nI (show 2 ^ r < 1024 by omega) (by decide), nI_clamp (show 2 ^ r < 2 ^ 31 by omega)]
    refine Ok_lo3 (fun d v2 v3 G => ∃ s gw, s + d = 2 ^ n ∧ 1 ≤ s ∧ v2 = nI (2 ^ n - 1) ∧ v3 = nI s ∧ (∀ t, t < 2 ^ n → G t = enc (gw t)) ∧ gw (2 ^ r) = some 0 ∧ Snd fr to w n k r pr fx gw ∧ Cmp fr to w n k pr fx gw s 0) ?_ (2 ^ n - 1) N _ _ _ (by omega) ⟨1, fun t => if t = 2 ^ r then some 0 else none, by omega, Nat.le_refl _, rfl, rfl, fun t ht => ?_, by simp, ?_, ?_⟩
    · rintro kk2 d2 v2 v3 G1 ⟨s, gw, hd2, hs1, rfl, rfl, hG1, hg0, hSnd, hCmp⟩ hkk2
      by_cases hs2 : s = 2 ^ n
      · subst hs2
        have hlt2 : nI (2 ^ n - 1) < nI (2 ^ n) := nI_lt (by omega) (by omega)
        simp only [g_Mo_rootedCost_40, if_pos hlt2, gd_nI (show 2 ^ n - 1 < 1024 by omega) (by decide), nI_clamp (show 2 ^ n - 1 < 2 ^ 31 by omega), hG1 (2 ^ n - 1) (by omega)]
        have hcov : ∀ la, FA fr to n k r pr fx la → ∃ y, gw (2 ^ n - 1) = some y ∧ y ≤ lsum w la := by
          rintro la ⟨f1, f2, f3⟩
          rw [← tb_sgl] at f1 f3
          obtain ⟨t', y, y1, y2, y3, y4⟩ := comp hCmp hto la (2 ^ r) 0 hrp hg0 f1 f2
          have : t' = 2 ^ n - 1 := by
            apply Nat.eq_of_testBit_eq
            intro v
            rw [Nat.testBit_two_pow_sub_one]
            by_cases hv : v < n
            · rw [← y2, f3 v hv]; simp [hv]
            · have h2 : t' < 2 ^ v := Nat.lt_of_lt_of_le y1 (Nat.pow_le_pow_right (by omega) (by omega))
              rw [Nat.testBit_lt_two_pow h2]
              simp [hv]
          rw [this] at y3
          exact ⟨y, y3, by omega⟩
        refine Ok_some ⟨gw (2 ^ n - 1), rfl, fun h la hla => ?_, fun x hx => ⟨hbd gw hSnd _ x (by omega) hx, ?_, fun la hla => ?_⟩⟩
        · obtain ⟨y, y1, -⟩ := hcov la hla
          rw [h] at y1; cases y1
        · obtain ⟨la, l1, l2, l3, l4⟩ := hSnd _ x (by omega) hx
          refine ⟨la, ⟨l1, l2, fun v hv => ?_⟩, l4⟩
          rw [l3, Nat.testBit_two_pow_sub_one]
          simp [hv]
        · obtain ⟨y, y1, y2⟩ := hcov la hla
          rw [hx] at y1; cases y1
          exact y2
      · have hsn : s < 2 ^ n := by omega
        have hlt2 : ¬ nI (2 ^ n - 1) < nI s := nI_nlt (by omega) (by omega)
        simp only [g_Mo_rootedCost_40, if_neg hlt2, gd_nI (show s < 1024 by omega) (by decide), nI_clamp (show s < 2 ^ 31 by omega), hG1 s hsn, bn, nI_1]
        cases hgs : gw s with
        | none =>
          have hneg : ¬ (0 : Int32) ≤ enc none := by decide
          rw [if_neg hneg]
          refine hkk2 (d2 - 1) _ _ _ (by omega) ⟨s + 1, gw, by omega, by omega, rfl, rfl, hG1, hg0, hSnd, ?_⟩
          intro t x a ht hc hx
          refine hCmp t x a ht ?_ hx
          by_cases e : t = s
          · subst e; rw [hgs] at hx; cases hx
          · omega
        | some x0 =>
          have hx0 := hbd gw hSnd s x0 hsn hgs
          have hpo : (0 : Int32) ≤ enc (some x0) := nI_pos' (n := x0) (by omega)
          rw [if_pos hpo]
          refine Ok_lo4 (fun d v2 v3 v4 G => ∃ j gw, j + d = k ∧ v2 = nI (2 ^ n - 1) ∧ v3 = nI s ∧ v4 = nI j ∧ (∀ t, t < 2 ^ n → G t = enc (gw t)) ∧ gw (2 ^ r) = some 0 ∧ Snd fr to w n k r pr fx gw ∧ Cmp fr to w n k pr fx gw s j ∧ gw s = some x0) ?_ k N _ _ _ _ (by omega) ⟨0, gw, by omega, rfl, rfl, rfl, hG1, hg0, hSnd, hCmp, hgs⟩
          rintro kk3 d3 v2 v3 v4 G2 ⟨j, gw2, hd3, rfl, rfl, rfl, hG2, hg02, hSnd2, hCmp2, hgs2⟩ hkk3
          by_cases hj : j = k
          · have hle3 : nI k ≤ nI j := nI_le (by omega) (by omega)
            simp only [g_Mo_rootedCost_60, if_pos hle3, bn, nI_1]
            refine hkk2 (d2 - 1) _ _ _ (by omega) ⟨s + 1, gw2, by omega, by omega, rfl, rfl, hG2, hg02, hSnd2, ?_⟩
            intro t x a ht hc hx ha
            refine hCmp2 t x a ht ?_ hx ha
            have := ha.1
            omega
          · have hjk : j < k := by omega
            have hle3 : ¬ nI k ≤ nI j := nI_ge hjk (by omega)
            obtain ⟨a1, a2, a3, a4, a5⟩ := hA j hjk
            obtain ⟨w1, w2⟩ := hV j hjk
            -- the arc is not taken
            have hno : ¬ (adm to k pr fx j ∧ s.testBit (fr j) = true ∧ s.testBit (to j) = false) → Ok (g_Mo_rootedCost_138 V kk2 kk3 (nI (2 ^ n - 1)) (nI s) (nI j) (nI (to j)) G2) (fun res => ∃ o, res.1 = enc o ∧ (o = none → ∀ la, ¬ FA fr to n k r pr fx la) ∧ ∀ x, o = some x → x ≤ 10000 ∧ (∃ la, FA fr to n k r pr fx la ∧ lsum w la = x) ∧ ∀ la, FA fr to n k r pr fx la → x ≤ lsum w la) := by
              intro hn0
              simp only [g_Mo_rootedCost_138, g_Mo_rootedCost_139, bn, if_pos, nI_1]
              refine hkk3 (d3 - 1) _ _ _ _ (by omega) ⟨j + 1, gw2, by omega, rfl, rfl, rfl, hG2, hg02, hSnd2, ?_, hgs2⟩
              intro t x a ht hc hx ha hfa hta
              refine hCmp2 t x a ht ?_ hx ha hfa hta
              by_cases e : t = s ∧ a = j
              · obtain ⟨e1, e2⟩ := e
                subst e1 e2
                exact absurd ⟨ha, hfa, hta⟩ hn0
              · omega
            -- the arc is taken
            have hyes : adm to k pr fx j → s.testBit (fr j) = true → s.testBit (to j) = false → Ok (g_Mo_rootedCost_134 V kk2 kk3 (nI (2 ^ n - 1)) (nI s) (nI j) (nI (to j)) G2) (fun res => ∃ o, res.1 = enc o ∧ (o = none → ∀ la, ¬ FA fr to n k r pr fx la) ∧ ∀ x, o = some x → x ≤ 10000 ∧ (∃ la, FA fr to n k r pr fx la ∧ lsum w la = x) ∧ ∀ la, FA fr to n k r pr fx la → x ≤ lsum w la) := by
              intro hadm hfs hts
              have hgt := or_gt hts
              have hlt4 := or_lt hsn a5
              have n1 : ¬ (1 : Int32) = 0 := by decide
              simp only [g_Mo_rootedCost_134, g_Mo_rootedCost_139, bn, if_neg n1, nI_or (show s < 2 ^ 31 by omega) (show to j < 31 by omega), gd_nI (show s ||| 2 ^ to j < 1024 by omega) (by decide), nI_clamp (show s ||| 2 ^ to j < 2 ^ 31 by omega), gd_nI (show s < 1024 by omega) (by decide), nI_clamp (show s < 2 ^ 31 by omega), gd_nI (show j < 30 by omega) (by decide), nI_clamp (show j < 2 ^ 31 by omega), hG2 s hsn, hgs2, w1, hG2 _ hlt4, nI_1]
              have e2 : enc (some x0) + nI (w j) = nI (x0 + w j) := nI_add x0 (w j)
              have hup : (∀ y, gw2 (s ||| 2 ^ to j) = some y → x0 + w j ≤ y) → Ok (g_Mo_rootedCost_188 V kk2 kk3 (nI (2 ^ n - 1)) (nI s) (nI j) (nI (s ||| 2 ^ to j)) G2) (fun res => ∃ o, res.1 = enc o ∧ (o = none → ∀ la, ¬ FA fr to n k r pr fx la) ∧ ∀ x, o = some x → x ≤ 10000 ∧ (∃ la, FA fr to n k r pr fx la ∧ lsum w la = x) ∧ ∀ la, FA fr to n k r pr fx la → x ≤ lsum w la) := by
                intro hmono
                simp only [g_Mo_rootedCost_188, bn, gd_nI (show s ||| 2 ^ to j < 1024 by omega) (by decide), nI_clamp (show s ||| 2 ^ to j < 2 ^ 31 by omega), gd_nI (show s < 1024 by omega) (by decide), nI_clamp (show s < 2 ^ 31 by omega), gd_nI (show j < 30 by omega) (by decide), nI_clamp (show j < 2 ^ 31 by omega), hG2 s hsn, hgs2, w1, nI_1, e2]
                have hne : ∀ u, u ≤ s → updO gw2 (s ||| 2 ^ to j) (x0 + w j) u = gw2 u := fun u hu => by
                  unfold updO
                  rw [if_neg (by omega)]
                refine hkk3 (d3 - 1) _ _ _ _ (by omega) ⟨j + 1, updO gw2 (s ||| 2 ^ to j) (x0 + w j), by omega, rfl, rfl, rfl, fun t ht => ?_, ?_, ?_, ?_, by rw [hne s (Nat.le_refl _)]; exact hgs2⟩
                · unfold updO
                  by_cases e : t = s ||| 2 ^ to j
                  · rw [if_pos e, e, upd_self]; rfl
                  · rw [if_neg e, upd_ne _ _ e]; exact hG2 t ht
                · obtain ⟨y, y1, y2⟩ := updO_mono (t := s ||| 2 ^ to j) (z := x0 + w j) hmono hg02
                  have : y = 0 := by omega
                  rw [y1, this]
                · intro t x ht hx
                  unfold updO at hx
                  by_cases e : t = s ||| 2 ^ to j
                  · rw [if_pos e] at hx
                    cases hx
                    obtain ⟨la, l1, l2, l3, l4⟩ := hSnd2 s x0 hsn hgs2
                    refine ⟨la ++ [j], (Gw_snoc la).mpr ⟨l1, by rw [l3]; exact hfs, by rw [l3]; exact hts⟩, fun a ha => ?_, ?_, ?_⟩
                    · rcases List.mem_append.mp ha with h | h
                      · exact l2 a h
                      · rw [List.mem_singleton.mp h]; exact hadm
                    · rw [grow_snoc, l3, e, tb_add]
                    · rw [lsum_app, l4]; simp [lsum]
                  · rw [if_neg e] at hx
                    exact hSnd2 t x ht hx
                · intro t x a ht hc hx ha hfa hta
                  have hts2 : t ≤ s := by omega
                  rw [hne t hts2] at hx
                  by_cases e : t = s ∧ a = j
                  · obtain ⟨e1, e3⟩ := e
                    subst e1 e3
                    rw [hgs2] at hx
                    cases hx
                    exact ⟨x0 + w a, by simp [updO], Nat.le_refl _⟩
                  · obtain ⟨y, y1, y2⟩ := hCmp2 t x a ht (by omega) hx ha hfa hta
                    obtain ⟨y', y3, y4⟩ := updO_mono (t := s ||| 2 ^ to j) (z := x0 + w j) hmono y1
                    exact ⟨y', y3, by omega⟩
              cases hgt2 : gw2 (s ||| 2 ^ to j) with
              | none =>
                have hneg : enc none < (0 : Int32) := by decide
                rw [if_pos hneg]
                exact hup (fun y hy => by rw [hgt2] at hy; cases hy)
              | some y =>
                have hyb := hbd gw2 hSnd2 _ y hlt4 hgt2
                have hneg : ¬ enc (some y) < (0 : Int32) := nI_pos (n := y) (by omega)
                rw [if_neg hneg, e2]
                have e3 : enc (some y) = nI y := rfl
                rw [e3]
                by_cases hle4 : y ≤ x0 + w j
                · rw [if_pos (nI_le hle4 (by omega))]
                  refine hkk3 (d3 - 1) _ _ _ _ (by omega) ⟨j + 1, gw2, by omega, rfl, rfl, rfl, hG2, hg02, hSnd2, ?_, hgs2⟩
                  intro t x a ht hc hx ha hfa hta
                  by_cases e : t = s ∧ a = j
                  · obtain ⟨e1, e4⟩ := e
                    subst e1 e4
                    rw [hgs2] at hx
                    cases hx
                    exact ⟨y, hgt2, hle4⟩
                  · exact hCmp2 t x a ht (by omega) hx ha hfa hta
                · rw [if_neg (nI_ge (by omega) (by omega))]
                  exact hup (fun y' hy => by rw [hgt2] at hy; cases hy; omega)
            have hb1 := bi_1 (nI s) (a := fr j) (by omega)
            have hb2 := bi_0 (nI s) (a := to j) (by omega)
            rw [bi_nI (by omega)] at hb1 hb2
            simp only [g_Mo_rootedCost_60, if_neg hle3, gd_nI (show j < 30 by omega) (by decide), nI_clamp (show j < 2 ^ 31 by omega), bn, a1, a2, a3, gd_nI (show to j < 10 by omega) (by decide), nI_clamp (show to j < 2 ^ 31 by omega), hFX (to j) (by omega)]
            cases hp : pr j with
            | false =>
              simp only [Bool.false_eq_true, if_false, if_pos]
              exact hno (fun h => by have := h.1.2.1; rw [hp] at this; cases this)
            | true =>
              have n1 : ¬ (1 : Int32) = 0 := by decide
              simp only [if_pos, if_neg n1]
              by_cases h1 : s.testBit (fr j) = true
              · rw [if_pos (hb1.mpr h1)]
                by_cases h2 : s.testBit (to j) = false
                · rw [if_pos (hb2.mpr h2)]
                  cases hf : fx (to j) with
                  | none =>
                    have hneg : enc none < (0 : Int32) := by decide
                    rw [if_pos hneg]
                    exact hyes ⟨hjk, hp, Or.inl hf⟩ h1 h2
                  | some f =>
                    have hf30 := hfb _ f hf
                    have hneg : ¬ enc (some f) < (0 : Int32) := nI_pos (n := f) (by omega)
                    rw [if_neg hneg]
                    have e3 : enc (some f) = nI f := rfl
                    rw [e3]
                    by_cases hfj : f = j
                    · rw [if_pos (by rw [hfj])]
                      exact hyes ⟨hjk, hp, Or.inr (by rw [hf, hfj])⟩ h1 h2
                    · rw [if_neg (fun g => hfj ((nI_eq (by omega) (by omega)).mp g))]
                      refine hno (fun h => ?_)
                      rcases h.1.2.2 with g | g
                      · rw [hf] at g; cases g
                      · rw [hf] at g; cases g; exact hfj rfl
                · rw [if_neg (fun g => h2 (hb2.mp g))]
                  exact hno (fun h => h2 h.2.2)
              · rw [if_neg (fun g => h1 (hb1.mp g))]
                exact hno (fun h => h1 h.2.1)
    · by_cases e : t = 2 ^ r
      · rw [e, upd_self]; simp only [if_pos]; rfl
      · rw [upd_ne _ _ e, hG t ht]; simp only [if_neg e]; rfl
    · intro t x ht hx
      by_cases e : t = 2 ^ r
      · simp only [if_pos e] at hx
        cases hx
        exact ⟨[], trivial, fun a ha => by simp at ha, by rw [e, tb_sgl]; rfl, rfl⟩
      · simp only [if_neg e] at hx
        cases hx
    · intro t x a ht hc hx
      by_cases e : t = 2 ^ r
      · omega
      · simp only [if_neg e] at hx
        cases hx
  · have hsn : s < 2 ^ n := by omega
    have hlt : ¬ nI (2 ^ n - 1) < nI s := nI_nlt (by omega) (by omega)
    simp only [g_Mo_rootedCost_11, if_neg hlt, gd_nI (show s < 1024 by omega) (by decide), nI_clamp (show s < 2 ^ 31 by omega), bn, nI_1]
    refine hkk (d - 1) _ _ _ (by omega) ⟨s + 1, by omega, rfl, rfl, fun t ht => ?_⟩
    by_cases e : t = s
    · rw [e, upd_self]
    · rw [upd_ne _ _ e]; exact hG t (by omega)
