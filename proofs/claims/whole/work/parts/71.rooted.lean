/-! rooted and rootedArc -/
def fxi (to : Nat → Nat) (la : List Nat) (r v j : Nat) (u : Nat) : Option Nat := if (u < v ∧ u ≠ r) ∨ (u = v ∧ u ≠ r ∧ pa to la u < j) then some (pa to la u) else none
theorem fxi_or (to : Nat → Nat) (la : List Nat) (r v j u : Nat) : fxi to la r v j u = none ∨ fxi to la r v j u = some (pa to la u) := by
  unfold fxi
  split
  · exact Or.inr rfl
  · exact Or.inl rfl
theorem findRootedM {N n k r : Nat} {fr to w : Nat → Nat} {pr : Nat → Bool} {G0 F T V H FX0 : Nat → Int32} (hN : 2000 ≤ N) (hn : n ≤ 10) (hk : k ≤ 30) (hr : r < n) (hA : ∀ a, a < k → F a = nI (fr a) ∧ T a = nI (to a) ∧ H a = (if pr a = true then 1 else 0) ∧ fr a < n ∧ to a < n) (hV : ∀ a, a < k → V a = nI (w a) ∧ w a ≤ 1000)
    (hX : (∀ la, ¬ FA fr to n k r pr (fun _ => none) la) ∨ ∃ la, Rt fr to w n k r pr la) :
    Ok (f_Mo_findRooted N (nI r) (nI n) (nI k) FX0 G0 T H F V) (fun res => ((∀ la, ¬ FA fr to n k r pr (fun _ => none) la) → res.1 = -1) ∧ ∀ la, Rt fr to w n k r pr la → res.1 = nI (lsum w la) ∧ ∀ v, v < n → v ≠ r → res.2.1 v = nI (pa to la v)) := by
  have hto : ∀ a, a < k → to a < n := fun a ha => (hA a ha).2.2.2.2
  unfold f_Mo_findRooted
  refine Ok_lo3 (fun d v2 FX _ => ∃ i, i + d = 10 ∧ v2 = nI i ∧ ∀ v, v < i → FX v = -1) ?_ 10 N _ _ _ (by omega) ⟨0, by omega, rfl, fun v hv => absurd hv (Nat.not_lt_zero v)⟩
  rintro kk d v2 FX G ⟨i, hd, rfl, hFX⟩ hkk
  have e10 : (10 : Int32) = nI 10 := rfl
  by_cases hi : i = 10
  · subst hi
    have hle : (10 : Int32) ≤ nI 10 := by decide
    simp only [g_Mo_findRooted_2, if_pos hle]
    refine Ok_bk2 (rootedCost (fx := fun _ => none) (w := w) hN hn hk hr hA hV hFX (fun v a h => by cases h)) ?_
    rintro ⟨r1, r2⟩ ⟨o, ho, ho1, ho2⟩
    have ho : r1 = enc o := ho
    subst ho
    cases o with
    | none =>
      have hno := ho1 rfl
      refine Ok_lo4 (fun d v2 v3 _ _ => v2 = -1 ∧ v3 = 0) ?_ 0 N _ _ _ _ (by omega) ⟨rfl, rfl⟩
      rintro kk2 d2 v2 v3 FX2 G2 ⟨rfl, rfl⟩ hkk2
      have hle2 : ¬ nI n ≤ 0 := nI_ge (a := 0) (by omega) (by omega)
      have hneg : (-1 : Int32) < 0 := by decide
      simp only [g_Mo_findRooted_29, if_neg hle2, if_pos hneg]
      exact Ok_some ⟨fun _ => rfl, fun la h => absurd h.1 (hno la)⟩
    | some x =>
      obtain ⟨hxb, ⟨l0, f0, w0⟩, hmin⟩ := ho2 x rfl
      rcases hX with hX | ⟨la, hla⟩
      · exact absurd f0 (hX l0)
      -- the least weight is that of the class's tree
      have hxw : x = lsum w la := by
        have h1 := (Rt_w hn hk hr hto hla f0).1
        have h2 := hmin la hla.1
        omega
      have hQ : ∀ FXe : Nat → Int32, (∀ v, v < n → v ≠ r → FXe v = nI (pa to la v)) → ∀ Ge : Nat → Int32, ((∀ la, ¬ FA fr to n k r pr (fun _ => none) la) → (enc (some x), FXe, Ge).1 = -1) ∧ ∀ la, Rt fr to w n k r pr la → (enc (some x), FXe, Ge).1 = nI (lsum w la) ∧ ∀ v, v < n → v ≠ r → (enc (some x), FXe, Ge).2.1 v = nI (pa to la v) := by
        intro FXe hFXe Ge
        refine ⟨fun h => absurd hla.1 (h la), fun l hl => ?_⟩
        have h1 := Rt_w hn hk hr hto hla hl.1
        have h2 := Rt_w hn hk hr hto hl hla.1
        have h3 : lsum w l = lsum w la := by omega
        have h4 : m32 (fun j => pa to la (nd r j)) 9 = m32 (fun j => pa to l (nd r j)) 9 := by
          have := h1.2 h3.symm
          have := h2.2 h3
          omega
        refine ⟨by rw [h3, ← hxw]; rfl, fun v hv hvr => ?_⟩
        show FXe v = _
        rw [hFXe v hv hvr]
        congr 1
        obtain ⟨p1, p2⟩ := nd_pl r (by omega) v (by omega) hvr
        have d1 := m32_dig (p := fun j => pa to la (nd r j)) (i := pl r v) (m := 9) p2 (fun j _ _ => by have := FA_dig hla.1 hk (nd r j); show pa to la (nd r j) < 32; omega)
        have d2 := m32_dig (p := fun j => pa to l (nd r j)) (i := pl r v) (m := 9) p2 (fun j _ _ => by have := FA_dig hl.1 hk (nd r j); show pa to l (nd r j) < 32; omega)
        rw [h4, d2] at d1
        have d1' : pa to l (nd r (pl r v)) = pa to la (nd r (pl r v)) := d1
        rw [p1] at d1'
        exact d1'.symm
      have hpo : ¬ enc (some x) < (0 : Int32) := nI_pos (n := x) (by omega)
      refine Ok_lo4 (fun d v2 v3 FX _ => ∃ v, v + d = n ∧ v2 = enc (some x) ∧ v3 = nI v ∧ ∀ u, u < 10 → FX u = enc (fxi to la r v 0 u)) ?_ n N _ _ _ _ (by omega) ⟨0, by omega, rfl, rfl, fun u hu => by rw [hFX u hu]; simp [fxi]; rfl⟩
      rintro kk2 d2 v2 v3 FX2 G2 ⟨v, hd2, rfl, rfl, hFX2⟩ hkk2
      by_cases hv : v = n
      · have hle2 : nI n ≤ nI v := nI_le (by omega) (by omega)
        simp only [g_Mo_findRooted_29, if_pos hle2]
        refine Ok_some (hQ FX2 (fun u hu hur => ?_) G2)
        rw [hFX2 u (by omega)]
        have : fxi to la r v 0 u = some (pa to la u) := by
          unfold fxi
          rw [if_pos (Or.inl ⟨by omega, hur⟩)]
        rw [this]; rfl
      · have hvn : v < n := by omega
        have hle2 : ¬ nI n ≤ nI v := nI_ge hvn (by omega)
        simp only [g_Mo_findRooted_29, if_neg hle2, if_neg hpo]
        refine Ok_lo5 (fun d v2 v3 v4 FX _ => ∃ j, j + d = k ∧ v2 = enc (some x) ∧ v3 = nI v ∧ v4 = nI j ∧ ∀ u, u < 10 → FX u = enc (fxi to la r v j u)) ?_ k N _ _ _ _ _ (by omega) ⟨0, by omega, rfl, rfl, rfl, hFX2⟩
        rintro kk3 d3 v2 v3 v4 FX3 G3 ⟨j, hd3, rfl, rfl, rfl, hFX3⟩ hkk3
        -- no more arcs
        have hnext : (v = r ∨ j = k) → ∀ u, u < 10 → FX3 u = enc (fxi to la r (v + 1) 0 u) := by
          intro hc u hu
          rw [hFX3 u hu]
          congr 1
          unfold fxi
          by_cases e : u = v
          · subst e
            by_cases er : u = r
            · rw [if_neg (by omega), if_neg (by omega)]
            · have hj : j = k := by
                rcases hc with h | h
                · exact absurd h er
                · exact h
              obtain ⟨a, a1, a2, a3⟩ := FA_at hla.1 hvn er
              have hak := (hla.1.2.1 a a1).1
              rw [if_pos (Or.inr ⟨rfl, er, by omega⟩), if_pos (Or.inl ⟨by omega, er⟩)]
          · by_cases hlt : u < v ∧ u ≠ r
            · rw [if_pos (Or.inl hlt), if_pos (Or.inl ⟨by omega, hlt.2⟩)]
            · rw [if_neg (by omega), if_neg (by omega)]
        by_cases hj : j = k
        · have hle3 : nI k ≤ nI j := nI_le (by omega) (by omega)
          simp only [g_Mo_findRooted_44, if_pos hle3, bn, nI_1]
          exact hkk2 (d2 - 1) _ _ _ _ (by omega) ⟨v + 1, by omega, rfl, rfl, hnext (Or.inr hj)⟩
        · have hjk : j < k := by omega
          have hle3 : ¬ nI k ≤ nI j := nI_ge hjk (by omega)
          by_cases hvr : v = r
          · have hc : nI v = nI r := by rw [hvr]
            simp only [g_Mo_findRooted_44, if_neg hle3, if_pos hc, bn, nI_1]
            exact hkk2 (d2 - 1) _ _ _ _ (by omega) ⟨v + 1, by omega, rfl, rfl, hnext (Or.inl hvr)⟩
          · have hc : ¬ nI v = nI r := fun e => hvr ((nI_eq (by omega) (by omega)).mp e)
            obtain ⟨a1, a2, a3, a4, a5⟩ := hA j hjk
            obtain ⟨p, p1, p2, p3⟩ := FA_at hla.1 hvn hvr
            have hpp := hla.1.2.1 p p1
            -- the arc is passed over, and is not the tree's
            have hskip : j ≠ p → ∀ u, u < 10 → FX3 u = enc (fxi to la r v (j + 1) u) := by
              intro hjp u hu
              rw [hFX3 u hu]
              congr 1
              unfold fxi
              by_cases e : u = v
              · subst e
                rw [p3]
                by_cases hlt : p < j
                · rw [if_pos (Or.inr ⟨rfl, hvr, hlt⟩), if_pos (Or.inr ⟨rfl, hvr, by omega⟩)]
                · rw [if_neg (by omega), if_neg (by omega)]
              · by_cases hlt : u < v ∧ u ≠ r
                · rw [if_pos (Or.inl hlt), if_pos (Or.inl hlt)]
                · rw [if_neg (by omega), if_neg (by omega)]
            simp only [g_Mo_findRooted_44, if_neg hle3, if_neg hc, gd_nI (show j < 30 by omega) (by decide), nI_clamp (show j < 2 ^ 31 by omega), a2, a3, bn, nI_1, gd_nI (show v < 10 by omega) (by decide), nI_clamp (show v < 2 ^ 31 by omega)]
            cases hp : pr j with
            | false =>
              simp only [Bool.false_eq_true, if_false, if_pos]
              exact hkk3 (d3 - 1) _ _ _ _ _ (by omega) ⟨j + 1, by omega, rfl, rfl, rfl, hskip (fun e => by rw [e, hpp.2.1] at hp; cases hp)⟩
            | true =>
              have n1 : ¬ (1 : Int32) = 0 := by decide
              simp only [if_pos, if_neg n1]
              by_cases ht : to j = v
              · rw [if_pos (by rw [ht])]
                have hfv := hFX3 v (by omega)
                by_cases hpj : p < j
                · have e1 : fxi to la r v j v = some p := by
                    unfold fxi
                    rw [p3, if_pos (Or.inr ⟨rfl, hvr, hpj⟩)]
                  rw [e1] at hfv
                  have hge : (0 : Int32) ≤ FX3 v := by rw [hfv]; exact nI_pos' (n := p) (by omega)
                  rw [if_pos hge]
                  exact hkk3 (d3 - 1) _ _ _ _ _ (by omega) ⟨j + 1, by omega, rfl, rfl, rfl, hskip (by omega)⟩
                · have e1 : fxi to la r v j v = none := by
                    unfold fxi
                    rw [p3, if_neg (by omega)]
                  rw [e1] at hfv
                  have hge : ¬ (0 : Int32) ≤ FX3 v := by rw [hfv]; decide
                  rw [if_neg hge]
                  -- the reference's trial
                  have hfx' : ∀ u, u < 10 → upd FX3 v (nI j) u = enc ((fun u => if u = v then some j else fxi to la r v j u) u) := by
                    intro u hu
                    by_cases e : u = v
                    · subst e; rw [upd_self]; simp only [if_pos]; rfl
                    · rw [upd_ne _ _ e]; simp only [if_neg e]; exact hFX3 u hu
                  refine Ok_bk2 (rootedCost (fx := fun u => if u = v then some j else fxi to la r v j u) (w := w) hN hn hk hr hA hV hfx' (fun u a h => ?_)) ?_
                  · by_cases e : u = v
                    · simp only [if_pos e] at h; cases h; omega
                    · simp only [if_neg e] at h
                      rcases fxi_or to la r v j u with g | g
                      · rw [g] at h; cases h
                      · rw [g] at h; cases h
                        exact FA_dig hla.1 hk u
                  · rintro ⟨z1, z2⟩ ⟨o, ho, hz1, hz2⟩
                    have ho : z1 = enc o := ho
                    subst ho
                    by_cases hjp : j = p
                    · -- it is the tree's arc
                      have hFAl : FA fr to n k r pr (fun u => if u = v then some j else fxi to la r v j u) la := Rt_acc (v := v) hla (fun u => by
                        by_cases e : u = v
                        · simp only [if_pos e]; exact Or.inr (by rw [e, p3, hjp])
                        · simp only [if_neg e]; exact fxi_or to la r v j u)
                      have ho : o = some x := by
                        cases o with
                        | none => exact absurd hFAl (hz1 rfl la)
                        | some y =>
                          obtain ⟨-, ⟨l2, q1, q2⟩, q3⟩ := hz2 y rfl
                          have q4 := q3 la hFAl
                          have q5 := hmin l2 (FA_weak q1)
                          congr 1
                          omega
                      rw [ho, if_pos rfl]
                      refine hkk3 (d3 - 1) _ _ _ _ _ (by omega) ⟨j + 1, by omega, rfl, rfl, rfl, fun u hu => ?_⟩
                      by_cases e : u = v
                      · subst e
                        rw [upd_self]
                        have e2 : fxi to la r u (j + 1) u = some p := by
                          unfold fxi
                          rw [p3, if_pos (Or.inr ⟨rfl, hvr, by omega⟩)]
                        rw [e2, hjp]; rfl
                      · rw [upd_ne _ _ e, upd_ne _ _ e, hFX3 u hu]
                        congr 1
                        unfold fxi
                        by_cases hlt : u < v ∧ u ≠ r
                        · rw [if_pos (Or.inl hlt), if_pos (Or.inl hlt)]
                        · rw [if_neg (by omega), if_neg (by omega)]
                    · -- it is a smaller one
                      have hne : ¬ enc o = enc (some x) := by
                        intro he
                        cases o with
                        | none =>
                          have : ¬ enc (some x) < (0 : Int32) := hpo
                          rw [← he] at this
                          exact this (by decide)
                        | some y =>
                          obtain ⟨yb, ⟨l2, q1, q2⟩, q3⟩ := hz2 y rfl
                          have hy : y = x := (nI_eq (a := y) (b := x) (by omega) (by omega)).mp he
                          refine Rt_rej (v := v) (j := j) hn hk hr hto hla hvn hvr (fun u hu hur => ?_) ?_ q1 (by rw [q2, hy, hxw]) (by omega)
                          · have e : ¬ u = v := by omega
                            simp only [if_neg e]
                            unfold fxi
                            rw [if_pos (Or.inl ⟨hu, hur⟩)]
                          · simp only [if_pos]
                      rw [if_neg hne]
                      refine hkk3 (d3 - 1) _ _ _ _ _ (by omega) ⟨j + 1, by omega, rfl, rfl, rfl, fun u hu => ?_⟩
                      have h9 := hskip hjp u hu
                      by_cases e : u = v
                      · subst e
                        rw [upd_self]
                        rw [← h9, hfv]
                        rfl
                      · rw [upd_ne _ _ e, upd_ne _ _ e]; exact h9
              · rw [if_neg (fun e => ht ((nI_eq (by omega) (by omega)).mp e))]
                exact hkk3 (d3 - 1) _ _ _ _ _ (by omega) ⟨j + 1, by omega, rfl, rfl, rfl, hskip (fun e => ht (by rw [e]; exact p2))⟩
  · have hin : i < 10 := by omega
    have hle : ¬ (10 : Int32) ≤ nI i := nI_ge (b := 10) hin (by decide)
    simp only [g_Mo_findRooted_2, if_neg hle, gd_nI hin (by decide), nI_clamp (show i < 2 ^ 31 by omega), bn, nI_1]
    refine hkk (d - 1) _ _ _ (by omega) ⟨i + 1, by omega, rfl, fun v hv => ?_⟩
    by_cases e : v = i
    · rw [e, upd_self]
    · rw [upd_ne _ _ e]; exact hFX v (by omega)
