theorem rl_app {fr to : Nat → Nat} : ∀ (l1 l2 : List Nat) {lab : Nat → Nat}, rl fr to (l1 ++ l2) lab = (rl fr to l1 lab && rl fr to l2 (kr fr to l1 lab))
  | [], l2, lab => by simp [rl, kr]
  | a :: l, l2, lab => by
    have ih := rl_app (fr := fr) (to := to) l l2 (lab := uni lab (fr a) (to a))
    show rl fr to (a :: (l ++ l2)) lab = _
    simp only [rl, ih, Bool.and_assoc]
    rfl
theorem Tc_rest (own : List Nat) (c : Nat → Nat) {j : Nat} : ∀ d, ∃ rest, Tc own (j + d) c = Tc own j c ++ rest
  | 0 => ⟨[], by rw [List.append_nil]; rfl⟩
  | d + 1 => by
    obtain ⟨rest, h⟩ := Tc_rest own c (j := j) d
    refine ⟨rest ++ [own.getD (c (j + d)) 0], ?_⟩
    rw [← Nat.add_assoc, Tc_succ, h, List.append_assoc]
def okB (fr to : Nat → Nat) (n d : Nat) (T : List Nat) : Prop := rl fr to T (fun v => v) = true ∧ ∀ u, u < n → dgr fr to T u ≤ d
theorem judgedM {N n d need : Nat} {fr to w : Nat → Nat} {own : List Nat} {c : Nat → Nat} {P0 D0 CH OW F T W : Nat → Int32} (hN : 100 ≤ N) (hn : n ≤ 10) (hd : d ≤ 9) (hneed : need ≤ 9) (hm : own.length ≤ 30) (hOW : ∀ i, i < own.length → OW i = nI (own.getD i 0)) (hCH : ∀ i, i < need → CH i = nI (c i)) (hc : ∀ i, i < need → c i < own.length) (hA : ∀ a, a ∈ own → a < 30 ∧ F a = nI (fr a) ∧ T a = nI (to a) ∧ W a = nI (w a) ∧ fr a < n ∧ to a < n ∧ fr a ≠ to a ∧ w a ≤ 1000) :
    Ok (f_Mo_judged N (nI need) (nI d) (nI n) P0 D0 CH OW F T W) (fun r => (okB fr to n d (Tc own need c) → r.1 = nI (lsum w (Tc own need c))) ∧ (¬ okB fr to n d (Tc own need c) → r.1 = -1)) := by
  obtain ⟨P1, p1, p2⟩ := alone (N := N) (by omega) P0
  simp only [f_Mo_judged, p1, bk1]
  refine Ok_lo3 (fun e v3 P D => ∃ i, i + e = n ∧ v3 = nI i ∧ P = P1 ∧ ∀ u, u < i → D u = 0) ?_ n N _ _ _ (by omega) ⟨0, by omega, rfl, rfl, fun u hu => absurd hu (Nat.not_lt_zero u)⟩
  rintro kk e v3 P D ⟨i, he, rfl, rfl, hD⟩ hkk
  by_cases hi : i = n
  · subst hi
    have hle : nI i ≤ nI i := nI_le (Nat.le_refl _) (by omega)
    simp only [g_Mo_judged_6, if_pos hle]
    have hown : ∀ j a, j ≤ need → a ∈ Tc own j c → a ∈ own := fun j a hj ha => by
      obtain ⟨x, x1, x2⟩ := Tc_mem.mp ha
      rw [← x2]
      exact getD_mem (hc x (by omega))
    refine Ok_lo4 (fun e v3 v4 P D => ∃ j, j + e = need ∧ v3 = nI (lsum w (Tc own j c)) ∧ v4 = nI j ∧ (∀ v, v < 10 → P v = nI (kr fr to (Tc own j c) (fun v => v) v)) ∧ (∀ u, u < i → D u = nI (dgr fr to (Tc own j c) u)) ∧ okB fr to i d (Tc own j c)) ?_ need N _ _ _ _ (by omega) ⟨0, by omega, rfl, rfl, p2, fun u hu => hD u hu, rfl, fun u _ => Nat.zero_le _⟩
    rintro kk2 e2 v3 v4 P2 D2 ⟨j, he2, rfl, rfl, hP2, hD2, hok⟩ hkk2
    by_cases hj : j = need
    · have hle2 : nI need ≤ nI j := nI_le (by omega) (by omega)
      simp only [g_Mo_judged_32, if_pos hle2]
      rw [hj] at hok ⊢
      exact Ok_some ⟨fun _ => rfl, fun h => absurd hok h⟩
    · have hjn : j < need := by omega
      have hle2 : ¬ nI need ≤ nI j := nI_ge hjn (by omega)
      have hCj := hCH j hjn
      have hcj := hc j hjn
      have hOj := hOW (c j) hcj
      have hmem := getD_mem (ord := own) hcj
      have hTs := Tc_succ own j c
      obtain ⟨rest, hrest⟩ := Tc_rest own c (j := j + 1) (need - (j + 1))
      have ej : j + 1 + (need - (j + 1)) = need := by omega
      rw [ej] at hrest
      generalize ha : own.getD (c j) 0 = a at *
      obtain ⟨a1, a2, a3, a4, a5, a6, a7, a8⟩ := hA a hmem
      have hdl : ∀ u, dgr fr to (Tc own j c) u ≤ 9 := fun u => by
        have h1 := dgr_len (fr := fr) (to := to) (u := u) (T := Tc own j c) (fun b hb => (hA b (hown j b (by omega) hb)).2.2.2.2.2.2.1)
        rw [Tc_len] at h1
        omega
      -- the degrees with the arc
      have hdg : ∀ u, dgr fr to (Tc own (j + 1) c) u = dgr fr to (Tc own j c) u + ((if fr a = u then 1 else 0) + (if to a = u then 1 else 0)) := fun u => by
        rw [hTs, dgr_app]
        simp [dgr, lsum]
      have hD3 : ∀ u, u < i → upd (upd D2 (fr a) (D2 (fr a) + 1)) (to a) (upd D2 (fr a) (D2 (fr a) + 1) (to a) + 1) u = nI (dgr fr to (Tc own (j + 1) c) u) := by
        intro u hu
        rw [hdg u]
        by_cases e1 : u = to a
        · subst e1
          rw [upd_self, upd_ne _ _ (fun h => a7 h.symm), hD2 _ hu, if_neg a7, if_pos rfl]
          exact nI_1 _
        · rw [upd_ne _ _ e1]
          by_cases e2 : u = fr a
          · subst e2
            rw [upd_self, hD2 _ hu, if_pos rfl, if_neg (fun h => e1 h.symm)]
            exact nI_1 _
          · rw [upd_ne _ _ e2, hD2 u hu, if_neg (fun h => e2 h.symm), if_neg (fun h => e1 h.symm)]
            simp
      have hmono : ∀ u, dgr fr to (Tc own (j + 1) c) u ≤ dgr fr to (Tc own need c) u := fun u => by
        rw [hrest, dgr_app]; omega
      have hdf := hdl (fr a)
      have hdt := hdl (to a)
      have hgf := hdg (fr a)
      have hgt := hdg (to a)
      rw [if_pos rfl, if_neg (fun h => a7 h.symm)] at hgf
      rw [if_neg a7, if_pos rfl] at hgt
      simp only [g_Mo_judged_32, if_neg hle2, gd_nI (show j < 10 by omega) (by decide), nI_clamp (show j < 2 ^ 31 by omega), hCj, gd_nI (show c j < 30 by omega) (by decide), nI_clamp (show c j < 2 ^ 31 by omega), hOj, bn, gd_nI a1 (by decide), nI_clamp (show a < 2 ^ 31 by omega), a2, a3, a4, gd_nI (show fr a < 10 by omega) (by decide), gd_nI (show to a < 10 by omega) (by decide), nI_clamp (show fr a < 2 ^ 31 by omega), nI_clamp (show to a < 2 ^ 31 by omega), hD3 (fr a) a5, hD3 (to a) a6]
      by_cases hf : d < dgr fr to (Tc own (j + 1) c) (fr a)
      · rw [if_pos (nI_lt hf (by omega))]
        refine Ok_some ⟨fun h => ?_, fun _ => rfl⟩
        have g1 := h.2 (fr a) a5
        have g2 := hmono (fr a)
        omega
      · rw [if_neg (nI_nlt (by omega) (by omega))]
        by_cases ht : d < dgr fr to (Tc own (j + 1) c) (to a)
        · rw [if_pos (nI_lt ht (by omega))]
          refine Ok_some ⟨fun h => ?_, fun _ => rfl⟩
          have g1 := h.2 (to a) a6
          have g2 := hmono (to a)
          omega
        · rw [if_neg (nI_nlt (by omega) (by omega))]
          have hlab : ∀ v, v < 10 → kr fr to (Tc own j c) (fun v => v) v < 10 := fun v hv => kr_ltn _ (fun b hb => by
            have := hA b (hown j b (by omega) hb)
            exact ⟨by omega, by omega⟩) (fun v hv => hv) v hv
          obtain ⟨P3, u1, u2⟩ := join (k := a) (N := N) (by omega) a1 a2 a3 (by omega) (by omega) hlab hP2
          simp only [u1, bk2]
          have hrl : rl fr to (Tc own (j + 1) c) (fun v => v) = true ↔ ¬ kr fr to (Tc own j c) (fun v => v) (fr a) = kr fr to (Tc own j c) (fun v => v) (to a) := by
            rw [hTs, rl_app, hok.1]
            simp [rl]
          by_cases hs : kr fr to (Tc own j c) (fun v => v) (fr a) = kr fr to (Tc own j c) (fun v => v) (to a)
          · rw [if_pos hs]
            simp only [if_pos]
            refine Ok_some ⟨fun h => ?_, fun _ => rfl⟩
            have g1 := h.1
            rw [hrest, rl_app, Bool.and_eq_true] at g1
            exact absurd hs (hrl.mp g1.1)
          · rw [if_neg hs]
            have n1 : ¬ (1 : Int32) = 0 := by decide
            simp only [if_neg n1, nI_1, nI_add]
            refine hkk2 (e2 - 1) _ _ _ _ (by omega) ⟨j + 1, by omega, ?_, rfl, fun v hv => ?_, hD3, hrl.mpr hs, fun u hu => ?_⟩
            · rw [hTs, lsum_app]; rfl
            · rw [hTs, kr_one]; exact u2 v hv
            · have g1 := hok.2 u hu
              by_cases e3 : u = fr a
              · subst e3; omega
              · by_cases e4 : u = to a
                · subst e4; omega
                · rw [hdg u, if_neg (fun h => e3 h.symm), if_neg (fun h => e4 h.symm)]; omega
  · have hin : i < n := by omega
    have hle : ¬ nI n ≤ nI i := nI_ge hin (by omega)
    simp only [g_Mo_judged_6, if_neg hle, gd_nI (show i < 10 by omega) (by decide), nI_clamp (show i < 2 ^ 31 by omega), bn, nI_1]
    refine hkk (e - 1) _ _ _ (by omega) ⟨i + 1, by omega, rfl, rfl, fun u hu => ?_⟩
    by_cases e1 : u = i
    · rw [e1, upd_self]
    · rw [upd_ne _ _ e1]; exact hD u (by omega)
