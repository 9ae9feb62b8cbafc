/-! ties: the reference -/
theorem t190 {N n k W s : Nat} {fr to w lab : Nat → Nat} {pr rp : Nat → Bool} {F T V H P lw rw_ : Nat → Int32} {mx : Nat → Int64} (hN : 100 ≤ N) (hn : n ≤ 10) (hk : k ≤ 30) (hs : s = cw rp n) (hA : ∀ a, a < k → F a = nI (fr a) ∧ T a = nI (to a) ∧ fr a < n ∧ to a < n) (hV : ∀ a, a < k → V a = nI (w a) ∧ w a ≤ 1000) (hW : W ≤ 1000) (hH : ∀ a, a < k → H a = (if pr a = true then 1 else 0)) (hl : ∀ v, v < n → lab v < n) (hlw : ∀ v, v < n → lw v = nI (lab v)) (hrw : ∀ v, v < n → rw_ v = enc (rho rp v)) (hmx : ∀ i j, i < s → j < s → mx (10 * i + j) = 0) :
    Ok (lo6 (g_Mo_tiesOf_190 N (nI W) (nI k) H V F T) N (nI s) (0 : Int32) P lw rw_ mx) (fun r => r.1 = lI (dt (mt rp fr to lab (pal (fun a => pr a && decide (w a = W)) 0 k)) 1 0 s)) := by
  have hs10 : s ≤ 10 := by rw [hs]; exact Nat.le_trans (cw_le rp n) hn
  refine Ok_lo6 (fun d v2 v3 _ lw' rw' mx' => ∃ i, v2 = nI s ∧ v3 = nI i ∧ i + d = k ∧ lw' = lw ∧ rw' = rw_ ∧ ∀ x y, x < s → y < s → mx' (10 * x + y) = lI (mt rp fr to lab (pal (fun a => pr a && decide (w a = W)) 0 i) x y)) ?_ k N _ _ _ _ _ _ (by omega) ⟨0, rfl, rfl, by omega, rfl, rfl, fun x y hx hy => by rw [hmx x y hx hy]; exact lI_0.symm⟩
  rintro kk d v2 v3 P' lw' rw' mx' ⟨i, rfl, rfl, hd, rfl, rfl, hm⟩ hkk
  by_cases hi : i = k
  · subst hi
    have hle : nI i ≤ nI i := nI_le (Nat.le_refl _) (by omega)
    obtain ⟨⟨q1, q2⟩, e1, e2⟩ := detM (mt := mx') hN hs10 (Nat.le_trans (dg_sum _ _) (by have := pal_len (p := fun a => pr a && decide (w a = W)) (d := i) (i := 0); omega)) (mt_GM (rp := rp) (fr := fr) (to := to) (lab := lab) (s := s) (pal (fun a => pr a && decide (w a = W)) 0 i)) hm
    simp only [g_Mo_tiesOf_190, if_pos hle, e1, bk2]
    exact Ok_some e2
  · have hik : i < k := by omega
    have hle : ¬ nI k ≤ nI i := nI_ge hik (by omega)
    obtain ⟨a1, a2, a3, a4⟩ := hA i hik
    obtain ⟨w1, w2⟩ := hV i hik
    have n1 : ¬ (1 : Int32) = 0 := by decide
    have hHi := hH i hik
    have hps := pal_succ (p := fun a => pr a && decide (w a = W)) (d := i) (i := 0)
    rw [Nat.zero_add] at hps
    have go : ∀ mx'', (∀ x y, x < s → y < s → mx'' (10 * x + y) = lI (mt rp fr to lab (pal (fun a => pr a && decide (w a = W)) 0 (i + 1)) x y)) → Ok (kk (nI s) (nI (i + 1)) P' lw' rw' mx'') (fun r => r.1 = lI (dt (mt rp fr to lab (pal (fun a => pr a && decide (w a = W)) 0 k)) 1 0 s)) := by
      intro mx'' h
      exact hkk (d - 1) _ _ _ _ _ _ (by omega) ⟨i + 1, rfl, rfl, by omega, rfl, rfl, h⟩
    have skip : (pr i && decide (w i = W)) = false → Ok (kk (nI s) (nI (i + 1)) P' lw' rw' mx') (fun r => r.1 = lI (dt (mt rp fr to lab (pal (fun a => pr a && decide (w a = W)) 0 k)) 1 0 s)) := by
      intro h
      refine go mx' (fun x y hx hy => ?_)
      rw [hps, h]
      simp only [Bool.false_eq_true, if_false, List.append_nil]
      exact hm x y hx hy
    by_cases hpi : pr i = true
    · rw [if_pos hpi] at hHi
      by_cases hwi : w i = W
      · have hcw : nI (w i) = nI W := by rw [hwi]
        have hpp : (pr i && decide (w i = W)) = true := by rw [hpi, decide_eq_true hwi]; rfl
        have lf := hl (fr i) a3
        have lt := hl (to i) a4
        by_cases hq : lab (fr i) = lab (to i)
        · have hc : nI (lab (fr i)) = nI (lab (to i)) := by rw [hq]
          simp only [g_Mo_tiesOf_190, if_neg hle, gd_nI (show i < 30 by omega) (by decide), nI_clamp (show i < 2 ^ 31 by omega), hHi, if_neg n1, w1, if_pos hcw, a1, a2, gd_nI (show fr i < 10 by omega) (by decide), gd_nI (show to i < 10 by omega) (by decide), nI_clamp (show fr i < 2 ^ 31 by omega), nI_clamp (show to i < 2 ^ 31 by omega), hlw (fr i) a3, hlw (to i) a4, if_pos hc, bn, nI_1]
          refine go mx' (fun x y hx hy => ?_)
          rw [hps, hpp]
          simp only [if_pos]
          rw [mt_app, hm x y hx hy]
          congr 1
          simp only [mt, if_pos hq]
          omega
        · have hc : ¬ nI (lab (fr i)) = nI (lab (to i)) := fun z => hq ((nI_eq (by omega) (by omega)).mp z)
          have r1 := hrw (lab (fr i)) lf
          have r2 := hrw (lab (to i)) lt
          have hrl : ∀ v x, v < n → rho rp v = some x → x < s ∧ rp v = true ∧ x = cw rp v := by
            intro v x hv hx
            unfold rho at hx
            by_cases hv2 : rp v = true
            · rw [if_pos hv2, Option.some.injEq] at hx
              rw [← hx, hs]
              exact ⟨cw_lt hv2 hv, hv2, rfl⟩
            · rw [if_neg hv2] at hx; cases hx
          have fin : ∀ mx'', (∀ x y, x < s → y < s → mx'' (10 * x + y) = lI (ct (rho rp (lab (fr i))) (rho rp (lab (to i))) x y + mt rp fr to lab (pal (fun a => pr a && decide (w a = W)) 0 i) x y)) → Ok (kk (nI s) (nI (i + 1)) P' lw' rw' mx'') (fun r => r.1 = lI (dt (mt rp fr to lab (pal (fun a => pr a && decide (w a = W)) 0 k)) 1 0 s)) := by
            intro mx'' h
            refine go mx'' (fun x y hx hy => ?_)
            rw [h x y hx hy, hps, hpp]
            simp only [if_pos]
            rw [mt_app]
            congr 1
            simp only [mt, if_neg hq]
            omega
          have nm : (-1 : Int32) < 0 := by decide
          cases h1 : rho rp (lab (fr i)) with
          | none =>
            rw [h1] at r1 fin
            have r1' : rw' (lab (fr i)) = (-1 : Int32) := r1
            cases h2 : rho rp (lab (to i)) with
            | none =>
              rw [h2] at r2 fin
              have r2' : rw' (lab (to i)) = (-1 : Int32) := r2
              simp only [g_Mo_tiesOf_190, if_neg hle, gd_nI (show i < 30 by omega) (by decide), nI_clamp (show i < 2 ^ 31 by omega), hHi, if_neg n1, w1, if_pos hcw, a1, a2, gd_nI (show fr i < 10 by omega) (by decide), gd_nI (show to i < 10 by omega) (by decide), nI_clamp (show fr i < 2 ^ 31 by omega), nI_clamp (show to i < 2 ^ 31 by omega), hlw (fr i) a3, hlw (to i) a4, if_neg hc, gd_nI (show lab (fr i) < 10 by omega) (by decide), gd_nI (show lab (to i) < 10 by omega) (by decide), nI_clamp (show lab (fr i) < 2 ^ 31 by omega), nI_clamp (show lab (to i) < 2 ^ 31 by omega), r1', r2', if_pos nm, g_Mo_tiesOf_300, g_Mo_tiesOf_322, bn, nI_1]
              refine fin mx' (fun x y hx hy => ?_)
              rw [hm x y hx hy, ct_nn]
              congr 1; omega
            | some q =>
              rw [h2] at r2 fin
              have r2' : rw' (lab (to i)) = nI q := r2
              obtain ⟨hq1, -, -⟩ := hrl _ q lt h2
              have nq : ¬ nI q < 0 := nI_pos (by omega)
              simp only [g_Mo_tiesOf_190, if_neg hle, gd_nI (show i < 30 by omega) (by decide), nI_clamp (show i < 2 ^ 31 by omega), hHi, if_neg n1, w1, if_pos hcw, a1, a2, gd_nI (show fr i < 10 by omega) (by decide), gd_nI (show to i < 10 by omega) (by decide), nI_clamp (show fr i < 2 ^ 31 by omega), nI_clamp (show to i < 2 ^ 31 by omega), hlw (fr i) a3, hlw (to i) a4, if_neg hc, gd_nI (show lab (fr i) < 10 by omega) (by decide), gd_nI (show lab (to i) < 10 by omega) (by decide), nI_clamp (show lab (fr i) < 2 ^ 31 by omega), nI_clamp (show lab (to i) < 2 ^ 31 by omega), r1', r2', if_pos nm, if_neg nq, g_Mo_tiesOf_300, g_Mo_tiesOf_322, bn, nI_1, ix10, gd_nI (show 10 * q + q < 100 by omega) (by decide), nI_clamp (show 10 * q + q < 2 ^ 31 by omega)]
              refine fin _ (fun x y hx hy => ?_)
              rw [ct_ns]
              exact linkM1 hs10 hq1 hm x y hx hy
          | some p =>
            rw [h1] at r1 fin
            have r1' : rw' (lab (fr i)) = nI p := r1
            obtain ⟨hp1, hp2, hp3⟩ := hrl _ p lf h1
            have np : ¬ nI p < 0 := nI_pos (by omega)
            cases h2 : rho rp (lab (to i)) with
            | none =>
              rw [h2] at r2 fin
              have r2' : rw' (lab (to i)) = (-1 : Int32) := r2
              simp only [g_Mo_tiesOf_190, if_neg hle, gd_nI (show i < 30 by omega) (by decide), nI_clamp (show i < 2 ^ 31 by omega), hHi, if_neg n1, w1, if_pos hcw, a1, a2, gd_nI (show fr i < 10 by omega) (by decide), gd_nI (show to i < 10 by omega) (by decide), nI_clamp (show fr i < 2 ^ 31 by omega), nI_clamp (show to i < 2 ^ 31 by omega), hlw (fr i) a3, hlw (to i) a4, if_neg hc, gd_nI (show lab (fr i) < 10 by omega) (by decide), gd_nI (show lab (to i) < 10 by omega) (by decide), nI_clamp (show lab (fr i) < 2 ^ 31 by omega), nI_clamp (show lab (to i) < 2 ^ 31 by omega), r1', r2', if_pos nm, if_neg np, g_Mo_tiesOf_300, g_Mo_tiesOf_322, bn, nI_1, ix10, gd_nI (show 10 * p + p < 100 by omega) (by decide), nI_clamp (show 10 * p + p < 2 ^ 31 by omega)]
              refine fin _ (fun x y hx hy => ?_)
              rw [ct_sn]
              exact linkM1 hs10 hp1 hm x y hx hy
            | some q =>
              rw [h2] at r2 fin
              have r2' : rw' (lab (to i)) = nI q := r2
              obtain ⟨hq1, hq2, hq3⟩ := hrl _ q lt h2
              have nq : ¬ nI q < 0 := nI_pos (by omega)
              have hpq : p ≠ q := fun z => hq ((cw_inj hp2 hq2).mp (by omega))
              simp only [g_Mo_tiesOf_190, if_neg hle, gd_nI (show i < 30 by omega) (by decide), nI_clamp (show i < 2 ^ 31 by omega), hHi, if_neg n1, w1, if_pos hcw, a1, a2, gd_nI (show fr i < 10 by omega) (by decide), gd_nI (show to i < 10 by omega) (by decide), nI_clamp (show fr i < 2 ^ 31 by omega), nI_clamp (show to i < 2 ^ 31 by omega), hlw (fr i) a3, hlw (to i) a4, if_neg hc, gd_nI (show lab (fr i) < 10 by omega) (by decide), gd_nI (show lab (to i) < 10 by omega) (by decide), nI_clamp (show lab (fr i) < 2 ^ 31 by omega), nI_clamp (show lab (to i) < 2 ^ 31 by omega), r1', r2', if_neg np, if_neg nq, g_Mo_tiesOf_300, g_Mo_tiesOf_322, bn, nI_1, ix10, gd_nI (show 10 * p + p < 100 by omega) (by decide), nI_clamp (show 10 * p + p < 2 ^ 31 by omega), gd_nI (show 10 * q + q < 100 by omega) (by decide), nI_clamp (show 10 * q + q < 2 ^ 31 by omega), gd_nI (show 10 * p + q < 100 by omega) (by decide), nI_clamp (show 10 * p + q < 2 ^ 31 by omega), gd_nI (show 10 * q + p < 100 by omega) (by decide), nI_clamp (show 10 * q + p < 2 ^ 31 by omega)]
              exact fin _ (fun x y hx hy => linkM hs10 hp1 hq1 hpq hm x y hx hy)
      · have hcw : ¬ nI (w i) = nI W := fun z => hwi ((nI_eq (by omega) (by omega)).mp z)
        simp only [g_Mo_tiesOf_190, if_neg hle, gd_nI (show i < 30 by omega) (by decide), nI_clamp (show i < 2 ^ 31 by omega), hHi, if_neg n1, w1, if_neg hcw, bn, nI_1]
        exact skip (by simp [hwi])
    · rw [if_neg hpi] at hHi
      simp only [g_Mo_tiesOf_190, if_neg hle, gd_nI (show i < 30 by omega) (by decide), nI_clamp (show i < 2 ^ 31 by omega), hHi, if_pos, bn, nI_1]
      exact skip (by simp [hpi])
theorem t169 {N n k W s : Nat} {fr to w lab : Nat → Nat} {pr rp : Nat → Bool} {F T V H P lw rw_ : Nat → Int32} {mx : Nat → Int64} (hN : 200 ≤ N) (hn : n ≤ 10) (hk : k ≤ 30) (hs : s = cw rp n) (hA : ∀ a, a < k → F a = nI (fr a) ∧ T a = nI (to a) ∧ fr a < n ∧ to a < n) (hV : ∀ a, a < k → V a = nI (w a) ∧ w a ≤ 1000) (hW : W ≤ 1000) (hH : ∀ a, a < k → H a = (if pr a = true then 1 else 0)) (hl : ∀ v, v < n → lab v < n) (hlw : ∀ v, v < n → lw v = nI (lab v)) (hrw : ∀ v, v < n → rw_ v = enc (rho rp v)) :
    Ok (lo6 (g_Mo_tiesOf_169 N (nI W) (nI k) H V F T) N (nI s) (0 : Int32) P lw rw_ mx) (fun r => r.1 = lI (dt (mt rp fr to lab (pal (fun a => pr a && decide (w a = W)) 0 k)) 1 0 s)) := by
  have hs10 : s ≤ 10 := by rw [hs]; exact Nat.le_trans (cw_le rp n) hn
  refine Ok_lo6 (fun d v2 v3 _ lw' rw' mx' => ∃ i, v2 = nI s ∧ v3 = nI i ∧ i + d = 100 ∧ lw' = lw ∧ rw' = rw_ ∧ ∀ x, x < i → mx' x = 0) ?_ 100 N _ _ _ _ _ _ (by omega) ⟨0, rfl, rfl, by omega, rfl, rfl, fun x hx => absurd hx (Nat.not_lt_zero x)⟩
  rintro kk d v2 v3 P' lw' rw' mx' ⟨i, rfl, rfl, hd, rfl, rfl, hm⟩ hkk
  by_cases hi : i = 100
  · subst hi
    have hle : (100 : Int32) ≤ nI 100 := by decide
    simp only [g_Mo_tiesOf_169, if_pos hle]
    exact t190 (mx := mx') (P := P') (by omega) hn hk hs hA hV hW hH hl hlw hrw (fun x y hx hy => hm _ (by omega))
  · have hle : ¬ (100 : Int32) ≤ nI i := nI_ge (a := i) (b := 100) (by omega) (by decide)
    simp only [g_Mo_tiesOf_169, if_neg hle, gd_nI (show i < 100 by omega) (by decide), nI_clamp (show i < 2 ^ 31 by omega), bn, nI_1]
    refine hkk (d - 1) _ _ _ _ _ _ (by omega) ⟨i + 1, rfl, rfl, by omega, rfl, rfl, fun x hx => ?_⟩
    by_cases e : x = i
    · rw [e, pk_uLs]
    · rw [pk_uLn e]; exact hm x (by omega)
theorem t116 {N n k W : Nat} {fr to w lab lab1 : Nat → Nat} {pr : Nat → Bool} {F T V H P lw rw_ : Nat → Int32} {mx : Nat → Int64} (hN : 200 ≤ N) (hn : n ≤ 10) (hk : k ≤ 30) (hA : ∀ a, a < k → F a = nI (fr a) ∧ T a = nI (to a) ∧ fr a < n ∧ to a < n) (hV : ∀ a, a < k → V a = nI (w a) ∧ w a ≤ 1000) (hW : W ≤ 1000) (hH : ∀ a, a < k → H a = (if pr a = true then 1 else 0)) (hl : ∀ v, v < n → lab v < n) (hl1 : ∀ v, v < n → lab1 v < n) (hlw : ∀ v, v < n → lw v = nI (lab v)) (hP : ∀ v, v < n → P v = nI (lab1 v)) :
    Ok (lo6 (g_Mo_tiesOf_116 N (nI W) (nI n) (nI k) H V F T) N (0 : Int32) (0 : Int32) P lw rw_ mx) (fun r => r.1 = lI (dt (mt (rwp lab lab1) fr to lab (pal (fun a => pr a && decide (w a = W)) 0 k)) 1 0 (cw (rwp lab lab1) n))) := by
  generalize hrp : rwp lab lab1 = rp
  refine Ok_lo6 (fun d v2 v3 P' lw' rw' _ => ∃ v, v2 = nI (cw rp v) ∧ v3 = nI v ∧ v + d = n ∧ P' = P ∧ lw' = lw ∧ ∀ u, u < v → rw' u = enc (rho rp u)) ?_ n N _ _ _ _ _ _ (by omega) ⟨0, rfl, rfl, by omega, rfl, rfl, fun u hu => absurd hu (Nat.not_lt_zero u)⟩
  rintro kk d v2 v3 P' lw' rw' mx' ⟨v, rfl, rfl, hd, rfl, rfl, hr⟩ hkk
  by_cases hv : v = n
  · subst hv
    have hle : nI v ≤ nI v := nI_le (Nat.le_refl _) (by omega)
    simp only [g_Mo_tiesOf_116, if_pos hle]
    exact t169 hN hn hk rfl hA hV hW hH hl hlw hr
  · have hvn : v < n := by omega
    have hle : ¬ nI n ≤ nI v := nI_ge hvn (by omega)
    have q0 := hl v hvn
    have q1 := hl1 v hvn
    have skip : rp v = false → Ok (kk (nI (cw rp v)) (nI (v + 1)) P' lw' (upd rw' v (-1)) mx') (fun r => r.1 = lI (dt (mt rp fr to lab (pal (fun a => pr a && decide (w a = W)) 0 k)) 1 0 (cw rp n))) := by
      intro hp
      refine hkk (d - 1) _ _ _ _ _ _ (by omega) ⟨v + 1, ?_, rfl, by omega, rfl, rfl, fun u hu => ?_⟩
      · simp only [cw, hp, Bool.false_eq_true, if_false, Nat.add_zero]
      · by_cases e : u = v
        · rw [e, upd_self]
          unfold rho
          rw [hp]
          rfl
        · rw [upd_ne _ _ e]; exact hr u (by omega)
    by_cases h0 : lab v = v
    · have hc0 : nI (lab v) = nI v := by rw [h0]
      by_cases h1 : lab1 v = v
      · have hc1 : nI (lab1 v) = nI v := by rw [h1]
        simp only [g_Mo_tiesOf_116, if_neg hle, gd_nI (show v < 10 by omega) (by decide), nI_clamp (show v < 2 ^ 31 by omega), hlw v hvn, hP v hvn, if_pos hc0, if_pos hc1, bn, nI_1]
        exact skip (by rw [← hrp]; unfold rwp; simp [h1])
      · have hc1 : ¬ nI (lab1 v) = nI v := fun q => h1 ((nI_eq (by omega) (by omega)).mp q)
        simp only [g_Mo_tiesOf_116, if_neg hle, gd_nI (show v < 10 by omega) (by decide), nI_clamp (show v < 2 ^ 31 by omega), hlw v hvn, hP v hvn, if_pos hc0, if_neg hc1, bn, nI_1]
        have hp : rp v = true := by rw [← hrp]; unfold rwp; simp [h0, h1]
        refine hkk (d - 1) _ _ _ _ _ _ (by omega) ⟨v + 1, ?_, rfl, by omega, rfl, rfl, fun u hu => ?_⟩
        · simp only [cw, if_pos hp]
        · by_cases e : u = v
          · rw [e, upd_self]
            unfold rho
            rw [if_pos hp]
            rfl
          · rw [upd_ne _ _ e, upd_ne _ _ e]; exact hr u (by omega)
    · have hc0 : ¬ nI (lab v) = nI v := fun q => h0 ((nI_eq (by omega) (by omega)).mp q)
      simp only [g_Mo_tiesOf_116, if_neg hle, gd_nI (show v < 10 by omega) (by decide), nI_clamp (show v < 2 ^ 31 by omega), hlw v hvn, if_neg hc0, bn, nI_1]
      exact skip (by rw [← hrp]; unfold rwp; simp [h0])
theorem t73 {N n k W : Nat} {fr to w lab0 : Nat → Nat} {pr : Nat → Bool} {F T V H P lw rw_ : Nat → Int32} {mx : Nat → Int64} (hN : 200 ≤ N) (hn : n ≤ 10) (hk : k ≤ 30) (hA : ∀ a, a < k → F a = nI (fr a) ∧ T a = nI (to a) ∧ fr a < n ∧ to a < n) (hV : ∀ a, a < k → V a = nI (w a) ∧ w a ≤ 1000) (hW : W ≤ 1000) (hH : ∀ a, a < k → H a = (if pr a = true then 1 else 0)) (hl : ∀ v, v < n → lab0 v < n) (hl10 : ∀ v, v < 10 → lab0 v < 10) (hlw : ∀ v, v < 10 → lw v = nI (lab0 v)) (hP : ∀ v, v < 10 → P v = nI (lab0 v)) :
    Ok (lo5 (g_Mo_tiesOf_73 N (nI W) (nI n) (nI k) H V F T) N (0 : Int32) P lw rw_ mx) (fun r => r.1 = chv n fr to lab0 (pal (fun a => pr a && decide (w a = W)) 0 k)) := by
  refine Ok_lo5 (fun d v2 P' lw' _ _ => ∃ (i : Nat) (lab : Nat → Nat), v2 = nI i ∧ i + d = k ∧ lw' = lw ∧ (∀ v, v < 10 → lab v < 10) ∧ (∀ v, v < 10 → P' v = nI (lab v)) ∧ kr fr to (pal (fun a => pr a && decide (w a = W)) 0 k) lab0 = kr fr to (pal (fun a => pr a && decide (w a = W)) i d) lab) ?_ k N _ _ _ _ _ (by omega) ⟨0, lab0, rfl, by omega, rfl, hl10, hP, rfl⟩
  rintro kk d v2 P' lw' rw' mx' ⟨i, lab, rfl, hd, rfl, h10, hP', hkr⟩ hkk
  cases d with
  | zero =>
    have e : i = k := by omega
    subst e
    have hle : nI i ≤ nI i := nI_le (Nat.le_refl _) (by omega)
    simp only [g_Mo_tiesOf_73, if_pos hle]
    have hl1 : ∀ v, v < n → kr fr to (pal (fun a => pr a && decide (w a = W)) 0 i) lab0 v < n := kr_ltn _ (fun a ha => ⟨(hA a (by have := pal_mem.mp ha; omega)).2.2.1, (hA a (by have := pal_mem.mp ha; omega)).2.2.2⟩) hl
    have hkr2 : kr fr to (pal (fun a => pr a && decide (w a = W)) 0 i) lab0 = lab := hkr
    exact t116 (lab1 := kr fr to (pal (fun a => pr a && decide (w a = W)) 0 i) lab0) hN hn hk hA hV hW hH hl hl1 (fun v hv => hlw v (by omega)) (fun v hv => by rw [hkr2]; exact hP' v (by omega))
  | succ d =>
    have hik : i < k := by omega
    have hle : ¬ nI k ≤ nI i := nI_ge hik (by omega)
    obtain ⟨a1, a2, a3, a4⟩ := hA i hik
    obtain ⟨w1, w2⟩ := hV i hik
    have n1 : ¬ (1 : Int32) = 0 := by decide
    have hHi := hH i hik
    have skip : (pr i && decide (w i = W)) = false → Ok (kk (nI (i + 1)) P' lw' rw' mx') (fun r => r.1 = chv n fr to lab0 (pal (fun a => pr a && decide (w a = W)) 0 k)) := by
      intro h
      refine hkk d _ _ _ _ _ (by omega) ⟨i + 1, lab, rfl, by omega, rfl, h10, hP', ?_⟩
      rw [hkr]
      simp only [pal, h, Bool.false_eq_true, if_false]
    by_cases hpi : pr i = true
    · rw [if_pos hpi] at hHi
      by_cases hwi : w i = W
      · have hcw : nI (w i) = nI W := by rw [hwi]
        have hpp : (pr i && decide (w i = W)) = true := by rw [hpi, decide_eq_true hwi]; rfl
        obtain ⟨P2, j1, j2⟩ := join (N := N) (by omega) (show i < 30 by omega) a1 a2 (show fr i < 10 by omega) (show to i < 10 by omega) h10 hP'
        simp only [g_Mo_tiesOf_73, if_neg hle, gd_nI (show i < 30 by omega) (by decide), nI_clamp (show i < 2 ^ 31 by omega), hHi, if_neg n1, w1, if_pos hcw, j1, bk2, bn, nI_1]
        refine hkk d _ _ _ _ _ (by omega) ⟨i + 1, uni lab (fr i) (to i), rfl, by omega, rfl, uni10 (by omega) (by omega) h10, j2, ?_⟩
        rw [hkr]
        simp only [pal, hpp, if_pos, kr]
      · have hcw : ¬ nI (w i) = nI W := fun z => hwi ((nI_eq (by omega) (by omega)).mp z)
        simp only [g_Mo_tiesOf_73, if_neg hle, gd_nI (show i < 30 by omega) (by decide), nI_clamp (show i < 2 ^ 31 by omega), hHi, if_neg n1, w1, if_neg hcw, bn, nI_1]
        exact skip (by simp [hwi])
    · rw [if_neg hpi] at hHi
      simp only [g_Mo_tiesOf_73, if_neg hle, gd_nI (show i < 30 by omega) (by decide), nI_clamp (show i < 2 ^ 31 by omega), hHi, if_pos, bn, nI_1]
      exact skip (by simp [hpi])
theorem tiesOf {N n k W : Nat} {fr to w : Nat → Nat} {pr : Nat → Bool} {F T V H P lw rw_ : Nat → Int32} {mx : Nat → Int64} (hN : 200 ≤ N) (hn : n ≤ 10) (hk : k ≤ 30) (hA : ∀ a, a < k → F a = nI (fr a) ∧ T a = nI (to a) ∧ fr a < n ∧ to a < n) (hV : ∀ a, a < k → V a = nI (w a) ∧ w a ≤ 1000) (hW : W ≤ 1000) (hH : ∀ a, a < k → H a = (if pr a = true then 1 else 0)) :
    Ok (f_Mo_tiesOf N (nI W) (nI n) (nI k) P H V F T lw rw_ mx) (fun r => r.1 = chv n fr to (kr fr to (pal (fun a => pr a && decide (w a < W)) 0 k) (fun v => v)) (pal (fun a => pr a && decide (w a = W)) 0 k)) := by
  obtain ⟨P1, s1, s2⟩ := alone (N := N) (by omega) P
  unfold f_Mo_tiesOf
  rw [s1]
  refine Ok_lo5 (fun d v2 P' _ _ _ => ∃ (i : Nat) (lab : Nat → Nat), v2 = nI i ∧ i + d = k ∧ (∀ v, v < 10 → lab v < 10) ∧ (∀ v, v < 10 → P' v = nI (lab v)) ∧ kr fr to (pal (fun a => pr a && decide (w a < W)) 0 k) (fun v => v) = kr fr to (pal (fun a => pr a && decide (w a < W)) i d) lab) ?_ k N _ _ _ _ _ (by omega) ⟨0, fun v => v, rfl, by omega, fun v hv => hv, s2, rfl⟩
  rintro kk d v2 P' lw' rw' mx' ⟨i, lab, rfl, hd, h10, hP', hkr⟩ hkk
  cases d with
  | zero =>
    have e : i = k := by omega
    subst e
    have hle : nI i ≤ nI i := nI_le (Nat.le_refl _) (by omega)
    simp only [g_Mo_tiesOf_6, if_pos hle]
    have hkr2 : kr fr to (pal (fun a => pr a && decide (w a < W)) 0 i) (fun v => v) = lab := hkr
    have hl1 : ∀ v, v < n → kr fr to (pal (fun a => pr a && decide (w a < W)) 0 i) (fun v => v) v < n := kr_ltn _ (fun a ha => ⟨(hA a (by have := pal_mem.mp ha; omega)).2.2.1, (hA a (by have := pal_mem.mp ha; omega)).2.2.2⟩) (fun v hv => hv)
    rw [hkr2] at hl1 ⊢
    refine Ok_lo5 (fun d v2 P2 lw2 _ _ => ∃ j, v2 = nI j ∧ j + d = 10 ∧ P2 = P' ∧ ∀ v, v < j → lw2 v = P' v) ?_ 10 N _ _ _ _ _ (by omega) ⟨0, rfl, by omega, rfl, fun v hv => absurd hv (Nat.not_lt_zero v)⟩
    rintro k47 d2 v2 P2 lw2 rw2 mx2 ⟨j, rfl, hd2, rfl, hlw⟩ hk47
    by_cases hj : j = 10
    · subst hj
      have hle2 : (10 : Int32) ≤ nI 10 := by decide
      simp only [g_Mo_tiesOf_47, if_pos hle2]
      exact t73 hN hn hk hA hV hW hH hl1 h10 (fun v hv => by rw [hlw v hv]; exact hP' v hv) hP'
    · have hle2 : ¬ (10 : Int32) ≤ nI j := nI_ge (a := j) (b := 10) (by omega) (by decide)
      simp only [g_Mo_tiesOf_47, if_neg hle2, gd_nI (show j < 10 by omega) (by decide), nI_clamp (show j < 2 ^ 31 by omega), bn, nI_1]
      refine hk47 (d2 - 1) _ _ _ _ _ (by omega) ⟨j + 1, rfl, by omega, rfl, fun v hv => ?_⟩
      by_cases e : v = j
      · rw [e, upd_self]
      · rw [upd_ne _ _ e]; exact hlw v (by omega)
  | succ d =>
    have hik : i < k := by omega
    have hle : ¬ nI k ≤ nI i := nI_ge hik (by omega)
    obtain ⟨a1, a2, a3, a4⟩ := hA i hik
    obtain ⟨w1, w2⟩ := hV i hik
    have n1 : ¬ (1 : Int32) = 0 := by decide
    have hHi := hH i hik
    have skip : (pr i && decide (w i < W)) = false → Ok (kk (nI (i + 1)) P' lw' rw' mx') (fun r => r.1 = chv n fr to (kr fr to (pal (fun a => pr a && decide (w a < W)) 0 k) (fun v => v)) (pal (fun a => pr a && decide (w a = W)) 0 k)) := by
      intro h
      refine hkk d _ _ _ _ _ (by omega) ⟨i + 1, lab, rfl, by omega, h10, hP', ?_⟩
      rw [hkr]
      simp only [pal, h, Bool.false_eq_true, if_false]
    by_cases hpi : pr i = true
    · rw [if_pos hpi] at hHi
      by_cases hwi : w i < W
      · have hcw : ¬ nI W ≤ nI (w i) := nI_ge hwi (by omega)
        have hpp : (pr i && decide (w i < W)) = true := by rw [hpi, decide_eq_true hwi]; rfl
        obtain ⟨P2, j1, j2⟩ := join (N := N) (by omega) (show i < 30 by omega) a1 a2 (show fr i < 10 by omega) (show to i < 10 by omega) h10 hP'
        simp only [g_Mo_tiesOf_6, if_neg hle, gd_nI (show i < 30 by omega) (by decide), nI_clamp (show i < 2 ^ 31 by omega), hHi, if_neg n1, w1, if_neg hcw, j1, bk2, bn, nI_1]
        refine hkk d _ _ _ _ _ (by omega) ⟨i + 1, uni lab (fr i) (to i), rfl, by omega, uni10 (by omega) (by omega) h10, j2, ?_⟩
        rw [hkr]
        simp only [pal, hpp, if_pos, kr]
      · have hcw : nI W ≤ nI (w i) := nI_le (by omega) (by omega)
        simp only [g_Mo_tiesOf_6, if_neg hle, gd_nI (show i < 30 by omega) (by decide), nI_clamp (show i < 2 ^ 31 by omega), hHi, if_neg n1, w1, if_pos hcw, bn, nI_1]
        exact skip (by simp [hwi])
    · rw [if_neg hpi] at hHi
      simp only [g_Mo_tiesOf_6, if_neg hle, gd_nI (show i < 30 by omega) (by decide), nI_clamp (show i < 2 ^ 31 by omega), hHi, if_pos, bn, nI_1]
      exact skip (by simp [hpi])
