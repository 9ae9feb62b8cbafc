/-! bounded and boundedSet -/
theorem cnt_nbs (lab : Nat → Nat) {n : Nat} : ∀ m, m ≤ n → cnt lab m = nbs (fun v => decide (v < n) && decide (lab v = v)) m
  | 0, _ => rfl
  | m + 1, h => by
    have ih := cnt_nbs lab (n := n) m (by omega)
    unfold cnt nbs
    rw [ih]
    have : m < n := by omega
    simp [this]
theorem cnt_one {lab : Nat → Nat} {n : Nat} (h : ∀ u v, u < n → v < n → lab u = lab v) : cnt lab n ≤ 1 := by
  rw [cnt_nbs lab n (Nat.le_refl _)]
  apply nbs_one
  intro u v hu hv
  simp only [Bool.and_eq_true, decide_eq_true_eq] at hu hv
  rw [← hu.2, ← hv.2]
  exact h u v hu.1 hv.1
theorem GB_cnt {fr to : Nat → Nat} {n d : Nat} {ord T : List Nat} (h : GB fr to n d ord T) : cnt (kr fr to ord (fun v => v)) n ≤ 1 :=
  cnt_one (fun u v hu hv => kr_sub h.2.1 (h.2.2.2.1 u v (by simp [hu]) (by simp [hv])))
theorem okB_GB {fr to : Nat → Nat} {n d : Nat} {ord own : List Nat} {x : Nat → Nat} (hn : 2 ≤ n) (hpw : own.Pairwise (· < ·)) (hoo : ∀ a, a ∈ own ↔ a ∈ ord) (hA : ∀ a, a ∈ ord → fr a < n ∧ to a < n) (hx : Vc (n - 1) own.length x) : okB fr to n d (Tc own (n - 1) x) ↔ GB fr to n d ord (Tc own (n - 1) x) := by
  have hin : ∀ a, a ∈ Tc own (n - 1) x → a ∈ ord := fun a ha => (hoo a).mp (Tc_own hx ha)
  have hlen := Tc_len own (n - 1) x
  unfold okB GB
  rw [rl_Jn (by omega) (fun a ha => hA a (hin a ha)) hlen]
  constructor
  · rintro ⟨h1, h2⟩; exact ⟨pw_nodup (Tc_pw hpw hx), hin, hlen, h1, h2⟩
  · rintro ⟨-, -, -, h1, h2⟩; exact ⟨h1, h2⟩
theorem findBoundedM {N n k d : Nat} {fr to w : Nat → Nat} {pr : Nat → Bool} {ord : List Nat} {mn ma ml : Int32} {F T V H P0 OW0 CH0 D0 : Nat → Int32} {S0 : Int64} (hN : 2 ^ 31 ≤ N) (hG : GR n k fr to w pr ord) (hM : MR mn ma ml F T V H n k fr to w pr ord) (hn2 : 2 ≤ n) (hn7 : n ≤ 7) (hd : d ≤ 9) :
    Ok (f_Mo_findBounded N (nI d) mn ma S0 P0 H F T OW0 CH0 D0 V) (fun r => (2 ≤ cnt (kr fr to ord (fun v => v)) n → r.1 = -3) ∧ (cnt (kr fr to ord (fun v => v)) n ≤ 1 → ∃ best, r.1 = encB best ∧ (∀ m, best = some m → m ≤ 30000) ∧ Acc fr to w n d (pal pr 0 k) (n - 1) (fun _ => True) best r.2.2.1)) := by
  have hk := hG.2.1
  obtain ⟨P1, e1⟩ := partsM (N := N) (by omega) hG hM P0
  have hcn := cnt_le (kr fr to ord (fun v => v)) n
  have g1 : ¬ nI d < 0 := nI_pos (by omega)
  have g2 : nI d ≤ (9 : Int32) := nI_le (b := 9) hd (by omega)
  have g3 : mn ≤ (7 : Int32) := by rw [hM.1]; exact nI_le (b := 7) hn7 (by omega)
  simp only [f_Mo_findBounded, if_neg g1, if_pos g2, if_pos g3, e1, bk2]
  by_cases hc : cnt (kr fr to ord (fun v => v)) n ≤ 1
  · have g4 : nI (cnt (kr fr to ord (fun v => v)) n) ≤ (1 : Int32) := nI_le (b := 1) hc (by omega)
    have e2 : mn - (1 : Int32) = nI (n - 1) := by rw [hM.1]; exact nI_sub1 (by omega)
    have g5 : (1 : Int32) ≤ nI (n - 1) := nI_le (a := 1) (by omega) (by omega)
    simp only [if_pos g4, bn, e2, if_pos g5]
    rw [hM.1, hM.2.1]
    have hA : ∀ a, a < k → F a = nI (fr a) ∧ T a = nI (to a) ∧ H a = (if pr a = true then 1 else 0) ∧ fr a < n ∧ to a < n := hM.arcs hG
    refine Ok_mono (P := fun r => ∃ best, r.1 = encB best ∧ (∀ m, best = some m → m ≤ 30000) ∧ Acc fr to w n d (pal pr 0 k) (n - 1) (fun _ => True) best r.2.2.1) ?_ (fun r hr => ⟨fun h => by omega, fun _ => hr⟩)
    refine Ok_lo8 (fun e v2 v3 v4 P S OW CH D => ∃ i, i + e = k ∧ v2 = nI (n - 1) ∧ v3 = nI (pal pr 0 i).length ∧ v4 = nI i ∧ ∀ j, j < (pal pr 0 i).length → OW j = nI ((pal pr 0 i).getD j 0)) ?_ k N _ _ _ _ _ _ _ _ (by omega) ⟨0, by omega, rfl, rfl, rfl, fun j hj => absurd hj (Nat.not_lt_zero j)⟩
    rintro kk e v2 v3 v4 P S OW CH D ⟨i, he, rfl, rfl, rfl, hOW⟩ hkk
    have hpl := pal_len (p := pr) (d := i) (i := 0)
    by_cases hi : i = k
    · subst hi
      have hle : nI i ≤ nI i := nI_le (Nat.le_refl _) (by omega)
      simp only [g_Mo_findBounded_60, if_pos hle]
      refine Ok_lo9 (fun e v2 v3 v4 v5 P S OW' CH D => ∃ t, t + e = n - 1 ∧ v2 = nI (n - 1) ∧ v3 = nI (pal pr 0 i).length ∧ v4 = -3 ∧ v5 = nI t ∧ OW' = OW ∧ ∀ j, j < t → CH j = nI j) ?_ (n - 1) N _ _ _ _ _ _ _ _ _ (by omega) ⟨0, by omega, rfl, rfl, rfl, rfl, rfl, fun j hj => absurd hj (Nat.not_lt_zero j)⟩
      rintro kk2 e2 v2 v3 v4 v5 P2 S2 OW2 CH2 D2 ⟨t, ht, rfl, rfl, rfl, rfl, rfl, hCH⟩ hkk2
      by_cases htn : t = n - 1
      · have hle2 : nI (n - 1) ≤ nI t := nI_le (by omega) (by omega)
        simp only [g_Mo_findBounded_103, if_pos hle2]
        by_cases hfew : (pal pr 0 i).length < n - 1
        · rw [if_pos (nI_lt hfew (by omega))]
          refine Ok_lo9 (fun e v2 v3 v4 v5 P S OW' CH D => v4 = -3 ∧ v5 = 0) ?_ 0 N _ _ _ _ _ _ _ _ _ (by omega) ⟨rfl, rfl⟩
          rintro kk3 e3 v2 v3 v4 v5 P3 S3 OW3 CH3 D3 ⟨rfl, rfl⟩ hkk3
          simp only [g_Mo_findBounded_136, if_pos]
          refine Ok_some ⟨none, rfl, (fun m h => by cases h), fun _ x hx _ => ?_, (fun m h => by cases h)⟩
          have := Vc_le hx (i := 0) (by omega)
          omega
        · rw [if_neg (nI_nlt (by omega) (by omega))]
          rw [htn] at hCH
          refine enumM hN hG.1 hd (by omega) (by omega) (by omega) (by omega) pal_pw hOW hCH (fun a ha => ?_)
          have hak := pal_mem.mp ha
          obtain ⟨q1, q2, q3, q4, q5⟩ := hA a (by omega)
          have q6 := hG.2.2.2.1 a (by omega)
          exact ⟨by omega, q1, q2, (hM.2.2.2 a (by omega)).2.2.1, q4, q5, q6.2.2.1, q6.2.2.2⟩
      · have hle2 : ¬ nI (n - 1) ≤ nI t := nI_ge (by omega) (by omega)
        simp only [g_Mo_findBounded_103, if_neg hle2, gd_nI (show t < 10 by omega) (by decide), nI_clamp (show t < 2 ^ 31 by omega), bn, nI_1]
        refine hkk2 (e2 - 1) _ _ _ _ _ _ _ _ _ (by omega) ⟨t + 1, by omega, rfl, rfl, rfl, rfl, rfl, fun j hj => ?_⟩
        by_cases ej : j = t
        · rw [ej, upd_self]
        · rw [upd_ne _ _ ej]; exact hCH j (by omega)
    · have hik : i < k := by omega
      have hle : ¬ nI k ≤ nI i := nI_ge hik (by omega)
      obtain ⟨q1, q2, q3, q4, q5⟩ := hA i hik
      have hps := pal_succ (p := pr) (d := i) (i := 0)
      rw [Nat.zero_add] at hps
      simp only [g_Mo_findBounded_60, if_neg hle, gd_nI (show i < 30 by omega) (by decide), nI_clamp (show i < 2 ^ 31 by omega), q3, bn, nI_1]
      cases hp : pr i with
      | false =>
        rw [hp] at hps
        simp only [Bool.false_eq_true, if_false, List.append_nil] at hps
        simp only [Bool.false_eq_true, if_false, if_pos]
        exact hkk (e - 1) _ _ _ _ _ _ _ _ (by omega) ⟨i + 1, by omega, rfl, by rw [hps], rfl, by rw [hps]; exact hOW⟩
      | true =>
        rw [hp] at hps
        simp only [if_pos] at hps
        have n1 : ¬ (1 : Int32) = 0 := by decide
        simp only [if_pos, if_neg n1, gd_nI (show (pal pr 0 i).length < 30 by omega) (by decide), nI_clamp (show (pal pr 0 i).length < 2 ^ 31 by omega)]
        refine hkk (e - 1) _ _ _ _ _ _ _ _ (by omega) ⟨i + 1, by omega, rfl, ?_, rfl, fun j hj => ?_⟩
        · rw [hps, List.length_append]; rfl
        · rw [hps, List.length_append] at hj
          simp only [List.length_cons, List.length_nil] at hj
          rw [hps]
          by_cases ej : j = (pal pr 0 i).length
          · subst ej
            rw [upd_self, List.getD_eq_getElem?_getD, List.getElem?_append_right (Nat.le_refl _)]
            simp
          · rw [upd_ne _ _ ej, List.getD_eq_getElem?_getD, List.getElem?_append_left (by omega), ← List.getD_eq_getElem?_getD]
            exact hOW j (by omega)
  · have g4 : ¬ nI (cnt (kr fr to ord (fun v => v)) n) ≤ (1 : Int32) := nI_ge (a := 1) (by omega) (by omega)
    simp only [if_neg g4]
    exact Ok_some ⟨fun _ => rfl, fun h => absurd h hc⟩
theorem bound_of {p : Int32} (h1 : ¬ p < 0) (h2 : p ≤ (9 : Int32)) : ∃ d, d ≤ 9 ∧ p = nI d := by
  have e1 : ¬ p.toInt < 0 := fun g => h1 (Int32.lt_iff_toInt_lt.mpr g)
  have e2 : p.toInt ≤ 9 := Int32.le_iff_toInt_le.mp h2
  refine ⟨p.toInt.toNat, by omega, ?_⟩
  apply Int32.toInt_inj.mp
  unfold nI
  rw [Int32.toInt_ofNat']
  have e : Int32.size = 2 ^ 32 := by decide
  rw [e, Int.bmod_eq_of_le (by omega) (by omega)]
  omega
theorem bounded_both {N n k : Nat} {fr to w : Nat → Nat} {pr : Nat → Bool} {ord : List Nat} {gn gk gs mn ma ml : Int32} {gp : Int64} {F T V O : Nat → Int32} {n0 b0 p : Int32} {Mb M R : Nat → Nat → Int64} {F' T' V' H P0 OW0 CH0 D0 : Nat → Int32} {S0 : Int64} (hN : 2 ^ 31 ≤ N) (hG : GR n k fr to w pr ord) (hC : CR gn gk gs gp F T V O n k fr to w pr ord) (hM : MR mn ma ml F' T' V' H n k fr to w pr ord) :
    ∃ rc rm, f_RT_boundedCost N p gn gs n0 b0 Mb O F T V M R = some rc ∧ f_Mo_findBounded N p mn ma S0 P0 H F' T' OW0 CH0 D0 V' = some rm ∧ ((∃ c : Int64, rc.1 = c ∧ c < 0 ∧ rm.1 = c.toInt32 ∧ rm.1.toInt64 = c ∧ rm.1 < 0) ∨ (∃ T, T.Nodup ∧ (∀ a, a ∈ T → a < 30 ∧ w a ≤ 1000) ∧ rc.1 = cN (lsum (ce w) T) ∧ lsum (ce w) T < 2 ^ 60 ∧ rm.1 = nI (lsum w T) ∧ bl rm.2.2.1 = inT T)) := by
  have hn := hG.1
  have hk := hG.2.1
  by_cases h1 : p < 0
  · refine ⟨(-2, n0, b0, Mb, M, R), (-2, P0, S0, OW0, CH0, D0), ?_, ?_, Or.inl ⟨-2, rfl, by decide, (show (-2 : Int32) = (-2 : Int64).toInt32 by decide), (show (-2 : Int32).toInt64 = (-2 : Int64) by decide), (show (-2 : Int32) < 0 by decide)⟩⟩
    · simp only [f_RT_boundedCost, if_pos h1]
    · simp only [f_Mo_findBounded, if_pos h1]
  · by_cases h2 : p ≤ (9 : Int32)
    · obtain ⟨d, hd, rfl⟩ := bound_of h1 h2
      by_cases h7 : n ≤ 7
      · have g3 : gn ≤ (7 : Int32) := by rw [hC.1]; exact nI_le (b := 7) h7 (by omega)
        have g3m : mn ≤ (7 : Int32) := by rw [hM.1]; exact nI_le (b := 7) h7 (by omega)
        have x1 : (if (7 : Int32) < nI n then (7 : Int32) else nI n) = nI n := if_neg (nI_nlt (a := 7) (b := n) h7 (by omega))
        by_cases hn2 : 2 ≤ n
        · have hA := hC.arcs hG
          have hAo : ∀ a, a ∈ ord → fr a < n ∧ to a < n := fun a ha => (hA a ha).2.2.2
          have hne : ∀ a, a ∈ ord → fr a ≠ to a := fun a ha => (hG.2.2.2.1 a ((hG.2.2.2.2.2 a).mp ha).1).2.2.1
          have hV : ∀ a, a ∈ ord → V a = nI (w a) ∧ w a ≤ 1000 := fun a ha => by
            have hk := ((hG.2.2.2.2.2 a).mp ha).1
            exact ⟨(hC.2.2.2.2.1 a hk).2.2, (hG.2.2.2.1 a hk).2.2.2⟩
          have h30 : ∀ a, a ∈ ord → a < 30 := fun a ha => (hA a ha).1
          have hoo : ∀ a, a ∈ pal pr 0 k ↔ a ∈ ord := fun a => by
            rw [pal_mem, hG.2.2.2.2.2 a]
            exact ⟨fun h => ⟨by omega, h.2.2⟩, fun h => ⟨by omega, by omega, h.2⟩⟩
          have hpl := pal_len (p := pr) (d := k) (i := 0)
          have hpw := pal_pw (p := pr) (d := k) (i := 0)
          obtain ⟨rm, m1, m2, m3⟩ := findBoundedM (S0 := S0) (P0 := P0) (OW0 := OW0) (CH0 := CH0) (D0 := D0) hN hG hM hn2 h7 hd
          -- where no set is as it must be, both say so
          have hnone : (∀ T, ¬ GB fr to n d ord T) → rm.1 = -3 := by
            intro hno
            by_cases hc : cnt (kr fr to ord (fun v => v)) n ≤ 1
            · obtain ⟨best, b1, -, b2, b3⟩ := m3 hc
              cases best with
              | none => exact b1
              | some m =>
                obtain ⟨y, y1, -, y2, -⟩ := b3 m rfl
                exact absurd ((okB_GB hn2 hpw hoo hAo y1).mp y2) (hno _)
            · exact m2 (by omega)
          by_cases hd0 : d = 0
          · subst hd0
            have hno : ∀ T, ¬ GB fr to n 0 ord T := by
              rintro T ⟨t1, t2, t3, t4, t5⟩
              cases T with
              | nil => simp at t3; omega
              | cons a T =>
                have g := dgr_pos (fr := fr) (to := to) (T := a :: T) (u := fr a) (List.mem_cons_self ..) (Or.inl rfl)
                have := t5 (fr a) (hAo a (t2 a (List.mem_cons_self ..))).1
                omega
            have hr := hnone hno
            have x2 : (1 : Int32) < nI n := nI_lt (a := 1) (by omega) (by omega)
            have x3 : ¬ (0 : Int32) < nI 0 := by decide
            have hlt : ¬ lg_cmp (1152921504606846976 : Int64) (1152921504606846976 : Int64) < 0 := by decide
            refine ⟨(-3, nI n, b0, Mb, M, R), rm, ?_, m1, Or.inl ⟨-3, rfl, by decide, by rw [hr]; decide, by rw [hr]; decide, by rw [hr]; decide⟩⟩
            simp only [f_RT_boundedCost, if_neg h1, if_pos h2, if_pos g3]
            rw [hC.1]
            simp only [f_BoundedTrees_leastCost, bn, x1, if_pos x2, if_neg x3, bk6, if_neg hlt]
          · obtain ⟨⟨r1, r2, r3, r4, r5, r6⟩, c1, x, c2, c3⟩ := leastB (N := N) (d := d) (Mb0 := Mb) (M0 := M) (R0 := R) (b0 := b0) (by omega) h7 hn2 (by omega) hd (by have := hG.2.2.1; omega) hC.2.2.2.2.2 hA hne hV
            have c2 : r1 = cN x := c2
            rcases c3 with ⟨q1, q2⟩ | ⟨q1, ⟨Ts, t1, t2⟩, q3⟩
            · have hno : ∀ T, ¬ GB fr to n d ord T := fun T hT => q2 T ((Tr_GB hn2 hAo hne).mpr hT)
              have hr := hnone hno
              have hlt : ¬ lg_cmp r1 (1152921504606846976 : Int64) < 0 := by
                rw [lg_cmp_lt, c2, cN_60, cN_lt (by omega) (by omega)]
                omega
              refine ⟨(-3, r2, r3, r4, r5, r6), rm, ?_, m1, Or.inl ⟨-3, rfl, by decide, by rw [hr]; decide, by rw [hr]; decide, by rw [hr]; decide⟩⟩
              simp only [f_RT_boundedCost, if_neg h1, if_pos h2, if_pos g3]
              rw [hC.1, hC.2.2.1, c1]
              simp only [bk6, if_neg hlt]
            · have hlt : lg_cmp r1 (1152921504606846976 : Int64) < 0 := by
                rw [lg_cmp_lt, c2, cN_60, cN_lt (by omega) (by omega)]
                omega
              have hGs := (Tr_GB hn2 hAo hne).mp t1
              have hc := GB_cnt hGs
              obtain ⟨best, b1, b4, b2, b3⟩ := m3 hc
              -- the choice that tells the class's set
              obtain ⟨xs, xs1, xs2⟩ := Tc_of (need := n - 1) hpw (fun a ha => h30 a ((hoo a).mp ha)) hGs.1 (fun a ha => (hoo a).mpr (hGs.2.1 a ha)) hGs.2.2.1
              have hGx := GB_mem h30 hGs (pw_nodup (Tc_pw hpw xs1)) xs2
              have hokx := (okB_GB hn2 hpw hoo hAo xs1).mpr hGx
              have hws : lsum w (Tc (pal pr 0 k) (n - 1) xs) = lsum w Ts := lsum_mem hGs.1 (pw_nodup (Tc_pw hpw xs1)) (fun a ha => h30 a (hGs.2.1 a ha)) xs2
              have hinx : inT (Tc (pal pr 0 k) (n - 1) xs) = inT Ts := by
                funext a
                unfold inT
                rw [decide_eq_decide]
                exact xs2 a
              refine ⟨(r1, r2, r3, r4, r5, r6), rm, ?_, m1, Or.inr ⟨Ts, hGs.1, fun a ha => ⟨h30 a (hGs.2.1 a ha), (hV a (hGs.2.1 a ha)).2⟩, by rw [t2]; exact c2, by omega, ?_⟩⟩
              · simp only [f_RT_boundedCost, if_neg h1, if_pos h2, if_pos g3]
                rw [hC.1, hC.2.2.1, c1]
                simp only [bk6, if_pos hlt]
              · cases best with
                | none => exact absurd hokx (b2 rfl xs xs1 trivial)
                | some m =>
                  obtain ⟨y, y1, -, y2, y3, y4, y5⟩ := b3 m rfl
                  have hGy := (okB_GB hn2 hpw hoo hAo y1).mp y2
                  have hcl := cost_le hGs.1 (fun a ha => h30 a (hGs.2.1 a ha)) hGy.1 (fun a ha => h30 a (hGy.2.1 a ha)) (by rw [t2]; exact q3 _ ((Tr_GB hn2 hAo hne).mpr hGy))
                  rw [hGs.2.2.1, hGy.2.2.1, y3] at hcl
                  have hwm : m = lsum w Ts ∧ m32 y (n - 1) ≤ m32 xs (n - 1) := by
                    rcases y5 xs xs1 trivial hokx with g | ⟨g1, g2⟩
                    · rw [hws] at g; omega
                    · rw [hws] at g1; exact ⟨g1, g2⟩
                  have hmr := hcl.2 (by omega)
                  have heq : m32 y (n - 1) = m32 xs (n - 1) := by
                    rcases Nat.lt_or_eq_of_le hwm.2 with g | g
                    · have := Tc_first hpw (fun a ha => h30 a ((hoo a).mp ha)) (by omega) xs1 y1 g
                      rw [hinx] at this
                      omega
                    · exact g
                  have hTT := Tc_congr (own := pal pr 0 k) (m32_inj (fun j hj => by have := y1.1 j hj; omega) (fun j hj => by have := xs1.1 j hj; omega) heq)
                  refine ⟨by rw [b1, ← hwm.1]; rfl, ?_⟩
                  rw [y4, hTT, hinx]
        · -- one node or none
          obtain ⟨P1, e1⟩ := partsM (N := N) (by omega) hG hM P0
          have hcn := cnt_le (kr fr to ord (fun v => v)) n
          have g4 : nI (cnt (kr fr to ord (fun v => v)) n) ≤ (1 : Int32) := nI_le (b := 1) (by omega) (by omega)
          have x2 : ¬ (1 : Int32) < nI n := nI_nlt (a := 1) (b := n) (by omega) (by omega) |> fun h => h
          have g5 : ¬ (1 : Int32) ≤ mn - 1 := by
            rw [hM.1]
            have : n = 0 ∨ n = 1 := by omega
            rcases this with h | h
            · rw [h]; decide
            · rw [h]; decide
          have hlt : lg_cmp (0 : Int64) (1152921504606846976 : Int64) < 0 := by decide
          refine ⟨(0, nI n, b0, Mb, M, R), (0, P1, 0, OW0, CH0, D0), ?_, ?_, Or.inr ⟨[], List.Pairwise.nil, fun a ha => by simp at ha, cN_0, by simp [lsum], rfl, by funext a; rw [bl_0]; simp [inT]⟩⟩
          · simp only [f_RT_boundedCost, if_neg h1, if_pos h2, if_pos g3]
            rw [hC.1]
            simp only [f_BoundedTrees_leastCost, bn, x1, if_neg x2, bk6, if_pos hlt]
          · simp only [f_Mo_findBounded, if_neg h1, if_pos h2, if_pos g3m, e1, bk2, if_pos g4, bn, if_neg g5]
      · have g3 : ¬ gn ≤ (7 : Int32) := by rw [hC.1]; exact nI_ge (a := 7) (by omega) (by omega)
        have g3m : ¬ mn ≤ (7 : Int32) := by rw [hM.1]; exact nI_ge (a := 7) (by omega) (by omega)
        refine ⟨(-4, n0, b0, Mb, M, R), (-4, P0, S0, OW0, CH0, D0), ?_, ?_, Or.inl ⟨-4, rfl, by decide, (show (-4 : Int32) = (-4 : Int64).toInt32 by decide), (show (-4 : Int32).toInt64 = (-4 : Int64) by decide), (show (-4 : Int32) < 0 by decide)⟩⟩
        · simp only [f_RT_boundedCost, if_neg h1, if_pos h2, if_neg g3]
        · simp only [f_Mo_findBounded, if_neg h1, if_pos h2, if_neg g3m]
    · refine ⟨(-2, n0, b0, Mb, M, R), (-2, P0, S0, OW0, CH0, D0), ?_, ?_, Or.inl ⟨-2, rfl, by decide, (show (-2 : Int32) = (-2 : Int64).toInt32 by decide), (show (-2 : Int32).toInt64 = (-2 : Int64) by decide), (show (-2 : Int32) < 0 by decide)⟩⟩
      · simp only [f_RT_boundedCost, if_neg h1, if_neg h2]
      · simp only [f_Mo_findBounded, if_neg h1, if_neg h2]
theorem st_bounded {N : Nat} (hN : 2 ^ 31 ≤ N) : St_bounded N InvC := by
  intro t_graph_nodes t_graph_numbered t_graph_size t_graph_present t_graph_from t_graph_to t_graph_weight t_graph_order t_forests_nextWeight t_forests_nextIn t_forests_nextOut t_forests_labels_nodes t_forests_labels_groups t_forests_labels_label t_forests_treeCount_groupOf t_forests_treeCount_links t_forests_treeCount_rows t_forests_treeCount_minor t_forests_heaviest t_boundedTrees_nodes t_boundedTrees_bound t_boundedTrees_between t_boundedTrees_branches t_boundedTrees_branch t_treesFromRoot_nodes t_treesFromRoot_arcs t_treesFromRoot_root t_treesFromRoot_tail t_treesFromRoot_head t_treesFromRoot_cost t_treesFromRoot_leastInto t_treesFromRoot_before t_treesFromRoot_group t_joiningTrees_labels_nodes t_joiningTrees_labels_groups t_joiningTrees_labels_label t_nodes t_arcs t_left t_swapIn t_swapOut t_boundedSet t_joinedSet t_froms t_tos t_weights t_there t_part t_low t_row t_matrix t_own t_chosen t_degrees t_fixed t_grown t_costs t_order p1 hI
  obtain ⟨n, k, fr, to, w, pr, ord, hG, hC, hM⟩ := hI
  obtain ⟨⟨r1, r2, r3, r4, r5, r6⟩, ⟨q1, q2, q3, q4, q5, q6⟩, e1, e2, hc⟩ := bounded_both (n0 := t_boundedTrees_nodes) (b0 := t_boundedTrees_bound) (Mb := t_boundedTrees_between) (M := t_boundedTrees_branches) (R := t_boundedTrees_branch) (p := p1) (S0 := t_boundedSet) (P0 := t_part) (OW0 := t_own) (CH0 := t_chosen) (D0 := t_degrees) hN hG hC hM
  refine ⟨q1, r2, r3, r4, r5, r6, q2, q3, q4, q5, q6, ?_, ?_, ⟨n, k, fr, to, w, pr, ord, hG, hC, hM⟩⟩
  · rcases hc with ⟨c, c1, c2, c3, c4, c5⟩ | ⟨T, t1, t2, t3, t4, t5, t6⟩
    · have c1' : r1 = c := c1
      have c3' : q1 = c.toInt32 := c3
      have hlt : ¬ (0 : Int32) ≤ lg_cmp r1 0 := by
        rw [lg_cmp_ge, c1']
        exact lg_lt_not_le c2
      simp only [f_RT_bounded, e1, bk6, if_neg hlt]
      rw [c3', c1']
    · have t3' : r1 = cN (lsum (ce w) T) := t3
      have t5' : q1 = nI (lsum w T) := t5
      have hlt : (0 : Int32) ≤ lg_cmp r1 0 := by
        rw [lg_cmp_ge, t3', cN_0, cN_le (by omega) (by omega)]
        omega
      simp only [f_RT_bounded, e1, bk6, if_pos hlt, t5']
      rw [t3', weightIn_f t1 t2]
      rfl
  · simp only [f_Mo_bounded, e2, bk6]
theorem st_boundedSet {N : Nat} (hN : 2 ^ 31 ≤ N) : St_boundedSet N InvC := by
  intro t_graph_nodes t_graph_numbered t_graph_size t_graph_present t_graph_from t_graph_to t_graph_weight t_graph_order t_forests_nextWeight t_forests_nextIn t_forests_nextOut t_forests_labels_nodes t_forests_labels_groups t_forests_labels_label t_forests_treeCount_groupOf t_forests_treeCount_links t_forests_treeCount_rows t_forests_treeCount_minor t_forests_heaviest t_boundedTrees_nodes t_boundedTrees_bound t_boundedTrees_between t_boundedTrees_branches t_boundedTrees_branch t_treesFromRoot_nodes t_treesFromRoot_arcs t_treesFromRoot_root t_treesFromRoot_tail t_treesFromRoot_head t_treesFromRoot_cost t_treesFromRoot_leastInto t_treesFromRoot_before t_treesFromRoot_group t_joiningTrees_labels_nodes t_joiningTrees_labels_groups t_joiningTrees_labels_label t_nodes t_arcs t_left t_swapIn t_swapOut t_boundedSet t_joinedSet t_froms t_tos t_weights t_there t_part t_low t_row t_matrix t_own t_chosen t_degrees t_fixed t_grown t_costs t_order p1 hI
  obtain ⟨n, k, fr, to, w, pr, ord, hG, hC, hM⟩ := hI
  obtain ⟨⟨r1, r2, r3, r4, r5, r6⟩, ⟨q1, q2, q3, q4, q5, q6⟩, e1, e2, hc⟩ := bounded_both (n0 := t_boundedTrees_nodes) (b0 := t_boundedTrees_bound) (Mb := t_boundedTrees_between) (M := t_boundedTrees_branches) (R := t_boundedTrees_branch) (p := p1) (S0 := t_boundedSet) (P0 := t_part) (OW0 := t_own) (CH0 := t_chosen) (D0 := t_degrees) hN hG hC hM
  rcases hc with ⟨c, c1, c2, c3, c4, c5⟩ | ⟨T, t1, t2, t3, t4, t5, t6⟩
  · have c1' : r1 = c := c1
    have c4' : q1.toInt64 = c := c4
    have c5' : q1 < 0 := c5
    refine ⟨c, r2, r3, r4, r5, r6, q2, q3, q4, q5, q6, ?_, ?_, ⟨n, k, fr, to, w, pr, ord, hG, hC, hM⟩⟩
    · have hlt : ¬ (0 : Int32) ≤ lg_cmp r1 0 := by
        rw [lg_cmp_ge, c1']
        exact lg_lt_not_le c2
      simp only [f_RT_boundedSet, e1, bk6, if_neg hlt]
      rw [c1']
    · have hlt : ¬ (0 : Int32) ≤ q1 := by
        rw [Int32.le_iff_toInt_le]
        rw [Int32.lt_iff_toInt_lt] at c5'
        omega
      simp only [f_Mo_boundedSet, e2, bk6, if_neg hlt, c4']
  · have t3' : r1 = cN (lsum (ce w) T) := t3
    have t5' : q1 = nI (lsum w T) := t5
    have t6' : bl q3 = inT T := t6
    obtain ⟨S, s1, s2⟩ := setIn_f (N := N) (w := w) (by omega) t1 t2
    have es : S = q3 := bl_ext (fun b _ => by rw [s2, t6'])
    refine ⟨q3, r2, r3, r4, r5, r6, q2, q3, q4, q5, q6, ?_, ?_, ⟨n, k, fr, to, w, pr, ord, hG, hC, hM⟩⟩
    · have hlt : (0 : Int32) ≤ lg_cmp r1 0 := by
        rw [lg_cmp_ge, t3', cN_0, cN_le (by omega) (by omega)]
        omega
      simp only [f_RT_boundedSet, e1, bk6, if_pos hlt]
      rw [t3', s1, es]
      rfl
    · have hl := len30 t1 (fun a ha => (t2 a ha).1)
      have hl2 := lsum_le (c := w) (B := 1000) T (fun a ha => (t2 a ha).2)
      have hlt : (0 : Int32) ≤ q1 := by
        rw [t5']
        exact nI_pos' (by omega)
      simp only [f_Mo_boundedSet, e2, bk6, if_pos hlt]
