/-! joined and joinedSet -/
theorem nI_div64 {x : Nat} (h : x < 2 ^ 31) : nI x / (64 : Int32) = nI (x / 64) := by
  have e1 : Int32.minValue.toInt = -(2 ^ 31) := by decide
  have e2 : Int32.maxValue.toInt = 2 ^ 31 - 1 := by decide
  have e3 : nI x = Int32.ofInt (x : Int) := by unfold nI; rw [← Int32.ofInt_eq_ofNat]
  have e4 : (64 : Int32) = Int32.ofInt 64 := by decide
  have e5 : nI (x / 64) = Int32.ofInt ((x : Int).tdiv 64) := by
    unfold nI
    rw [← Int32.ofInt_eq_ofNat, Int.ofNat_tdiv]
    rfl
  rw [e5, Int32.ofInt_tdiv (by rw [e1]; omega) (by rw [e2]; omega) (by rw [e1]; omega) (by rw [e2]; omega), ← e3, ← e4]
theorem nz64 : nzI (64 : Int32) = true := by decide
theorem nI_mul64 (x : Nat) : (64 : Int32) * nI x + 1 = nI (64 * x + 1) := by
  have e : (64 : Int32) = nI 64 := rfl
  have e2 : nI 64 * nI x = nI (64 * x) := (Int32.ofNat_mul 64 x).symm
  rw [e, e2]
  exact nI_1 _
theorem bi_inj {x y : Nat} (hx : x < 2 ^ 31) (hy : y < 2 ^ 31) (h : ∀ v, bi (nI x) v = bi (nI y) v) : x = y := (nI_eq hx hy).mp (bi_ext (funext h))
theorem pos_bit {e : Nat} (he : e < 2 ^ 31) (h0 : e ≠ 0) : ∃ u0, bi (nI e) u0 = true := by
  apply Classical.byContradiction
  intro h
  apply h0
  apply Nat.eq_of_testBit_eq
  intro v
  rw [Nat.zero_testBit]
  cases hv : e.testBit v with
  | false => rfl
  | true => exact absurd ⟨v, by rw [bi_nI he]; exact hv⟩ h
theorem or_bit {n o a : Nat} (hn : n ≤ 10) (ho : o < 2 ^ n) (ha : a < n) : ∃ o', o' < 2 ^ n ∧ nI o ||| ((1 : Int32) <<< (nI a &&& 31)) = nI o' := by
  have h1 := p10 hn
  obtain ⟨x, x1, x2⟩ := num_of n (fun v => bi (nI o) v || decide (a = v))
  refine ⟨x, x1, ?_⟩
  apply bi_ext
  rw [bi_or _ (by omega)]
  funext v
  rw [bi_nI (m := x) (by omega)]
  by_cases hv : v < n
  · exact (x2 v hv).symm
  · have h2 : x < 2 ^ v := Nat.lt_of_lt_of_le x1 (Nat.pow_le_pow_right (by omega) (by omega))
    rw [Nat.testBit_lt_two_pow h2]
    cases hb : bi (nI o) v with
    | true => exact absurd (bi_lt hn ho hb) hv
    | false =>
      have : ¬ a = v := by omega
      simp [this]
theorem ends_of {n : Nat} (hn : n ≤ 10) {p : Int32} (h : (p &&& (nI (2 ^ n - 1) ^^^ (-1 : Int32))) = 0) : ∃ e, e < 2 ^ n ∧ p = nI e := by
  have h1 := p10 hn
  refine ⟨p.toBitVec.toNat, ?_, ?_⟩
  · apply Nat.lt_pow_two_of_testBit
    intro i hi
    have hb : bi (p &&& (nI (2 ^ n - 1) ^^^ (-1 : Int32))) i = false := by rw [h]; simp [bi]
    have hb2 : (nI (2 ^ n - 1)).toBitVec.getLsbD i = false := by
      have := bi_nI (m := 2 ^ n - 1) (v := i) (by omega)
      unfold bi at this
      rw [this, Nat.testBit_two_pow_sub_one]
      simp
      omega
    unfold bi at hb
    rw [Int32.toBitVec_and, BitVec.getLsbD_and, Int32.toBitVec_xor, BitVec.getLsbD_xor, hb2] at hb
    by_cases h32 : i < 32
    · have h3 : (-1 : Int32).toBitVec.getLsbD i = true := by
        have : (-1 : Int32).toBitVec = BitVec.allOnes 32 := by decide
        rw [this, BitVec.getLsbD_allOnes]
        simp [h32]
      rw [h3] at hb
      have hb3 : p.toBitVec.getLsbD i = false := by simpa using hb
      exact hb3
    · exact BitVec.getLsbD_of_ge _ _ (by omega)
  · apply Int32.toBitVec_inj.mp
    unfold nI
    rw [Int32.toBitVec_ofNat', BitVec.ofNat_toNat, BitVec.setWidth_eq]
theorem ends_ok {n e : Nat} (hn : n ≤ 10) (he : e < 2 ^ n) : (nI e &&& (nI (2 ^ n - 1) ^^^ (-1 : Int32))) = 0 := by
  have h1 := p10 hn
  apply bi_ext
  funext v
  have e1 := bi_nI (m := e) (v := v) (by omega)
  have e2 := bi_nI (m := 2 ^ n - 1) (v := v) (by omega)
  unfold bi at *
  rw [Int32.toBitVec_and, BitVec.getLsbD_and, Int32.toBitVec_xor, BitVec.getLsbD_xor, e1, e2, Nat.testBit_two_pow_sub_one]
  by_cases hv : v < n
  · have h3 : (-1 : Int32).toBitVec.getLsbD v = true := by
      have : (-1 : Int32).toBitVec = BitVec.allOnes 32 := by decide
      rw [this, BitVec.getLsbD_allOnes]
      simp
      omega
    rw [h3]
    simp [hv]
  · have h2 : e < 2 ^ v := Nat.lt_of_lt_of_le he (Nat.pow_le_pow_right (by omega) (by omega))
    rw [Nat.testBit_lt_two_pow h2]
    simp
theorem ord_nodup {n k : Nat} {fr to w : Nat → Nat} {pr : Nat → Bool} {ord : List Nat} (hG : GR n k fr to w pr ord) : ord.Nodup := List.Pairwise.imp (fun {a b} (h : ah w a b) (g : a = b) => by subst g; exact ah_irr h) hG.2.2.2.2.1
theorem joinedCostC {N n k e : Nat} {fr to w : Nat → Nat} {pr : Nat → Bool} {ord : List Nat} {gn gk gs : Int32} {gp : Int64} {F T V O L : Nat → Int32} {l1 l2 : Int32} (hN : 2000 ≤ N) (hG : GR n k fr to w pr ord) (hC : CR gn gk gs gp F T V O n k fr to w pr ord) (he : e < 2 ^ n) (h0 : e ≠ 0) :
    Ok (f_RT_joinedCost N (nI e) gn gs l1 l2 L O F T V) (fun r => (r.1 = -3 ∧ ∀ T : List Nat, (∀ a, a ∈ T → a ∈ ord) → ¬ Jn fr to (bi (nI e)) T) ∨ (∃ s T, Bt fr to w (bi (nI e)) s ord T ∧ r.1 = cN (lsum (ce w) T) ∧ lsum (ce w) T < 2 ^ 60)) := by
  have hn := hG.1
  have h1 := p10 hn
  have hA := hC.arcs hG
  have hV : ∀ a, a ∈ ord → V a = nI (w a) ∧ w a ≤ 1000 := fun a ha => by
    have hk := ((hG.2.2.2.2.2 a).mp ha).1
    exact ⟨(hC.2.2.2.2.1 a hk).2.2, (hG.2.2.2.1 a hk).2.2.2⟩
  have hle : ¬ nI e ≤ 0 := nI_ge (a := 0) (by omega) (by omega)
  have hle2 : nI e ≤ nI (2 ^ n - 1) := nI_le (by omega) (by omega)
  rw [hC.1, hC.2.2.1]
  simp only [f_RT_joinedCost, if_neg hle, f_Graph_allNodes, bk1, (all_nI n hn).2, if_pos hle2]
  refine Ok_bk4 (leastJ (fr := fr) (to := to) (w := w) hN hn (by have := hG.2.2.1; have := hG.2.1; omega) hC.2.2.2.2.2 hA hV hG.2.2.2.2.1 he (pos_bit (by omega) h0)) ?_
  rintro r ⟨rv, r1, ⟨r2, r3⟩ | ⟨r2, r3⟩⟩
  · have hc : ¬ lg_cmp r.1 (1152921504606846976 : Int64) < 0 := by
      rw [lg_cmp_lt, r1, cN_60, cN_lt (by omega) (by omega)]
      omega
    rw [if_neg hc]
    exact Ok_some (Or.inl ⟨rfl, r3⟩)
  · have hc : lg_cmp r.1 (1152921504606846976 : Int64) < 0 := by
      rw [lg_cmp_lt, r1, cN_60, cN_lt (by omega) (by omega)]
      omega
    rw [if_pos hc]
    obtain ⟨s, T, t1, t2⟩ := Bt_of (ord_nodup hG) r3
    exact Ok_some (Or.inr ⟨s, T, t1, by rw [← t2]; exact r1, by omega⟩)
/-- which arcs may still be taken, and what they cost, when those below i are fixed -/
def ali (T : List Nat) (pr : Nat → Bool) (i : Nat) (a : Nat) : Bool := if a < i then decide (a ∈ T) else pr a
def csi (w : Nat → Nat) (i : Nat) (a : Nat) : Nat := if a < i then 0 else c64 w a
theorem findJoinedM {N n k e : Nat} {fr to w : Nat → Nat} {pr : Nat → Bool} {ord : List Nat} {mn ma ml : Int32} {F T V H C0 O P : Nat → Int32} {S0 : Int64} (hN : 2000 ≤ N) (hG : GR n k fr to w pr ord) (hM : MR mn ma ml F T V H n k fr to w pr ord) (he : e < 2 ^ n) (h0 : e ≠ 0) (hX : (∀ T : List Nat, (∀ a, a ∈ T → a ∈ ord) → ¬ Jn fr to (bi (nI e)) T) ∨ ∃ s T, Bt fr to w (bi (nI e)) s ord T) :
    Ok (f_Mo_findJoined N (nI e) mn ma S0 H V C0 O P F T) (fun r => ((∀ T : List Nat, (∀ a, a ∈ T → a ∈ ord) → ¬ Jn fr to (bi (nI e)) T) → r.1 = -3) ∧ ∀ s T, Bt fr to w (bi (nI e)) s ord T → r.1 = nI (lsum w T) ∧ bl r.2.2.2.2 = inT T) := by
  have hn := hG.1
  have hk := hG.2.1
  have h1 := p10 hn
  have hA : ∀ a, a < k → F a = nI (fr a) ∧ T a = nI (to a) ∧ fr a < n ∧ to a < n := fun a ha => by
    obtain ⟨q1, q2, q3, q4, q5⟩ := hM.arcs hG a ha
    exact ⟨q1, q2, q4, q5⟩
  have h30 : ∀ a, a ∈ ord → a < 30 := fun a ha => by have := ((hG.2.2.2.2.2 a).mp ha).1; omega
  have hne : ¬ nI e = 0 := fun h => h0 ((nI_eq (a := e) (b := 0) (by omega) (by omega)).mp h)
  rw [hM.1, hM.2.1]
  simp only [f_Mo_findJoined, if_neg hne, (all_nI n hn).2, if_pos (ends_ok hn he)]
  refine Ok_lo5 (fun d v2 C _ _ _ => ∃ i, i + d = k ∧ v2 = nI i ∧ CO i pr (c64 w) C) ?_ k N _ _ _ _ _ (by omega) ⟨0, by omega, rfl, fun a ha => absurd ha (Nat.not_lt_zero a)⟩
  rintro kk d v2 C O1 P1 S1 ⟨i, hd, rfl, hC⟩ hkk
  by_cases hi : i = k
  · subst hi
    have hle : nI i ≤ nI i := nI_le (Nat.le_refl _) (by omega)
    simp only [g_Mo_findJoined_24, if_pos hle]
    refine Ok_bk3 (costM hN hn hk hC hA he (pos_bit (by omega) h0)) ?_
    rintro r ⟨l, hl, ⟨r1, r2⟩ | ⟨rv, r1, r2, r3⟩⟩
    · have hlt : ¬ (0 : Int32) ≤ r.1 := by rw [r1]; decide
      rw [if_neg hlt]
      refine Ok_some ⟨fun _ => rfl, fun s T hB => absurd (Bt_e hB) (r2 T (fun a ha => ?_))⟩
      exact (hl.1 a).mpr ((hG.2.2.2.2.2 a).mp (hB.2.1 a ha))
    · have hlt : (0 : Int32) ≤ r.1 := by rw [r1]; exact nI_pos' (by omega)
      rw [if_pos hlt]
      have hlo : ∀ a, a ∈ l ↔ a ∈ ord := fun a => by rw [hl.1 a, hG.2.2.2.2.2 a]
      -- is there a best list?
      by_cases hB0 : ∃ s T, Bt fr to w (bi (nI e)) s ord T
      · obtain ⟨s, T0, hB⟩ := hB0
        have hrv := Bt_64 hB h30 hlo hl.2.1 r3
        have hmin : ∀ U : List Nat, (∀ a, a ∈ U → a ∈ ord) → Jn fr to (bi (nI e)) U → lsum (c64 w) T0 ≤ lsum (c64 w) U := fun U hU hj => by
          rw [← hrv]; exact r3.2 U (fun a ha => (hlo a).mpr (hU a ha)) hj
        have hT30 := len30 (m := 30) hB.1 (fun a ha => h30 a (hB.2.1 a ha))
        have h64 := lsum64 w T0
        -- two best lists are the same set and weigh the same
        have huniq : ∀ s' T', Bt fr to w (bi (nI e)) s' ord T' → lsum w T' = lsum w T0 ∧ inT T' = inT T0 := by
          intro s' T' hB'
          have g1 := hB.2.2.2.2.2 T' hB'.2.1 (Bt_e hB')
          have g2 := hB'.2.2.2.2.2 T0 hB.2.1 (Bt_e hB)
          have g3 := cost_le hB.1 (fun a ha => h30 a (hB.2.1 a ha)) hB'.1 (fun a ha => h30 a (hB'.2.1 a ha)) g1
          have g4 := cost_le hB'.1 (fun a ha => h30 a (hB'.2.1 a ha)) hB.1 (fun a ha => h30 a (hB.2.1 a ha)) g2
          have hT30' := len30 (m := 30) hB'.1 (fun a ha => h30 a (hB'.2.1 a ha))
          refine ⟨by omega, ?_⟩
          have hmr : mr (inT T') 30 = mr (inT T0) 30 := by
            have q1 := g3.2 (by omega)
            have q2 := g4.2 (by omega)
            omega
          funext a
          by_cases ha : a < 30
          · rw [← mr_bit (inT T') 30 a ha, ← mr_bit (inT T0) 30 a ha, hmr]
          · have q1 : inT T' a = false := by
              unfold inT
              simp only [decide_eq_false_iff_not]
              exact fun h => ha (h30 a (hB'.2.1 a h))
            have q2 : inT T0 a = false := by
              unfold inT
              simp only [decide_eq_false_iff_not]
              exact fun h => ha (h30 a (hB.2.1 a h))
            rw [q1, q2]
        have hQ : ∀ rr : Int32 × (Nat → Int32) × (Nat → Int32) × (Nat → Int32) × Int64, rr.1 = nI (lsum w T0) → bl rr.2.2.2.2 = inT T0 → ((∀ T : List Nat, (∀ a, a ∈ T → a ∈ ord) → ¬ Jn fr to (bi (nI e)) T) → rr.1 = -3) ∧ ∀ s T, Bt fr to w (bi (nI e)) s ord T → rr.1 = nI (lsum w T) ∧ bl rr.2.2.2.2 = inT T := by
          intro rr q1 q2
          refine ⟨fun h => absurd (Bt_e hB) (h T0 hB.2.1), fun s' T' hB' => ?_⟩
          obtain ⟨u1, u2⟩ := huniq s' T' hB'
          rw [u1, u2]
          exact ⟨q1, q2⟩
        rw [r1]
        have hdiv : nI rv / (64 : Int32) = nI (lsum w T0) := by
          rw [nI_div64 (by omega), hrv, h64]
          congr 1
          omega
        refine Ok_lo8 (fun d v2 v3 v4 v5 C' _ _ S => ∃ j o, j + d = i ∧ v2 = nI rv ∧ v3 = nI (lsum (c64 w) (frm j T0)) ∧ o < 2 ^ n ∧ v4 = nI o ∧ (∀ v, bi (nI o) v = true → s v = true) ∧ (∀ v, bi (nI e) v = true → bi (nI o) v = true) ∧ v5 = nI j ∧ CO i (ali T0 pr j) (csi w j) C' ∧ bl S = fun a => decide (a < j) && inT T0 a) ?_ i N _ _ _ _ _ _ _ _ (by omega) ⟨0, e, by omega, rfl, ?_, he, rfl, hB.2.2.2.1, fun v h => h, rfl, hC, ?_⟩
        · rintro kk2 d2 v2 v3 v4 v5 C' O2 P2 S ⟨j, o, hd2, rfl, rfl, ho, rfl, hos, heo, rfl, hC', hS⟩ hkk2
          have hfj := frm_upt (c64 w) j T0
          have hrb : lsum (c64 w) (frm j T0) ≤ 640010 := by omega
          by_cases hji : j = i
          · subst hji
            have hle2 : nI j ≤ nI j := nI_le (Nat.le_refl _) (by omega)
            simp only [g_Mo_findJoined_94, if_pos hle2, gd_of nz64]
            refine Ok_some (hQ _ hdiv ?_)
            show bl S = inT T0
            rw [hS]
            funext a
            cases ha : inT T0 a with
            | false => simp
            | true =>
              have h2 : a ∈ T0 := of_decide_eq_true ha
              have h3 := ((hG.2.2.2.2.2 a).mp (hB.2.1 a h2)).1
              simp [h3]
          · have hjk : j < i := by omega
            have hle2 : ¬ nI i ≤ nI j := nI_ge hjk (by omega)
            by_cases hr0 : lsum (c64 w) (frm j T0) = 0
            · have hle3 : nI (lsum (c64 w) (frm j T0)) ≤ 0 := by rw [hr0]; decide
              simp only [g_Mo_findJoined_94, if_neg hle2, if_pos hle3, gd_of nz64]
              refine Ok_some (hQ _ hdiv ?_)
              show bl S = inT T0
              rw [hS]
              funext a
              cases ha : inT T0 a with
              | false => simp
              | true =>
                have h2 : a ∈ T0 := of_decide_eq_true ha
                have h3 : frm j T0 = [] := lsum_zero (fun a => by unfold c64; omega) hr0
                have h4 : a < j := by
                  apply Classical.byContradiction
                  intro h
                  have : a ∈ frm j T0 := frm_mem.mpr ⟨h2, by omega⟩
                  rw [h3] at this
                  simp at this
                simp [h4]
            · have hle3 : ¬ nI (lsum (c64 w) (frm j T0)) ≤ 0 := nI_ge (a := 0) (by omega) (by omega)
              obtain ⟨m1, m2, m3, m4⟩ := hM.2.2.2 j hjk
              obtain ⟨a1, a2, a3, a4⟩ := hA j hjk
              have hwj := (hG.2.2.2.1 j hjk).2.2.2
              cases hp : pr j with
              | false =>
                rw [hp] at m4
                have m4' : H j = 0 := m4
                have hjT : j ∉ T0 := fun h => by
                  have := ((hG.2.2.2.2.2 j).mp (hB.2.1 j h)).2
                  rw [hp] at this; cases this
                simp only [g_Mo_findJoined_94, if_neg hle2, if_neg hle3, gd_nI (show j < 30 by omega) (by decide), nI_clamp (show j < 2 ^ 31 by omega), m4', if_pos, bn, nI_1]
                refine hkk2 (d2 - 1) _ _ _ _ _ _ _ _ (by omega) ⟨j + 1, o, by omega, rfl, by rw [frm_no hjT], ho, rfl, hos, heo, rfl, ?_, ?_⟩
                · intro a ha
                  have h2 := hC' a ha
                  by_cases e1 : a = j
                  · subst e1
                    have h3 : ali T0 pr a a = false := by simp [ali, hp]
                    refine ⟨fun h => ?_, fun _ => h2.2 h3⟩
                    simp [ali, hjT] at h
                  · have e2 : (a < j + 1) = (a < j) := by rw [eq_iff_iff]; omega
                    unfold ali csi at *
                    simp only [e2]
                    exact h2
                · rw [hS]
                  funext a
                  by_cases e1 : a = j
                  · subst e1; simp [inT, hjT]
                  · have e2 : (a < j + 1) = (a < j) := by rw [eq_iff_iff]; omega
                    simp only [e2]
              | true =>
                rw [hp] at m4
                have m4' : H j = 1 := m4
                have n1 : ¬ (1 : Int32) = 0 := by decide
                have hjo : j ∈ ord := (hG.2.2.2.2.2 j).mpr ⟨hjk, hp⟩
                obtain ⟨cj, cjb⟩ := (hC' j hjk).1 (by simp [ali, hp])
                have cj2 : csi w j j = c64 w j := by simp [csi]
                rw [cj2] at cj cjb
                obtain ⟨o1, p1, p2⟩ := or_bit hn ho a3
                obtain ⟨o2, q1, q2⟩ := or_bit hn p1 a4
                -- the arcs that may be taken now
                have hCO : CO i (fun a => if a < j + 1 then decide (a ∈ T0 ∨ a = j) else pr a) (fun a => if a < j + 1 then 0 else c64 w a) (upd C' j 0) := by
                  intro a ha
                  have h2 := hC' a ha
                  by_cases e1 : a = j
                  · subst e1
                    rw [upd_self]
                    refine ⟨fun _ => ⟨by simp; rfl, by simp⟩, fun h => ?_⟩
                    simp at h
                  · rw [upd_ne _ _ e1]
                    have e2 : (a < j + 1) = (a < j) := by rw [eq_iff_iff]; omega
                    unfold ali csi at h2
                    simp only [e2, e1, or_false]
                    exact h2
                have hrejC : j ∉ T0 → CO i (ali T0 pr (j + 1)) (csi w (j + 1)) (upd (upd C' j 0) j (-1)) := by
                  intro hjT a ha
                  have h2 := hC' a ha
                  by_cases e1 : a = j
                  · subst e1
                    rw [upd_self]
                    refine ⟨fun h => ?_, fun _ => rfl⟩
                    simp [ali, hjT] at h
                  · rw [upd_ne _ _ e1, upd_ne _ _ e1]
                    have e2 : (a < j + 1) = (a < j) := by rw [eq_iff_iff]; omega
                    unfold ali csi at *
                    simp only [e2]
                    exact h2
                have haccC : j ∈ T0 → CO i (ali T0 pr (j + 1)) (csi w (j + 1)) (upd C' j 0) := by
                  intro hjT a ha
                  have h2 := hCO a ha
                  unfold ali csi
                  by_cases e1 : a < j + 1
                  · simp only [if_pos e1] at *
                    have e3 : (a ∈ T0 ∨ a = j) ↔ a ∈ T0 := ⟨fun h => h.elim id (fun h => h ▸ hjT), Or.inl⟩
                    simp only [e3] at h2
                    exact h2
                  · simp only [if_neg e1] at *
                    exact h2
                have hrej : j ∉ T0 → ∀ O3 P3, Ok (g_Mo_findJoined_205 kk2 (nI rv) (nI (lsum (c64 w) (frm j T0))) (nI o) (nI j) (upd C' j 0) O3 P3 S) (fun rr => ((∀ T : List Nat, (∀ a, a ∈ T → a ∈ ord) → ¬ Jn fr to (bi (nI e)) T) → rr.1 = -3) ∧ ∀ s T, Bt fr to w (bi (nI e)) s ord T → rr.1 = nI (lsum w T) ∧ bl rr.2.2.2.2 = inT T) := by
                  intro hjT O3 P3
                  simp only [g_Mo_findJoined_205, gd_nI (show j < 30 by omega) (by decide), nI_clamp (show j < 2 ^ 31 by omega), bn, nI_1]
                  refine hkk2 (d2 - 1) _ _ _ _ _ _ _ _ (by omega) ⟨j + 1, o, by omega, rfl, by rw [frm_no hjT], ho, rfl, hos, heo, rfl, hrejC hjT, ?_⟩
                  rw [hS]
                  funext a
                  by_cases e1 : a = j
                  · subst e1; simp [inT, hjT]
                  · have e2 : (a < j + 1) = (a < j) := by rw [eq_iff_iff]; omega
                    simp only [e2]
                simp only [g_Mo_findJoined_94, if_neg hle2, if_neg hle3, gd_nI (show j < 30 by omega) (by decide), nI_clamp (show j < 2 ^ 31 by omega), m4', if_neg n1, bn, nI_1, a1, a2, cj, p2, q2]
                by_cases hcr : lsum (c64 w) (frm j T0) < c64 w j
                · rw [if_pos (nI_lt hcr (by omega))]
                  refine hrej (fun hjT => ?_) _ _
                  have := frm_yes (c64 w) hB.1 hjT
                  omega
                · rw [if_neg (nI_nlt (by omega) (by omega))]
                  have hsubo : ∀ v, bi (nI o) v = true → bi (nI o2) v = true := by
                    intro v hv
                    rw [← q2, bi_or _ (by omega), ← p2, bi_or _ (by omega)]
                    simp [hv]
                  have heo2 : ∀ v, bi (nI e) v = true → bi (nI o2) v = true := fun v hv => hsubo v (heo v hv)
                  refine Ok_bk3 (costM hN hn hk hCO hA q1 (by obtain ⟨u, hu⟩ := pos_bit (e := e) (by omega) h0; exact ⟨u, heo2 u hu⟩)) ?_
                  rintro rr ⟨l', hl', hres⟩
                  have hlm : ∀ a, a ∈ l' ↔ ((a < j + 1 ∧ (a ∈ T0 ∨ a = j)) ∨ (j + 1 ≤ a ∧ a ∈ ord)) := by
                    intro a
                    rw [hl'.1 a, hG.2.2.2.2.2 a]
                    by_cases e1 : a < j + 1
                    · simp only [if_pos e1, decide_eq_true_eq]
                      constructor
                      · rintro ⟨h1, h2⟩; exact Or.inl ⟨e1, h2⟩
                      · rintro (⟨h1, h2⟩ | ⟨h1, h2⟩)
                        · exact ⟨by omega, h2⟩
                        · omega
                    · simp only [if_neg e1]
                      constructor
                      · rintro ⟨h1, h2⟩; exact Or.inr ⟨by omega, h1, h2⟩
                      · rintro (⟨h1, h2⟩ | ⟨h1, h2⟩)
                        · exact absurd h1 e1
                        · exact h2
                  have hsub : nI (lsum (c64 w) (frm j T0)) - nI (c64 w j) = nI (lsum (c64 w) (frm j T0) - c64 w j) := nI_subN (by omega)
                  by_cases hjT : j ∈ T0
                  · have hos2 : ∀ v, bi (nI o2) v = true → s v = true := by
                      intro v hv
                      rw [← q2, bi_or _ (by omega), ← p2, bi_or _ (by omega)] at hv
                      simp only [Bool.or_eq_true, decide_eq_true_eq] at hv
                      obtain ⟨z1, z2⟩ := hB.2.2.2.2.1 j hjT
                      rcases hv with (hv | hv) | hv
                      · exact hos v hv
                      · rw [← hv]; exact z1
                      · rw [← hv]; exact z2
                    obtain ⟨t1, t2, t3⟩ := Bt_acc (l := ord) (rv := 0) hB h30 hmin hjT hlm hl'.2.1 heo2 hos2
                    rcases hres with ⟨y1, y2⟩ | ⟨rv2, y1, y2, y3⟩
                    · exact absurd t1 (y2 T0 t2)
                    · have t4 := t3 rv2 y3
                      have t5 := frm_yes (c64 w) hB.1 hjT
                      have hc : rr.1 = nI (lsum (c64 w) (frm j T0)) - nI (c64 w j) := by
                        rw [hsub, y1, t4]
                        congr 1
                        omega
                      rw [if_pos hc]
                      refine hkk2 (d2 - 1) _ _ _ _ _ _ _ _ (by omega) ⟨j + 1, o2, by omega, rfl, ?_, q1, rfl, hos2, heo2, rfl, haccC hjT, ?_⟩
                      · rw [hsub]
                        congr 1
                        omega
                      · funext a
                        have h5 := bl_or S (a := j) (b := a) (by omega)
                        unfold bitA at h5
                        rw [h5, hS]
                        by_cases e1 : a = j
                        · subst e1; simp [inT, hjT]
                        · have e2 : (a < j + 1) = (a < j) := by rw [eq_iff_iff]; omega
                          have e3 : ¬ j = a := fun h => e1 h.symm
                          simp only [e2, e3, decide_false, Bool.or_false]
                  · have hc : ¬ rr.1 = nI (lsum (c64 w) (frm j T0)) - nI (c64 w j) := by
                      intro hc
                      rw [hsub] at hc
                      rcases hres with ⟨y1, y2⟩ | ⟨rv2, y1, y2, y3⟩
                      · rw [y1] at hc
                        have : ¬ nI (lsum (c64 w) (frm j T0) - c64 w j) < 0 := nI_pos (by omega)
                        rw [← hc] at this
                        exact this (by decide)
                      · rw [y1] at hc
                        have := (nI_eq (by omega) (by omega)).mp hc
                        exact hjT (Bt_rej hB h30 hjo hlm hl'.2.1 heo2 y3 (by omega))
                    rw [if_neg hc]
                    exact hrej hjT _ _
        · have : frm 0 T0 = T0 := by
            unfold frm
            apply List.filter_eq_self.mpr
            intro a _
            simp
          rw [this, hrv]
        · funext a
          simp [bl_0]
      · rcases hX with hX | hX
        · obtain ⟨⟨x, x1, x2, x3⟩, m2⟩ := r3
          exact absurd (fun u v hu hv => x2 u v (x1 u hu) (x1 v hv)) (hX (ins fr to x l) (fun a ha => (hlo a).mp (ins_mem.mp ha).1))
        · exact absurd hX hB0
  · have hik : i < k := by omega
    have hle : ¬ nI k ≤ nI i := nI_ge hik (by omega)
    obtain ⟨m1, m2, m3, m4⟩ := hM.2.2.2 i hik
    have hwj := (hG.2.2.2.1 i hik).2.2.2
    have hstep : ∀ x : Int32, ((pr i = true → x = nI (c64 w i) ∧ c64 w i ≤ 64001) ∧ (pr i = false → x = -1)) → CO (i + 1) pr (c64 w) (upd C i x) := by
      intro x hx a ha
      by_cases e1 : a = i
      · subst e1; rw [upd_self]; exact hx
      · rw [upd_ne _ _ e1]; exact hC a (by omega)
    cases hp : pr i with
    | false =>
      rw [hp] at m4
      have m4' : H i = 0 := m4
      simp only [g_Mo_findJoined_24, if_neg hle, gd_nI (show i < 30 by omega) (by decide), nI_clamp (show i < 2 ^ 31 by omega), m4', if_pos, bn, nI_1]
      exact hkk (d - 1) _ _ _ _ _ (by omega) ⟨i + 1, by omega, rfl, hstep _ ⟨(fun h => by rw [hp] at h; cases h), fun _ => rfl⟩⟩
    | true =>
      rw [hp] at m4
      have m4' : H i = 1 := m4
      have n1 : ¬ (1 : Int32) = 0 := by decide
      simp only [g_Mo_findJoined_24, if_neg hle, gd_nI (show i < 30 by omega) (by decide), nI_clamp (show i < 2 ^ 31 by omega), m4', if_neg n1, bn, nI_1, m3, nI_mul64]
      exact hkk (d - 1) _ _ _ _ _ (by omega) ⟨i + 1, by omega, rfl, hstep _ ⟨fun _ => ⟨rfl, by unfold c64; omega⟩, fun h => by rw [hp] at h; cases h⟩⟩
theorem joined_no {n : Nat} (hn : n ≤ 10) {p : Int32} (hp : ¬ ∃ e, e < 2 ^ n ∧ e ≠ 0 ∧ p = nI e) : (p ≤ 0 ∨ ¬ p ≤ nI (2 ^ n - 1)) ∧ (p = 0 ∨ ¬ (p &&& (nI (2 ^ n - 1) ^^^ (-1 : Int32))) = 0) := by
  have h1 := p10 hn
  have hpos : 0 < 2 ^ n := Nat.pow_pos (by omega)
  constructor
  · by_cases h : p ≤ 0
    · exact Or.inl h
    · refine Or.inr (fun h2 => hp ?_)
      have e1 : ¬ p.toInt ≤ 0 := fun g => h (Int32.le_iff_toInt_le.mpr g)
      have e2 := Int32.le_iff_toInt_le.mp h2
      have e3 : (nI (2 ^ n - 1)).toInt = ((2 ^ n - 1 : Nat) : Int) := by
        unfold nI
        rw [Int32.toInt_ofNat']
        have e : Int32.size = 2 ^ 32 := by decide
        rw [e, Int.bmod_eq_of_le (by omega) (by omega)]
      refine ⟨p.toInt.toNat, by omega, by omega, ?_⟩
      apply Int32.toInt_inj.mp
      unfold nI
      rw [Int32.toInt_ofNat']
      have e : Int32.size = 2 ^ 32 := by decide
      rw [e, Int.bmod_eq_of_le (by omega) (by omega)]
      omega
  · by_cases h : p = 0
    · exact Or.inl h
    · refine Or.inr (fun h2 => hp ?_)
      obtain ⟨e, e1, e2⟩ := ends_of hn h2
      refine ⟨e, e1, fun h3 => h ?_, e2⟩
      rw [e2, h3]; rfl
theorem joined_both {N n k : Nat} {fr to w : Nat → Nat} {pr : Nat → Bool} {ord : List Nat} {gn gk gs mn ma ml : Int32} {gp : Int64} {F T V O L : Nat → Int32} {l1 l2 p : Int32} {F' T' V' H C0 O' P : Nat → Int32} {S0 : Int64} (hN : 2000 ≤ N) (hG : GR n k fr to w pr ord) (hC : CR gn gk gs gp F T V O n k fr to w pr ord) (hM : MR mn ma ml F' T' V' H n k fr to w pr ord) :
    ∃ rc rm, f_RT_joinedCost N p gn gs l1 l2 L O F T V = some rc ∧ f_Mo_findJoined N p mn ma S0 H V' C0 O' P F' T' = some rm ∧ ((∃ c : Int64, rc.1 = c ∧ c < 0 ∧ rm.1 = c.toInt32 ∧ rm.1.toInt64 = c ∧ rm.1 < 0) ∨ (∃ T, T.Nodup ∧ (∀ a, a ∈ T → a < 30 ∧ w a ≤ 1000) ∧ rc.1 = cN (lsum (ce w) T) ∧ lsum (ce w) T < 2 ^ 60 ∧ rm.1 = nI (lsum w T) ∧ bl rm.2.2.2.2 = inT T)) := by
  have hn := hG.1
  by_cases hp : ∃ e, e < 2 ^ n ∧ e ≠ 0 ∧ p = nI e
  · obtain ⟨e, he, h0, rfl⟩ := hp
    obtain ⟨rc, c1, c2⟩ := joinedCostC (L := L) (l1 := l1) (l2 := l2) hN hG hC he h0
    rcases c2 with ⟨c2, c3⟩ | ⟨s, T0, c2, c3, c4⟩
    · obtain ⟨rm, m1, m2⟩ := findJoinedM (C0 := C0) (O := O') (P := P) (S0 := S0) hN hG hM he h0 (Or.inl c3)
      have hm := m2.1 c3
      exact ⟨rc, rm, c1, m1, Or.inl ⟨-3, c2, by decide, by rw [hm]; decide, by rw [hm]; decide, by rw [hm]; decide⟩⟩
    · obtain ⟨rm, m1, m2⟩ := findJoinedM (C0 := C0) (O := O') (P := P) (S0 := S0) hN hG hM he h0 (Or.inr ⟨s, T0, c2⟩)
      obtain ⟨q1, q2⟩ := m2.2 s T0 c2
      refine ⟨rc, rm, c1, m1, Or.inr ⟨T0, c2.1, fun a ha => ?_, c3, c4, q1, q2⟩⟩
      have hk := ((hG.2.2.2.2.2 a).mp (c2.2.1 a ha)).1
      exact ⟨by have := hG.2.1; omega, (hG.2.2.2.1 a hk).2.2.2⟩
  · obtain ⟨h1, h2⟩ := joined_no hn hp
    refine ⟨(-2, l1, l2, L), (-2, C0, O', P, S0), ?_, ?_, Or.inl ⟨-2, rfl, by decide, (show (-2 : Int32) = (-2 : Int64).toInt32 by decide), (show (-2 : Int32).toInt64 = (-2 : Int64) by decide), (show (-2 : Int32) < 0 by decide)⟩⟩
    · rw [hC.1]
      by_cases h3 : p ≤ 0
      · simp only [f_RT_joinedCost, if_pos h3]
      · rcases h1 with h1 | h1
        · exact absurd h1 h3
        · simp only [f_RT_joinedCost, if_neg h3, f_Graph_allNodes, bk1, (all_nI n hn).2, if_neg h1]
    · rw [hM.1]
      by_cases h3 : p = 0
      · simp only [f_Mo_findJoined, if_pos h3]
      · rcases h2 with h2 | h2
        · exact absurd h2 h3
        · simp only [f_Mo_findJoined, if_neg h3, (all_nI n hn).2, if_neg h2]
theorem st_joined {N : Nat} (hN : 2000 ≤ N) : St_joined N InvC := by
  intro t_graph_nodes t_graph_numbered t_graph_size t_graph_present t_graph_from t_graph_to t_graph_weight t_graph_order t_forests_nextWeight t_forests_nextIn t_forests_nextOut t_forests_labels_nodes t_forests_labels_groups t_forests_labels_label t_forests_treeCount_groupOf t_forests_treeCount_links t_forests_treeCount_rows t_forests_treeCount_minor t_forests_heaviest t_boundedTrees_nodes t_boundedTrees_bound t_boundedTrees_between t_boundedTrees_branches t_boundedTrees_branch t_treesFromRoot_nodes t_treesFromRoot_arcs t_treesFromRoot_root t_treesFromRoot_tail t_treesFromRoot_head t_treesFromRoot_cost t_treesFromRoot_leastInto t_treesFromRoot_before t_treesFromRoot_group t_joiningTrees_labels_nodes t_joiningTrees_labels_groups t_joiningTrees_labels_label t_nodes t_arcs t_left t_swapIn t_swapOut t_boundedSet t_joinedSet t_froms t_tos t_weights t_there t_part t_low t_row t_matrix t_own t_chosen t_degrees t_fixed t_grown t_costs t_order p1 hI
  obtain ⟨n, k, fr, to, w, pr, ord, hG, hC, hM⟩ := hI
  obtain ⟨⟨r1, r2, r3, r4⟩, ⟨q1, q2, q3, q4, q5⟩, e1, e2, hc⟩ := joined_both (L := t_joiningTrees_labels_label) (l1 := t_joiningTrees_labels_nodes) (l2 := t_joiningTrees_labels_groups) (p := p1) (C0 := t_costs) (O' := t_order) (P := t_part) (S0 := t_joinedSet) hN hG hC hM
  refine ⟨q1, r2, r3, r4, q2, q3, q4, q5, ?_, ?_, ⟨n, k, fr, to, w, pr, ord, hG, hC, hM⟩⟩
  · rcases hc with ⟨c, c1, c2, c3, c4, c5⟩ | ⟨T, t1, t2, t3, t4, t5, t6⟩
    · have c1' : r1 = c := c1
      have c3' : q1 = c.toInt32 := c3
      have hlt : ¬ (0 : Int32) ≤ lg_cmp r1 0 := by
        rw [lg_cmp_ge, c1']
        exact lg_lt_not_le c2
      simp only [f_RT_joined, e1, bk4, if_neg hlt]
      rw [c3', c1']
    · have t3' : r1 = cN (lsum (ce w) T) := t3
      have t5' : q1 = nI (lsum w T) := t5
      have hlt : (0 : Int32) ≤ lg_cmp r1 0 := by
        rw [lg_cmp_ge, t3', cN_0, cN_le (by omega) (by omega)]
        omega
      simp only [f_RT_joined, e1, bk4, if_pos hlt, t5']
      rw [t3', weightIn_f t1 t2]
      rfl
  · simp only [f_Mo_joined, e2, bk5]
theorem st_joinedSet {N : Nat} (hN : 2000 ≤ N) : St_joinedSet N InvC := by
  intro t_graph_nodes t_graph_numbered t_graph_size t_graph_present t_graph_from t_graph_to t_graph_weight t_graph_order t_forests_nextWeight t_forests_nextIn t_forests_nextOut t_forests_labels_nodes t_forests_labels_groups t_forests_labels_label t_forests_treeCount_groupOf t_forests_treeCount_links t_forests_treeCount_rows t_forests_treeCount_minor t_forests_heaviest t_boundedTrees_nodes t_boundedTrees_bound t_boundedTrees_between t_boundedTrees_branches t_boundedTrees_branch t_treesFromRoot_nodes t_treesFromRoot_arcs t_treesFromRoot_root t_treesFromRoot_tail t_treesFromRoot_head t_treesFromRoot_cost t_treesFromRoot_leastInto t_treesFromRoot_before t_treesFromRoot_group t_joiningTrees_labels_nodes t_joiningTrees_labels_groups t_joiningTrees_labels_label t_nodes t_arcs t_left t_swapIn t_swapOut t_boundedSet t_joinedSet t_froms t_tos t_weights t_there t_part t_low t_row t_matrix t_own t_chosen t_degrees t_fixed t_grown t_costs t_order p1 hI
  obtain ⟨n, k, fr, to, w, pr, ord, hG, hC, hM⟩ := hI
  obtain ⟨⟨r1, r2, r3, r4⟩, ⟨q1, q2, q3, q4, q5⟩, e1, e2, hc⟩ := joined_both (L := t_joiningTrees_labels_label) (l1 := t_joiningTrees_labels_nodes) (l2 := t_joiningTrees_labels_groups) (p := p1) (C0 := t_costs) (O' := t_order) (P := t_part) (S0 := t_joinedSet) hN hG hC hM
  rcases hc with ⟨c, c1, c2, c3, c4, c5⟩ | ⟨T, t1, t2, t3, t4, t5, t6⟩
  · have c1' : r1 = c := c1
    have c4' : q1.toInt64 = c := c4
    have c5' : q1 < 0 := c5
    refine ⟨c, r2, r3, r4, q2, q3, q4, q5, ?_, ?_, ⟨n, k, fr, to, w, pr, ord, hG, hC, hM⟩⟩
    · have hlt : ¬ (0 : Int32) ≤ lg_cmp r1 0 := by
        rw [lg_cmp_ge, c1']
        exact lg_lt_not_le c2
      simp only [f_RT_joinedSet, e1, bk4, if_neg hlt]
      rw [c1']
    · have hlt : ¬ (0 : Int32) ≤ q1 := by
        rw [Int32.le_iff_toInt_le]
        rw [Int32.lt_iff_toInt_lt] at c5'
        omega
      simp only [f_Mo_joinedSet, e2, bk5, if_neg hlt, c4']
  · have t3' : r1 = cN (lsum (ce w) T) := t3
    have t5' : q1 = nI (lsum w T) := t5
    have t6' : bl q5 = inT T := t6
    obtain ⟨S, s1, s2⟩ := setIn_f (N := N) (w := w) (by omega) t1 t2
    have es : S = q5 := bl_ext (fun b _ => by rw [s2, t6'])
    refine ⟨q5, r2, r3, r4, q2, q3, q4, q5, ?_, ?_, ⟨n, k, fr, to, w, pr, ord, hG, hC, hM⟩⟩
    · have hlt : (0 : Int32) ≤ lg_cmp r1 0 := by
        rw [lg_cmp_ge, t3', cN_0, cN_le (by omega) (by omega)]
        omega
      simp only [f_RT_joinedSet, e1, bk4, if_pos hlt]
      rw [t3', s1, es]
      rfl
    · have hl := len30 t1 (fun a ha => (t2 a ha).1)
      have hl2 := lsum_le (c := w) (B := 1000) T (fun a ha => (t2 a ha).2)
      have hlt : (0 : Int32) ≤ q1 := by
        rw [t5']
        exact nI_pos' (by omega)
      simp only [f_Mo_joinedSet, e2, bk5, if_pos hlt]
