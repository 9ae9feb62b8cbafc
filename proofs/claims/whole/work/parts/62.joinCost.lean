/-! the reference: the least cost by which the ends hang together -/
theorem oneM {N n m k : Nat} {fr to cst : Nat → Nat} {al : Nat → Bool} {l : List Nat} {O C F T P : Nat → Int32} {v3 : Int32} {Q : Int32 × (Nat → Int32) × (Nat → Int32) → Prop} {k96 : Int32 → Int32 → Int32 → (Nat → Int32) → (Nat → Int32) → Option (Int32 × (Nat → Int32) × (Nat → Int32))} (hN : 100 ≤ N) (hn : n ≤ 10) (hk : k ≤ 30) (hC : CO k al cst C) (hl : LI k al cst l) (hO : ∀ j, j < l.length → O j = nI (l.getD j 0)) (hA : ∀ a, a < k → F a = nI (fr a) ∧ T a = nI (to a) ∧ fr a < n ∧ to a < n) (hm : m < 2 ^ n) (h0 : ∃ u0, bi (nI m) u0 = true)
    (hP : ∀ v, v < 10 → P v = nI v)
    (hk96 : ∀ (v5 v6 : Int32) (P' : Nat → Int32), ((v6 = 1 ∧ Jn fr to (bi (nI m)) (ins fr to (bi (nI m)) l) ∧ v5 = nI (lsum cst (kl fr to (ins fr to (bi (nI m)) l) (fun v => v)))) ∨ (¬ v6 = 1 ∧ ¬ Jn fr to (bi (nI m)) (ins fr to (bi (nI m)) l))) → Ok (g_Mo_joinedCost_244 k96 (nI l.length) v3 (nI m) v5 v6 O P') Q) :
    Ok (lo8 (g_Mo_joinedCost_131 N (nI n) C F T k96) N (nI l.length) v3 (nI m) (0 : Int32) (0 : Int32) (0 : Int32) O P) Q := by
  obtain ⟨u0, hu0⟩ := h0
  have hs : ∀ v, bi (nI m) v = true → v < n := fun v h => bi_lt hn hm h
  have hpc := nbs_le (bi (nI m)) n
  have hp1 := nbs_pos hu0 (hs u0 hu0)
  have hll := LI_len hl
  refine Ok_lo8 (fun d v2 v3' v4 v5 v6 v7 O' P' => ∃ i, i + d = n ∧ v2 = nI l.length ∧ v3' = v3 ∧ v4 = nI m ∧ v5 = 0 ∧ v6 = nI (nbs (bi (nI m)) i) ∧ v7 = nI i ∧ O' = O ∧ P' = P) ?_ n N _ _ _ _ _ _ _ _ (by omega) ⟨0, by omega, rfl, rfl, rfl, rfl, rfl, rfl, rfl, rfl⟩
  rintro kk d v2 v3' v4 v5 v6 v7 O' P' ⟨i, hd, rfl, rfl, rfl, rfl, rfl, rfl, rfl, rfl⟩ hkk
  by_cases hi : i = n
  · subst hi
    have hle : nI i ≤ nI i := nI_le (Nat.le_refl _) (by omega)
    simp only [g_Mo_joinedCost_131, if_pos hle]
    generalize hS : bi (nI m) = s at *
    have hAl : ∀ a, a ∈ l → a < 30 ∧ F a = nI (fr a) ∧ T a = nI (to a) ∧ fr a < i ∧ to a < i := fun a ha => ⟨by have := ((hl.1 a).mp ha).1; omega, hA a ((hl.1 a).mp ha).1⟩
    have hAt : ∀ j a, a ∈ l.take j → fr a < i ∧ to a < i := fun j a ha => (hAl a (List.mem_of_mem_take ha)).2.2.2
    have hlab : ∀ j v, v < 10 → kr fr to (ins fr to s (l.take j)) (fun v => v) v < 10 := fun j v hv => kr_ltn _ (fun a ha => by have := hAt j a (ins_mem.mp ha).1; omega) (fun v hv => hv) v hv
    have hTL := fun j => tree_len (s := s) (u0 := u0) (hAt j) hs hu0
    have hsm : ∀ j, lsum cst (kl fr to (ins fr to s (l.take j)) (fun v => v)) ≤ 640010 := fun j => by
      have h1 := lsum_le (c := cst) (B := 64001) (kl fr to (ins fr to s (l.take j)) (fun v => v)) (fun a ha => by
        have h3 := (hl.1 a).mp (List.mem_of_mem_take (ins_mem.mp (kl_sub _ ha)).1)
        exact ((hC a h3.1).1 h3.2).2)
      have h2 := (hTL j).1
      omega
    refine Ok_lo8 (fun d v2 v3'' v4 v5 v6 v7 O'' P'' => ∃ j, j + d = l.length ∧ v2 = nI l.length ∧ v3'' = v3' ∧ v4 = nI m ∧ v5 = nI (lsum cst (kl fr to (ins fr to s (l.take j)) (fun v => v))) ∧ v6 = nI (nbs s i - (kl fr to (ins fr to s (l.take j)) (fun v => v)).length) ∧ v7 = nI j ∧ O'' = O' ∧ ∀ v, v < 10 → P'' v = nI (kr fr to (ins fr to s (l.take j)) (fun v => v) v)) ?_ l.length N _ _ _ _ _ _ _ _ (by omega) ⟨0, by omega, rfl, rfl, rfl, by simp [ins, kl, lsum]; rfl, by simp [ins, kl], rfl, rfl, by simpa [ins, kr] using hP⟩
    rintro kk2 d2 v2 v3'' v4 v5 v6 v7 O'' P'' ⟨j, hd2, rfl, rfl, rfl, rfl, rfl, rfl, rfl, hP2⟩ hkk2
    have hTj := hTL j
    have hsj := hsm j
    have hend : (Jn fr to s (ins fr to s (l.take j)) ∨ j = l.length) → Ok (g_Mo_joinedCost_244 k96 (nI l.length) v3'' (nI m) (nI (lsum cst (kl fr to (ins fr to s (l.take j)) (fun v => v)))) (nI (nbs s i - (kl fr to (ins fr to s (l.take j)) (fun v => v)).length)) O'' P'') Q := by
      intro hc
      apply hk96
      by_cases hz : Jn fr to s (ins fr to s (l.take j))
      · obtain ⟨f1, f2⟩ := ins_full hz
        have := hTj.2.mpr hz
        refine Or.inl ⟨?_, f1, by rw [f2]⟩
        have e : nbs s i - (kl fr to (ins fr to s (l.take j)) (fun v => v)).length = 1 := by omega
        rw [e]; rfl
      · have hz0 : ¬ (kl fr to (ins fr to s (l.take j)) (fun v => v)).length + 1 = nbs s i := fun h => hz (hTj.2.mp h)
        rcases hc with h | h
        · exact absurd h hz
        · refine Or.inr ⟨fun h2 => ?_, ?_⟩
          · have := (nI_eq (a := nbs s i - (kl fr to (ins fr to s (l.take j)) (fun v => v)).length) (b := 1) (by omega) (by omega)).mp h2
            omega
          · rw [h, List.take_length] at hz; exact hz
    by_cases hj : j = l.length
    · have hle2 : nI l.length ≤ nI j := nI_le (by omega) (by omega)
      simp only [g_Mo_joinedCost_161, if_pos hle2]
      exact hend (Or.inr hj)
    · have hjl : j < l.length := by omega
      have hle2 : ¬ nI l.length ≤ nI j := nI_ge hjl (by omega)
      by_cases hz : Jn fr to s (ins fr to s (l.take j))
      · have := hTj.2.mpr hz
        have hv : nI (nbs s i - (kl fr to (ins fr to s (l.take j)) (fun v => v)).length) ≤ (1 : Int32) := nI_le (b := 1) (by omega) (by omega)
        simp only [g_Mo_joinedCost_161, if_neg hle2, if_pos hv]
        exact hend (Or.inl hz)
      · have hz0 : ¬ (kl fr to (ins fr to s (l.take j)) (fun v => v)).length + 1 = nbs s i := fun h => hz (hTj.2.mp h)
        have hv : ¬ nI (nbs s i - (kl fr to (ins fr to s (l.take j)) (fun v => v)).length) ≤ (1 : Int32) := nI_ge (a := 1) (by omega) (by omega)
        have hmem := getD_mem hjl
        have hOj := hO j hjl
        generalize ha : l.getD j 0 = a at *
        obtain ⟨a1, a2, a3, a4, a5⟩ := hAl a hmem
        obtain ⟨c1, c2⟩ := (hC a ((hl.1 a).mp hmem).1).1 ((hl.1 a).mp hmem).2
        have hb1 := bi_1 (nI m) (a := fr a) (by omega)
        have hb2 := bi_1 (nI m) (a := to a) (by omega)
        rw [hS] at hb1 hb2
        simp only [g_Mo_joinedCost_161, if_neg hle2, if_neg hv, gd_nI (show j < 30 by omega) (by decide), nI_clamp (show j < 2 ^ 31 by omega), bn, hOj, gd_nI (show a < 30 by omega) (by decide), nI_clamp (show a < 2 ^ 31 by omega), a2, a3, c1]
        by_cases hb : s (fr a) = true ∧ s (to a) = true
        · rw [if_pos (hb1.mpr hb.1), if_pos (hb2.mpr hb.2)]
          have ey := ins_yes (fr := fr) (to := to) (s := s) hjl (by rw [ha]; exact hb)
          rw [ha] at ey
          obtain ⟨P3, u1, u2⟩ := join (k := a) hN a1 a2 a3 (by omega) (by omega) (hlab j) hP2
          have hTs := hTL (j + 1)
          have hks : kl fr to (ins fr to s (l.take (j + 1))) (fun v => v) = kl fr to (ins fr to s (l.take j)) (fun v => v) ++ (if kr fr to (ins fr to s (l.take j)) (fun v => v) (fr a) = kr fr to (ins fr to s (l.take j)) (fun v => v) (to a) then [] else [a]) := by
            rw [ey]; exact kl_one
          have hrs : kr fr to (ins fr to s (l.take (j + 1))) (fun v => v) = uni (kr fr to (ins fr to s (l.take j)) (fun v => v)) (fr a) (to a) := by rw [ey]; exact kr_one
          simp only [u1, bk2]
          by_cases he : kr fr to (ins fr to s (l.take j)) (fun v => v) (fr a) = kr fr to (ins fr to s (l.take j)) (fun v => v) (to a)
          · rw [if_pos he] at hks ⊢
            rw [List.append_nil] at hks
            simp only [if_pos, nI_1]
            exact hkk2 (d2 - 1) _ _ _ _ _ _ _ _ (by omega) ⟨j + 1, by omega, rfl, rfl, rfl, by rw [hks], by rw [hks], rfl, rfl, fun v hv => by rw [hrs]; exact u2 v hv⟩
          · rw [if_neg he] at hks ⊢
            have n1 : ¬ (1 : Int32) = 0 := by decide
            rw [hks, List.length_append] at hTs
            have hl2 := hTs.1
            simp only [List.length_cons, List.length_nil] at hl2
            simp only [if_neg n1, nI_1, nI_add, nI_m1' (show 0 < nbs s i - (kl fr to (ins fr to s (l.take j)) (fun v => v)).length by omega)]
            refine hkk2 (d2 - 1) _ _ _ _ _ _ _ _ (by omega) ⟨j + 1, by omega, rfl, rfl, rfl, ?_, ?_, rfl, rfl, fun v hv => by rw [hrs]; exact u2 v hv⟩
            · rw [hks, lsum_app]
              rfl
            · rw [hks, List.length_append]
              simp only [List.length_cons, List.length_nil]
              congr 1
        · have ey := ins_no (fr := fr) (to := to) (s := s) hjl (by rw [ha]; exact hb)
          have hgo := hkk2 (d2 - 1) (nI l.length) v3'' (nI m) (nI (lsum cst (kl fr to (ins fr to s (l.take j)) (fun v => v)))) (nI (nbs s i - (kl fr to (ins fr to s (l.take j)) (fun v => v)).length)) (nI (j + 1)) O'' P'' (by omega) ⟨j + 1, by omega, rfl, rfl, rfl, by rw [ey], by rw [ey], rfl, rfl, fun v hv => by rw [ey]; exact hP2 v hv⟩
          by_cases h1 : s (fr a) = true
          · rw [if_pos (hb1.mpr h1), if_neg (fun h => hb ⟨h1, hb2.mp h⟩)]
            simp only [nI_1]
            exact hgo
          · rw [if_neg (fun h => h1 (hb1.mp h))]
            simp only [nI_1]
            exact hgo
  · have hin : i < n := by omega
    have hle : ¬ nI n ≤ nI i := nI_ge hin (by omega)
    simp only [g_Mo_joinedCost_131, if_neg hle, bn, nI_1]
    refine hkk (d - 1) _ _ _ _ _ _ _ _ (by omega) ⟨i + 1, by omega, rfl, rfl, rfl, rfl, ?_, rfl, rfl, rfl⟩
    have e3 : nbs (bi (nI m)) (i + 1) = nbs (bi (nI m)) i + (if bi (nI m) i = true then 1 else 0) := rfl
    rw [e3]
    cases hb : bi (nI m) i with
    | false =>
      rw [(bi_0 (nI m) (by omega)).mpr hb]
      simp [nI_add0]
    | true =>
      rw [(bi_1 (nI m) (by omega)).mpr hb, if_pos rfl]
      exact nI_1 _
theorem costM {N n k e : Nat} {fr to cst : Nat → Nat} {al : Nat → Bool} {C F T O P : Nat → Int32} (hN : 2000 ≤ N) (hn : n ≤ 10) (hk : k ≤ 30) (hC : CO k al cst C) (hA : ∀ a, a < k → F a = nI (fr a) ∧ T a = nI (to a) ∧ fr a < n ∧ to a < n) (he : e < 2 ^ n) (h0 : ∃ u0, bi (nI e) u0 = true) :
    Ok (f_Mo_joinedCost N (nI e) (nI n) (nI k) C O P F T) (fun r => ∃ l, LI k al cst l ∧ ((r.1 = -1 ∧ ∀ T : List Nat, (∀ a, a ∈ T → a ∈ l) → ¬ Jn fr to (bi (nI e)) T) ∨ (∃ rv, r.1 = nI rv ∧ rv ≤ 640010 ∧ Mn fr to cst (bi (nI e)) l rv))) := by
  obtain ⟨u0, hu0⟩ := h0
  have h1024 := p10 hn
  have hpos : 0 < 2 ^ n := Nat.pow_pos (by omega)
  unfold f_Mo_joinedCost
  refine Ok_lo4 (fun d v2 v3 O' _ => ∃ i l, i + d = k ∧ v2 = nI l.length ∧ v3 = nI i ∧ LI i al cst l ∧ ∀ j, j < l.length → O' j = nI (l.getD j 0)) ?_ k N _ _ _ _ (by omega) ⟨0, [], by omega, rfl, rfl, ⟨fun a => by simp, List.Pairwise.nil, List.Pairwise.nil⟩, fun j hj => absurd hj (Nat.not_lt_zero j)⟩
  rintro kk d v2 v3 O' P' ⟨i, l, hd, rfl, rfl, hl, hO⟩ hkk
  by_cases hi : i = k
  · subst hi
    have hle : nI i ≤ nI i := nI_le (Nat.le_refl _) (by omega)
    have hll := LI_len hl
    have hAl : ∀ a, a ∈ l → fr a < n ∧ to a < n := fun a ha => (hA a ((hl.1 a).mp ha).1).2.2
    have hsm : ∀ x, x < 2 ^ n → (∀ v, bi (nI e) v = true → bi (nI x) v = true) → lsum cst (kl fr to (ins fr to (bi (nI x)) l) (fun v => v)) ≤ 640010 := fun x hx hsub => by
      have h1 := lsum_le (c := cst) (B := 64001) (kl fr to (ins fr to (bi (nI x)) l) (fun v => v)) (fun a ha => by
        have h3 := (hl.1 a).mp (ins_mem.mp (kl_sub _ ha)).1
        exact ((hC a h3.1).1 h3.2).2)
      have h2 := (tree_len (s := bi (nI x)) (u0 := u0) hAl (fun v h => bi_lt hn hx h) (hsub u0 hu0)).1
      have h3 := nbs_le (bi (nI x)) n
      omega
    simp only [g_Mo_joinedCost_4, if_pos hle]
    refine Ok_lo5 (fun d v2 v3 v4 O'' _ => ∃ m, ∃ best : Option Nat, m + d = 2 ^ n ∧ v2 = nI l.length ∧ v3 = enc best ∧ v4 = nI m ∧ O'' = O' ∧ (best = none → ∀ x, x < m → (∀ v, bi (nI e) v = true → bi (nI x) v = true) → ¬ Jn fr to (bi (nI x)) (ins fr to (bi (nI x)) l)) ∧ (∀ b, best = some b → (∀ x, x < m → (∀ v, bi (nI e) v = true → bi (nI x) v = true) → Jn fr to (bi (nI x)) (ins fr to (bi (nI x)) l) → b ≤ lsum cst (kl fr to (ins fr to (bi (nI x)) l) (fun v => v))) ∧ ∃ x, x < 2 ^ n ∧ (∀ v, bi (nI e) v = true → bi (nI x) v = true) ∧ Jn fr to (bi (nI x)) (ins fr to (bi (nI x)) l) ∧ b = lsum cst (kl fr to (ins fr to (bi (nI x)) l) (fun v => v)))) ?_ (2 ^ n) N _ _ _ _ _ (by omega) ⟨0, none, by omega, rfl, rfl, rfl, rfl, fun _ x hx => absurd hx (Nat.not_lt_zero x), fun b hb => by cases hb⟩
    rintro kk2 d2 v2 v3 v4 O'' P'' ⟨m, best, hd2, rfl, rfl, rfl, rfl, hb0, hb1⟩ hkk2
    by_cases hm : m = 2 ^ n
    · have hle2 : ((1 : Int32) <<< (nI n &&& 31)) ≤ nI m := by
        rw [(all_nI n hn).1]; exact nI_le (by omega) (by omega)
      simp only [g_Mo_joinedCost_96, if_pos hle2]
      refine Ok_some ⟨l, hl, ?_⟩
      rw [hm] at hb0 hb1
      cases best with
      | none => exact Or.inl ⟨rfl, no_of hn he hu0 hAl (hb0 rfl)⟩
      | some b =>
        obtain ⟨g1, g2⟩ := hb1 b rfl
        refine Or.inr ⟨b, rfl, ?_, Mn_of hn he hu0 hl.2.2 hAl g2 g1⟩
        obtain ⟨x, x1, x2, -, x3⟩ := g2
        rw [x3]
        exact hsm x x1 x2
    · have hmn : m < 2 ^ n := by omega
      have hle2 : ¬ ((1 : Int32) <<< (nI n &&& 31)) ≤ nI m := by
        rw [(all_nI n hn).1]; exact nI_ge hmn (by omega)
      by_cases hsub : ∀ v, bi (nI e) v = true → bi (nI m) v = true
      · have hc : (nI m &&& nI e) = nI e := (and_nI (by omega) (by omega)).mpr hsub
        obtain ⟨P1, p1, p2⟩ := alone (N := N) (by omega) P''
        simp only [g_Mo_joinedCost_96, if_neg hle2, if_pos hc, p1, bk1]
        have hsmm := hsm m hmn hsub
        refine oneM (by omega) hn hk hC hl hO hA hmn ⟨u0, hsub u0 hu0⟩ p2 ?_
        rintro v5 v6 P2 (⟨rfl, hj, rfl⟩ | ⟨h6, hj⟩)
        · cases best with
          | none =>
            have hneg : enc none < (0 : Int32) := by decide
            simp only [g_Mo_joinedCost_244, if_pos, if_pos hneg, bn, nI_1]
            refine hkk2 (d2 - 1) _ _ _ _ _ (by omega) ⟨m + 1, some (lsum cst (kl fr to (ins fr to (bi (nI m)) l) (fun v => v))), by omega, rfl, rfl, rfl, rfl, (fun h => by cases h), fun b hb => ?_⟩
            cases hb
            refine ⟨fun x hx hsx hjx => ?_, m, hmn, hsub, hj, rfl⟩
            by_cases hxm : x = m
            · subst hxm; exact Nat.le_refl _
            · exact absurd hjx (hb0 rfl x (by omega) hsx)
          | some b =>
            obtain ⟨g1, x0, g2, g3, g4, g5⟩ := hb1 b rfl
            have hbb := hsm x0 g2 g3
            rw [← g5] at hbb
            have e1 : enc (some b) = nI b := rfl
            have hneg : ¬ enc (some b) < (0 : Int32) := nI_pos (n := b) (by omega)
            simp only [g_Mo_joinedCost_244, if_pos, if_neg hneg, bn, nI_1]
            rw [e1]
            by_cases hbl : b ≤ lsum cst (kl fr to (ins fr to (bi (nI m)) l) (fun v => v))
            · rw [if_pos (nI_le hbl (by omega))]
              refine hkk2 (d2 - 1) _ _ _ _ _ (by omega) ⟨m + 1, some b, by omega, rfl, rfl, rfl, rfl, (fun h => by cases h), fun b' hb => ?_⟩
              cases hb
              refine ⟨fun x hx hsx hjx => ?_, x0, g2, g3, g4, g5⟩
              by_cases hxm : x = m
              · subst hxm; exact hbl
              · exact g1 x (by omega) hsx hjx
            · rw [if_neg (nI_ge (by omega) (by omega))]
              refine hkk2 (d2 - 1) _ _ _ _ _ (by omega) ⟨m + 1, some (lsum cst (kl fr to (ins fr to (bi (nI m)) l) (fun v => v))), by omega, rfl, rfl, rfl, rfl, (fun h => by cases h), fun b' hb => ?_⟩
              cases hb
              refine ⟨fun x hx hsx hjx => ?_, m, hmn, hsub, hj, rfl⟩
              by_cases hxm : x = m
              · subst hxm; exact Nat.le_refl _
              · have := g1 x (by omega) hsx hjx
                omega
        · simp only [g_Mo_joinedCost_244, if_neg h6, bn, nI_1]
          refine hkk2 (d2 - 1) _ _ _ _ _ (by omega) ⟨m + 1, best, by omega, rfl, rfl, rfl, rfl, fun hb x hx hsx => ?_, fun b hb => ?_⟩
          · by_cases hxm : x = m
            · subst hxm; exact hj
            · exact hb0 hb x (by omega) hsx
          · obtain ⟨g1, g2⟩ := hb1 b hb
            refine ⟨fun x hx hsx hjx => ?_, g2⟩
            by_cases hxm : x = m
            · subst hxm; exact absurd hjx hj
            · exact g1 x (by omega) hsx hjx
      · have hc : ¬ (nI m &&& nI e) = nI e := fun h => hsub ((and_nI (by omega) (by omega)).mp h)
        simp only [g_Mo_joinedCost_96, if_neg hle2, if_neg hc, bn, nI_1]
        refine hkk2 (d2 - 1) _ _ _ _ _ (by omega) ⟨m + 1, best, by omega, rfl, rfl, rfl, rfl, fun hb x hx hsx => ?_, fun b hb => ?_⟩
        · by_cases hxm : x = m
          · subst hxm; exact absurd hsx hsub
          · exact hb0 hb x (by omega) hsx
        · obtain ⟨g1, g2⟩ := hb1 b hb
          refine ⟨fun x hx hsx hjx => ?_, g2⟩
          by_cases hxm : x = m
          · subst hxm; exact absurd hsx hsub
          · exact g1 x (by omega) hsx hjx
  · have hik : i < k := by omega
    have hle : ¬ nI k ≤ nI i := nI_ge hik (by omega)
    cases ha : al i with
    | false =>
      have hci := (hC i hik).2 ha
      have nm : (-1 : Int32) < 0 := by decide
      simp only [g_Mo_joinedCost_4, if_neg hle, gd_nI (show i < 30 by omega) (by decide), nI_clamp (show i < 2 ^ 31 by omega), hci, if_pos nm, bn, nI_1]
      refine hkk (d - 1) _ _ _ _ (by omega) ⟨i + 1, l, by omega, rfl, rfl, ⟨fun a => ?_, hl.2⟩, hO⟩
      rw [hl.1 a]
      constructor
      · rintro ⟨h1, h2⟩; exact ⟨by omega, h2⟩
      · rintro ⟨h1, h2⟩
        refine ⟨?_, h2⟩
        by_cases e : a = i
        · subst e; rw [ha] at h2; cases h2
        · omega
    | true =>
      obtain ⟨ci, cb⟩ := (hC i hik).1 ha
      have nm : ¬ nI (cst i) < 0 := nI_pos (by omega)
      simp only [g_Mo_joinedCost_4, if_neg hle, gd_nI (show i < 30 by omega) (by decide), nI_clamp (show i < 2 ^ 31 by omega), ci, if_neg nm]
      refine insM (by omega) hk hik ha hC hl hO ?_
      intro l' O2 h1 h2 h3
      exact hkk (d - 1) _ _ _ _ (by omega) ⟨i + 1, l', by omega, rfl, rfl, h1, h3⟩
