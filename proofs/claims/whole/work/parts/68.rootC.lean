theorem wsum_le2 {D : Nat → Nat} {q : Nat → Bool} {B : Nat} : ∀ {m : Nat}, (∀ v, v < m → D v ≤ B) → wsum D q m ≤ B * m
  | 0, _ => by simp [wsum]
  | m + 1, h => by
    have ih := wsum_le2 (D := D) (q := q) (B := B) (m := m) (fun v hv => h v (by omega))
    have h1 := h m (by omega)
    unfold wsum
    rw [Nat.mul_succ]
    split <;> omega
theorem rootC {N n0 r0 : Nat} {fr to w : Nat → Nat} {ord : List Nat} {O F T V A0 H0 B0 G0 : Nat → Int32} {C0 L0 : Nat → Int64} (hN : 100 ≤ N) (hn0 : n0 ≤ 10) (hr0 : r0 < n0) (hlen : ord.length ≤ 30) (hO : ∀ i, i < ord.length → O i = nI (ord.getD i 0)) (hA : ∀ a, a ∈ ord → a < 30 ∧ F a = nI (fr a) ∧ T a = nI (to a) ∧ fr a < n0 ∧ to a < n0) (hne : ∀ a, a ∈ ord → fr a ≠ to a) (hV : ∀ a, a ∈ ord → V a = nI (w a) ∧ w a ≤ 1000) :
    Ok (f_TreesFromRoot_leastCost N (nI r0) (nI n0) (nI ord.length) O T V F A0 H0 C0 L0 B0 G0) (fun res => (res.1 = cN (2 ^ 60) ∧ ∀ x, ¬ Low n0 r0 (e0 r0 fr to w ord) x) ∨ ∃ rv, res.1 = cN rv ∧ rv < 2 ^ 60 ∧ Low n0 r0 (e0 r0 fr to w ord) rv ∧ ∀ x, Low n0 r0 (e0 r0 fr to w ord) x → rv ≤ x) := by
  have hGE0 : GE n0 r0 (e0 r0 fr to w ord) := by
    intro e he
    obtain ⟨a, a1, a2⟩ := List.mem_map.mp he
    obtain ⟨a3, a4⟩ := List.mem_filter.mp a1
    obtain ⟨q1, q2, q3, q4, q5⟩ := hA a a3
    subst a2
    refine ⟨q4, q5, (show ¬ to a = r0 by simpa using a4), hne a a3, ec_le (by omega) q1 (by omega) (hV a a3).2⟩
  have hl0 : (e0 r0 fr to w ord).length ≤ 30 := Nat.le_trans (e0_len ord) hlen
  unfold f_TreesFromRoot_leastCost
  refine Ok_bk6 (takeArcs (A0 := A0) (H0 := H0) (C0 := C0) hN hn0 hr0 hlen hO hA hV) ?_
  rintro ⟨c1, c2, c3, c4, c5, c6⟩ ⟨h1, h2, h3, h4⟩
  have h1 : c1 = nI n0 := h1
  have h2 : c2 = nI r0 := h2
  have h3 : c3 = nI (e0 r0 fr to w ord).length := h3
  have h4 : EA (e0 r0 fr to w ord) c4 c5 c6 := h4
  subst h1 h2 h3
  generalize hE0 : e0 r0 fr to w ord = E0 at *
  -- a value found is below 2^60
  have hsmall : ∀ rv, Low n0 r0 E0 rv → (∀ x, Low n0 r0 E0 x → rv ≤ x) → rv < 2 ^ 60 := by
    intro rv hl hm
    obtain ⟨L, l1, l2, l3, l4⟩ := Low_tree hr0 (fun e he => (hGE0 e he).2.1) hl
    have g1 := hm (asum csE L) ⟨L, l1, Gw_Rch' l2 l3, Nat.le_refl _⟩
    have g2 := asum_le (c := csE) (B := 2 ^ 55) L (fun e he => (hGE0 e (l1 e he)).2.2.2.2)
    have g3 := len30 (m := n0) (Gw_heads L l2).1 (fun v hv => by
      obtain ⟨e, e1, e2⟩ := List.mem_map.mp hv
      rw [← e2]; exact (hGE0 e (l1 e e1)).2.1)
    rw [List.length_map] at g3
    have g4 : 2 ^ 55 * L.length ≤ 2 ^ 55 * 10 := Nat.mul_le_mul_left _ (by omega)
    omega
  refine Ok_lo11 (fun d v2 v4 nd rt ar A H C _ _ _ => ∃ t n r E S, t + d = 10 ∧ v2 = cN S ∧ v4 = nI t ∧ nd = nI n ∧ rt = nI r ∧ ar = nI E.length ∧ EA E A H C ∧ n + t ≤ 10 ∧ r < n ∧ E.length ≤ 30 ∧ GE n r E ∧ S ≤ t * (2 ^ 55 * 10) ∧ ∀ x, Low n0 r0 E0 x ↔ ∃ y, Low n r E y ∧ y + S ≤ x) ?_ 10 N _ _ _ _ _ _ _ _ _ _ _ (by omega) ⟨0, n0, r0, E0, 0, by omega, rfl, rfl, rfl, rfl, rfl, h4, by omega, hr0, hl0, hGE0, by omega, fun x => ⟨fun h => ⟨x, h, by omega⟩, fun ⟨y, ⟨R, q1, q2, q3⟩, hy⟩ => ⟨R, q1, q2, by omega⟩⟩⟩
  rintro kk d v2 v4 nd rt ar A H C LI BF GR ⟨t, n, r, E, S, hd, rfl, rfl, rfl, rfl, rfl, hEA, hnt, hr, hle30, hGE, hS, hlow⟩ hkk
  have hn : n ≤ 10 := by omega
  have ht9 : t ≤ 9 := by omega
  have hle : ¬ (10 : Int32) ≤ nI t := nI_ge (b := 10) (by omega) (by omega)
  simp only [g_TreesFromRoot_leastCost_10, if_neg hle]
  refine Ok_bk3 (chooseArcs (L0 := LI) (B0 := BF) hN hn hr hle30 hGE hEA) ?_
  rintro ⟨x1, x2, x3⟩ (⟨hx, v, hv, hvr, hno⟩ | ⟨hx, D, b, hL, hDr, hDm, hD55, hch⟩)
  · have hx : x1 = 0 := hx
    subst hx
    simp only [if_pos]
    refine Ok_some (Or.inl ⟨cN_60, fun x hl => ?_⟩)
    obtain ⟨y, y1, y2⟩ := (hlow x).mp hl
    exact no_arc hv hvr hno y1
  · have hx : x1 = 1 := hx
    subst hx
    have n1 : ¬ (1 : Int32) = 0 := by decide
    have hL2 : ∀ v, v < 10 → x2 v = cN (D v) := hL
    have hch : ∀ v, v < n → v ≠ r → x3 v = nI (b v) ∧ (b v, v, D v) ∈ E := hch
    simp only [if_neg n1]
    have hSD : ∀ i, i ≤ n → wsum D (fun v => !decide (v = r)) i ≤ 2 ^ 55 * 10 := fun i hi => by
      have := wsum_le2 (D := D) (q := fun v => !decide (v = r)) (B := 2 ^ 55) (m := i) (fun v hv => hD55 v (by omega))
      have g4 : 2 ^ 55 * i ≤ 2 ^ 55 * 10 := Nat.mul_le_mul_left _ (by omega)
      omega
    have hS2 : S ≤ 9 * (2 ^ 55 * 10) := Nat.le_trans hS (Nat.mul_le_mul_right _ ht9)
    have hbn : ∀ w, w < n → w ≠ r → b w < n := fun w h1 h2 => (hGE _ (hch w h1 h2).2).1
    have hbne : ∀ w, w < n → w ≠ r → b w ≠ w := fun w h1 h2 => (hGE _ (hch w h1 h2).2).2.2.2.1
    have hchE : ∀ w, w < n → w ≠ r → (b w, w, 0) ∈ E.map (red D) := fun w h1 h2 => by
      refine List.mem_map.mpr ⟨_, (hch w h1 h2).2, ?_⟩
      simp [red]
    refine Ok_lo12 (fun d v2 v4 v5 nd rt ar A' H' C' L' B' _ => ∃ i, i + d = n ∧ v2 = cN (S + wsum D (fun v => !decide (v = r)) i) ∧ v4 = nI t ∧ v5 = nI i ∧ nd = nI n ∧ rt = nI r ∧ ar = nI E.length ∧ A' = A ∧ H' = H ∧ C' = C ∧ L' = x2 ∧ B' = x3) ?_ n N _ _ _ _ _ _ _ _ _ _ _ _ (by omega) ⟨0, by omega, rfl, rfl, rfl, rfl, rfl, rfl, rfl, rfl, rfl, rfl, rfl⟩
    rintro kk2 d2 v2 v4 v5 nd rt ar A' H' C' L' B' G' ⟨i, hd2, rfl, rfl, rfl, rfl, rfl, rfl, rfl, rfl, rfl, rfl, rfl⟩ hkk2
    by_cases hi : i = n
    · subst hi
      have hle2 : nI i ≤ nI i := nI_le (Nat.le_refl _) (by omega)
      have hSDn := hSD i (Nat.le_refl _)
      have hred := red_le (D := D) hr (fun e he => (hGE e he).2.1) hDm
      simp only [g_TreesFromRoot_leastCost_31, if_pos hle2]
      refine Ok_bk2 (findRings (G0 := G') hN hn hr hbn hbne (fun w h1 h2 => (hch w h1 h2).1)) ?_
      rintro ⟨z1, z2⟩ ⟨q, gr, hz1, hz2, hRG, hq0⟩
      have hz1 : z1 = nI q := hz1
      have hz2 : ∀ v, v < 10 → z2 v = enc (gr v) := hz2
      subst hz1
      have hqn : 2 * q ≤ i := by have := hRG.2.2.2.2; omega
      by_cases hq : q = 0
      · subst hq
        have e0' : nI 0 = 0 := rfl
        simp only [e0', if_pos]
        have hz := no_ring hbn hchE (hq0 rfl)
        have hlw : Low n0 r0 E0 (S + wsum D (fun v => !decide (v = r)) i) := (hlow _).mpr ⟨wsum D (fun v => !decide (v = r)) i, (hred _).mpr ⟨0, hz, by omega⟩, by omega⟩
        have hmn : ∀ x, Low n0 r0 E0 x → S + wsum D (fun v => !decide (v = r)) i ≤ x := fun x hx => by
          obtain ⟨y, y1, y2⟩ := (hlow x).mp hx
          obtain ⟨y', y3, y4⟩ := (hred y).mp y1
          omega
        exact Ok_some (Or.inr ⟨_, rfl, hsmall _ hlw hmn, hlw, hmn⟩)
      · have hqz : ¬ nI q = 0 := fun h => hq ((nI_eq (a := q) (b := 0) (by omega) (by omega)).mp h)
        simp only [if_neg hqz]
        refine Ok_bk7 (contractM (b := b) hN hn hr hle30 hGE hEA hz2 hRG hL hDm) ?_
        rintro ⟨u1, u2, u3, u4, u5, u6, u7⟩ ⟨k1, k2, k3, k4⟩
        have k1 : EA (e1 D (gf gr q) E) u3 u4 u2 := k1
        have k2 : u5 = nI (e1 D (gf gr q) E).length := k2
        have k3 : u6 = nI (gf gr q r) := k3
        have k4 : u7 = nI (q + cw (non gr) i) := k4
        simp only [bn, nI_1]
        have hcn : cw (non gr) i = nbs (fun v => decide (gr v = none)) i := cw_nbs _ i
        have hRG5 := hRG.2.2.2.2
        have hl1 := e1_len D (gf gr q) E
        refine hkk (d - 1) _ _ _ _ _ _ _ _ _ _ _ (by omega) ⟨t + 1, q + cw (non gr) i, gf gr q r, e1 D (gf gr q) E, S + wsum D (fun v => !decide (v = r)) i, by omega, rfl, rfl, k4, k3, k2, k1, by omega, gf_lt hRG hr, by omega, ?_, ?_, ?_⟩
        · intro e' he'
          obtain ⟨e, x1, x2', x3'⟩ := e1_mem he'
          obtain ⟨g1, g2, g3, g4, g5⟩ := hGE e x1
          subst x3'
          refine ⟨gf_lt hRG g1, gf_lt hRG g2, fun h => g3 (gf_root hRG g2 h), x2', ?_⟩
          show e.2.2 - D e.2.1 ≤ 2 ^ 55
          have : e.2.2 ≤ 2 ^ 55 := g5
          omega
        · rw [Nat.add_mul]
          omega
        · intro x
          rw [hlow x]
          have hcl := contract_low (b := b) (g := gf gr q) (n' := q + cw (non gr) i) (E := E.map (red D)) hr (fun e he => by
            obtain ⟨f, f1, f2⟩ := List.mem_map.mp he
            rw [← f2]; exact ⟨(hGE f f1).1, (hGE f f1).2.1⟩) hbn hchE (fun v hv => gf_lt hRG hv) (fun c hc => gf_on hRG hc) (fun u v hu hv he => gf_same hRG hu hv he)
          constructor
          · rintro ⟨y, y1, y2⟩
            obtain ⟨y', y3, y4⟩ := (hred y).mp y1
            exact ⟨y', (hcl y').mp y3, by omega⟩
          · rintro ⟨y, y1, y2⟩
            exact ⟨y + wsum D (fun v => !decide (v = r)) i, (hred _).mpr ⟨y, (hcl y).mpr y1, Nat.le_refl _⟩, by omega⟩
    · have hin : i < n := by omega
      have hle2 : ¬ nI n ≤ nI i := nI_ge hin (by omega)
      simp only [g_TreesFromRoot_leastCost_31, if_neg hle2, gd_nI (show i < 10 by omega) (by decide), nI_clamp (show i < 2 ^ 31 by omega), bn, nI_1, hL2 i (by omega), cN_add]
      refine hkk2 (d2 - 1) _ _ _ _ _ _ _ _ _ _ _ _ (by omega) ⟨i + 1, by omega, ?_, rfl, rfl, rfl, rfl, rfl, rfl, rfl, rfl, rfl, rfl⟩
      have e3 : wsum D (fun v => !decide (v = r)) (i + 1) = wsum D (fun v => !decide (v = r)) i + (if (!decide (i = r)) = true then D i else 0) := rfl
      rw [e3]
      by_cases hir : i = r
      · subst hir
        rw [hDr]
        simp
      · rw [if_pos (by simp [hir]), Nat.add_assoc]
