/-! judge -/
theorem sh64u : ∀ a, a < 64 → (((nI a).toInt64.toUInt64 &&& Int64.toUInt64 63).toBitVec % 64).toNat = a := by decide +kernel
theorem bit_ushr1 (x : Int64) {a : Nat} (ha : a < 64) : (((x.toUInt64 >>> ((nI a).toInt64.toUInt64 &&& Int64.toUInt64 63)).toInt64) &&& (1 : Int64)) = 1 ↔ x.toBitVec.getLsbD a = true := by
  have e : (((x.toUInt64 >>> ((nI a).toInt64.toUInt64 &&& Int64.toUInt64 63)).toInt64) &&& (1 : Int64)).toBitVec = (x.toBitVec >>> a) &&& 1#64 := by
    rw [Int64.toBitVec_and, UInt64.toBitVec_toInt64, UInt64.toBitVec_shiftRight, BitVec.ushiftRight_eq']
    have e1 : (1 : Int64).toBitVec = 1#64 := by decide +kernel
    rw [e1, sh64u a ha]
    rfl
  rw [← Int64.toBitVec_inj, e]
  have e1 : (1 : Int64).toBitVec = 1#64 := by decide +kernel
  rw [e1]
  constructor
  · intro h
    have h2 := congrArg (fun v => v.getLsbD 0) h
    simpa using h2
  · intro h
    apply BitVec.eq_of_getLsbD_eq
    intro i hi
    simp only [BitVec.getLsbD_and, BitVec.getLsbD_ushiftRight, BitVec.getLsbD_one]
    by_cases h0 : i = 0
    · subst h0
      rw [Nat.add_zero, h]; rfl
    · simp [h0]
theorem isArcM {k i : Nat} {pr : Nat → Bool} {H : Nat → Int32} (hk : k ≤ 30) (hi : i < 64) (hH : ∀ a, a < k → H a = (if pr a = true then 1 else 0)) : f_Mo_isArc (nI i) (nI k) H = some (if i < k ∧ pr i = true then 1 else 0) := by
  have h0 : ¬ nI i < 0 := nI_pos (by omega)
  by_cases h1 : k ≤ i
  · rw [if_neg (by omega)]
    simp only [f_Mo_isArc, if_neg h0, if_pos (nI_le h1 (show i < 2 ^ 31 by omega))]
  · have hi2 : i < k := by omega
    have h2 := hH i hi2
    have n1 : ¬ (1 : Int32) = 0 := by decide
    by_cases hp : pr i = true
    · rw [if_pos hp] at h2
      rw [if_pos ⟨hi2, hp⟩]
      simp only [f_Mo_isArc, if_neg h0, if_neg (nI_ge hi2 (show k < 2 ^ 31 by omega)), gd_nI (show i < 30 by omega) (by decide), nI_clamp (show i < 2 ^ 31 by omega), h2, if_neg n1]
    · rw [if_neg hp] at h2
      rw [if_neg (fun q => hp q.2)]
      simp only [f_Mo_isArc, if_neg h0, if_neg (nI_ge hi2 (show k < 2 ^ 31 by omega)), gd_nI (show i < 30 by omega) (by decide), nI_clamp (show i < 2 ^ 31 by omega), h2, if_pos]
theorem cnt_mono {f g : Nat → Nat} (h : ∀ v, g v = v → f v = v) : ∀ n, cnt g n ≤ cnt f n
  | 0 => Nat.le_refl 0
  | n + 1 => by
    have ih := cnt_mono h n
    unfold cnt
    by_cases h1 : g n = n
    · rw [if_pos h1, if_pos (h n h1)]; omega
    · rw [if_neg h1]; omega
theorem cnt_same {f g : Nat → Nat} (h : ∀ v, g v = v → f v = v) : ∀ n, cnt g n = cnt f n → ∀ v, v < n → f v = v → g v = v
  | 0, _, v, hv, _ => absurd hv (Nat.not_lt_zero v)
  | n + 1, e, v, hv, hf => by
    have hm := cnt_mono h n
    unfold cnt at e
    by_cases h1 : g n = n
    · rw [if_pos h1, if_pos (h n h1)] at e
      by_cases ev : v = n
      · rw [ev]; exact h1
      · exact cnt_same h n (by omega) v (by omega) hf
    · rw [if_neg h1] at e
      by_cases h2 : f n = n
      · rw [if_pos h2] at e; omega
      · rw [if_neg h2] at e
        have ev : v ≠ n := fun q => h2 (q ▸ hf)
        exact cnt_same h n (by omega) v (by omega) hf
theorem ref_root {f g : Nat → Nat} (hf : Lb f) (hg : Lb g) (h : ∀ u v, f u = f v → g u = g v) (v : Nat) (hv : g v = v) : f v = v := by
  have e1 : g (f v) = g v := h _ _ (hf.2 v)
  have e2 := hg.1 (f v)
  have e3 := hf.1 v
  omega
theorem ref_eq {f g : Nat → Nat} {n : Nat} (hf : Lb f) (hg : Lb g) (h : ∀ u v, f u = f v → g u = g v) (hc : cnt g n = cnt f n) {u : Nat} (hu : u < n) : f u = g u := by
  have e1 : g (f u) = g u := h _ _ (hf.2 u)
  have e3 := hf.1 u
  have e2 := cnt_same (ref_root hf hg h) n hc (f u) (by omega) (hf.2 u)
  omega
/-- a part of the arcs joins as much as all of them -/
theorem same_cnt {n k : Nat} {fr to w : Nat → Nat} {pr : Nat → Bool} {ord : List Nat} {S : Int64} (hG : GR n k fr to w pr ord) (hS : ∀ a, a < k → bl S a = true → pr a = true) : cnt (klab fr to k S) n = cnt (kr fr to ord (fun v => v)) n ↔ ∀ a, a < k → pr a = true → klab fr to k S (fr a) = klab fr to k S (to a) := by
  have hsub : ∀ u v, klab fr to k S u = klab fr to k S v → kr fr to ord (fun v => v) u = kr fr to ord (fun v => v) v := fun u v e => kr_sub (fun a ha => by
    have := pal_mem.mp ha
    exact (hG.2.2.2.2.2 a).mpr ⟨by omega, hS a (by omega) this.2.2⟩) e
  have l1 : Lb (klab fr to k S) := kr_Lb _ Lb_id
  have l2 : Lb (kr fr to ord (fun v => v)) := kr_Lb _ Lb_id
  constructor
  · intro hc a ha hp
    obtain ⟨g1, g2, -, -⟩ := hG.2.2.2.1 a ha
    rw [ref_eq l1 l2 hsub hc.symm g1, ref_eq l1 l2 hsub hc.symm g2]
    exact kr_arc ord ((hG.2.2.2.2.2 a).mpr ⟨ha, hp⟩)
  · intro h
    have : klab fr to k S = kr fr to ord (fun v => v) := lb_eq l1 l2 hsub (kr_least (E := fun x y => klab fr to k S x = klab fr to k S y) (fun _ => rfl) (fun _ _ e => e.symm) (fun _ _ _ e1 e2 => e1.trans e2) ord (fun x y (q : x = y) => by rw [q]) (fun a ha => h a ((hG.2.2.2.2.2 a).mp ha).1 ((hG.2.2.2.2.2 a).mp ha).2))
    rw [this]
def fj (w : Nat → Nat) (hv : Nat → Option Nat) (i : Nat) : Nat → Int32
  | 0 => 0
  | d + 1 => match hv i with
    | none => fj w hv (i + 1) d
    | some o => if w o ≤ w i then fj w hv (i + 1) d else 100 + nI i
def JQ (fr to w : Nat → Nat) (k : Nat) (pr : Nat → Bool) (S oth : Int64) (x : Int32) : Prop :=
  (rl fr to (pal (bl S) 0 k) (fun v => v) = false ∧ x = 2) ∨ (rl fr to (pal (bl S) 0 k) (fun v => v) = true ∧ (((¬ ∀ a, a < k → pr a = true → klab fr to k S (fr a) = klab fr to k S (to a)) ∧ x = 3) ∨ ((∀ a, a < k → pr a = true → klab fr to k S (fr a) = klab fr to k S (to a)) ∧ x = fj w (hvs fr to w k S oth) 0 k)))
theorem JQ_u {fr to w : Nat → Nat} {k : Nat} {pr : Nat → Bool} {S oth : Int64} {x y : Int32} (hx : JQ fr to w k pr S oth x) (hy : JQ fr to w k pr S oth y) : x = y := by
  rcases hx with ⟨h1, h2⟩ | ⟨h1, ⟨h2, h3⟩ | ⟨h2, h3⟩⟩ <;> rcases hy with ⟨q1, q2⟩ | ⟨q1, ⟨q2, q3⟩ | ⟨q2, q3⟩⟩
  · rw [h2, q2]
  · rw [h1] at q1; cases q1
  · rw [h1] at q1; cases q1
  · rw [h1] at q1; cases q1
  · rw [h3, q3]
  · exact absurd q2 h2
  · rw [h1] at q1; cases q1
  · exact absurd h2 q2
  · rw [h3, q3]
theorem vd_loop {N k : Nat} {w : Nat → Nat} {S oth : Int64} {fr to : Nat → Nat} {H W : Nat → Int32} {x1 x2 : Int32} {L : Nat → Int32} (hN : 100 ≤ N) (hk : k ≤ 30) (hW : ∀ a, a < k → W a = nI (w a) ∧ w a ≤ 1000) (hH : ∀ a, a < k → H a = enc (hvs fr to w k S oth a)) :
    Ok (lo5 (g_Forests_verdict_56 (nI k) W) N (0 : Int32) x1 x2 L H) (fun r => r.1 = fj w (hvs fr to w k S oth) 0 k) := by
  refine Ok_lo5 (fun d v4 _ _ _ H' => ∃ i, v4 = nI i ∧ i + d = k ∧ H' = H ∧ fj w (hvs fr to w k S oth) 0 k = fj w (hvs fr to w k S oth) i d) ?_ k N _ _ _ _ _ (by omega) ⟨0, rfl, by omega, rfl, rfl⟩
  rintro kk d v4 y1 y2 L1 H' ⟨i, rfl, hd, rfl, hr⟩ hkk
  cases d with
  | zero =>
    have e : i = k := by omega
    subst e
    have hle : nI i ≤ nI i := nI_le (Nat.le_refl _) (by omega)
    simp only [g_Forests_verdict_56, if_pos hle]
    exact Ok_some hr.symm
  | succ d =>
    have hik : i < k := by omega
    have hle : ¬ nI k ≤ nI i := nI_ge hik (by omega)
    have hHi := hH i hik
    obtain ⟨w1, w2⟩ := hW i hik
    cases hh : hvs fr to w k S oth i with
    | none =>
      rw [hh] at hHi
      have hHi2 : H' i = (-1 : Int32) := hHi
      have nm : (-1 : Int32) < 0 := by decide
      simp only [g_Forests_verdict_56, if_neg hle, gd_nI (show i < 30 by omega) (by decide), nI_clamp (show i < 2 ^ 31 by omega), bn, hHi2, if_pos nm, nI_1]
      refine hkk d _ _ _ _ _ (by omega) ⟨i + 1, rfl, by omega, rfl, ?_⟩
      rw [hr]
      simp only [fj, hh]
    | some o =>
      rw [hh] at hHi
      have hHi2 : H' i = nI o := hHi
      obtain ⟨hok, hob⟩ := hvs_b hh
      obtain ⟨w3, w4⟩ := hW o hok
      have nf : ¬ nI o < 0 := nI_pos (by omega)
      by_cases hz : w o ≤ w i
      · simp only [g_Forests_verdict_56, if_neg hle, gd_nI (show i < 30 by omega) (by decide), nI_clamp (show i < 2 ^ 31 by omega), bn, hHi2, if_neg nf, nI_1, gd_nI (show o < 30 by omega) (by decide), nI_clamp (show o < 2 ^ 31 by omega), w1, w3, if_pos (nI_le hz (show w i < 2 ^ 31 by omega))]
        refine hkk d _ _ _ _ _ (by omega) ⟨i + 1, rfl, by omega, rfl, ?_⟩
        rw [hr]
        simp only [fj, hh, if_pos hz]
      · simp only [g_Forests_verdict_56, if_neg hle, gd_nI (show i < 30 by omega) (by decide), nI_clamp (show i < 2 ^ 31 by omega), bn, hHi2, if_neg nf, nI_1, gd_nI (show o < 30 by omega) (by decide), nI_clamp (show o < 2 ^ 31 by omega), w1, w3, if_neg (nI_ge (show w i < w o by omega) (show w o < 2 ^ 31 by omega))]
        refine Ok_some ?_
        rw [hr]
        simp only [fj, hh, if_neg hz]
theorem verdict {N n k : Nat} {fr to w : Nat → Nat} {pr : Nat → Bool} {ord : List Nat} {pres S : Int64} {O F T V L H : Nat → Int32} {gn gk gs x y : Int32} (hN : 100 ≤ N) (hG : GR n k fr to w pr ord) (hC : CR gn gk gs pres F T V O n k fr to w pr ord) :
    Ok (f_Forests_verdict N S gn gk gs pres x y L O F T H V) (fun r => ((¬ ∀ b, b < 64 → bl S b = true → b < k ∧ pr b = true) ∧ r.1 = 1) ∨ ((∀ b, b < 64 → bl S b = true → b < k ∧ pr b = true) ∧ JQ fr to w k pr S (pres &&& (S ^^^ (-1 : Int64))) r.1)) := by
  have hk := hG.2.1
  have hA : ∀ a, a < k → F a = nI (fr a) ∧ T a = nI (to a) ∧ fr a < n ∧ to a < n := fun a ha => ⟨(hC.2.2.2.2.1 a ha).1, (hC.2.2.2.2.1 a ha).2.1, (hG.2.2.2.1 a ha).1, (hG.2.2.2.1 a ha).2.1⟩
  have hW : ∀ a, a < k → V a = nI (w a) ∧ w a ≤ 1000 := fun a ha => ⟨(hC.2.2.2.2.1 a ha).2.2, (hG.2.2.2.1 a ha).2.2.2⟩
  have hp : ∀ a, a < 64 → bl pres a = (decide (a < k) && pr a) := hC.2.2.2.1
  have n1 : ¬ (1 : Int32) = 0 := by decide
  have hcond : lg_cmp (S &&& (pres ^^^ (-1 : Int64))) (0 : Int64) = 0 ↔ ∀ b, b < 64 → bl S b = true → b < k ∧ pr b = true := by
    rw [lg_cmp_eq]
    constructor
    · intro e b hb hs
      have h1 := bl_andnot S pres hb
      rw [e, bl_0, hs, hp b hb] at h1
      cases hz : (decide (b < k) && pr b) with
      | true =>
        rw [Bool.and_eq_true, decide_eq_true_iff] at hz
        exact hz
      | false => rw [hz] at h1; cases h1
    · intro h
      apply bl_ext
      intro b hb
      rw [bl_andnot _ _ hb, bl_0]
      cases hs : bl S b with
      | false => rfl
      | true =>
        obtain ⟨q1, q2⟩ := h b hb hs
        rw [hp b hb, q2]
        simp [q1]
  obtain ⟨L1, e1, -⟩ := findLeast (L := L) hN hG.1 (by have := hG.2.2.1; omega) hC.2.2.2.2.2 (hC.arcs hG)
  obtain ⟨L2, e2, -⟩ := hangBy (S := S) (L := L1) hN hG.1 hk hA
  rw [hC.1, hC.2.1, hC.2.2.1]
  by_cases hc : lg_cmp (S &&& (pres ^^^ (-1 : Int64))) (0 : Int64) = 0
  · have hall := hcond.mp hc
    simp only [f_Forests_verdict, if_pos hc, f_Forests_countParts, e1, bk4, e2]
    have hsc := same_cnt hG (S := S) (fun a ha hs => (hall a (by omega) hs).2)
    cases hr : rl fr to (pal (bl S) 0 k) (fun v => v) with
    | false =>
      simp only [b2, if_pos]
      exact Ok_some (Or.inr ⟨hall, Or.inl ⟨hr, rfl⟩⟩)
    | true =>
      simp only [b2, if_neg n1]
      have c1 := cnt_le (klab fr to k S) n
      have c2 := cnt_le (kr fr to ord (fun v => v)) n
      have hn := hG.1
      have hce : nI (cnt (klab fr to k S) n) = nI (cnt (kr fr to ord (fun v => v)) n) ↔ cnt (klab fr to k S) n = cnt (kr fr to ord (fun v => v)) n := nI_eq (by omega) (by omega)
      by_cases hq : cnt (klab fr to k S) n = cnt (kr fr to ord (fun v => v)) n
      · rw [if_pos (hce.mpr hq)]
        obtain ⟨⟨r1, r2, r3, r4⟩, f1, f2⟩ := findHeaviest (S := S) (pres := pres) (L := L2) (H := H) (x := nI n) (y := nI (cnt (klab fr to k S) n)) hN hn hk hA hW
        rw [f1]
        refine Ok_mono (vd_loop (oth := pres &&& (S ^^^ (-1 : Int64))) (fr := fr) (to := to) (S := S) hN hk hW f2) ?_
        intro r hr2
        exact Or.inr ⟨hall, Or.inr ⟨hr, Or.inr ⟨hsc.mp hq, hr2⟩⟩⟩
      · rw [if_neg (fun z => hq (hce.mp z))]
        exact Ok_some (Or.inr ⟨hall, Or.inr ⟨hr, Or.inl ⟨fun z => hq (hsc.mpr z), rfl⟩⟩⟩)
  · simp only [f_Forests_verdict, if_neg hc]
    exact Ok_some (Or.inl ⟨fun h => hc (hcond.mpr h), rfl⟩)
theorem j4_loop {N n k : Nat} {fr to w : Nat → Nat} {pr : Nat → Bool} {S oth : Int64} {F T V H P : Nat → Int32} (hN : 100 ≤ N) (hn : n ≤ 10) (hk : k ≤ 30) (hA : ∀ a, a < k → F a = nI (fr a) ∧ T a = nI (to a) ∧ fr a < n ∧ to a < n) (hV : ∀ a, a < k → V a = nI (w a) ∧ w a ≤ 1000) (hH : ∀ a, a < k → H a = (if pr a = true then 1 else 0)) (hoth : ∀ a, a < k → bl oth a = (pr a && !bl S a)) :
    Ok (lo2 (g_Mo_judge_128 N S (nI k) H F T V) N (0 : Int32) P) (fun r => r.1 = fj w (hvs fr to w k S oth) 0 k) := by
  refine Ok_lo2 (fun d v3 _ => ∃ i, v3 = nI i ∧ i + d = k ∧ fj w (hvs fr to w k S oth) 0 k = fj w (hvs fr to w k S oth) i d) ?_ k N _ _ (by omega) ⟨0, rfl, by omega, rfl⟩
  rintro kk d v3 P1 ⟨i, rfl, hd, hr⟩ hkk
  cases d with
  | zero =>
    have e : i = k := by omega
    subst e
    have hle : nI i ≤ nI i := nI_le (Nat.le_refl _) (by omega)
    simp only [g_Mo_judge_128, if_pos hle]
    exact Ok_some hr.symm
  | succ d =>
    have hik : i < k := by omega
    have hle : ¬ nI k ≤ nI i := nI_ge hik (by omega)
    obtain ⟨a1, a2, a3, a4⟩ := hA i hik
    obtain ⟨w1, w2⟩ := hV i hik
    have n1 : ¬ (1 : Int32) = 0 := by decide
    have hHi := hH i hik
    have skip : bl oth i = false → fj w (hvs fr to w k S oth) 0 k = fj w (hvs fr to w k S oth) (i + 1) d := by
      intro hb
      have e : hvs fr to w k S oth i = none := hvo_0 (fun j _ => by unfold pb; rw [hb]; rfl)
      rw [hr]
      simp only [fj, e]
    by_cases hpi : pr i = true
    · rw [if_pos hpi] at hHi
      cases hb : bl S i with
      | true =>
        have hc : lg_cmp ((S >>> ((nI i).toInt64 &&& 63)) &&& (1 : Int64)) (1 : Int64) = 0 := by rw [lg_cmp_eq, bit_shr1 S (show i < 64 by omega)]; exact hb
        simp only [g_Mo_judge_128, if_neg hle, gd_nI (show i < 30 by omega) (by decide), nI_clamp (show i < 2 ^ 31 by omega), hHi, if_neg n1, if_pos hc, bn, nI_1]
        exact hkk d _ _ (by omega) ⟨i + 1, rfl, by omega, skip (by rw [hoth i hik, hb]; simp)⟩
      | false =>
        have hc : ¬ lg_cmp ((S >>> ((nI i).toInt64 &&& 63)) &&& (1 : Int64)) (1 : Int64) = 0 := by rw [lg_cmp_eq, bit_shr1 S (show i < 64 by omega)]; unfold bl at hb; rw [hb]; simp
        simp only [g_Mo_judge_128, if_neg hle, gd_nI (show i < 30 by omega) (by decide), nI_clamp (show i < 2 ^ 31 by omega), hHi, if_neg n1, if_neg hc]
        have hoi : bl oth i = true := by rw [hoth i hik, hpi, hb]; rfl
        refine Ok_lo3 (fun d2 v3' v4' _ => ∃ j, v3' = nI i ∧ v4' = nI j ∧ j + d2 = k ∧ ∀ x, x < j → pb fr to k S oth i x = true → w x ≤ w i) ?_ k N _ _ _ (by omega) ⟨0, rfl, rfl, by omega, fun x hx => absurd hx (Nat.not_lt_zero x)⟩
        rintro k161 d2 v3' v4' P2 ⟨j, rfl, rfl, hd2, hr2⟩ hk161
        by_cases hj : j = k
        · subst hj
          have hle2 : nI j ≤ nI j := nI_le (Nat.le_refl _) (by omega)
          simp only [g_Mo_judge_161, if_pos hle2, bn, nI_1]
          refine hkk d _ _ (by omega) ⟨i + 1, rfl, by omega, ?_⟩
          rw [hr]
          cases hh : hvs fr to w j S oth i with
          | none => simp only [fj, hh]
          | some o =>
            have q := hvo_s hh
            have := hr2 o q.1 q.2.1
            simp only [fj, hh, if_pos this]
        · have hjk : j < k := by omega
          have hle2 : ¬ nI k ≤ nI j := nI_ge hjk (by omega)
          obtain ⟨w3, w4⟩ := hV j hjk
          have go : (pb fr to k S oth i j = true → w j ≤ w i) → ∀ P3, Ok (k161 (nI i) (nI (j + 1)) P3) (fun r => r.1 = fj w (hvs fr to w k S oth) 0 k) := by
            intro hx P3
            refine hk161 (d2 - 1) _ _ _ (by omega) ⟨j + 1, rfl, rfl, by omega, fun x hx1 hx2 => ?_⟩
            by_cases e : x = j
            · subst e; exact hx hx2
            · exact hr2 x (by omega) hx2
          cases hbj : bl S j with
          | false =>
            have hc2 : ¬ lg_cmp ((S >>> ((nI j).toInt64 &&& 63)) &&& (1 : Int64)) (1 : Int64) = 0 := by rw [lg_cmp_eq, bit_shr1 S (show j < 64 by omega)]; unfold bl at hbj; rw [hbj]; simp
            simp only [g_Mo_judge_161, if_neg hle2, if_neg hc2, bn, nI_1]
            exact go (fun z => by unfold pb at z; rw [hbj] at z; simp at z) P2
          | true =>
            have hc2 : lg_cmp ((S >>> ((nI j).toInt64 &&& 63)) &&& (1 : Int64)) (1 : Int64) = 0 := by rw [lg_cmp_eq, bit_shr1 S (show j < 64 by omega)]; exact hbj
            by_cases hz : w j ≤ w i
            · simp only [g_Mo_judge_161, if_neg hle2, if_pos hc2, gd_nI (show j < 30 by omega) (by decide), gd_nI (show i < 30 by omega) (by decide), nI_clamp (show i < 2 ^ 31 by omega), nI_clamp (show j < 2 ^ 31 by omega), w1, w3, if_pos (nI_le hz (show w i < 2 ^ 31 by omega)), bn, nI_1]
              exact go (fun _ => hz) P2
            · obtain ⟨P3, e3⟩ := hangs (S := sw S j) (P := P2) hN hn hk (show fr i < 10 by omega) (show to i < 10 by omega) hA
              have hz2 : ¬ nI (w j) ≤ nI (w i) := nI_ge (by omega) (by omega)
              by_cases hq : klab fr to k (sw S j) (fr i) = klab fr to k (sw S j) (to i)
              · rw [if_pos hq] at e3
                unfold sw at e3
                simp only [g_Mo_judge_161, if_neg hle2, if_pos hc2, gd_nI (show j < 30 by omega) (by decide), gd_nI (show i < 30 by omega) (by decide), nI_clamp (show i < 2 ^ 31 by omega), nI_clamp (show j < 2 ^ 31 by omega), w1, w3, if_neg hz2, a1, a2, e3, bk2, if_neg n1, bn, nI_1]
                exact go (fun z => by unfold pb ap at z; simp [hq] at z) P3
              · rw [if_neg hq] at e3
                unfold sw at e3
                simp only [g_Mo_judge_161, if_neg hle2, if_pos hc2, gd_nI (show j < 30 by omega) (by decide), gd_nI (show i < 30 by omega) (by decide), nI_clamp (show i < 2 ^ 31 by omega), nI_clamp (show j < 2 ^ 31 by omega), w1, w3, if_neg hz2, a1, a2, e3, bk2, if_pos]
                refine Ok_some ?_
                have hp1 : pb fr to k S oth i j = true := by unfold pb ap; rw [hoi, hbj, decide_eq_true hq]; rfl
                rw [hr]
                cases hh : hvs fr to w k S oth i with
                | none =>
                  have := hvo_n hh j hjk
                  rw [hp1] at this; cases this
                | some o =>
                  have q := (hvo_s hh).2.2 j hjk hp1
                  simp only [fj, hh, if_neg (show ¬ w o ≤ w i by omega)]
    · rw [if_neg hpi] at hHi
      simp only [g_Mo_judge_128, if_neg hle, gd_nI (show i < 30 by omega) (by decide), nI_clamp (show i < 2 ^ 31 by omega), hHi, if_pos, bn, nI_1]
      exact hkk d _ _ (by omega) ⟨i + 1, rfl, by omega, skip (by rw [hoth i hik]; simp [hpi])⟩
theorem j3_loop {N n k : Nat} {fr to w : Nat → Nat} {pr : Nat → Bool} {S oth : Int64} {F T V H P : Nat → Int32} (hN : 100 ≤ N) (hn : n ≤ 10) (hk : k ≤ 30) (hA : ∀ a, a < k → F a = nI (fr a) ∧ T a = nI (to a) ∧ fr a < n ∧ to a < n) (hV : ∀ a, a < k → V a = nI (w a) ∧ w a ≤ 1000) (hH : ∀ a, a < k → H a = (if pr a = true then 1 else 0)) (hoth : ∀ a, a < k → bl oth a = (pr a && !bl S a)) (hP : ∀ v, v < 10 → P v = nI (klab fr to k S v)) (hl : ∀ v, v < 10 → klab fr to k S v < 10) :
    Ok (lo2 (g_Mo_judge_76 N S (nI k) H F T V) N (0 : Int32) P) (fun r => ((¬ ∀ a, a < k → pr a = true → klab fr to k S (fr a) = klab fr to k S (to a)) ∧ r.1 = 3) ∨ ((∀ a, a < k → pr a = true → klab fr to k S (fr a) = klab fr to k S (to a)) ∧ r.1 = fj w (hvs fr to w k S oth) 0 k)) := by
  refine Ok_lo2 (fun d v3 P' => ∃ i, v3 = nI i ∧ i + d = k ∧ P' = P ∧ ∀ a, a < i → pr a = true → klab fr to k S (fr a) = klab fr to k S (to a)) ?_ k N _ _ (by omega) ⟨0, rfl, by omega, rfl, fun a ha => absurd ha (Nat.not_lt_zero a)⟩
  rintro kk d v3 P1 ⟨i, rfl, hd, rfl, hr⟩ hkk
  by_cases hi : i = k
  · subst hi
    have hle : nI i ≤ nI i := nI_le (Nat.le_refl _) (by omega)
    simp only [g_Mo_judge_76, if_pos hle]
    exact Ok_mono (j4_loop hN hn hk hA hV hH hoth) (fun r q => Or.inr ⟨hr, q⟩)
  · have hik : i < k := by omega
    have hle : ¬ nI k ≤ nI i := nI_ge hik (by omega)
    obtain ⟨a1, a2, a3, a4⟩ := hA i hik
    have n1 : ¬ (1 : Int32) = 0 := by decide
    have hHi := hH i hik
    by_cases hpi : pr i = true
    · rw [if_pos hpi] at hHi
      have l1 := hl (fr i) (by omega)
      have l2 := hl (to i) (by omega)
      by_cases hq : klab fr to k S (fr i) = klab fr to k S (to i)
      · have hc : nI (klab fr to k S (fr i)) = nI (klab fr to k S (to i)) := by rw [hq]
        simp only [g_Mo_judge_76, if_neg hle, gd_nI (show i < 30 by omega) (by decide), nI_clamp (show i < 2 ^ 31 by omega), hHi, if_neg n1, a1, a2, gd_nI (show fr i < 10 by omega) (by decide), gd_nI (show to i < 10 by omega) (by decide), nI_clamp (show fr i < 2 ^ 31 by omega), nI_clamp (show to i < 2 ^ 31 by omega), hP (fr i) (by omega), hP (to i) (by omega), if_pos hc, bn, nI_1]
        refine hkk (d - 1) _ _ (by omega) ⟨i + 1, rfl, by omega, rfl, fun a ha hpa => ?_⟩
        by_cases e : a = i
        · rw [e]; exact hq
        · exact hr a (by omega) hpa
      · have hc : ¬ nI (klab fr to k S (fr i)) = nI (klab fr to k S (to i)) := fun z => hq ((nI_eq (by omega) (by omega)).mp z)
        simp only [g_Mo_judge_76, if_neg hle, gd_nI (show i < 30 by omega) (by decide), nI_clamp (show i < 2 ^ 31 by omega), hHi, if_neg n1, a1, a2, gd_nI (show fr i < 10 by omega) (by decide), gd_nI (show to i < 10 by omega) (by decide), nI_clamp (show fr i < 2 ^ 31 by omega), nI_clamp (show to i < 2 ^ 31 by omega), hP (fr i) (by omega), hP (to i) (by omega), if_neg hc]
        exact Ok_some (Or.inl ⟨fun z => hq (z i hik hpi), rfl⟩)
    · rw [if_neg hpi] at hHi
      simp only [g_Mo_judge_76, if_neg hle, gd_nI (show i < 30 by omega) (by decide), nI_clamp (show i < 2 ^ 31 by omega), hHi, if_pos, bn, nI_1]
      refine hkk (d - 1) _ _ (by omega) ⟨i + 1, rfl, by omega, rfl, fun a ha hpa => ?_⟩
      by_cases e : a = i
      · subst e; exact absurd hpa hpi
      · exact hr a (by omega) hpa
theorem j2_loop {N n k : Nat} {fr to w : Nat → Nat} {pr : Nat → Bool} {S oth : Int64} {F T V H P : Nat → Int32} (hN : 100 ≤ N) (hn : n ≤ 10) (hk : k ≤ 30) (hA : ∀ a, a < k → F a = nI (fr a) ∧ T a = nI (to a) ∧ fr a < n ∧ to a < n) (hV : ∀ a, a < k → V a = nI (w a) ∧ w a ≤ 1000) (hH : ∀ a, a < k → H a = (if pr a = true then 1 else 0)) (hoth : ∀ a, a < k → bl oth a = (pr a && !bl S a)) (hP : ∀ v, v < 10 → P v = nI v) :
    Ok (lo2 (g_Mo_judge_40 N S (nI k) H F T V) N (0 : Int32) P) (fun r => JQ fr to w k pr S oth r.1) := by
  refine Ok_lo2 (fun d v3 P' => ∃ (i : Nat) (lab : Nat → Nat), v3 = nI i ∧ i + d = k ∧ (∀ v, v < 10 → lab v < 10) ∧ (∀ v, v < 10 → P' v = nI (lab v)) ∧ rl fr to (pal (bl S) 0 k) (fun v => v) = rl fr to (pal (bl S) i d) lab ∧ klab fr to k S = kr fr to (pal (bl S) i d) lab) ?_ k N _ _ (by omega) ⟨0, fun v => v, rfl, by omega, fun v hv => hv, hP, rfl, rfl⟩
  rintro kk d v3 P1 ⟨i, lab, rfl, hd, h10, hL, hr1, hr2⟩ hkk
  cases d with
  | zero =>
    have e : i = k := by omega
    subst e
    have hle : nI i ≤ nI i := nI_le (Nat.le_refl _) (by omega)
    simp only [g_Mo_judge_40, if_pos hle]
    have hr3 : klab fr to i S = lab := hr2
    refine Ok_mono (j3_loop (oth := oth) (P := P1) hN hn hk hA hV hH hoth (by rw [hr3]; exact hL) (by rw [hr3]; exact h10)) ?_
    intro r q
    exact Or.inr ⟨hr1, q⟩
  | succ d =>
    have hik : i < k := by omega
    have hle : ¬ nI k ≤ nI i := nI_ge hik (by omega)
    obtain ⟨a1, a2, a3, a4⟩ := hA i hik
    have n1 : ¬ (1 : Int32) = 0 := by decide
    cases hb : bl S i with
    | false =>
      have hc : ¬ lg_cmp ((S >>> ((nI i).toInt64 &&& 63)) &&& (1 : Int64)) (1 : Int64) = 0 := by rw [lg_cmp_eq, bit_shr1 S (show i < 64 by omega)]; unfold bl at hb; rw [hb]; simp
      simp only [g_Mo_judge_40, if_neg hle, if_neg hc, bn, nI_1]
      refine hkk d _ _ (by omega) ⟨i + 1, lab, rfl, by omega, h10, hL, ?_, ?_⟩
      · rw [hr1]; simp only [pal, hb, Bool.false_eq_true, if_false]
      · rw [hr2]; simp only [pal, hb, Bool.false_eq_true, if_false]
    | true =>
      have hc : lg_cmp ((S >>> ((nI i).toInt64 &&& 63)) &&& (1 : Int64)) (1 : Int64) = 0 := by rw [lg_cmp_eq, bit_shr1 S (show i < 64 by omega)]; exact hb
      obtain ⟨P2, j1, j2⟩ := join hN (show i < 30 by omega) a1 a2 (by omega) (by omega) h10 hL
      have ep : pal (bl S) i (d + 1) = i :: pal (bl S) (i + 1) d := by simp only [pal, hb, if_pos]
      rw [ep] at hr1 hr2
      by_cases hq : lab (fr i) = lab (to i)
      · rw [if_pos hq] at j1
        simp only [g_Mo_judge_40, if_neg hle, if_pos hc, j1, bk2, if_pos]
        refine Ok_some (Or.inl ⟨?_, rfl⟩)
        rw [hr1]
        simp [rl, hq]
      · rw [if_neg hq] at j1
        simp only [g_Mo_judge_40, if_neg hle, if_pos hc, j1, bk2, if_neg n1, bn, nI_1]
        refine hkk d _ _ (by omega) ⟨i + 1, uni lab (fr i) (to i), rfl, by omega, uni10 (by omega) (by omega) h10, j2, ?_, hr2⟩
        rw [hr1]
        simp only [rl, hq, not_false_eq_true, decide_true, Bool.true_and]
theorem judgeM {N n k : Nat} {fr to w : Nat → Nat} {pr : Nat → Bool} {ord : List Nat} {pres S : Int64} {mn ma ml : Int32} {F T V H P : Nat → Int32} (hN : 100 ≤ N) (hG : GR n k fr to w pr ord) (hM : MR mn ma ml F T V H n k fr to w pr ord) (hp : ∀ a, a < 64 → bl pres a = (decide (a < k) && pr a)) :
    Ok (f_Mo_judge N S ma H P F T V) (fun r => ((¬ ∀ b, b < 64 → bl S b = true → b < k ∧ pr b = true) ∧ r.1 = 1) ∨ ((∀ b, b < 64 → bl S b = true → b < k ∧ pr b = true) ∧ JQ fr to w k pr S (pres &&& (S ^^^ (-1 : Int64))) r.1)) := by
  have hk := hG.2.1
  have hA : ∀ a, a < k → F a = nI (fr a) ∧ T a = nI (to a) ∧ fr a < n ∧ to a < n := fun a ha => ⟨(hM.2.2.2 a ha).1, (hM.2.2.2 a ha).2.1, (hG.2.2.2.1 a ha).1, (hG.2.2.2.1 a ha).2.1⟩
  have hV : ∀ a, a < k → V a = nI (w a) ∧ w a ≤ 1000 := fun a ha => ⟨(hM.2.2.2 a ha).2.2.1, (hG.2.2.2.1 a ha).2.2.2⟩
  have hH : ∀ a, a < k → H a = (if pr a = true then 1 else 0) := fun a ha => (hM.2.2.2 a ha).2.2.2
  have hoth : ∀ a, a < k → bl (pres &&& (S ^^^ (-1 : Int64))) a = (pr a && !bl S a) := fun a ha => by
    rw [bl_andnot _ _ (by omega), hp a (by omega)]
    simp [ha]
  rw [hM.2.1]
  unfold f_Mo_judge
  refine Ok_lo2 (fun d v3 _ => ∃ i, v3 = nI i ∧ i + d = 64 ∧ ∀ b, b < i → bl S b = true → b < k ∧ pr b = true) ?_ 64 N _ _ (by omega) ⟨0, rfl, by omega, fun b hb => absurd hb (Nat.not_lt_zero b)⟩
  rintro kk d v3 P1 ⟨i, rfl, hd, hr⟩ hkk
  have n1 : ¬ (1 : Int32) = 0 := by decide
  by_cases hi : i = 64
  · subst hi
    have hle : (64 : Int32) ≤ nI 64 := by decide
    obtain ⟨P2, s1, s2⟩ := alone hN P1
    simp only [g_Mo_judge_2, if_pos hle, s1, bk1]
    exact Ok_mono (j2_loop hN hG.1 hk hA hV hH hoth s2) (fun r q => Or.inr ⟨hr, q⟩)
  · have hi2 : i < 64 := by omega
    have hle : ¬ (64 : Int32) ≤ nI i := nI_ge (a := i) (b := 64) hi2 (by decide)
    have go : (bl S i = true → i < k ∧ pr i = true) → Ok (kk (nI (i + 1)) P1) (fun r => ((¬ ∀ b, b < 64 → bl S b = true → b < k ∧ pr b = true) ∧ r.1 = 1) ∨ ((∀ b, b < 64 → bl S b = true → b < k ∧ pr b = true) ∧ JQ fr to w k pr S (pres &&& (S ^^^ (-1 : Int64))) r.1)) := by
      intro hx
      refine hkk (d - 1) _ _ (by omega) ⟨i + 1, rfl, by omega, fun b hb hs => ?_⟩
      by_cases e : b = i
      · subst e; exact hx hs
      · exact hr b (by omega) hs
    cases hb : bl S i with
    | false =>
      have hc : ¬ lg_cmp (((S.toUInt64 >>> ((nI i).toInt64.toUInt64 &&& Int64.toUInt64 63)).toInt64) &&& (1 : Int64)) (1 : Int64) = 0 := by rw [lg_cmp_eq, bit_ushr1 S hi2]; unfold bl at hb; rw [hb]; simp
      simp only [g_Mo_judge_2, if_neg hle, if_neg hc, bn, nI_1]
      exact go (fun z => by rw [hb] at z; cases z)
    | true =>
      have hc : lg_cmp (((S.toUInt64 >>> ((nI i).toInt64.toUInt64 &&& Int64.toUInt64 63)).toInt64) &&& (1 : Int64)) (1 : Int64) = 0 := by rw [lg_cmp_eq, bit_ushr1 S hi2]; exact hb
      have hq := isArcM hk hi2 hH
      by_cases hz : i < k ∧ pr i = true
      · rw [if_pos hz] at hq
        simp only [g_Mo_judge_2, if_neg hle, if_pos hc, hq, bk1, if_neg n1, bn, nI_1]
        exact go (fun _ => hz)
      · rw [if_neg hz] at hq
        simp only [g_Mo_judge_2, if_neg hle, if_pos hc, hq, bk1, if_pos]
        exact Ok_some (Or.inl ⟨fun z => hz (z i hi2 hb), rfl⟩)
theorem st_judge {N : Nat} (hN : 100 ≤ N) : St_judge N InvC := by
  intro t_graph_nodes t_graph_numbered t_graph_size t_graph_present t_graph_from t_graph_to t_graph_weight t_graph_order t_forests_nextWeight t_forests_nextIn t_forests_nextOut t_forests_labels_nodes t_forests_labels_groups t_forests_labels_label t_forests_treeCount_groupOf t_forests_treeCount_links t_forests_treeCount_rows t_forests_treeCount_minor t_forests_heaviest t_boundedTrees_nodes t_boundedTrees_bound t_boundedTrees_between t_boundedTrees_branches t_boundedTrees_branch t_treesFromRoot_nodes t_treesFromRoot_arcs t_treesFromRoot_root t_treesFromRoot_tail t_treesFromRoot_head t_treesFromRoot_cost t_treesFromRoot_leastInto t_treesFromRoot_before t_treesFromRoot_group t_joiningTrees_labels_nodes t_joiningTrees_labels_groups t_joiningTrees_labels_label t_nodes t_arcs t_left t_swapIn t_swapOut t_boundedSet t_joinedSet t_froms t_tos t_weights t_there t_part t_low t_row t_matrix t_own t_chosen t_degrees t_fixed t_grown t_costs t_order p1 hI
  obtain ⟨n, k, fr, to, w, pr, ord, hG, hC, hM⟩ := hI
  obtain ⟨⟨r1, r2, r3, r4, r5⟩, e1, e2⟩ := verdict (S := p1) (L := t_forests_labels_label) (H := t_forests_heaviest) (x := t_forests_labels_nodes) (y := t_forests_labels_groups) hN hG hC
  obtain ⟨⟨q1, q2⟩, m1, m2⟩ := judgeM (S := p1) (P := t_part) hN hG hM hC.2.2.2.1
  have e : q1 = r1 := by
    rcases e2 with ⟨h1, h2⟩ | ⟨h1, h2⟩ <;> rcases m2 with ⟨h3, h4⟩ | ⟨h3, h4⟩
    · exact h4.trans h2.symm
    · exact absurd h3 h1
    · exact absurd h1 h3
    · exact JQ_u h4 h2
  subst e
  refine ⟨q1, r2, r3, r4, r5, q2, ?_, m1, ⟨n, k, fr, to, w, pr, ord, hG, hC, hM⟩⟩
  simp only [f_RT_judge, e1, bk5]
