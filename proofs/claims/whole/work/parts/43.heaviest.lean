/-! for an arc outside of a forest: the heaviest arc that it may replace -/
def up1 (w : Nat → Nat) (o : Nat) : Option Nat → Option Nat
  | none => some o
  | some f => if w o ≤ w f then some f else some o
def hvo (w : Nat → Nat) (P : Nat → Bool) : Nat → Option Nat
  | 0 => none
  | o + 1 => if P o = true then up1 w o (hvo w P o) else hvo w P o
theorem hvo_n {w : Nat → Nat} {P : Nat → Bool} : ∀ {o : Nat}, hvo w P o = none → ∀ j, j < o → P j = false
  | 0, _, j, hj => absurd hj (Nat.not_lt_zero j)
  | o + 1, h, j, hj => by
    unfold hvo at h
    by_cases hp : P o = true
    · rw [if_pos hp] at h
      cases hq : hvo w P o with
      | none => rw [hq] at h; simp [up1] at h
      | some f =>
        rw [hq] at h
        unfold up1 at h
        by_cases hz : w o ≤ w f
        · simp only [if_pos hz] at h; cases h
        · simp only [if_neg hz] at h; cases h
    · rw [if_neg hp] at h
      by_cases e : j = o
      · rw [e]; simpa using hp
      · exact hvo_n h j (by omega)
theorem hvo_s {w : Nat → Nat} {P : Nat → Bool} : ∀ {o f : Nat}, hvo w P o = some f → f < o ∧ P f = true ∧ ∀ j, j < o → P j = true → w j ≤ w f
  | 0, f, h => by simp [hvo] at h
  | o + 1, f, h => by
    unfold hvo at h
    by_cases hp : P o = true
    · rw [if_pos hp] at h
      cases hq : hvo w P o with
      | none =>
        rw [hq] at h
        have e : o = f := by simpa [up1] using h
        subst e
        refine ⟨by omega, hp, fun j hj hpj => ?_⟩
        by_cases ej : j = o
        · rw [ej]; exact Nat.le_refl _
        · have := hvo_n hq j (by omega)
          rw [this] at hpj; cases hpj
      | some f0 =>
        obtain ⟨q1, q2, q3⟩ := hvo_s hq
        rw [hq] at h
        unfold up1 at h
        by_cases hz : w o ≤ w f0
        · simp only [if_pos hz] at h
          have e : f0 = f := by simpa using h
          subst e
          refine ⟨by omega, q2, fun j hj hpj => ?_⟩
          by_cases ej : j = o
          · rw [ej]; exact hz
          · exact q3 j (by omega) hpj
        · simp only [if_neg hz] at h
          have e : o = f := by simpa using h
          subst e
          refine ⟨by omega, hp, fun j hj hpj => ?_⟩
          by_cases ej : j = o
          · rw [ej]; exact Nat.le_refl _
          · have := q3 j (by omega) hpj
            omega
    · rw [if_neg hp] at h
      obtain ⟨q1, q2, q3⟩ := hvo_s h
      refine ⟨by omega, q2, fun j hj hpj => ?_⟩
      by_cases ej : j = o
      · subst ej; exact absurd hpj hp
      · exact q3 j (by omega) hpj
def ofr (fr to w lab : Nat → Nat) (oth : Int64) (o : Nat) (h : Nat → Option Nat) (a : Nat) : Option Nat := if bl oth a = true ∧ ¬ lab (fr a) = lab (to a) then up1 w o (h a) else h a
theorem areApart {n a b : Nat} {lab : Nat → Nat} {L : Nat → Int32} (hn : n ≤ 10) (ha : a < n) (hb : b < n) (hl : ∀ v, v < n → lab v < 10) (hL : ∀ v, v < n → L v = nI (lab v)) : f_Labels_areApart (nI a) (nI b) L = some (if lab a = lab b then 0 else 1) := by
  have l1 := hl a ha
  have l2 := hl b hb
  by_cases h : lab a = lab b
  · have hc : nI (lab a) = nI (lab b) := by rw [h]
    simp only [f_Labels_areApart, gd_nI (show a < 10 by omega) (by decide), gd_nI (show b < 10 by omega) (by decide), nI_clamp (show a < 2 ^ 31 by omega), nI_clamp (show b < 2 ^ 31 by omega), hL a ha, hL b hb, if_pos hc, if_pos h]
  · have hc : ¬ nI (lab a) = nI (lab b) := fun q => h ((nI_eq (by omega) (by omega)).mp q)
    simp only [f_Labels_areApart, gd_nI (show a < 10 by omega) (by decide), gd_nI (show b < 10 by omega) (by decide), nI_clamp (show a < 2 ^ 31 by omega), nI_clamp (show b < 2 ^ 31 by omega), hL a ha, hL b hb, if_neg hc, if_neg h]
theorem offer {N n k o : Nat} {fr to w lab : Nat → Nat} {oth : Int64} {F T L H W : Nat → Int32} {h : Nat → Option Nat} (hN : 100 ≤ N) (hn : n ≤ 10) (hk : k ≤ 30) (ho : o < k) (hA : ∀ a, a < k → F a = nI (fr a) ∧ T a = nI (to a) ∧ fr a < n ∧ to a < n) (hW : ∀ a, a < k → W a = nI (w a) ∧ w a ≤ 1000) (hl : ∀ v, v < n → lab v < 10) (hL : ∀ v, v < n → L v = nI (lab v)) (hH : ∀ a, a < k → H a = enc (h a)) (hb : ∀ a f, a < k → h a = some f → f < k) :
    Ok (f_Forests_offer N (nI o) oth (nI k) F T L H W) (fun H' => ∀ a, a < k → H' a = enc (ofr fr to w lab oth o h a)) := by
  refine Ok_lo2 (fun d x H' => ∃ i, x = nI i ∧ i + d = k ∧ (∀ a, a < i → H' a = enc (ofr fr to w lab oth o h a)) ∧ (∀ a, i ≤ a → a < k → H' a = enc (h a))) ?_ k N _ _ (by omega) ⟨0, rfl, by omega, fun a ha => absurd ha (Nat.not_lt_zero a), fun a _ ha => hH a ha⟩
  rintro kk d x H' ⟨i, rfl, hd, h1, h2⟩ hkk
  by_cases hi : i = k
  · subst hi
    have hle : nI i ≤ nI i := nI_le (Nat.le_refl _) (by omega)
    simp only [g_Forests_offer_3, if_pos hle]
    exact Ok_some h1
  · have hik : i < k := by omega
    have hle : ¬ nI k ≤ nI i := nI_ge hik (by omega)
    obtain ⟨a1, a2, a3, a4⟩ := hA i hik
    have n1 : ¬ (1 : Int32) = 0 := by decide
    have go : ∀ H'', (∀ a, a ≠ i → H'' a = H' a) → H'' i = enc (ofr fr to w lab oth o h i) → Ok (kk (nI (i + 1)) H'') (fun H' => ∀ a, a < k → H' a = enc (ofr fr to w lab oth o h a)) := by
      intro H'' q1 q2
      refine hkk (d - 1) _ _ (by omega) ⟨i + 1, rfl, by omega, fun a ha => ?_, fun a ha ha2 => ?_⟩
      · by_cases e : a = i
        · rw [e]; exact q2
        · rw [q1 a e]; exact h1 a (by omega)
      · rw [q1 a (by omega)]; exact h2 a (by omega) ha2
    have hHi := h2 i (Nat.le_refl _) hik
    cases hbt : bl oth i with
    | false =>
      simp only [g_Forests_offer_3, if_neg hle, isIn_f (show i < 64 by omega) hbt, bk1, if_pos, bn, nI_1]
      refine go H' (fun a _ => rfl) ?_
      rw [hHi]
      unfold ofr
      rw [if_neg (by rw [hbt]; simp)]
    | true =>
      by_cases hq : lab (fr i) = lab (to i)
      · simp only [g_Forests_offer_3, if_neg hle, isIn_t (show i < 64 by omega) hbt, bk1, if_neg n1, gd_nI (show i < 30 by omega) (by decide), nI_clamp (show i < 2 ^ 31 by omega), a1, a2, areApart hn a3 a4 hl hL, if_pos hq, if_pos, bn, nI_1]
        refine go H' (fun a _ => rfl) ?_
        rw [hHi]
        unfold ofr
        rw [if_neg (fun z => z.2 hq)]
      · have hof : ofr fr to w lab oth o h i = up1 w o (h i) := by
          unfold ofr
          rw [if_pos ⟨hbt, hq⟩]
        rw [hof] at go
        cases hh : h i with
        | none =>
          rw [hh] at hHi go
          have hHi2 : H' i = (-1 : Int32) := hHi
          have nm : (-1 : Int32) < 0 := by decide
          simp only [g_Forests_offer_3, if_neg hle, isIn_t (show i < 64 by omega) hbt, bk1, if_neg n1, gd_nI (show i < 30 by omega) (by decide), nI_clamp (show i < 2 ^ 31 by omega), a1, a2, areApart hn a3 a4 hl hL, if_neg hq, bn, nI_1, hHi2, if_pos nm, g_Forests_offer_90]
          exact go _ (fun a ha => upd_ne _ _ ha) (upd_self _ _ _)
        | some f =>
          have hfk := hb i f hik hh
          rw [hh] at hHi go
          have hHi2 : H' i = nI f := hHi
          have nf : ¬ nI f < 0 := nI_pos (by omega)
          obtain ⟨w1, w2⟩ := hW o ho
          obtain ⟨w3, w4⟩ := hW f hfk
          by_cases hz : w o ≤ w f
          · have hz2 : nI (w o) ≤ nI (w f) := nI_le hz (by omega)
            simp only [g_Forests_offer_3, if_neg hle, isIn_t (show i < 64 by omega) hbt, bk1, if_neg n1, gd_nI (show i < 30 by omega) (by decide), nI_clamp (show i < 2 ^ 31 by omega), a1, a2, areApart hn a3 a4 hl hL, if_neg hq, bn, nI_1, hHi2, if_neg nf, gd_nI (show o < 30 by omega) (by decide), gd_nI (show f < 30 by omega) (by decide), nI_clamp (show o < 2 ^ 31 by omega), nI_clamp (show f < 2 ^ 31 by omega), w1, w3, if_pos hz2]
            refine go H' (fun a _ => rfl) ?_
            rw [hHi]
            simp only [up1, if_pos hz]
          · have hz2 : ¬ nI (w o) ≤ nI (w f) := nI_ge (by omega) (by omega)
            simp only [g_Forests_offer_3, if_neg hle, isIn_t (show i < 64 by omega) hbt, bk1, if_neg n1, gd_nI (show i < 30 by omega) (by decide), nI_clamp (show i < 2 ^ 31 by omega), a1, a2, areApart hn a3 a4 hl hL, if_neg hq, bn, nI_1, hHi2, if_neg nf, gd_nI (show o < 30 by omega) (by decide), gd_nI (show f < 30 by omega) (by decide), nI_clamp (show o < 2 ^ 31 by omega), nI_clamp (show f < 2 ^ 31 by omega), w1, w3, if_neg hz2, g_Forests_offer_90]
            refine go _ (fun a ha => upd_ne _ _ ha) ?_
            rw [upd_self]
            simp only [up1, if_neg hz]
            rfl
def sw (S : Int64) (j : Nat) : Int64 := S &&& (((1 : Int64) <<< ((nI j).toInt64 &&& 63)) ^^^ (-1 : Int64))
def ap (fr to : Nat → Nat) (k : Nat) (S : Int64) (a j : Nat) : Bool := decide (¬ klab fr to k (sw S j) (fr a) = klab fr to k (sw S j) (to a))
def pb (fr to : Nat → Nat) (k : Nat) (S oth : Int64) (a j : Nat) : Bool := bl oth a && (bl S j && ap fr to k S a j)
theorem fill0 {N n : Nat} (x : Int32) (hn : n < 2 ^ 20) (hN : n < N) (A : Nat → Int32) : ∃ A', f_Arr_fill0 N x A n = some A' ∧ ∀ v, v < n → A' v = x :=
  fill_loop x hn n 0 N A (by omega) hN (fun v hv => absurd hv (Nat.not_lt_zero v))
theorem klab10 {fr to : Nat → Nat} {n k : Nat} {S : Int64} (hn : n ≤ 10) (hA : ∀ a, a < k → fr a < n ∧ to a < n) : ∀ v, v < n → klab fr to k S v < 10 :=
  kr10 _ (fun a ha => hA a (by have := pal_mem.mp ha; omega)) (fun v hv => by omega)
theorem findHeaviest {N n k : Nat} {fr to w : Nat → Nat} {S pres : Int64} {F T L H W : Nat → Int32} {x y : Int32} (hN : 100 ≤ N) (hn : n ≤ 10) (hk : k ≤ 30) (hA : ∀ a, a < k → F a = nI (fr a) ∧ T a = nI (to a) ∧ fr a < n ∧ to a < n) (hW : ∀ a, a < k → W a = nI (w a) ∧ w a ≤ 1000) :
    Ok (f_Forests_findHeaviest N S H (nI n) (nI k) pres x y L F T W) (fun r => ∀ a, a < k → r.1 a = enc (hvo w (pb fr to k S (pres &&& (S ^^^ (-1 : Int64))) a) k)) := by
  obtain ⟨H1, f1, f2⟩ := fill0 (N := N) (n := 30) (-1) (by decide) (by omega) H
  unfold f_Forests_findHeaviest
  rw [f1]
  refine Ok_lo5 (fun d x H' _ _ _ => ∃ o, x = nI o ∧ o + d = k ∧ (∀ a, a < k → H' a = enc (hvo w (pb fr to k S (pres &&& (S ^^^ (-1 : Int64))) a) o))) ?_ k N _ _ _ _ _ (by omega) ⟨0, rfl, by omega, fun a ha => f2 a (by omega)⟩
  rintro kk d x H' y1 y2 L1 ⟨o, rfl, hd, h1⟩ hkk
  by_cases hi : o = k
  · subst hi
    have hle : nI o ≤ nI o := nI_le (Nat.le_refl _) (by omega)
    simp only [g_Forests_findHeaviest_10, if_pos hle]
    exact Ok_some h1
  · have hok : o < k := by omega
    have hle : ¬ nI k ≤ nI o := nI_ge hok (by omega)
    have n1 : ¬ (1 : Int32) = 0 := by decide
    cases hbt : bl S o with
    | false =>
      simp only [g_Forests_findHeaviest_10, if_neg hle, isIn_f (show o < 64 by omega) hbt, bk1, if_pos, bn, nI_1]
      refine hkk (d - 1) _ _ _ _ _ (by omega) ⟨o + 1, rfl, by omega, fun a ha => ?_⟩
      rw [h1 a ha]
      congr 1
      simp only [hvo, pb, hbt, Bool.false_and, Bool.and_false, Bool.false_eq_true, if_false]
    | true =>
      obtain ⟨L2, e1, e2⟩ := hangBy (S := sw S o) (L := L1) hN hn hk hA
      have hl := klab10 (fr := fr) (to := to) (k := k) (S := sw S o) hn (fun a ha => ⟨(hA a ha).2.2.1, (hA a ha).2.2.2⟩)
      obtain ⟨H2, o1, o2⟩ := offer (oth := pres &&& (S ^^^ (-1 : Int64))) hN hn hk hok hA hW hl e2 h1 (fun a f ha hf => by have := (hvo_s hf).1; omega)
      unfold sw at e1
      simp only [g_Forests_findHeaviest_10, if_neg hle, isIn_t (show o < 64 by omega) hbt, bk1, if_neg n1, e1, bk4, o1, bn, nI_1]
      refine hkk (d - 1) _ _ _ _ _ (by omega) ⟨o + 1, rfl, by omega, fun a ha => ?_⟩
      rw [o2 a ha]
      congr 1
      unfold ofr
      by_cases hc : bl (pres &&& (S ^^^ (-1 : Int64))) a = true ∧ ¬ klab fr to k (sw S o) (fr a) = klab fr to k (sw S o) (to a)
      · rw [if_pos hc]
        have hp : pb fr to k S (pres &&& (S ^^^ (-1 : Int64))) a o = true := by
          unfold pb ap
          rw [hc.1, hbt, decide_eq_true hc.2]; rfl
        simp only [hvo, hp, if_pos]
      · rw [if_neg hc]
        have hp : ¬ pb fr to k S (pres &&& (S ^^^ (-1 : Int64))) a o = true := by
          intro z
          unfold pb ap at z
          rw [Bool.and_eq_true, Bool.and_eq_true, decide_eq_true_iff] at z
          exact hc ⟨z.1, z.2.2⟩
        simp only [hvo, if_neg hp]
