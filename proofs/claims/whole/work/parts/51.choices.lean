theorem fillL {N n : Nat} (x : Int64) (hn : n < 2 ^ 20) (hN : n < N) (A : Nat → Int64) : Ok (f_Arr_fill1 N x A n) (fun A' => ∀ v, v < n → A' v = x) := by
  refine Ok_lo3 (fun d v3 v4 A' => ∃ i, v3 = nI i ∧ v4 = nI n ∧ i + d = n ∧ ∀ v, v < i → A' v = x) ?_ n N _ _ _ hN ⟨0, rfl, rfl, by omega, fun v hv => absurd hv (Nat.not_lt_zero v)⟩
  rintro kk d v3 v4 A' ⟨i, rfl, rfl, hd, h⟩ hkk
  by_cases hi : i = n
  · subst hi
    have hle : nI i ≤ nI i := nI_le (Nat.le_refl _) (by omega)
    simp only [g_Arr_fill1_6, if_pos hle]
    exact Ok_some h
  · have hle : ¬ nI n ≤ nI i := nI_ge (by omega) (by omega)
    simp only [g_Arr_fill1_6, if_neg hle, gd_nI (show i < n by omega) (by omega), nI_clamp (show i < 2 ^ 31 by omega), bn, nI_1]
    refine hkk (d - 1) _ _ _ (by omega) ⟨i + 1, rfl, rfl, by omega, fun v hv => ?_⟩
    by_cases e : v = i
    · rw [e, pk_uLs]
    · rw [pk_uLn e]; exact h v (by omega)
theorem begin_ {N : Nat} {L G : Nat → Int32} {K : Nat → Nat → Int64} (hN : 100 ≤ N) : Ok (f_TreeCount_begin N L G K) (fun r => (∀ v, v < 10 → r.1 v = L v) ∧ ∀ u v, u < 10 → v < 10 → r.2 u v = 0) := by
  have hc : cpok (0 : Int32) (0 : Int32) (10 : Int32) 10 10 = true := by decide
  unfold f_TreeCount_begin
  rw [gd_of hc]
  refine Ok_lo3 (fun d v2 G' K' => ∃ i, v2 = nI i ∧ i + d = 10 ∧ (∀ v, v < 10 → G' v = L v) ∧ ∀ u v, u < i → v < 10 → K' u v = 0) ?_ 10 N _ _ _ (by omega) ⟨0, rfl, by omega, fun v hv => sb_cpy0 hv, fun u v hu => absurd hu (Nat.not_lt_zero u)⟩
  rintro kk d v2 G' K' ⟨i, rfl, hd, hG, hK⟩ hkk
  by_cases hi : i = 10
  · subst hi
    have hle : (10 : Int32) ≤ nI 10 := by decide
    simp only [g_TreeCount_begin_17, if_pos hle]
    exact Ok_some ⟨hG, hK⟩
  · have hle : ¬ (10 : Int32) ≤ nI i := nI_ge (a := i) (b := 10) (by omega) (by decide)
    obtain ⟨A, e1, e2⟩ := fillL (N := N) (n := 10) 0 (by decide) (by omega) (K' i)
    simp only [g_TreeCount_begin_17, if_neg hle, gd_nI (show i < 10 by omega) (by decide), nI_clamp (show i < 2 ^ 31 by omega), e1, bk1, bn, nI_1]
    refine hkk (d - 1) _ _ _ (by omega) ⟨i + 1, rfl, by omega, hG, fun u v hu hv => ?_⟩
    unfold stGL
    by_cases e : u = i
    · rw [if_pos e]; exact e2 v hv
    · rw [if_neg e]; exact hK u v (by omega) hv
theorem finishC {N n : Nat} {lab0 lab1 : Nat → Nat} {G L R : Nat → Int32} {mn K : Nat → Nat → Int64} {M : Nat → Nat → Int} {D : Nat → Nat} (hN : 100 ≤ N) (hn : n ≤ 10) (hl0 : ∀ v, v < n → lab0 v < 10) (hl1 : ∀ v, v < n → lab1 v < 10) (hG : ∀ v, v < n → G v = nI (lab0 v)) (hL : ∀ v, v < n → L v = nI (lab1 v)) (hK : ∀ u v, rwp lab0 lab1 u = true → rwp lab0 lab1 v = true → u < n → v < n → K u v = lI (M (cw (rwp lab0 lab1) u) (cw (rwp lab0 lab1) v))) (hM : GM D (cw (rwp lab0 lab1) n) M 1 0) (hD : sN D (cw (rwp lab0 lab1) n) ≤ 60) :
    Ok (f_TreeCount_finish N (nI n) G L R mn K) (fun r => r.1 = lI (dt M 1 0 (cw (rwp lab0 lab1) n))) := by
  generalize hrp : rwp lab0 lab1 = rp at *
  have hs10 : cw rp n ≤ 10 := Nat.le_trans (cw_le rp n) hn
  refine Ok_lo4 (fun d v2 v3 R' _ => ∃ v, v3 = nI v ∧ v + d = n ∧ v2 = nI (cw rp v) ∧ ∀ u, u < v → rp u = true → R' (cw rp u) = nI u) ?_ n N _ _ _ _ (by omega) ⟨0, rfl, by omega, rfl, fun u hu => absurd hu (Nat.not_lt_zero u)⟩
  rintro k4 d v2 v3 R' mn' ⟨v, rfl, hd, rfl, hR⟩ hk4
  by_cases hv : v = n
  · subst hv
    have hle : nI v ≤ nI v := nI_le (Nat.le_refl _) (by omega)
    simp only [g_TreeCount_finish_4, if_pos hle]
    refine Ok_lo4 (fun d2 v2 v3 R2 m => ∃ r, v2 = nI (cw rp v) ∧ v3 = nI r ∧ r + d2 = cw rp v ∧ R2 = R' ∧ ∀ i j, i < r → j < cw rp v → m i j = lI (M i j)) ?_ (cw rp v) N _ _ _ _ (by omega) ⟨0, rfl, rfl, by omega, rfl, fun i j hi => absurd hi (Nat.not_lt_zero i)⟩
    rintro k50 d2 v2 v3 R2 m ⟨r, rfl, rfl, hd2, rfl, hm⟩ hk50
    by_cases hr : r = cw rp v
    · subst hr
      have hle2 : nI (cw rp v) ≤ nI (cw rp v) := nI_le (Nat.le_refl _) (by omega)
      obtain ⟨⟨q1, q2⟩, e1, e2⟩ := detC (mn := m) hN hs10 hD hM hm
      simp only [g_TreeCount_finish_50, if_pos hle2, e1, bk2]
      exact Ok_some e2
    · have hrs : r < cw rp v := by omega
      have hle2 : ¬ nI (cw rp v) ≤ nI r := nI_ge hrs (by omega)
      simp only [g_TreeCount_finish_50, if_neg hle2]
      refine Ok_lo5 (fun d3 v2 v3 v4 R3 m => ∃ c, v2 = nI (cw rp v) ∧ v3 = nI r ∧ v4 = nI c ∧ c + d3 = cw rp v ∧ R3 = R2 ∧ (∀ i j, i < r → j < cw rp v → m i j = lI (M i j)) ∧ ∀ j, j < c → m r j = lI (M r j)) ?_ (cw rp v) N _ _ _ _ _ (by omega) ⟨0, rfl, rfl, rfl, by omega, rfl, hm, fun j hj => absurd hj (Nat.not_lt_zero j)⟩
      rintro k58 d3 v2 v3 v4 R3 m3 ⟨c, rfl, rfl, rfl, hd3, rfl, hm3, hm4⟩ hk58
      by_cases hc : c = cw rp v
      · subst hc
        have hle3 : nI (cw rp v) ≤ nI (cw rp v) := nI_le (Nat.le_refl _) (by omega)
        simp only [g_TreeCount_finish_58, if_pos hle3, bn, nI_1]
        refine hk50 (d2 - 1) _ _ _ _ (by omega) ⟨r + 1, rfl, rfl, by omega, rfl, fun i j hi hj => ?_⟩
        by_cases e : i = r
        · rw [e]; exact hm4 j hj
        · exact hm3 i j (by omega) hj
      · have hcs : c < cw rp v := by omega
        have hle3 : ¬ nI (cw rp v) ≤ nI c := nI_ge hcs (by omega)
        obtain ⟨u, u1, u2, u3⟩ := cw_ex hrs
        obtain ⟨x, x1, x2, x3⟩ := cw_ex hcs
        have er : R3 r = nI u := by rw [← u3]; exact hR u u1 u2
        have ec : R3 c = nI x := by rw [← x3]; exact hR x x1 x2
        simp only [g_TreeCount_finish_58, if_neg hle3, gd_nI (show r < 10 by omega) (by decide), gd_nI (show c < 10 by omega) (by decide), nI_clamp (show r < 2 ^ 31 by omega), nI_clamp (show c < 2 ^ 31 by omega), er, ec, gd_nI (show u < 10 by omega) (by decide), gd_nI (show x < 10 by omega) (by decide), nI_clamp (show u < 2 ^ 31 by omega), nI_clamp (show x < 2 ^ 31 by omega), bn, nI_1]
        refine hk58 (d3 - 1) _ _ _ _ _ (by omega) ⟨c + 1, rfl, rfl, rfl, by omega, rfl, fun i j hi hj => ?_, fun j hj => ?_⟩
        · rw [upGL_at, if_neg (by omega)]
          exact hm3 i j hi hj
        · rw [upGL_at]
          by_cases e : j = c
          · rw [if_pos ⟨rfl, e⟩, hK u x u2 x2 u1 x1, u3, x3, e]
          · rw [if_neg (fun q => e q.2)]
            exact hm4 j (by omega)
  · have hvn : v < n := by omega
    have hle : ¬ nI n ≤ nI v := nI_ge hvn (by omega)
    have l0 := hl0 v hvn
    have l1 := hl1 v hvn
    have hcv : cw rp v ≤ v := cw_le rp v
    have skip : rp v = false → Ok (k4 (nI (cw rp v)) (nI (v + 1)) R' mn') (fun r => r.1 = lI (dt M 1 0 (cw rp n))) := by
      intro hp
      refine hk4 (d - 1) _ _ _ _ (by omega) ⟨v + 1, rfl, by omega, ?_, fun u hu hpu => ?_⟩
      · simp only [cw, hp, Bool.false_eq_true, if_false, Nat.add_zero]
      · by_cases e : u = v
        · rw [e, hp] at hpu; cases hpu
        · exact hR u (by omega) hpu
    by_cases h0 : lab0 v = v
    · have hc0 : nI (lab0 v) = nI v := by rw [h0]
      by_cases h1 : lab1 v = v
      · have hc1 : nI (lab1 v) = nI v := by rw [h1]
        simp only [g_TreeCount_finish_4, if_neg hle, gd_nI (show v < 10 by omega) (by decide), nI_clamp (show v < 2 ^ 31 by omega), hG v hvn, hL v hvn, if_pos hc0, if_pos hc1, bn, nI_1]
        exact skip (by rw [← hrp]; unfold rwp; simp [h1])
      · have hc1 : ¬ nI (lab1 v) = nI v := fun q => h1 ((nI_eq (by omega) (by omega)).mp q)
        simp only [g_TreeCount_finish_4, if_neg hle, gd_nI (show v < 10 by omega) (by decide), nI_clamp (show v < 2 ^ 31 by omega), hG v hvn, hL v hvn, if_pos hc0, if_neg hc1, gd_nI (show cw rp v < 10 by omega) (by decide), nI_clamp (show cw rp v < 2 ^ 31 by omega), bn, nI_1]
        have hp : rp v = true := by rw [← hrp]; unfold rwp; simp [h0, h1]
        refine hk4 (d - 1) _ _ _ _ (by omega) ⟨v + 1, rfl, by omega, ?_, fun u hu hpu => ?_⟩
        · simp only [cw, if_pos hp]
        · by_cases e : u = v
          · rw [e, upd_self]
          · rw [upd_ne _ _ (fun q => e ((cw_inj hpu hp).mp q))]
            exact hR u (by omega) hpu
    · have hc0 : ¬ nI (lab0 v) = nI v := fun q => h0 ((nI_eq (by omega) (by omega)).mp q)
      simp only [g_TreeCount_finish_4, if_neg hle, gd_nI (show v < 10 by omega) (by decide), nI_clamp (show v < 2 ^ 31 by omega), hG v hvn, if_neg hc0, bn, nI_1]
      exact skip (by rw [← hrp]; unfold rwp; simp [h0])
/-- the arcs of the order from st to before en -/
def seg (ord : List Nat) (st en : Nat) : List Nat := (ord.drop st).take (en - st)
theorem seg_nil (ord : List Nat) (st : Nat) : seg ord st st = [] := by
  unfold seg
  rw [Nat.sub_self, List.take_zero]
theorem seg_succ {ord : List Nat} {st i : Nat} (h1 : st ≤ i) (h2 : i < ord.length) : seg ord st (i + 1) = seg ord st i ++ [ord.getD i 0] := by
  unfold seg
  have e : i + 1 - st = (i - st) + 1 := by omega
  rw [e, List.take_succ, List.getElem?_drop]
  have e2 : st + (i - st) = i := by omega
  rw [e2, List.getElem?_eq_getElem h2, List.getD_eq_getElem?_getD, List.getElem?_eq_getElem h2]
  rfl
theorem seg_mem {ord : List Nat} {st a : Nat} : ∀ {en : Nat}, st ≤ en → en ≤ ord.length → (a ∈ seg ord st en ↔ ∃ i, st ≤ i ∧ i < en ∧ ord.getD i 0 = a)
  | 0, h1, h2 => by
    have e : st = 0 := by omega
    subst e
    rw [seg_nil]
    simp
  | en + 1, h1, h2 => by
    by_cases e : st = en + 1
    · subst e
      rw [seg_nil]
      constructor
      · intro h; cases h
      · rintro ⟨i, q1, q2, -⟩; omega
    · rw [seg_succ (by omega) (by omega), List.mem_append, seg_mem (en := en) (by omega) (by omega), List.mem_singleton]
      constructor
      · rintro (⟨i, q1, q2, q3⟩ | q)
        · exact ⟨i, q1, by omega, q3⟩
        · exact ⟨en, by omega, by omega, q.symm⟩
      · rintro ⟨i, q1, q2, q3⟩
        by_cases ei : i = en
        · subst ei; exact Or.inr q3.symm
        · exact Or.inl ⟨i, q1, by omega, q3⟩
theorem seg_len (ord : List Nat) (st en : Nat) : (seg ord st en).length ≤ ord.length := by
  unfold seg
  rw [List.length_take, List.length_drop]
  omega
theorem kr_ltn {fr to : Nat → Nat} {n : Nat} : ∀ (l : List Nat) {lab : Nat → Nat}, (∀ a, a ∈ l → fr a < n ∧ to a < n) → (∀ v, v < n → lab v < n) → ∀ v, v < n → kr fr to l lab v < n
  | [], _, _, h => h
  | a :: l, _, ha, h => kr_ltn l (fun b hb => ha b (List.mem_cons_of_mem _ hb)) (fun v hv => uni_lt (h _ (ha a List.mem_cons_self).1) (h _ (ha a List.mem_cons_self).2) (h v hv))
theorem choices {N n st en : Nat} {fr to lab : Nat → Nat} {ord : List Nat} {O F T L G R : Nat → Int32} {K mn : Nat → Nat → Int64} {g : Int32} (hN : 100 ≤ N) (hn : n ≤ 10) (hlen : ord.length ≤ 30) (hO : ∀ i, i < ord.length → O i = nI (ord.getD i 0)) (hA : ∀ a, a ∈ ord → a < 30 ∧ F a = nI (fr a) ∧ T a = nI (to a) ∧ fr a < n ∧ to a < n) (hse : st ≤ en) (hen : en ≤ ord.length) (hl : ∀ v, v < n → lab v < n) (hL : ∀ v, v < n → L v = nI (lab v)) :
    Ok (f_Forests_choicesAmong N (nI st) (nI en) (nI n) g L G K O F T R mn) (fun r => r.1 = chv n fr to lab (seg ord st en) ∧ ∀ v, v < n → r.2.2.2.1 v = nI (kr fr to (seg ord st en) lab v)) := by
  have hl1 : ∀ v, v < n → kr fr to (seg ord st en) lab v < n := kr_ltn _ (fun a ha => by
    obtain ⟨i, q1, q2, q3⟩ := (seg_mem hse hen).mp ha
    rw [← q3]
    exact ⟨(hA _ (getD_mem (by omega))).2.2.2.1, (hA _ (getD_mem (by omega))).2.2.2.2⟩) hl
  obtain ⟨⟨G1, K1⟩, e1, e2, e3⟩ := begin_ (L := L) (G := G) (K := K) hN
  unfold f_Forests_choicesAmong
  rw [e1]
  generalize hrp : rwp lab (kr fr to (seg ord st en) lab) = rp
  have key : ∀ K2 : Nat → Nat → Int64, (∀ u v, rp u = true → rp v = true → u < n → v < n → K2 u v = lI (mt rp fr to lab (seg ord st en) (cw rp u) (cw rp v))) → Ok (lo7 (g_Forests_choicesAmong_64 N (nI en) (nI n) O F T) N (nI st) G1 K2 L g R mn) (fun r => r.1 = chv n fr to lab (seg ord st en) ∧ ∀ v, v < n → r.2.2.2.1 v = nI (kr fr to (seg ord st en) lab v)) := by
    intro K2 hK2
    refine Ok_lo7 (fun d v3 G' K' L' _ _ _ => ∃ i, v3 = nI i ∧ st ≤ i ∧ i + d = en ∧ G' = G1 ∧ K' = K2 ∧ ∀ v, v < n → L' v = nI (kr fr to (seg ord st i) lab v)) ?_ (en - st) N _ _ _ _ _ _ _ (by omega) ⟨st, rfl, Nat.le_refl _, by omega, rfl, rfl, by rw [seg_nil]; exact hL⟩
    rintro k64 d v3 G' K' L' g' R' mn' ⟨i, rfl, hi1, hd, rfl, rfl, hL'⟩ hk64
    by_cases hi : i = en
    · subst hi
      have hle : nI i ≤ nI i := nI_le (Nat.le_refl _) (by omega)
      subst hrp
      obtain ⟨⟨q1, q2, q3⟩, f1, f2⟩ := finishC (N := N) (lab0 := lab) (lab1 := kr fr to (seg ord st i) lab) (G := G') (L := L') (R := R') (mn := mn') (K := K') (M := mt (rwp lab (kr fr to (seg ord st i) lab)) fr to lab (seg ord st i)) (D := dg (rwp lab (kr fr to (seg ord st i) lab)) fr to lab (seg ord st i)) hN hn (fun v hv => by have := hl v hv; omega) (fun v hv => by have := hl1 v hv; omega) (fun v hv => by rw [← hL v hv]; exact e2 v (by omega)) hL' hK2 (mt_GM _) (Nat.le_trans (dg_sum _ _) (by have := seg_len ord st i; omega))
      simp only [g_Forests_choicesAmong_64, if_pos hle, f1, bk3]
      exact Ok_some ⟨f2, hL'⟩
    · have hie : i < en := by omega
      have hle : ¬ nI en ≤ nI i := nI_ge hie (by omega)
      obtain ⟨a1, a2, a3, a4, a5⟩ := hA _ (getD_mem (show i < ord.length by omega))
      have hsg := seg_succ hi1 (show i < ord.length by omega)
      have hli : ∀ v, v < n → kr fr to (seg ord st i) lab v < 10 := fun v hv => by
        have := kr_ltn (fr := fr) (to := to) (n := n) (seg ord st i) (lab := lab) (fun a ha => by
          obtain ⟨j, q1, q2, q3⟩ := (seg_mem hi1 (by omega)).mp ha
          rw [← q3]
          exact ⟨(hA _ (getD_mem (by omega))).2.2.2.1, (hA _ (getD_mem (by omega))).2.2.2.2⟩) hl v hv
        omega
      obtain ⟨L2, u1, u2⟩ := unite hN hn a4 a5 hli hL' g'
      simp only [g_Forests_choicesAmong_64, if_neg hle, gd_nI (show i < 30 by omega) (by decide), nI_clamp (show i < 2 ^ 31 by omega), hO i (by omega), bn, gd_nI a1 (by decide), nI_clamp (show ord.getD i 0 < 2 ^ 31 by omega), a2, a3, u1, bk3, nI_1]
      refine hk64 (d - 1) _ _ _ _ _ _ _ (by omega) ⟨i + 1, rfl, by omega, by omega, rfl, rfl, fun v hv => ?_⟩
      rw [hsg, kr_app, u2 v hv]
      rfl
  refine Ok_lo7 (fun d v3 G' K' L' g' R' mn' => ∃ i, v3 = nI i ∧ st ≤ i ∧ i + d = en ∧ G' = G1 ∧ L' = L ∧ g' = g ∧ R' = R ∧ mn' = mn ∧ ∀ u v, rp u = true → rp v = true → u < n → v < n → K' u v = lI (mt rp fr to lab (seg ord st i) (cw rp u) (cw rp v))) ?_ (en - st) N _ _ _ _ _ _ _ (by omega) ⟨st, rfl, Nat.le_refl _, by omega, rfl, rfl, rfl, rfl, rfl, fun u v _ _ hu hv => by rw [seg_nil]; exact (e3 u v (by omega) (by omega)).trans lI_0.symm⟩
  rintro k13 d v3 G' K' L' g' R' mn' ⟨i, rfl, hi1, hd, rfl, rfl, rfl, rfl, rfl, hK'⟩ hk13
  by_cases hi : i = en
  · subst hi
    have hle : nI i ≤ nI i := nI_le (Nat.le_refl _) (by omega)
    simp only [g_Forests_choicesAmong_13, if_pos hle]
    exact key K' hK'
  · have hie : i < en := by omega
    have hle : ¬ nI en ≤ nI i := nI_ge hie (by omega)
    obtain ⟨a1, a2, a3, a4, a5⟩ := hA _ (getD_mem (show i < ord.length by omega))
    have hsg := seg_succ hi1 (show i < ord.length by omega)
    obtain ⟨K2, f1, f2⟩ := link (lab := lab) (G := G') hn a4 a5 hl (fun v hv => by rw [← hL v hv]; exact e2 v (by omega)) hK'
    simp only [g_Forests_choicesAmong_13, if_neg hle, gd_nI (show i < 30 by omega) (by decide), nI_clamp (show i < 2 ^ 31 by omega), hO i (by omega), bn, gd_nI a1 (by decide), nI_clamp (show ord.getD i 0 < 2 ^ 31 by omega), a2, a3, f1, bk1, nI_1]
    refine hk13 (d - 1) _ _ _ _ _ _ _ (by omega) ⟨i + 1, rfl, by omega, by omega, rfl, rfl, rfl, rfl, rfl, fun u v hu hv q1 q2 => ?_⟩
    rw [f2 u v hu hv q1 q2, hsg, mt_app]
    congr 1
    simp only [mt]
    omega
