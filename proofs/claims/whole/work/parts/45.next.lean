/-! the next forest -/
theorem nI_subN {a b : Nat} (h : b ≤ a) : nI a - nI b = nI (a - b) := by
  have e : nI a = nI (a - b) + nI b := by rw [nI_add, Nat.sub_add_cancel h]
  rw [e, Int32.add_sub_cancel]
theorem nIs_toInt {a b : Nat} (ha : a ≤ 1000) (hb : b ≤ 1000) : (nI a - nI b).toInt = (a : Int) - (b : Int) := by
  rw [Int32.toInt_sub, nI_toInt (by omega), nI_toInt (by omega)]
  rw [Int.bmod_eq_of_le (by omega) (by omega)]
theorem nIs_le {a b c d : Nat} (ha : a ≤ 1000) (hb : b ≤ 1000) (hc : c ≤ 1000) (hd : d ≤ 1000) : nI a - nI b ≤ nI c - nI d ↔ a + d ≤ c + b := by
  rw [Int32.le_iff_toInt_le, nIs_toInt ha hb, nIs_toInt hc hd]
  omega
theorem nIs_1001 {c d : Nat} (hc : c ≤ 1000) (hd : d ≤ 1000) : ¬ (1001 : Int32) ≤ nI c - nI d := by
  rw [Int32.le_iff_toInt_le, nIs_toInt hc hd]
  have e : (1001 : Int32).toInt = 1001 := by decide
  rw [e]
  omega
theorem nIs_add {s a b : Nat} (h : b ≤ s) : nI s + (nI a - nI b) = nI (s - b + a) := by
  have e : nI s = nI (s - b) + nI b := by rw [nI_add, Nat.sub_add_cancel h]
  rw [e, ← nI_add, Int32.sub_eq_add_neg, Int32.add_comm (nI a), ← Int32.add_assoc, Int32.add_assoc (nI (s - b)), Int32.add_right_neg, Int32.add_zero]
def stp (w : Nat → Nat) (i o : Nat) : Option (Nat × Nat) → Option (Nat × Nat)
  | none => some (i, o)
  | some b => if w b.1 + w o ≤ w i + w b.2 then some b else some (i, o)
def cmb (w : Nat → Nat) (i : Nat) (B : Option (Nat × Nat)) : Option Nat → Option (Nat × Nat)
  | none => B
  | some o => stp w i o B
theorem cmb_up (w : Nat → Nat) (i o : Nat) (B : Option (Nat × Nat)) (h : Option Nat) : cmb w i B (up1 w o h) = stp w i o (cmb w i B h) := by
  cases h with
  | none => rfl
  | some f =>
    unfold up1 cmb
    by_cases h1 : w o ≤ w f
    · simp only [if_pos h1]
      cases B with
      | none =>
        have h2 : w i + w o ≤ w i + w f := by omega
        simp only [stp, if_pos h2]
      | some b =>
        by_cases h3 : w b.1 + w f ≤ w i + w b.2
        · have h4 : w b.1 + w o ≤ w i + w b.2 := by omega
          simp only [stp, if_pos h3, if_pos h4]
        · have h5 : w i + w o ≤ w i + w f := by omega
          simp only [stp, if_neg h3, if_pos h5]
    · simp only [if_neg h1]
      cases B with
      | none =>
        have h2 : ¬ w i + w o ≤ w i + w f := by omega
        simp only [stp, if_neg h2]
      | some b =>
        by_cases h3 : w b.1 + w f ≤ w i + w b.2
        · simp only [stp, if_pos h3]
        · have h4 : ¬ w b.1 + w o ≤ w i + w b.2 := by omega
          have h5 : ¬ w i + w o ≤ w i + w f := by omega
          simp only [stp, if_neg h3, if_neg h4, if_neg h5]
def nx (w : Nat → Nat) (hv : Nat → Option Nat) : Nat → Option (Nat × Nat)
  | 0 => none
  | i + 1 => cmb w i (nx w hv i) (hv i)
theorem stp_ne {w : Nat → Nat} {i o : Nat} {B : Option (Nat × Nat)} : ¬ stp w i o B = none := by
  cases B with
  | none => simp [stp]
  | some b =>
    by_cases h : w b.1 + w o ≤ w i + w b.2
    · simp [stp, if_pos h]
    · simp [stp, if_neg h]
theorem nx_ne {w : Nat → Nat} {hv : Nat → Option Nat} {i : Nat} (hi : ¬ hv i = none) : ∀ {m : Nat}, i < m → ¬ nx w hv m = none
  | 0, h => absurd h (Nat.not_lt_zero i)
  | m + 1, h => by
    unfold nx
    cases hm : hv m with
    | some o => exact stp_ne
    | none =>
      have : i ≠ m := fun e => hi (e ▸ hm)
      exact nx_ne hi (m := m) (by omega)
theorem nx_none {w : Nat → Nat} {hv : Nat → Option Nat} : ∀ {m : Nat}, (∀ i, i < m → hv i = none) → nx w hv m = none
  | 0, _ => rfl
  | m + 1, h => by
    unfold nx
    rw [h m (by omega)]
    exact nx_none (fun i hi => h i (by omega))
theorem stp_s {w : Nat → Nat} {i o : Nat} {B : Option (Nat × Nat)} {b : Nat × Nat} (h : stp w i o B = some b) : b = (i, o) ∨ B = some b := by
  cases B with
  | none =>
    left
    simp only [stp, Option.some.injEq] at h
    exact h.symm
  | some c =>
    by_cases hc : w c.1 + w o ≤ w i + w c.2
    · simp only [stp, if_pos hc] at h
      exact Or.inr h
    · simp only [stp, if_neg hc, Option.some.injEq] at h
      exact Or.inl h.symm
theorem nx_s {w : Nat → Nat} {hv : Nat → Option Nat} {b : Nat × Nat} : ∀ {m : Nat}, nx w hv m = some b → b.1 < m ∧ hv b.1 = some b.2
  | 0, h => by simp [nx] at h
  | m + 1, h => by
    unfold nx at h
    cases hm : hv m with
    | none =>
      rw [hm] at h
      have := nx_s (m := m) h
      exact ⟨by omega, this.2⟩
    | some o =>
      rw [hm] at h
      rcases stp_s h with h | h
      · rw [h]; exact ⟨Nat.lt_succ_self m, hm⟩
      · have := nx_s (m := m) h
        exact ⟨by omega, this.2⟩
theorem hvo_0 {w : Nat → Nat} {P : Nat → Bool} : ∀ {o : Nat}, (∀ j, j < o → P j = false) → hvo w P o = none
  | 0, _ => rfl
  | o + 1, h => by
    unfold hvo
    rw [if_neg (by rw [h o (by omega)]; simp)]
    exact hvo_0 (fun j hj => h j (by omega))
theorem wsum_ge {w : Nat → Nat} {bit : Nat → Bool} {o : Nat} (ho : bit o = true) : ∀ {k : Nat}, o < k → w o ≤ wsum w bit k
  | 0, h => absurd h (Nat.not_lt_zero o)
  | k + 1, h => by
    unfold wsum
    by_cases e : o = k
    · subst e
      rw [if_pos ho]; omega
    · have := wsum_ge ho (w := w) (k := k) (by omega)
      omega
def hvs (fr to w : Nat → Nat) (k : Nat) (S oth : Int64) (i : Nat) : Option Nat := hvo w (pb fr to k S oth i) k
theorem hvs_b {fr to w : Nat → Nat} {k : Nat} {S oth : Int64} {i f : Nat} (h : hvs fr to w k S oth i = some f) : f < k ∧ bl S f = true := by
  have h1 := hvo_s h
  refine ⟨h1.1, ?_⟩
  have h2 := h1.2.1
  unfold pb at h2
  rw [Bool.and_eq_true, Bool.and_eq_true] at h2
  exact h2.2.1
def CRp (w : Nat → Nat) (rise nin nout : Int32) : Option (Nat × Nat) → Prop
  | none => rise = 1001
  | some b => rise = nI (w b.1) - nI (w b.2) ∧ nin = nI b.1 ∧ nout = nI b.2
def MRp (w : Nat → Nat) (s : Nat) (best sin sout : Int32) : Option (Nat × Nat) → Prop
  | none => best = -3
  | some b => best = nI (s - w b.2 + w b.1) ∧ sin = nI b.1 ∧ sout = nI b.2
theorem fn_loop {N k : Nat} {w : Nat → Nat} {S oth : Int64} {fr to : Nat → Nat} {H W : Nat → Int32} {x1 x2 nin nout nw : Int32} {L : Nat → Int32} (hN : 100 ≤ N) (hk : k ≤ 30) (hW : ∀ a, a < k → W a = nI (w a) ∧ w a ≤ 1000) (hH : ∀ a, a < k → H a = enc (hvs fr to w k S oth a)) :
    Ok (lo10 (g_Forests_findNext_31 N (nI k) W) N S (1001 : Int32) (0 : Int32) x1 x2 L H nin nout nw) (fun r => r.1 = 1 ∧ ∃ rise, CRp w rise r.2.2.2.2.2.1 r.2.2.2.2.2.2.1 (nx w (hvs fr to w k S oth) k) ∧ r.2.2.2.2.2.2.2 = nI (wsum w (fun a => S.toBitVec.getLsbD a) k) + rise) := by
  refine Ok_lo10 (fun d v1 v3 v4 _ _ _ H' nin nout _ => ∃ i, v1 = S ∧ v4 = nI i ∧ i + d = k ∧ H' = H ∧ CRp w v3 nin nout (nx w (hvs fr to w k S oth) i)) ?_ k N _ _ _ _ _ _ _ _ _ _ (by omega) ⟨0, rfl, rfl, by omega, rfl, rfl⟩
  rintro kk d v1 v3 v4 y1 y2 L1 H' nin1 nout1 nw1 ⟨i, rfl, rfl, hd, rfl, hr⟩ hkk
  by_cases hi : i = k
  · subst hi
    have hle : nI i ≤ nI i := nI_le (Nat.le_refl _) (by omega)
    simp only [g_Forests_findNext_31, if_pos hle, weightC hN hk (fun a ha => (hW a ha).1), bk1, bn]
    exact Ok_some ⟨rfl, v3, hr, rfl⟩
  · have hik : i < k := by omega
    have hle : ¬ nI k ≤ nI i := nI_ge hik (by omega)
    have hHi := hH i hik
    obtain ⟨w1, w2⟩ := hW i hik
    cases hh : hvs fr to w k v1 oth i with
    | none =>
      rw [hh] at hHi
      have hHi2 : H' i = (-1 : Int32) := hHi
      have nm : (-1 : Int32) < 0 := by decide
      simp only [g_Forests_findNext_31, if_neg hle, gd_nI (show i < 30 by omega) (by decide), nI_clamp (show i < 2 ^ 31 by omega), bn, hHi2, if_pos nm, nI_1]
      refine hkk (d - 1) _ _ _ _ _ _ _ _ _ _ (by omega) ⟨i + 1, rfl, rfl, by omega, rfl, ?_⟩
      unfold nx
      rw [hh]
      exact hr
    | some o =>
      rw [hh] at hHi
      have hHi2 : H' i = nI o := hHi
      obtain ⟨hok, hob⟩ := hvs_b hh
      obtain ⟨w3, w4⟩ := hW o hok
      have nf : ¬ nI o < 0 := nI_pos (by omega)
      have key : ∀ z1 z2 z3, CRp w z1 z2 z3 (stp w i o (nx w (hvs fr to w k v1 oth) i)) → Ok (kk v1 z1 (nI (i + 1)) y1 y2 L1 H' z2 z3 nw1) (fun r => r.1 = 1 ∧ ∃ rise, CRp w rise r.2.2.2.2.2.1 r.2.2.2.2.2.2.1 (nx w (hvs fr to w k v1 oth) k) ∧ r.2.2.2.2.2.2.2 = nI (wsum w (fun a => v1.toBitVec.getLsbD a) k) + rise) := by
        intro z1 z2 z3 hz
        refine hkk (d - 1) _ _ _ _ _ _ _ _ _ _ (by omega) ⟨i + 1, rfl, rfl, by omega, rfl, ?_⟩
        unfold nx
        rw [hh]
        exact hz
      cases hB : nx w (hvs fr to w k v1 oth) i with
      | none =>
        rw [hB] at hr key
        have hr2 : v3 = 1001 := hr
        subst hr2
        simp only [g_Forests_findNext_31, if_neg hle, gd_nI (show i < 30 by omega) (by decide), nI_clamp (show i < 2 ^ 31 by omega), bn, hHi2, if_neg nf, nI_1, gd_nI (show o < 30 by omega) (by decide), nI_clamp (show o < 2 ^ 31 by omega), w1, w3, if_neg (nIs_1001 w2 w4)]
        exact key _ _ _ ⟨rfl, rfl, rfl⟩
      | some b =>
        rw [hB] at hr key
        obtain ⟨r1, r2, r3⟩ := hr
        have hb := nx_s hB
        have hb2 := hvs_b hb.2
        have u1 := (hW b.1 (by omega)).2
        have u2 := (hW b.2 hb2.1).2
        have hc := nIs_le u1 u2 w2 w4
        subst r1
        by_cases hz : w b.1 + w o ≤ w i + w b.2
        · simp only [g_Forests_findNext_31, if_neg hle, gd_nI (show i < 30 by omega) (by decide), nI_clamp (show i < 2 ^ 31 by omega), bn, hHi2, if_neg nf, nI_1, gd_nI (show o < 30 by omega) (by decide), nI_clamp (show o < 2 ^ 31 by omega), w1, w3, if_pos (hc.mpr hz)]
          refine key _ _ _ ?_
          simp only [stp, if_pos hz]
          exact ⟨rfl, r2, r3⟩
        · simp only [g_Forests_findNext_31, if_neg hle, gd_nI (show i < 30 by omega) (by decide), nI_clamp (show i < 2 ^ 31 by omega), bn, hHi2, if_neg nf, nI_1, gd_nI (show o < 30 by omega) (by decide), nI_clamp (show o < 2 ^ 31 by omega), w1, w3, if_neg (fun q => hz (hc.mp q))]
          refine key _ _ _ ?_
          simp only [stp, if_neg hz]
          exact ⟨rfl, rfl, rfl⟩
theorem bl_andnot (A S : Int64) {b : Nat} (hb : b < 64) : bl (A &&& (S ^^^ (-1 : Int64))) b = (bl A b && !bl S b) := by
  unfold bl
  rw [Int64.toBitVec_and, Int64.toBitVec_xor, BitVec.getLsbD_and, BitVec.getLsbD_xor]
  have e : (-1 : Int64).toBitVec = BitVec.allOnes 64 := by decide +kernel
  rw [e, BitVec.getLsbD_allOnes]
  simp [hb]
theorem bl_ext {A S : Int64} (h : ∀ b, b < 64 → bl A b = bl S b) : A = S := by
  rw [← Int64.toBitVec_inj]
  exact BitVec.eq_of_getLsbD_eq h
theorem no_loop {N n k : Nat} {fr to w : Nat → Nat} {pr : Nat → Bool} {S pres : Int64} {F T V H P : Nat → Int32} {si so : Int32} (hN : 100 ≤ N) (hn : n ≤ 10) (hk : k ≤ 30) (hA : ∀ a, a < k → F a = nI (fr a) ∧ T a = nI (to a) ∧ fr a < n ∧ to a < n) (hV : ∀ a, a < k → V a = nI (w a) ∧ w a ≤ 1000) (hH : ∀ a, a < k → H a = (if pr a = true then 1 else 0)) (hp : ∀ a, a < 64 → bl pres a = (decide (a < k) && pr a)) :
    Ok (lo7 (g_Mo_nextOf_18 N (nI k) H V F T) N S (nI (wsum w (bl S) k)) (-3 : Int32) (0 : Int32) P si so) (fun r => MRp w (wsum w (bl S) k) r.1 r.2.2.1 r.2.2.2 (nx w (hvs fr to w k S (pres &&& (S ^^^ (-1 : Int64)))) k)) := by
  generalize hO : pres &&& (S ^^^ (-1 : Int64)) = oth
  have hoth : ∀ a, a < k → bl oth a = (pr a && !bl S a) := fun a ha => by
    rw [← hO, bl_andnot _ _ (by omega), hp a (by omega)]
    simp [ha]
  have hsum : wsum w (bl S) k ≤ 30000 := Nat.le_trans (wsum_le (fun a ha => (hV a ha).2)) (by omega)
  generalize hs : wsum w (bl S) k = s at hsum
  refine Ok_lo7 (fun d v1 v3 v4 v5 _ si so => ∃ i, v1 = S ∧ v3 = nI s ∧ v5 = nI i ∧ i + d = k ∧ MRp w s v4 si so (nx w (hvs fr to w k S oth) i)) ?_ k N _ _ _ _ _ _ _ (by omega) ⟨0, rfl, rfl, rfl, by omega, rfl⟩
  rintro k18 d v1 v3 v4 v5 P1 si1 so1 ⟨i, rfl, rfl, rfl, hd, hr⟩ hkk
  by_cases hi : i = k
  · subst hi
    have hle : nI i ≤ nI i := nI_le (Nat.le_refl _) (by omega)
    simp only [g_Mo_nextOf_18, if_pos hle]
    exact Ok_some hr
  · have hik : i < k := by omega
    have hle : ¬ nI k ≤ nI i := nI_ge hik (by omega)
    obtain ⟨a1, a2, a3, a4⟩ := hA i hik
    obtain ⟨w1, w2⟩ := hV i hik
    have n1 : ¬ (1 : Int32) = 0 := by decide
    have skip : bl oth i = false → MRp w s v4 si1 so1 (nx w (hvs fr to w k v1 oth) (i + 1)) := by
      intro hb
      have e : hvs fr to w k v1 oth i = none := hvo_0 (fun j _ => by unfold pb; rw [hb]; rfl)
      unfold nx
      rw [e]
      exact hr
    have hHi := hH i hik
    by_cases hpi : pr i = true
    · rw [if_pos hpi] at hHi
      cases hb : bl v1 i with
      | true =>
        have hc : lg_cmp ((v1 >>> ((nI i).toInt64 &&& 63)) &&& (1 : Int64)) (1 : Int64) = 0 := by rw [lg_cmp_eq, bit_shr1 v1 (show i < 64 by omega)]; exact hb
        simp only [g_Mo_nextOf_18, if_neg hle, gd_nI (show i < 30 by omega) (by decide), nI_clamp (show i < 2 ^ 31 by omega), hHi, if_neg n1, if_pos hc, bn, nI_1]
        exact hkk (d - 1) _ _ _ _ _ _ _ (by omega) ⟨i + 1, rfl, rfl, rfl, by omega, skip (by rw [hoth i hik, hb]; simp)⟩
      | false =>
        have hc : ¬ lg_cmp ((v1 >>> ((nI i).toInt64 &&& 63)) &&& (1 : Int64)) (1 : Int64) = 0 := by rw [lg_cmp_eq, bit_shr1 v1 (show i < 64 by omega)]; unfold bl at hb; rw [hb]; simp
        simp only [g_Mo_nextOf_18, if_neg hle, gd_nI (show i < 30 by omega) (by decide), nI_clamp (show i < 2 ^ 31 by omega), hHi, if_neg n1, if_neg hc]
        have hoi : bl oth i = true := by rw [hoth i hik, hpi, hb]; rfl
        refine Ok_lo8 (fun d2 v1' v3' v4' v5' v6' _ si so => ∃ o, v1' = v1 ∧ v3' = nI s ∧ v5' = nI i ∧ v6' = nI o ∧ o + d2 = k ∧ MRp w s v4' si so (cmb w i (nx w (hvs fr to w k v1 oth) i) (hvo w (pb fr to k v1 oth i) o))) ?_ k N _ _ _ _ _ _ _ _ (by omega) ⟨0, rfl, rfl, rfl, rfl, by omega, hr⟩
        rintro k54 d2 v1' v3' x4 v5' v6' P2 si2 so2 ⟨o, rfl, rfl, rfl, rfl, hd2, hr2⟩ hk54
        by_cases ho : o = k
        · subst ho
          have hle2 : nI o ≤ nI o := nI_le (Nat.le_refl _) (by omega)
          simp only [g_Mo_nextOf_54, if_pos hle2, bn, nI_1]
          exact hkk (d - 1) _ _ _ _ _ _ _ (by omega) ⟨i + 1, rfl, rfl, rfl, by omega, hr2⟩
        · have hok : o < k := by omega
          have hle2 : ¬ nI k ≤ nI o := nI_ge hok (by omega)
          obtain ⟨w3, w4⟩ := hV o hok
          cases hbo : bl v1' o with
          | false =>
            have hc2 : ¬ lg_cmp ((v1' >>> ((nI o).toInt64 &&& 63)) &&& (1 : Int64)) (1 : Int64) = 0 := by rw [lg_cmp_eq, bit_shr1 v1' (show o < 64 by omega)]; unfold bl at hbo; rw [hbo]; simp
            simp only [g_Mo_nextOf_54, if_neg hle2, if_neg hc2, bn, nI_1]
            refine hk54 (d2 - 1) _ _ _ _ _ _ _ _ (by omega) ⟨o + 1, rfl, rfl, rfl, rfl, by omega, ?_⟩
            have hp0 : ¬ pb fr to k v1' oth i o = true := by unfold pb; rw [hbo]; simp
            simp only [hvo, if_neg hp0]
            exact hr2
          | true =>
            have hc2 : lg_cmp ((v1' >>> ((nI o).toInt64 &&& 63)) &&& (1 : Int64)) (1 : Int64) = 0 := by rw [lg_cmp_eq, bit_shr1 v1' (show o < 64 by omega)]; exact hbo
            obtain ⟨P3, e3⟩ := hangs (S := sw v1' o) (P := P2) hN hn hk (show fr i < 10 by omega) (show to i < 10 by omega) hA
            by_cases hq : klab fr to k (sw v1' o) (fr i) = klab fr to k (sw v1' o) (to i)
            · rw [if_pos hq] at e3
              unfold sw at e3
              simp only [g_Mo_nextOf_54, if_neg hle2, if_pos hc2, gd_nI (show i < 30 by omega) (by decide), nI_clamp (show i < 2 ^ 31 by omega), a1, a2, e3, bk2, if_neg n1, bn, nI_1]
              refine hk54 (d2 - 1) _ _ _ _ _ _ _ _ (by omega) ⟨o + 1, rfl, rfl, rfl, rfl, by omega, ?_⟩
              have hp0 : ¬ pb fr to k v1' oth i o = true := by unfold pb ap; simp [hq]
              simp only [hvo, if_neg hp0]
              exact hr2
            · rw [if_neg hq] at e3
              unfold sw at e3
              have hp1 : pb fr to k v1' oth i o = true := by unfold pb ap; rw [hoi, hbo, decide_eq_true hq]; rfl
              have hws : w o ≤ s := by rw [← hs]; exact wsum_ge hbo hok
              have hval : nI s - nI (w o) + nI (w i) = nI (s - w o + w i) := by rw [nI_subN hws, nI_add]
              have hcm : cmb w i (nx w (hvs fr to w k v1' oth) i) (hvo w (pb fr to k v1' oth i) (o + 1)) = stp w i o (cmb w i (nx w (hvs fr to w k v1' oth) i) (hvo w (pb fr to k v1' oth i) o)) := by
                simp only [hvo, if_pos hp1]
                exact cmb_up _ _ _ _ _
              have key : ∀ z1 z2 z3, MRp w s z1 z2 z3 (stp w i o (cmb w i (nx w (hvs fr to w k v1' oth) i) (hvo w (pb fr to k v1' oth i) o))) → Ok (k54 v1' (nI s) z1 (nI i) (nI (o + 1)) P3 z2 z3) (fun r => MRp w s r.1 r.2.2.1 r.2.2.2 (nx w (hvs fr to w k v1' oth) k)) := by
                intro z1 z2 z3 hz
                exact hk54 (d2 - 1) _ _ _ _ _ _ _ _ (by omega) ⟨o + 1, rfl, rfl, rfl, rfl, by omega, by rw [hcm]; exact hz⟩
              have hbd : ∀ b, cmb w i (nx w (hvs fr to w k v1' oth) i) (hvo w (pb fr to k v1' oth i) o) = some b → w b.1 ≤ 1000 ∧ w b.2 ≤ s := by
                intro b hb2
                have inn : ∀ c, nx w (hvs fr to w k v1' oth) i = some c → w c.1 ≤ 1000 ∧ w c.2 ≤ s := by
                  intro c hc3
                  have q1 := nx_s hc3
                  have q2 := hvs_b q1.2
                  exact ⟨(hV c.1 (by omega)).2, by rw [← hs]; exact wsum_ge q2.2 q2.1⟩
                cases hz : hvo w (pb fr to k v1' oth i) o with
                | none => rw [hz] at hb2; exact inn b hb2
                | some f =>
                  rw [hz] at hb2
                  rcases stp_s hb2 with h | h
                  · have q1 := hvo_s hz
                    have q2 := q1.2.1
                    unfold pb at q2
                    rw [Bool.and_eq_true, Bool.and_eq_true] at q2
                    rw [h]
                    exact ⟨w2, by rw [← hs]; exact wsum_ge q2.2.1 (by omega)⟩
                  · exact inn b h
              generalize hC : cmb w i (nx w (hvs fr to w k v1' oth) i) (hvo w (pb fr to k v1' oth i) o) = C at hr2 key hbd
              cases C with
              | none =>
                have hr3 : x4 = -3 := hr2
                subst hr3
                have nm : (-3 : Int32) < 0 := by decide
                simp only [g_Mo_nextOf_54, if_neg hle2, if_pos hc2, gd_nI (show i < 30 by omega) (by decide), nI_clamp (show i < 2 ^ 31 by omega), a1, a2, e3, bk2, if_pos, gd_nI (show o < 30 by omega) (by decide), nI_clamp (show o < 2 ^ 31 by omega), w1, w3, bn, nI_1, hval, if_pos nm, g_Mo_nextOf_136]
                exact key _ _ _ ⟨rfl, rfl, rfl⟩
              | some b =>
                obtain ⟨r1, r2, r3⟩ := hr2
                obtain ⟨b1, b2⟩ := hbd b rfl
                subst r1
                have np : ¬ nI (s - w b.2 + w b.1) < 0 := nI_pos (by omega)
                have hcc : nI (s - w b.2 + w b.1) ≤ nI (s - w o + w i) ↔ s - w b.2 + w b.1 ≤ s - w o + w i := nI_leI (by omega) (by omega)
                by_cases hz : w b.1 + w o ≤ w i + w b.2
                · simp only [g_Mo_nextOf_54, if_neg hle2, if_pos hc2, gd_nI (show i < 30 by omega) (by decide), nI_clamp (show i < 2 ^ 31 by omega), a1, a2, e3, bk2, if_pos, gd_nI (show o < 30 by omega) (by decide), nI_clamp (show o < 2 ^ 31 by omega), w1, w3, bn, nI_1, hval, if_neg np, if_pos (hcc.mpr (by omega))]
                  refine key _ _ _ ?_
                  simp only [stp, if_pos hz]
                  exact ⟨rfl, r2, r3⟩
                · simp only [g_Mo_nextOf_54, if_neg hle2, if_pos hc2, gd_nI (show i < 30 by omega) (by decide), nI_clamp (show i < 2 ^ 31 by omega), a1, a2, e3, bk2, if_pos, gd_nI (show o < 30 by omega) (by decide), nI_clamp (show o < 2 ^ 31 by omega), w1, w3, bn, nI_1, hval, if_neg np, if_neg (fun q => hz (by have := hcc.mp q; omega)), g_Mo_nextOf_136]
                  refine key _ _ _ ?_
                  simp only [stp, if_neg hz]
                  exact ⟨rfl, rfl, rfl⟩
    · rw [if_neg hpi] at hHi
      simp only [g_Mo_nextOf_18, if_neg hle, gd_nI (show i < 30 by omega) (by decide), nI_clamp (show i < 2 ^ 31 by omega), hHi, if_pos, bn, nI_1]
      exact hkk (d - 1) _ _ _ _ _ _ _ (by omega) ⟨i + 1, rfl, rfl, rfl, by omega, skip (by rw [hoth i hik]; simp [hpi])⟩
