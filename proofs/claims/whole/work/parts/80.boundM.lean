/-! the reference goes through all choices -/
abbrev RB := Int32 × (Nat → Int32) × Int64 × (Nat → Int32) × (Nat → Int32) × (Nat → Int32)
abbrev KB := Int32 → Int32 → Int32 → Int32 → (Nat → Int32) → Int64 → (Nat → Int32) → (Nat → Int32) → (Nat → Int32) → Option RB
theorem advance {N need many : Nat} {c : Nat → Nat} {kk : KB} {v4 : Int32} {P OW CH D : Nat → Int32} {S : Int64} {Q : RB → Prop} (hN : 100 ≤ N) (hn1 : 1 ≤ need) (hn9 : need ≤ 9) (hle : need ≤ many) (hm : many ≤ 30) (hV : Vc need many c) (hCH : ∀ i, i < need → CH i = nI (c i))
    (h0 : (∀ i, i < need → c i + (need - i) = many) → Ok (kk (nI need) (nI many) v4 0 P S OW CH D) Q)
    (h1 : ∀ at_ CH', at_ < need → c at_ + (need - at_) < many → (∀ i, at_ < i → i < need → c i + (need - i) = many) → (∀ i, i < need → CH' i = nI (nxc c at_ i)) → Ok (kk (nI need) (nI many) v4 1 P S OW CH' D) Q) :
    Ok (lo9 (g_Mo_findBounded_218 N kk) N (nI need) (nI many) v4 (nI (need - 1)) P S OW CH D) Q := by
  refine Ok_lo9 (fun e v2 v3 v4' v7 P' S' OW' CH' D' => ∃ j, j = e ∧ j ≤ need ∧ v2 = nI need ∧ v3 = nI many ∧ v4' = v4 ∧ v7 = (if j = 0 then -1 else nI (j - 1)) ∧ P' = P ∧ S' = S ∧ OW' = OW ∧ CH' = CH ∧ D' = D ∧ ∀ i, j ≤ i → i < need → c i + (need - i) = many) ?_ need N _ _ _ _ _ _ _ _ _ (by omega) ⟨need, rfl, Nat.le_refl _, rfl, rfl, rfl, by rw [if_neg (by omega)], rfl, rfl, rfl, rfl, rfl, fun i h1 h2 => by omega⟩
  rintro kk2 e v2 v3 v4' v7 P' S' OW' CH' D' ⟨j, rfl, hj, rfl, rfl, rfl, rfl, rfl, rfl, rfl, rfl, rfl, hmax⟩ hkk
  by_cases hj0 : j = 0
  · subst hj0
    have hneg : (-1 : Int32) < 0 := by decide
    simp only [if_pos, g_Mo_findBounded_218, if_pos hneg, g_Mo_findBounded_245, g_Mo_findBounded_255]
    exact h0 (fun i hi => hmax i (Nat.zero_le _) hi)
  · rw [if_neg hj0]
    have hneg : ¬ nI (j - 1) < 0 := nI_pos (by omega)
    have hcv := hV.1 (j - 1) (by omega)
    have hlim := Vc_le hV (i := j - 1) (by omega)
    have hCj := hCH (j - 1) (by omega)
    have e1 : (nI many - nI need) + nI (j - 1) = nI (many - need + (j - 1)) := by rw [nI_subN hle, nI_add]
    simp only [g_Mo_findBounded_218, if_neg hneg, gd_nI (show j - 1 < 10 by omega) (by decide), nI_clamp (show j - 1 < 2 ^ 31 by omega), hCj, e1, bn]
    by_cases hc : c (j - 1) + (need - (j - 1)) = many
    · have e2 : nI (c (j - 1)) = nI (many - need + (j - 1)) := by
        congr 1
        omega
      rw [if_pos e2]
      refine hkk (j - 1) _ _ _ _ _ _ _ _ _ (by omega) ⟨j - 1, rfl, by omega, rfl, rfl, rfl, ?_, rfl, rfl, rfl, rfl, rfl, fun i h1 h2 => ?_⟩
      · by_cases e3 : j - 1 = 0
        · rw [if_pos e3, e3]; decide
        · rw [if_neg e3, nI_m1' (by omega)]
      · by_cases e3 : i = j - 1
        · rw [e3]; exact hc
        · exact hmax i (by omega) h2
    · have e2 : ¬ nI (c (j - 1)) = nI (many - need + (j - 1)) := fun h => by
        have := (nI_eq (by omega) (by omega)).mp h
        omega
      rw [if_neg e2]
      have n1 : ¬ (1 : Int32) = 0 := by decide
      simp only [g_Mo_findBounded_245, if_neg hneg, g_Mo_findBounded_255, if_neg n1, gd_nI (show j - 1 < 10 by omega) (by decide), nI_clamp (show j - 1 < 2 ^ 31 by omega), hCj, bn, nI_1]
      have hat : c (j - 1) + (need - (j - 1)) < many := by omega
      have ej : j - 1 + 1 = j := by omega
      rw [ej]
      refine Ok_lo10 (fun e v2 v3 v4x v5 v8 P'' S'' OW'' C'' D'' => ∃ t, t + e = need ∧ j ≤ t ∧ v2 = nI need ∧ v3 = nI many ∧ v4x = v4' ∧ v5 = 1 ∧ v8 = nI t ∧ P'' = P' ∧ S'' = S' ∧ OW'' = OW' ∧ D'' = D' ∧ ∀ i, i < t → C'' i = nI (nxc c (j - 1) i)) ?_ (need - j) N _ _ _ _ _ _ _ _ _ _ (by omega) ⟨j, by omega, Nat.le_refl _, rfl, rfl, rfl, rfl, rfl, rfl, rfl, rfl, rfl, fun i hi => ?_⟩
      · rintro kk3 e3 v2 v3 v4'' v5 v8 P'' S'' OW'' C'' D'' ⟨t, ht, hjt, rfl, rfl, rfl, rfl, rfl, rfl, rfl, rfl, rfl, hC⟩ hkk3
        by_cases hte : t = need
        · have hle3 : nI need ≤ nI t := nI_le (by omega) (by omega)
          simp only [g_Mo_findBounded_279, if_pos hle3]
          rw [hte] at hC
          exact h1 (j - 1) C'' (by omega) hat (fun i h1 h2 => hmax i (by omega) h2) hC
        · have hle3 : ¬ nI need ≤ nI t := nI_ge (by omega) (by omega)
          have hCt := hC (t - 1) (by omega)
          simp only [g_Mo_findBounded_279, if_neg hle3, nI_sub1 (show 0 < t by omega), gd_nI (show t - 1 < 10 by omega) (by decide), gd_nI (show t < 10 by omega) (by decide), nI_clamp (show t - 1 < 2 ^ 31 by omega), nI_clamp (show t < 2 ^ 31 by omega), hCt, bn, nI_1]
          refine hkk3 (e3 - 1) _ _ _ _ _ _ _ _ _ _ (by omega) ⟨t + 1, by omega, by omega, rfl, rfl, rfl, rfl, rfl, rfl, rfl, rfl, rfl, fun i hi => ?_⟩
          by_cases e4 : i = t
          · subst e4
            rw [upd_self]
            congr 1
            unfold nxc
            rw [if_neg (by omega), if_neg (by omega)]
            omega
          · rw [upd_ne _ _ e4]; exact hC i (by omega)
      · by_cases e4 : i = j - 1
        · subst e4
          rw [upd_self]
          congr 1
          unfold nxc
          rw [if_neg (Nat.lt_irrefl _)]
          omega
        · rw [upd_ne _ _ e4, hCH i (by omega)]
          congr 1
          unfold nxc
          rw [if_pos (by omega)]
def encB : Option Nat → Int32
  | none => -3
  | some m => nI m
/-- what has been gone through so far -/
def Acc (fr to w : Nat → Nat) (n d : Nat) (own : List Nat) (need : Nat) (P : (Nat → Nat) → Prop) (best : Option Nat) (S : Int64) : Prop :=
  (best = none → ∀ x, Vc need own.length x → P x → ¬ okB fr to n d (Tc own need x)) ∧ ∀ m, best = some m → ∃ y, Vc need own.length y ∧ P y ∧ okB fr to n d (Tc own need y) ∧ lsum w (Tc own need y) = m ∧ bl S = inT (Tc own need y) ∧ ∀ x, Vc need own.length x → P x → okB fr to n d (Tc own need x) → m < lsum w (Tc own need x) ∨ (m = lsum w (Tc own need x) ∧ m32 y need ≤ m32 x need)
theorem Acc_eq {fr to w : Nat → Nat} {n d : Nat} {own : List Nat} {need : Nat} {P P' : (Nat → Nat) → Prop} {best : Option Nat} {S : Int64} (h : Acc fr to w n d own need P best S) (hP : ∀ x, Vc need own.length x → (P x ↔ P' x)) : Acc fr to w n d own need P' best S := by
  refine ⟨fun hb x hx hp => h.1 hb x hx ((hP x hx).mpr hp), fun m hm => ?_⟩
  obtain ⟨y, y1, y2, y3, y4, y5, y6⟩ := h.2 m hm
  exact ⟨y, y1, (hP y y1).mp y2, y3, y4, y5, fun x hx hp => y6 x hx ((hP x hx).mpr hp)⟩
theorem enumM {N n d need : Nat} {fr to w : Nat → Nat} {own : List Nat} {P0 D0 CH0 OW F T W : Nat → Int32} {S0 : Int64} (hN : 2 ^ 31 ≤ N) (hn : n ≤ 10) (hd : d ≤ 9) (hn1 : 1 ≤ need) (hn6 : need ≤ 6) (hm : own.length ≤ 30) (hle : need ≤ own.length) (hpw : own.Pairwise (· < ·)) (hOW : ∀ i, i < own.length → OW i = nI (own.getD i 0)) (hCH0 : ∀ i, i < need → CH0 i = nI i) (hA : ∀ a, a ∈ own → a < 30 ∧ F a = nI (fr a) ∧ T a = nI (to a) ∧ W a = nI (w a) ∧ fr a < n ∧ to a < n ∧ fr a ≠ to a ∧ w a ≤ 1000) :
    Ok (lo9 (g_Mo_findBounded_136 N (nI d) (nI n) F T W) N (nI need) (nI own.length) (-3 : Int32) (1 : Int32) P0 S0 OW CH0 D0) (fun r => ∃ best, r.1 = encB best ∧ (∀ m, best = some m → m ≤ 30000) ∧ Acc fr to w n d own need (fun _ => True) best r.2.2.1) := by
  have hdig : ∀ x, Vc need own.length x → ∀ j, j < need → x j < 32 := fun x hx j hj => by have := hx.1 j hj; omega
  have hWb : ∀ x, Vc need own.length x → lsum w (Tc own need x) ≤ 30000 := fun x hx => by
    have h1 := lsum_le (c := w) (B := 1000) (Tc own need x) (fun a ha => (hA a (Tc_own hx ha)).2.2.2.2.2.2.2)
    rw [Tc_len] at h1
    omega
  have hp32 : 32 ^ need ≤ 32 ^ 6 := Nat.pow_le_pow_right (by omega) hn6
  refine Ok_lo9 (fun e v2 v3 v4 v5 P S OW' CH D => v2 = nI need ∧ v3 = nI own.length ∧ OW' = OW ∧ ∃ best, v4 = encB best ∧ (∀ m, best = some m → m ≤ 30000) ∧ ((v5 = 0 ∧ Acc fr to w n d own need (fun _ => True) best S) ∨ (v5 = 1 ∧ ∃ c, Vc need own.length c ∧ (∀ i, i < need → CH i = nI (c i)) ∧ m32 c need + e = 32 ^ need ∧ Acc fr to w n d own need (fun x => m32 x need < m32 c need) best S))) ?_ (32 ^ need - m32 (fun i => i) need) N _ _ _ _ _ _ _ _ _ (by omega) ⟨rfl, rfl, rfl, none, rfl, (fun m h => by cases h), Or.inr ⟨rfl, fun i => i, ⟨(fun i hi => show i < own.length by omega), fun i j h _ => h⟩, hCH0, ?_, fun _ x hx hp => ?_, (fun m h => by cases h)⟩⟩
  · rintro kk e v2 v3 v4 v5 P S OW' CH D ⟨rfl, rfl, rfl, best, rfl, hbb, hcase⟩ hkk
    rcases hcase with ⟨rfl, hacc⟩ | ⟨rfl, c, hVc, hCH, hcode, hacc⟩
    · simp only [g_Mo_findBounded_136, if_pos]
      exact Ok_some ⟨best, rfl, hbb, hacc⟩
    · have n1 : ¬ (1 : Int32) = 0 := by decide
      -- on to the next choice
      have go : ∀ best' S' P' D', (∀ m, best' = some m → m ≤ 30000) → Acc fr to w n d own need (fun x => m32 x need ≤ m32 c need) best' S' → Ok (lo9 (g_Mo_findBounded_218 N kk) N (nI need) (nI own.length) (encB best') (nI (need - 1)) P' S' OW' CH D') (fun r => ∃ best, r.1 = encB best ∧ (∀ m, best = some m → m ≤ 30000) ∧ Acc fr to w n d own need (fun _ => True) best r.2.2.1) := by
        intro best' S' P' D' hb' hacc'
        refine advance (by omega) hn1 (by omega) hle hm hVc hCH (fun hlast => ?_) (fun at_ CH' h1 h2 h3 h4 => ?_)
        · refine hkk 0 _ _ _ _ _ _ _ _ _ (by have := m32_lt (p := c) (m := need) (hdig c hVc); omega) ⟨rfl, rfl, rfl, best', rfl, hb', Or.inl ⟨rfl, Acc_eq hacc' (fun x hx => ⟨fun _ => trivial, fun _ => last_c hm hVc hlast hx⟩)⟩⟩
        · have hup := nxc_up hm hVc h1
          have hnv := nxc_V hVc h1 h2
          have hlt := m32_lt (p := nxc c at_) (m := need) (hdig _ hnv)
          refine hkk (32 ^ need - m32 (nxc c at_) need) _ _ _ _ _ _ _ _ _ (by omega) ⟨rfl, rfl, rfl, best', rfl, hb', Or.inr ⟨rfl, nxc c at_, hnv, h4, by omega, Acc_eq hacc' (fun x hx => ⟨fun h => by omega, fun h => ?_⟩)⟩⟩
          apply Classical.byContradiction
          intro hn2
          have := nxc_next hm hVc h1 h2 h3 hx (by omega)
          omega
      -- this choice is the best so far
      have fin : okB fr to n d (Tc own need c) → (∀ m, best = some m → lsum w (Tc own need c) < m) → ∀ P' D' S', Ok (g_Mo_findBounded_166 N kk (nI need) (nI own.length) (nI (lsum w (Tc own need c))) P' S' OW' CH D') (fun r => ∃ best, r.1 = encB best ∧ (∀ m, best = some m → m ≤ 30000) ∧ Acc fr to w n d own need (fun _ => True) best r.2.2.1) := by
        intro hok hless P' D' S'
        unfold g_Mo_findBounded_166
        refine Ok_lo9 (fun e v2 v3 v6 v7 P'' S OW'' CH'' D'' => ∃ i, i + e = need ∧ v2 = nI need ∧ v3 = nI own.length ∧ v6 = nI (lsum w (Tc own need c)) ∧ v7 = nI i ∧ P'' = P' ∧ OW'' = OW' ∧ CH'' = CH ∧ D'' = D' ∧ bl S = inT (Tc own i c)) ?_ need N _ _ _ _ _ _ _ _ _ (by omega) ⟨0, by omega, rfl, rfl, rfl, rfl, rfl, rfl, rfl, rfl, by funext a; rw [bl_0]; simp [inT, Tc]⟩
        rintro kk2 e2 v2 v3 v6 v7 P'' S'' OW'' CH'' D'' ⟨i, hi, rfl, rfl, rfl, rfl, rfl, rfl, rfl, rfl, hS⟩ hkk2
        by_cases hin : i = need
        · have hle2 : nI need ≤ nI i := nI_le (by omega) (by omega)
          simp only [g_Mo_findBounded_178, if_pos hle2, bn, nI_sub1 (show 0 < need by omega)]
          rw [hin] at hS
          refine go (some (lsum w (Tc own need c))) _ _ _ (fun m hm2 => by cases hm2; exact hWb c hVc) ⟨(fun h => by cases h), fun m hm2 => ?_⟩
          cases hm2
          refine ⟨c, hVc, Nat.le_refl _, hok, rfl, hS, fun x hx hp hokx => ?_⟩
          rcases Nat.lt_or_eq_of_le hp with g | g
          · refine Or.inl ?_
            cases hb : best with
            | none => exact absurd hokx (hacc.1 hb x hx g)
            | some m =>
              obtain ⟨y, -, -, -, -, -, y6⟩ := hacc.2 m hb
              have h1 := hless m hb
              rcases y6 x hx g hokx with h | ⟨h, -⟩
              · omega
              · omega
          · rw [Tc_congr (m32_inj (hdig x hx) (hdig c hVc) g)]
            exact Or.inr ⟨rfl, by omega⟩
        · have hilt : i < need := by omega
          have hle2 : ¬ nI need ≤ nI i := nI_ge hilt (by omega)
          have hcv := hVc.1 i hilt
          have ha := (hA _ (getD_mem (ord := own) hcv)).1
          simp only [g_Mo_findBounded_178, if_neg hle2, gd_nI (show i < 10 by omega) (by decide), nI_clamp (show i < 2 ^ 31 by omega), hCH i hilt, gd_nI (show c i < 30 by omega) (by decide), nI_clamp (show c i < 2 ^ 31 by omega), hOW (c i) hcv, bn, nI_1]
          refine hkk2 (e2 - 1) _ _ _ _ _ _ _ _ _ (by omega) ⟨i + 1, by omega, rfl, rfl, rfl, rfl, rfl, rfl, rfl, rfl, ?_⟩
          funext b
          have h5 := bl_or S'' (a := own.getD (c i) 0) (b := b) (by omega)
          unfold bitA at h5
          rw [h5, hS, Tc_succ]
          unfold inT
          rw [Bool.eq_iff_iff]
          simp only [Bool.or_eq_true, decide_eq_true_eq, List.mem_append, List.mem_singleton]
          exact ⟨fun h => h.elim Or.inl (fun h => Or.inr h.symm), fun h => h.elim Or.inl (fun h => Or.inr h.symm)⟩
      simp only [g_Mo_findBounded_136, if_neg n1]
      refine Ok_bk3 (judgedM (c := c) (by omega) hn hd (by omega) hm hOW hCH hVc.1 hA) ?_
      rintro ⟨r1, r2, r3⟩ ⟨hj1, hj2⟩
      have hsame : ∀ x, Vc need own.length x → m32 x need = m32 c need → Tc own need x = Tc own need c := fun x hx g => Tc_congr (m32_inj (hdig x hx) (hdig c hVc) g)
      by_cases hok : okB fr to n d (Tc own need c)
      · have hr : r1 = nI (lsum w (Tc own need c)) := hj1 hok
        subst hr
        have hWc := hWb c hVc
        have hneg : ¬ nI (lsum w (Tc own need c)) < 0 := nI_pos (by omega)
        simp only [if_neg hneg]
        cases hb : best with
        | none =>
          have hneg2 : encB none < (0 : Int32) := by decide
          rw [if_pos hneg2]
          exact fin hok (fun m h => by rw [hb] at h; cases h) _ _ _
        | some m =>
          have hmb := hbb m hb
          have hneg2 : ¬ encB (some m) < (0 : Int32) := nI_pos (n := m) (by omega)
          rw [if_neg hneg2]
          have e3 : encB (some m) = nI m := rfl
          by_cases hle3 : m ≤ lsum w (Tc own need c)
          · have hc3 : encB (some m) ≤ nI (lsum w (Tc own need c)) := nI_le hle3 (by omega)
            rw [if_pos hc3]
            simp only [bn, nI_sub1 (show 0 < need by omega)]
            refine go (some m) _ _ _ (fun m' h => by cases h; exact hmb) ⟨(fun h => by cases h), fun m' h => ?_⟩
            cases h
            obtain ⟨y, y1, y2, y3, y4, y5, y6⟩ := hacc.2 m hb
            refine ⟨y, y1, Nat.le_of_lt y2, y3, y4, y5, fun x hx hp hokx => ?_⟩
            rcases Nat.lt_or_eq_of_le hp with g | g
            · exact y6 x hx g hokx
            · rw [hsame x hx g]
              have y2' : m32 y need < m32 c need := y2
              rcases Nat.lt_or_eq_of_le hle3 with q | q
              · exact Or.inl q
              · exact Or.inr ⟨q, by omega⟩
          · have hc3 : ¬ encB (some m) ≤ nI (lsum w (Tc own need c)) := nI_ge (by omega) (by omega)
            rw [if_neg hc3]
            exact fin hok (fun m' h => by rw [hb] at h; cases h; omega) _ _ _
      · have hr : r1 = -1 := hj2 hok
        subst hr
        have hneg : (-1 : Int32) < 0 := by decide
        simp only [if_pos hneg, bn, nI_sub1 (show 0 < need by omega)]
        refine go best _ _ _ hbb ⟨fun h x hx hp hokx => ?_, fun m h => ?_⟩
        · rcases Nat.lt_or_eq_of_le hp with g | g
          · exact hacc.1 h x hx g hokx
          · rw [hsame x hx g] at hokx; exact hok hokx
        · obtain ⟨y, y1, y2, y3, y4, y5, y6⟩ := hacc.2 m h
          refine ⟨y, y1, Nat.le_of_lt y2, y3, y4, y5, fun x hx hp hokx => ?_⟩
          rcases Nat.lt_or_eq_of_le hp with g | g
          · exact y6 x hx g hokx
          · rw [hsame x hx g] at hokx; exact absurd hokx hok
  · have := m32_lt (p := fun i => i) (m := need) (fun j hj => by show j < 32; omega)
    omega
  · -- nothing comes before the first
    obtain ⟨i, i1, i2, i3⟩ := m32_tri (hdig x hx) (fun j hj => by show j < 32; omega) hp
    exfalso
    have i3' : x i < i := i3
    have hge : ∀ t, t < need → t ≤ x t := by
      intro t
      induction t with
      | zero => intro _; omega
      | succ t ih =>
        intro ht
        have h1 := ih (by omega)
        have h2 := hx.2 t (t + 1) (by omega) ht
        omega
    have := hge i i1
    omega
