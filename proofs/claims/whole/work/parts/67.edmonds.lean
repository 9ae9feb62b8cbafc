/-! the class: arcs into each node, rings made one node -/
def eg (E : List Ed) (i : Nat) : Ed := E.getD i (0, 0, 0)
theorem eg_mem {E : List Ed} {i : Nat} (h : i < E.length) : eg E i ∈ E := by
  unfold eg
  rw [List.getD_eq_getElem?_getD, List.getElem?_eq_getElem h]
  exact List.getElem_mem h
theorem mem_eg {E : List Ed} {e : Ed} (h : e ∈ E) : ∃ i, i < E.length ∧ eg E i = e := by
  obtain ⟨i, i1, i2⟩ := List.getElem_of_mem h
  refine ⟨i, i1, ?_⟩
  unfold eg
  rw [List.getD_eq_getElem?_getD, List.getElem?_eq_getElem i1]
  exact i2
theorem takeE {E : List Ed} {i : Nat} (h : i < E.length) : E.take (i + 1) = E.take i ++ [eg E i] := by
  unfold eg
  rw [List.take_succ, List.getD_eq_getElem?_getD]
  simp [h]
theorem eg_app {E : List Ed} {e : Ed} : eg (E ++ [e]) E.length = e := by
  unfold eg
  rw [List.getD_eq_getElem?_getD, List.getElem?_append_right (Nat.le_refl _)]
  simp
theorem eg_app' {E : List Ed} {e : Ed} {i : Nat} (h : i < E.length) : eg (E ++ [e]) i = eg E i := by
  unfold eg
  rw [List.getD_eq_getElem?_getD, List.getD_eq_getElem?_getD, List.getElem?_append_left h]
/-- how the arrays hold a list of arcs -/
def EA (E : List Ed) (A H : Nat → Int32) (C : Nat → Int64) : Prop := ∀ i, i < E.length → A i = nI (tlE (eg E i)) ∧ H i = nI (hdE (eg E i)) ∧ C i = cN (csE (eg E i))
theorem EA_app {E : List Ed} {A H : Nat → Int32} {C : Nat → Int64} {e : Ed} (h : EA E A H C) : EA (E ++ [e]) (upd A E.length (nI (tlE e))) (upd H E.length (nI (hdE e))) (vp_updL C E.length (cN (csE e))) := by
  intro i hi
  rw [List.length_append] at hi
  simp only [List.length_cons, List.length_nil] at hi
  by_cases e1 : i = E.length
  · subst e1
    rw [eg_app, upd_self, upd_self, pk_uLs]
    exact ⟨rfl, rfl, rfl⟩
  · rw [eg_app' (by omega), upd_ne _ _ e1, upd_ne _ _ e1, pk_uLn e1]
    exact h i (by omega)
def pl (r v : Nat) : Nat := if v < r then v else v - 1
def fld (r v : Nat) : Nat := (8 - pl r v) * 5
theorem fieldOf_v : ∀ r, r < 10 → ∀ v, v < 10 → v ≠ r → f_TreesFromRoot_fieldOf (nI r) (nI v) = some (nI (fld r v)) := by decide +kernel
theorem fld_le : ∀ r, r < 10 → ∀ v, v < 10 → fld r v ≤ 40 := by decide +kernel
theorem sh_arc : ∀ a, a < 32 → ∀ f, f < 41 → (nI a).toInt64 <<< ((nI f).toInt64 &&& 63) = cN (a * 2 ^ f) := by decide +kernel
theorem sh_w : ∀ w, w < 1001 → (nI w).toInt64 <<< ((45 : Int32).toInt64 &&& 63) = cN (w * 2 ^ 45) := by decide +kernel
def ec (r : Nat) (to w : Nat → Nat) (a : Nat) : Nat := w a * 2 ^ 45 + a * 2 ^ (fld r (to a))
theorem ec_le {r a : Nat} {to w : Nat → Nat} (hr : r < 10) (ha : a < 30) (ht : to a < 10) (hw : w a ≤ 1000) : ec r to w a ≤ 2 ^ 55 := by
  have h1 := fld_le r hr (to a) ht
  have h2 : 2 ^ (fld r (to a)) ≤ 2 ^ 40 := Nat.pow_le_pow_right (by omega) h1
  have h3 : a * 2 ^ (fld r (to a)) ≤ 30 * 2 ^ 40 := Nat.mul_le_mul (by omega) h2
  unfold ec
  omega
def e0 (r : Nat) (fr to w : Nat → Nat) (l : List Nat) : List Ed := (l.filter (fun a => !decide (to a = r))).map (fun a => (fr a, to a, ec r to w a))
theorem e0_len {r : Nat} {fr to w : Nat → Nat} (l : List Nat) : (e0 r fr to w l).length ≤ l.length := by
  unfold e0
  rw [List.length_map]
  exact List.length_filter_le ..
theorem e0_no {r : Nat} {fr to w : Nat → Nat} {l : List Nat} {i : Nat} (h : i < l.length) (hn : to (l.getD i 0) = r) : e0 r fr to w (l.take (i + 1)) = e0 r fr to w (l.take i) := by
  unfold e0
  rw [take_s h, List.filter_append, List.filter_cons_of_neg (by simp only [hn]; simp)]
  simp
theorem e0_yes {r : Nat} {fr to w : Nat → Nat} {l : List Nat} {i : Nat} (h : i < l.length) (hn : ¬ to (l.getD i 0) = r) : e0 r fr to w (l.take (i + 1)) = e0 r fr to w (l.take i) ++ [(fr (l.getD i 0), to (l.getD i 0), ec r to w (l.getD i 0))] := by
  unfold e0
  rw [take_s h, List.filter_append, List.filter_cons_of_pos (by simp only [hn]; simp)]
  simp
theorem takeArcs {N n r : Nat} {fr to w : Nat → Nat} {ord : List Nat} {O F T V A0 H0 : Nat → Int32} {C0 : Nat → Int64} (hN : 100 ≤ N) (hn : n ≤ 10) (hr : r < n) (hlen : ord.length ≤ 30) (hO : ∀ i, i < ord.length → O i = nI (ord.getD i 0)) (hA : ∀ a, a ∈ ord → a < 30 ∧ F a = nI (fr a) ∧ T a = nI (to a) ∧ fr a < n ∧ to a < n) (hV : ∀ a, a ∈ ord → V a = nI (w a) ∧ w a ≤ 1000) :
    Ok (f_TreesFromRoot_takeArcs N (nI r) (nI n) (nI ord.length) O T V F A0 H0 C0) (fun res => res.1 = nI n ∧ res.2.1 = nI r ∧ res.2.2.1 = nI (e0 r fr to w ord).length ∧ EA (e0 r fr to w ord) res.2.2.2.1 res.2.2.2.2.1 res.2.2.2.2.2) := by
  unfold f_TreesFromRoot_takeArcs
  refine Ok_lo7 (fun d v2 c1 c2 c3 A H C => ∃ i, i + d = ord.length ∧ v2 = nI i ∧ c1 = nI n ∧ c2 = nI r ∧ c3 = nI (e0 r fr to w (ord.take i)).length ∧ EA (e0 r fr to w (ord.take i)) A H C) ?_ ord.length N _ _ _ _ _ _ _ (by omega) ⟨0, by omega, rfl, rfl, rfl, rfl, fun i hi => absurd hi (Nat.not_lt_zero i)⟩
  rintro kk d v2 c1 c2 c3 A H C ⟨i, hd, rfl, rfl, rfl, rfl, hEA⟩ hkk
  by_cases hi : i = ord.length
  · have hle : nI ord.length ≤ nI i := nI_le (by omega) (by omega)
    simp only [g_TreesFromRoot_takeArcs_23, if_pos hle]
    rw [hi, List.take_length] at hEA ⊢
    exact Ok_some ⟨rfl, rfl, rfl, hEA⟩
  · have hil : i < ord.length := by omega
    have hle : ¬ nI ord.length ≤ nI i := nI_ge hil (by omega)
    have hmem := getD_mem hil
    have hOi := hO i hil
    have hno := e0_no (r := r) (fr := fr) (to := to) (w := w) hil
    have hyes := e0_yes (r := r) (fr := fr) (to := to) (w := w) hil
    generalize ha : ord.getD i 0 = a at *
    obtain ⟨a1, a2, a3, a4, a5⟩ := hA a hmem
    obtain ⟨w1, w2⟩ := hV a hmem
    have hl1 := e0_len (r := r) (fr := fr) (to := to) (w := w) (ord.take i)
    have hl2 : (ord.take i).length ≤ i := by rw [List.length_take]; omega
    simp only [g_TreesFromRoot_takeArcs_23, if_neg hle, gd_nI (show i < 30 by omega) (by decide), nI_clamp (show i < 2 ^ 31 by omega), bn, hOi, gd_nI (show a < 30 by omega) (by decide), nI_clamp (show a < 2 ^ 31 by omega), a2, a3, w1, nI_1]
    by_cases ht : to a = r
    · have hc : nI (to a) = nI r := by rw [ht]
      rw [if_pos hc]
      exact hkk (d - 1) _ _ _ _ _ _ _ (by omega) ⟨i + 1, by omega, rfl, rfl, rfl, by rw [hno ht], by rw [hno ht]; exact hEA⟩
    · have hc : ¬ nI (to a) = nI r := fun e => ht ((nI_eq (by omega) (by omega)).mp e)
      rw [if_neg hc]
      have hfl := fld_le r (by omega) (to a) (by omega)
      simp only [gd_nI (show (e0 r fr to w (ord.take i)).length < 30 by omega) (by decide), nI_clamp (show (e0 r fr to w (ord.take i)).length < 2 ^ 31 by omega), fieldOf_v r (by omega) (to a) (by omega) ht, bk1, sh_w (w a) (by omega), sh_arc a (by omega) (fld r (to a)) (by omega), cN_add]
      refine hkk (d - 1) _ _ _ _ _ _ _ (by omega) ⟨i + 1, by omega, rfl, rfl, rfl, ?_, ?_⟩
      · rw [hyes ht, List.length_append]
        rfl
      · rw [hyes ht]
        exact EA_app (e := (fr a, to a, ec r to w a)) hEA
def GE (n r : Nat) (E : List Ed) : Prop := ∀ e, e ∈ E → tlE e < n ∧ hdE e < n ∧ hdE e ≠ r ∧ tlE e ≠ hdE e ∧ csE e ≤ 2 ^ 55
theorem chooseArcs {N n r : Nat} {E : List Ed} {A H B0 : Nat → Int32} {C L0 : Nat → Int64} (hN : 100 ≤ N) (hn : n ≤ 10) (hr : r < n) (hlen : E.length ≤ 30) (hE : GE n r E) (hEA : EA E A H C) :
    Ok (f_TreesFromRoot_chooseArcs N (nI n) (nI E.length) (nI r) L0 C H A B0) (fun res => (res.1 = 0 ∧ ∃ v, v < n ∧ v ≠ r ∧ ∀ e, e ∈ E → hdE e ≠ v) ∨ (res.1 = 1 ∧ ∃ D b : Nat → Nat, (∀ v, v < 10 → res.2.1 v = cN (D v)) ∧ D r = 0 ∧ (∀ e, e ∈ E → D (hdE e) ≤ csE e) ∧ (∀ v, v < n → D v ≤ 2 ^ 55) ∧ ∀ v, v < n → v ≠ r → res.2.2 v = nI (b v) ∧ (b v, v, D v) ∈ E)) := by
  unfold f_TreesFromRoot_chooseArcs
  refine Ok_bk1 (fillL (1152921504606846976 : Int64) (by decide) (by omega) L0) ?_
  intro L1 hL1
  rw [gd_nI (show r < 10 by omega) (by decide), nI_clamp (show r < 2 ^ 31 by omega)]
  refine Ok_lo3 (fun d v1 L B => ∃ i, ∃ D : Nat → Nat, i + d = E.length ∧ v1 = nI i ∧ (∀ v, v < 10 → L v = cN (D v)) ∧ D r = 0 ∧ (∀ v, D v ≤ 2 ^ 60) ∧ (∀ j, j < i → D (hdE (eg E j)) ≤ csE (eg E j)) ∧ ∀ v, v < n → v ≠ r → D v = 2 ^ 60 ∨ ∃ j, j < i ∧ hdE (eg E j) = v ∧ csE (eg E j) = D v ∧ B v = nI (tlE (eg E j))) ?_ E.length N _ _ _ (by omega) ⟨0, fun v => if v = r then 0 else 2 ^ 60, by omega, rfl, fun v hv => ?_, by simp, fun v => by by_cases e : v = r <;> simp [e], fun j hj => absurd hj (Nat.not_lt_zero j), fun v hv hvr => Or.inl (by simp [hvr])⟩
  · rintro kk d v1 L B ⟨i, D, hd, rfl, hL, hDr, hD60, hDm, hDa⟩ hkk
    by_cases hi : i = E.length
    · have hle : nI E.length ≤ nI i := nI_le (by omega) (by omega)
      simp only [g_TreesFromRoot_chooseArcs_22, if_pos hle]
      refine Ok_lo4 (fun d v1 v2 L' B' => ∃ j, ∃ ok : Bool, j + d = n ∧ v1 = b2 ok ∧ v2 = nI j ∧ L' = L ∧ B' = B ∧ (ok = true → ∀ v, v < j → D v < 2 ^ 60) ∧ (ok = false → ∃ v, v < n ∧ ¬ D v < 2 ^ 60)) ?_ n N _ _ _ _ (by omega) ⟨0, true, by omega, rfl, rfl, rfl, rfl, fun _ v hv => absurd hv (Nat.not_lt_zero v), fun h => by cases h⟩
      rintro kk2 d2 v1 v2 L' B' ⟨j, ok, hd2, rfl, rfl, rfl, rfl, hk1, hk2⟩ hkk2
      by_cases hj : j = n
      · have hle2 : nI n ≤ nI j := nI_le (by omega) (by omega)
        simp only [g_TreesFromRoot_chooseArcs_95, if_pos hle2, gd_of (b2_zb ok)]
        refine Ok_some ?_
        cases ok with
        | false =>
          obtain ⟨v, v1, v2⟩ := hk2 rfl
          have hvr : v ≠ r := fun e => by rw [e, hDr] at v2; exact v2 (by omega)
          refine Or.inl ⟨rfl, v, v1, hvr, fun e he hev => ?_⟩
          obtain ⟨x, x1, x2⟩ := mem_eg he
          have h1 := hDm x (by omega)
          rw [x2, hev] at h1
          have h2 := (hE e he).2.2.2.2
          omega
        | true =>
          have hfin := hk1 rfl
          have hex : ∀ v, ∃ t, (v < n ∧ v ≠ r) → B' v = nI t ∧ (t, v, D v) ∈ E := by
            intro v
            by_cases hv : v < n ∧ v ≠ r
            · rcases hDa v hv.1 hv.2 with h | ⟨x, x1, x2, x3, x4⟩
              · have := hfin v (by omega)
                omega
              · refine ⟨tlE (eg E x), fun _ => ⟨x4, ?_⟩⟩
                have hm := eg_mem (E := E) (i := x) (by omega)
                rw [← x2, ← x3] at *
                exact hm
            · exact ⟨0, fun h => absurd h hv⟩
          refine Or.inr ⟨rfl, D, fun v => Classical.choose (hex v), hL, hDr, fun e he => ?_, fun v hv => ?_, fun v hv hvr => Classical.choose_spec (hex v) ⟨hv, hvr⟩⟩
          · obtain ⟨x, x1, x2⟩ := mem_eg he
            have h1 := hDm x (by omega)
            rw [x2] at h1
            exact h1
          · by_cases hvr : v = r
            · rw [hvr, hDr]; omega
            · have h1 := (Classical.choose_spec (hex v) ⟨hv, hvr⟩).2
              exact (hE _ h1).2.2.2.2
      · have hle2 : ¬ nI n ≤ nI j := nI_ge (by omega) (by omega)
        have hLj := hL j (by omega)
        have hDj := hD60 j
        cases ok with
        | false =>
          have hz : b2 false = 0 := rfl
          simp only [g_TreesFromRoot_chooseArcs_95, if_neg hle2, hz, if_pos, bn, nI_1]
          exact hkk2 (d2 - 1) _ _ _ _ (by omega) ⟨j + 1, false, by omega, rfl, rfl, rfl, rfl, (fun h => by cases h), fun _ => hk2 rfl⟩
        | true =>
          have hz : ¬ b2 true = 0 := by decide
          have hcmp : (0 ≤ lg_cmp (cN (D j)) (1152921504606846976 : Int64)) ↔ ¬ D j < 2 ^ 60 := by
            rw [lg_cmp_ge, cN_60, cN_le (by omega) (by omega)]
            omega
          simp only [g_TreesFromRoot_chooseArcs_95, if_neg hle2, if_neg hz, gd_nI (show j < 10 by omega) (by decide), nI_clamp (show j < 2 ^ 31 by omega), hLj, bn, nI_1]
          by_cases hc : D j < 2 ^ 60
          · rw [if_neg (fun h => (hcmp.mp h) hc)]
            refine hkk2 (d2 - 1) _ _ _ _ (by omega) ⟨j + 1, true, by omega, rfl, rfl, rfl, rfl, fun _ v hv => ?_, (fun h => by cases h)⟩
            by_cases e : v = j
            · rw [e]; exact hc
            · exact hk1 rfl v (by omega)
          · rw [if_pos (hcmp.mpr hc)]
            exact hkk2 (d2 - 1) _ _ _ _ (by omega) ⟨j + 1, false, by omega, rfl, rfl, rfl, rfl, (fun h => by cases h), fun _ => ⟨j, by omega, hc⟩⟩
    · have hil : i < E.length := by omega
      have hle : ¬ nI E.length ≤ nI i := nI_ge hil (by omega)
      obtain ⟨q1, q2, q3⟩ := hEA i hil
      obtain ⟨b1, b2', b3, b4, b5⟩ := hE _ (eg_mem hil)
      generalize he : eg E i = e at *
      have hLh := hL (hdE e) (by omega)
      have hDh := hD60 (hdE e)
      have hcmp : (0 ≤ lg_cmp (cN (csE e)) (cN (D (hdE e)))) ↔ D (hdE e) ≤ csE e := by
        rw [lg_cmp_ge, cN_le (by omega) (by omega)]
      simp only [g_TreesFromRoot_chooseArcs_22, if_neg hle, gd_nI (show i < 30 by omega) (by decide), nI_clamp (show i < 2 ^ 31 by omega), q1, q2, q3, gd_nI (show hdE e < 10 by omega) (by decide), nI_clamp (show hdE e < 2 ^ 31 by omega), hLh, bn, nI_1]
      by_cases hc : D (hdE e) ≤ csE e
      · rw [if_pos (hcmp.mpr hc)]
        refine hkk (d - 1) _ _ _ (by omega) ⟨i + 1, D, by omega, rfl, hL, hDr, hD60, fun j hj => ?_, fun v hv hvr => ?_⟩
        · by_cases ej : j = i
          · subst ej; rw [he]; exact hc
          · exact hDm j (by omega)
        · rcases hDa v hv hvr with h | ⟨j, j1, j2⟩
          · exact Or.inl h
          · exact Or.inr ⟨j, by omega, j2⟩
      · rw [if_neg (fun h => hc (hcmp.mp h))]
        refine hkk (d - 1) _ _ _ (by omega) ⟨i + 1, fun v => if v = hdE e then csE e else D v, by omega, rfl, fun v hv => ?_, ?_, fun v => ?_, fun j hj => ?_, fun v hv hvr => ?_⟩
        · by_cases ev : v = hdE e
          · subst ev; rw [pk_uLs]; simp
          · rw [pk_uLn ev]; simp only [if_neg ev]; exact hL v hv
        · have : ¬ r = hdE e := fun g => b3 g.symm
          simp only [if_neg this]; exact hDr
        · by_cases ev : v = hdE e
          · simp only [if_pos ev]; omega
          · simp only [if_neg ev]; exact hD60 v
        · by_cases ej : j = i
          · subst ej; rw [he]; simp
          · have := hDm j (by omega)
            by_cases ev : hdE (eg E j) = hdE e
            · simp only [if_pos ev]
              rw [ev] at this
              omega
            · simp only [if_neg ev]; exact this
        · by_cases ev : v = hdE e
          · subst ev
            refine Or.inr ⟨i, by omega, by rw [he], by rw [he]; simp, by rw [he, upd_self]⟩
          · simp only [if_neg ev, upd_ne _ _ ev]
            rcases hDa v hv hvr with h | ⟨j, j1, j2⟩
            · exact Or.inl h
            · exact Or.inr ⟨j, by omega, j2⟩
  · by_cases e : v = r
    · subst e; rw [pk_uLs]; simp [cN_0]
    · rw [pk_uLn e, hL1 v hv, cN_60]; simp [e]
/-! making one node of a ring -/
def non (gr : Nat → Option Nat) : Nat → Bool := fun v => decide (gr v = none)
def gf (gr : Nat → Option Nat) (q : Nat) (v : Nat) : Nat := match gr v with
  | some c => c
  | none => q + cw (non gr) v
theorem cw_nbs (p : Nat → Bool) : ∀ n, cw p n = nbs p n
  | 0 => rfl
  | n + 1 => by unfold cw nbs; rw [cw_nbs p n]
theorem gf_some {gr : Nat → Option Nat} {q v c : Nat} (h : gr v = some c) : gf gr q v = c := by simp [gf, h]
theorem gf_none {gr : Nat → Option Nat} {q v : Nat} (h : gr v = none) : gf gr q v = q + cw (non gr) v := by simp [gf, h]
theorem gf_lt {b : Nat → Nat} {n r q : Nat} {gr : Nat → Option Nat} (h : RG b n r gr q) {v : Nat} (hv : v < n) : gf gr q v < q + cw (non gr) n := by
  cases hg : gr v with
  | some c =>
    rw [gf_some hg]
    have := h.2.1 v c hv hg
    omega
  | none =>
    rw [gf_none hg]
    have := cw_lt (rp := non gr) (u := v) (v := n) (by simp [non, hg]) hv
    omega
theorem gf_on {b : Nat → Nat} {n r q : Nat} {gr : Nat → Option Nat} (h : RG b n r gr q) {c : Nat} (hc : c < q + cw (non gr) n) : ∃ v, v < n ∧ gf gr q v = c := by
  by_cases hq : c < q
  · obtain ⟨v, v1, v2⟩ := h.2.2.2.1 c hq
    exact ⟨v, v1, gf_some v2⟩
  · obtain ⟨v, v1, v2, v3⟩ := cw_ex (rp := non gr) (i := c - q) (n := n) (by omega)
    have hg : gr v = none := of_decide_eq_true v2
    exact ⟨v, v1, by rw [gf_none hg]; omega⟩
theorem gf_same {b : Nat → Nat} {n r q : Nat} {gr : Nat → Option Nat} (h : RG b n r gr q) {u v : Nat} (hu : u < n) (hv : v < n) (e : gf gr q u = gf gr q v) : u = v ∨ ∃ l, itb b l v = u := by
  cases hgu : gr u with
  | some c =>
    rw [gf_some hgu] at e
    have h1 := h.2.1 u c hu hgu
    cases hgv : gr v with
    | some c' =>
      rw [gf_some hgv] at e
      subst e
      exact Or.inr (h.2.2.1 u v c hu hv hgu hgv)
    | none => rw [gf_none hgv] at e; omega
  | none =>
    rw [gf_none hgu] at e
    cases hgv : gr v with
    | some c' =>
      rw [gf_some hgv] at e
      have h1 := h.2.1 v c' hv hgv
      omega
    | none =>
      rw [gf_none hgv] at e
      exact Or.inl ((cw_inj (rp := non gr) (by simp [non, hgu]) (by simp [non, hgv])).mp (by omega))
theorem gf_root {b : Nat → Nat} {n r q : Nat} {gr : Nat → Option Nat} (h : RG b n r gr q) {v : Nat} (hv : v < n) (e : gf gr q v = gf gr q r) : v = r := by
  rw [gf_none h.1] at e
  cases hgv : gr v with
  | some c' =>
    rw [gf_some hgv] at e
    have h1 := h.2.1 v c' hv hgv
    omega
  | none =>
    rw [gf_none hgv] at e
    exact (cw_inj (rp := non gr) (by simp [non, hgv]) (by simp [non, h.1])).mp (by omega)
def e1 (D g : Nat → Nat) (E : List Ed) : List Ed := (E.map (red D)).filterMap (con g)
theorem e1_len (D g : Nat → Nat) (E : List Ed) : (e1 D g E).length ≤ E.length := by
  unfold e1
  have := List.length_filterMap_le (con g) (E.map (red D))
  rw [List.length_map] at this
  exact this
theorem e1_app (D g : Nat → Nat) (E : List Ed) (e : Ed) : e1 D g (E ++ [e]) = e1 D g E ++ (if g e.1 = g e.2.1 then [] else [(g e.1, g e.2.1, e.2.2 - D e.2.1)]) := by
  unfold e1
  rw [List.map_append, List.filterMap_append]
  congr 1
  by_cases h : g e.1 = g e.2.1
  · rw [if_pos h]
    simp [red, con, h]
  · rw [if_neg h]
    simp [red, con, h]
theorem e1_mem {D g : Nat → Nat} {E : List Ed} {e' : Ed} (h : e' ∈ e1 D g E) : ∃ e, e ∈ E ∧ g e.1 ≠ g e.2.1 ∧ e' = (g e.1, g e.2.1, e.2.2 - D e.2.1) := by
  obtain ⟨f, f1, f2⟩ := List.mem_filterMap.mp h
  obtain ⟨e, x1, x2⟩ := List.mem_map.mp f1
  obtain ⟨c1, c2⟩ := con_s f2
  subst x2
  exact ⟨e, x1, c1, c2⟩
theorem contractM {N n r q : Nat} {b D : Nat → Nat} {gr : Nat → Option Nat} {E : List Ed} {A H G : Nat → Int32} {C L : Nat → Int64} (hN : 100 ≤ N) (hn : n ≤ 10) (hr : r < n) (hlen : E.length ≤ 30) (hE : GE n r E) (hEA : EA E A H C) (hG : ∀ v, v < 10 → G v = enc (gr v)) (hRG : RG b n r gr q) (hL : ∀ v, v < 10 → L v = cN (D v)) (hD : ∀ e, e ∈ E → D (hdE e) ≤ csE e) :
    Ok (f_TreesFromRoot_contract N (nI q) (nI n) (nI E.length) (nI r) G A H C L) (fun res => EA (e1 D (gf gr q) E) res.2.2.1 res.2.2.2.1 res.2.1 ∧ res.2.2.2.2.1 = nI (e1 D (gf gr q) E).length ∧ res.2.2.2.2.2.1 = nI (gf gr q r) ∧ res.2.2.2.2.2.2 = nI (q + cw (non gr) n)) := by
  unfold f_TreesFromRoot_contract
  have hqn : 2 * q ≤ n := by have := hRG.2.2.2.2; omega
  refine Ok_lo9 (fun d v2 v3 G1 C1 A1 H1 ar rt nd => ∃ i, i + d = n ∧ v2 = nI (q + cw (non gr) i) ∧ v3 = nI i ∧ (∀ v, v < n → G1 v = if v < i then nI (gf gr q v) else enc (gr v)) ∧ C1 = C ∧ A1 = A ∧ H1 = H ∧ ar = nI E.length ∧ rt = nI r ∧ nd = nI n) ?_ n N _ _ _ _ _ _ _ _ _ (by omega) ⟨0, by omega, rfl, rfl, fun v hv => hG v (by omega), rfl, rfl, rfl, rfl, rfl, rfl⟩
  rintro kk d v2 v3 G1 C1 A1 H1 ar rt nd ⟨i, hd, rfl, rfl, hG1, rfl, rfl, rfl, rfl, rfl, rfl⟩ hkk
  have hcwi := cw_le (non gr) i
  by_cases hi : i = n
  · subst hi
    have hle : nI i ≤ nI i := nI_le (Nat.le_refl _) (by omega)
    simp only [g_TreesFromRoot_contract_4, if_pos hle]
    have hGf : ∀ v, v < i → G1 v = nI (gf gr q v) := fun v hv => by rw [hG1 v hv, if_pos hv]
    refine Ok_lo10 (fun d v2 v3 v4 G2 C2 A2 H2 ar rt nd => ∃ j, j + d = E.length ∧ v2 = nI (q + cw (non gr) i) ∧ v3 = nI (e1 D (gf gr q) (E.take j)).length ∧ v4 = nI j ∧ G2 = G1 ∧ EA (e1 D (gf gr q) (E.take j)) A2 H2 C2 ∧ (∀ x, j ≤ x → x < E.length → A2 x = A1 x ∧ H2 x = H1 x ∧ C2 x = C1 x) ∧ ar = nI E.length ∧ rt = nI r ∧ nd = nI i) ?_ E.length N _ _ _ _ _ _ _ _ _ _ (by omega) ⟨0, by omega, rfl, rfl, rfl, rfl, fun x hx => absurd hx (Nat.not_lt_zero x), fun x _ _ => ⟨rfl, rfl, rfl⟩, rfl, rfl, rfl⟩
    rintro kk2 d2 v2 v3 v4 G2 C2 A2 H2 ar rt nd ⟨j, hd2, rfl, rfl, rfl, rfl, hEA2, hrest, rfl, rfl, rfl⟩ hkk2
    by_cases hj : j = E.length
    · have hle2 : nI E.length ≤ nI j := nI_le (by omega) (by omega)
      simp only [g_TreesFromRoot_contract_42, if_pos hle2, gd_nI (show r < 10 by omega) (by decide), nI_clamp (show r < 2 ^ 31 by omega), bn, hGf r hr]
      rw [hj, List.take_length] at hEA2 ⊢
      exact Ok_some ⟨hEA2, rfl, rfl, rfl⟩
    · have hjl : j < E.length := by omega
      have hle2 : ¬ nI E.length ≤ nI j := nI_ge hjl (by omega)
      obtain ⟨q1, q2, q3⟩ := hEA j hjl
      obtain ⟨x1, x2, x3⟩ := hrest j (Nat.le_refl _) hjl
      obtain ⟨b1, b2', b3, b4, b5⟩ := hE _ (eg_mem hjl)
      have hDe := hD _ (eg_mem hjl)
      have htk := takeE hjl
      have hkl := e1_len D (gf gr q) (E.take j)
      have hkl2 : (E.take j).length = j := by rw [List.length_take]; omega
      generalize he : eg E j = e at *
      have ht1 := hGf (tlE e) b1
      have ht2 := hGf (hdE e) b2'
      have hl1 := gf_lt hRG b1
      have hl2 := gf_lt hRG b2'
      have happ := e1_app D (gf gr q) (E.take j) e
      rw [← htk] at happ
      have hLh := hL (hdE e) (by omega)
      simp only [g_TreesFromRoot_contract_42, if_neg hle2, gd_nI (show j < 30 by omega) (by decide), nI_clamp (show j < 2 ^ 31 by omega), x1, x2, x3, q1, q2, q3, gd_nI (show tlE e < 10 by omega) (by decide), gd_nI (show hdE e < 10 by omega) (by decide), nI_clamp (show tlE e < 2 ^ 31 by omega), nI_clamp (show hdE e < 2 ^ 31 by omega), bn, ht1, ht2, hLh, nI_1]
      by_cases hs : gf gr q e.1 = gf gr q e.2.1
      · have hc : nI (gf gr q (tlE e)) = nI (gf gr q (hdE e)) := by
          show nI (gf gr q e.1) = nI (gf gr q e.2.1)
          rw [hs]
        rw [if_pos hc]
        rw [if_pos hs, List.append_nil] at happ
        exact hkk2 (d2 - 1) _ _ _ _ _ _ _ _ _ _ (by omega) ⟨j + 1, by omega, rfl, by rw [happ], rfl, rfl, by rw [happ]; exact hEA2, fun x h1 h2 => hrest x (by omega) h2, rfl, rfl, rfl⟩
      · have hc : ¬ nI (gf gr q (tlE e)) = nI (gf gr q (hdE e)) := fun g => hs ((nI_eq (a := gf gr q (tlE e)) (b := gf gr q (hdE e)) (by omega) (by omega)).mp g)
        rw [if_neg hc]
        rw [if_neg hs] at happ
        simp only [gd_nI (show (e1 D (gf gr q) (E.take j)).length < 30 by omega) (by decide), nI_clamp (show (e1 D (gf gr q) (E.take j)).length < 2 ^ 31 by omega), cN_sub hDe]
        refine hkk2 (d2 - 1) _ _ _ _ _ _ _ _ _ _ (by omega) ⟨j + 1, by omega, rfl, ?_, rfl, rfl, ?_, fun x h1 h2 => ?_, rfl, rfl, rfl⟩
        · rw [happ, List.length_append]; rfl
        · rw [happ]
          exact EA_app (e := (gf gr q e.1, gf gr q e.2.1, e.2.2 - D e.2.1)) hEA2
        · rw [upd_ne _ _ (by omega), upd_ne _ _ (by omega), pk_uLn (by omega)]
          exact hrest x (by omega) h2
  · have hin : i < n := by omega
    have hle : ¬ nI n ≤ nI i := nI_ge hin (by omega)
    have hGi := hG1 i hin
    rw [if_neg (Nat.lt_irrefl i)] at hGi
    have hcs : cw (non gr) (i + 1) = cw (non gr) i + (if non gr i = true then 1 else 0) := rfl
    simp only [g_TreesFromRoot_contract_4, if_neg hle, gd_nI (show i < 10 by omega) (by decide), nI_clamp (show i < 2 ^ 31 by omega), hGi, bn, nI_1]
    cases hg : gr i with
    | some c =>
      have hcq := hRG.2.1 i c hin hg
      have h2 : (0 : Int32) ≤ enc (some c) := nI_pos' (n := c) (by omega)
      rw [if_pos h2]
      have hno : non gr i = false := by simp [non, hg]
      refine hkk (d - 1) _ _ _ _ _ _ _ _ _ (by omega) ⟨i + 1, by omega, by rw [hcs, hno]; rfl, rfl, fun v hv => ?_, rfl, rfl, rfl, rfl, rfl, rfl⟩
      by_cases e : v = i
      · subst e
        rw [if_pos (by omega), gf_some hg, hGi, hg]
        rfl
      · rw [hG1 v hv]
        have e2 : (v < i + 1) = (v < i) := by rw [eq_iff_iff]; omega
        simp only [e2]
    | none =>
      have h2 : ¬ (0 : Int32) ≤ enc none := by decide
      rw [if_neg h2]
      have hno : non gr i = true := by simp [non, hg]
      refine hkk (d - 1) _ _ _ _ _ _ _ _ _ (by omega) ⟨i + 1, by omega, by rw [hcs, hno]; rfl, rfl, fun v hv => ?_, rfl, rfl, rfl, rfl, rfl, rfl⟩
      by_cases e : v = i
      · subst e
        rw [if_pos (by omega), gf_none hg, upd_self]
      · rw [upd_ne _ _ e, hG1 v hv]
        have e2 : (v < i + 1) = (v < i) := by rw [eq_iff_iff]; omega
        simp only [e2]
