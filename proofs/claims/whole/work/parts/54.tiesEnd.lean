/-! ties: both -/
theorem srt_eq : ∀ (l1 l2 : List Nat), l1.Pairwise (· < ·) → l2.Pairwise (· < ·) → (∀ a, a ∈ l1 ↔ a ∈ l2) → l1 = l2
  | [], [], _, _, _ => rfl
  | [], b :: l2, _, _, h => by have := (h b).mpr List.mem_cons_self; cases this
  | a :: l1, [], _, _, h => by have := (h a).mp List.mem_cons_self; cases this
  | a :: l1, b :: l2, h1, h2, h => by
    rw [List.pairwise_cons] at h1 h2
    have e : a = b := by
      rcases List.mem_cons.mp ((h a).mp List.mem_cons_self) with q | q
      · exact q
      · rcases List.mem_cons.mp ((h b).mpr List.mem_cons_self) with q2 | q2
        · exact q2.symm
        · have := h1.1 b q2
          have := h2.1 a q
          omega
    subst e
    rw [srt_eq l1 l2 h1.2 h2.2 (fun x => by
      constructor
      · intro hx
        rcases List.mem_cons.mp ((h x).mp (List.mem_cons_of_mem _ hx)) with q | q
        · subst q; have := h1.1 x hx; omega
        · exact q
      · intro hx
        rcases List.mem_cons.mp ((h x).mpr (List.mem_cons_of_mem _ hx)) with q | q
        · subst q; have := h2.1 x hx; omega
        · exact q)]
theorem pal_pw {p : Nat → Bool} : ∀ {d i : Nat}, (pal p i d).Pairwise (· < ·)
  | 0, i => by simp [pal]
  | d + 1, i => by
    have ih := pal_pw (p := p) (d := d) (i := i + 1)
    unfold pal
    by_cases h : p i = true
    · rw [if_pos h, List.pairwise_cons]
      refine ⟨fun b hb => ?_, ih⟩
      have := pal_mem.mp hb
      omega
    · rw [if_neg h]; exact ih
theorem seg_pw {w : Nat → Nat} {ord : List Nat} {st en : Nat} (hs : ord.Pairwise (ah w)) : (seg ord st en).Pairwise (ah w) := by
  unfold seg
  exact List.Pairwise.sublist (List.Sublist.trans (List.take_sublist _ _) (List.drop_sublist _ _)) hs
theorem run_ex {p : Nat → Prop} (m st : Nat) (h : st < m) : ∃ en, st < en ∧ en ≤ m ∧ (∀ i, st < i → i < en → p i) ∧ (en = m ∨ ¬ p en) := by
  generalize hd : m - st - 1 = d
  induction d generalizing st with
  | zero => exact ⟨st + 1, by omega, by omega, fun i h1 h2 => by omega, Or.inl (by omega)⟩
  | succ d ih =>
    by_cases hp : p (st + 1)
    · obtain ⟨en, q1, q2, q3, q4⟩ := ih (st + 1) (by omega) (by omega)
      refine ⟨en, by omega, q2, fun i h1 h2 => ?_, q4⟩
      by_cases e : i = st + 1
      · rw [e]; exact hp
      · exact q3 i (by omega) h2
    · exact ⟨st + 1, by omega, by omega, fun i h1 h2 => by omega, Or.inr hp⟩
theorem tw_run {n : Nat} {fr to w : Nat → Nat} {ord : List Nat} {st en : Nat} {acc : Int64} (hen : en ≤ ord.length) (h : ∀ i, st < i → i < en → w (ord.getD i 0) = w (ord.getD st 0)) : ∀ (c e : Nat), st < e → e + c = en → tw n fr to w ord (ord.length + 1 - e) st e acc = tw n fr to w ord (ord.length + 1 - en) st en acc
  | 0, e, h1, h2 => by
    have : e = en := by omega
    rw [this]
  | c + 1, e, h1, h2 => by
    have ih := tw_run hen h c (e + 1) (by omega) (by omega) (n := n) (fr := fr) (to := to) (acc := acc)
    have ed : ord.length + 1 - e = (ord.length + 1 - (e + 1)) + 1 := by omega
    rw [ed]
    simp only [tw]
    rw [if_neg (fun z => by rcases z with z | z; omega; exact z (h e h1 (by omega)))]
    exact ih
theorem tw_step {n : Nat} {fr to w : Nat → Nat} {ord : List Nat} {st en : Nat} {acc : Int64} (h1 : st < en) (hen : en ≤ ord.length) (h : ∀ i, st < i → i < en → w (ord.getD i 0) = w (ord.getD st 0)) (h2 : en = ord.length ∨ ¬ w (ord.getD en 0) = w (ord.getD st 0)) : tw n fr to w ord (ord.length - st) st (st + 1) acc = tw n fr to w ord (ord.length - en) en (en + 1) (acc * chv n fr to (kr fr to (ord.take st) (fun v => v)) (seg ord st en)) := by
  have a := tw_run (n := n) (fr := fr) (to := to) (acc := acc) hen h (en - (st + 1)) (st + 1) (by omega) (by omega)
  have e1 : ord.length + 1 - (st + 1) = ord.length - st := by omega
  have e2 : ord.length + 1 - en = (ord.length - en) + 1 := by omega
  rw [e1, e2] at a
  rw [a]
  simp only [tw, if_pos h2]
def gtw (c : Option Nat) (x : Nat) : Prop := match c with
  | none => True
  | some W => W < x
theorem gtw_le {c : Option Nat} {x : Nat} (hc : ∀ W, c = some W → W ≤ 1000) (hx : x ≤ 1000) : nI x ≤ enc c ↔ ¬ gtw c x := by
  cases c with
  | none =>
    have h : ¬ nI x ≤ (-1 : Int32) := by
      rw [Int32.le_iff_toInt_le, nI_toInt (by omega)]
      have e : (-1 : Int32).toInt = -1 := by decide
      rw [e]; omega
    constructor
    · intro q; exact absurd q h
    · intro q; exact absurd trivial q
  | some W =>
    have := hc W rfl
    have h : nI x ≤ nI W ↔ x ≤ W := nI_leI (by omega) (by omega)
    show nI x ≤ nI W ↔ ¬ W < x
    rw [h]; omega
def nxs (pr : Nat → Bool) (w : Nat → Nat) (c : Option Nat) (i : Nat) : Option Nat → Prop
  | none => ∀ a, a < i → pr a = true → ¬ gtw c (w a)
  | some x => (∃ a, a < i ∧ pr a = true ∧ w a = x ∧ gtw c x) ∧ ∀ a, a < i → pr a = true → gtw c (w a) → x ≤ w a
theorem nxs_skip {pr : Nat → Bool} {w : Nat → Nat} {c : Option Nat} {i : Nat} {o : Option Nat} (h : nxs pr w c i o) (hn : ∀ x, pr i = true → gtw c (w i) → o = some x → x ≤ w i) (hn2 : o = none → pr i = true → ¬ gtw c (w i)) : nxs pr w c (i + 1) o := by
  cases o with
  | none =>
    intro a ha hp hg
    by_cases e : a = i
    · subst e; exact hn2 rfl hp hg
    · exact h a (by omega) hp hg
  | some x =>
    obtain ⟨⟨a, q1, q2⟩, q3⟩ := h
    refine ⟨⟨a, by omega, q2⟩, fun b hb hp hg => ?_⟩
    by_cases e : b = i
    · subst e; exact hn x hp hg rfl
    · exact q3 b (by omega) hp hg
theorem nxs_new {pr : Nat → Bool} {w : Nat → Nat} {c : Option Nat} {i : Nat} {o : Option Nat} (h : nxs pr w c i o) (hp : pr i = true) (hg : gtw c (w i)) (hn : ∀ x, o = some x → w i ≤ x) : nxs pr w c (i + 1) (some (w i)) := by
  refine ⟨⟨i, by omega, hp, rfl, hg⟩, fun b hb hpb hgb => ?_⟩
  by_cases e : b = i
  · subst e; exact Nat.le_refl _
  · cases o with
    | none => exact absurd hgb (h b (by omega) hpb)
    | some x =>
      have := h.2 b (by omega) hpb hgb
      have := hn x rfl
      omega
theorem tiesM {N n k : Nat} {fr to w : Nat → Nat} {pr : Nat → Bool} {ord : List Nat} {mn ma ml : Int32} {F T V H P lw rw_ : Nat → Int32} {mx : Nat → Int64} (hN : 200 ≤ N) (hG : GR n k fr to w pr ord) (hM : MR mn ma ml F T V H n k fr to w pr ord) :
    Ok (f_Mo_ties N mn ma H V P F T lw rw_ mx) (fun r => r.1 = tw n fr to w ord ord.length 0 1 1) := by
  have hn := hG.1
  have hk := hG.2.1
  have hlen : ord.length ≤ 30 := by have := hG.2.2.1; omega
  have hA : ∀ a, a < k → F a = nI (fr a) ∧ T a = nI (to a) ∧ fr a < n ∧ to a < n := fun a ha => ⟨(hM.2.2.2 a ha).1, (hM.2.2.2 a ha).2.1, (hG.2.2.2.1 a ha).1, (hG.2.2.2.1 a ha).2.1⟩
  have hV : ∀ a, a < k → V a = nI (w a) ∧ w a ≤ 1000 := fun a ha => ⟨(hM.2.2.2 a ha).2.2.1, (hG.2.2.2.1 a ha).2.2.2⟩
  have hH : ∀ a, a < k → H a = (if pr a = true then 1 else 0) := fun a ha => (hM.2.2.2 a ha).2.2.2
  have hsrt := hG.2.2.2.2.1
  have hmem := hG.2.2.2.2.2
  have n1 : ¬ (1 : Int32) = 0 := by decide
  have hmono : ∀ i j, i ≤ j → j < ord.length → w (ord.getD i 0) ≤ w (ord.getD j 0) := by
    intro i j h1 h2
    by_cases e : i = j
    · rw [e]; exact Nat.le_refl _
    · have := pw_get hsrt (show i < j by omega) h2
      unfold ah at this
      omega
  rw [hM.1, hM.2.1]
  refine Ok_lo7 (fun d v1 v3 v4 _ _ _ _ => (v4 = 0 ∧ v1 = tw n fr to w ord ord.length 0 1 1) ∨ (v4 = 1 ∧ ∃ (st : Nat) (c : Option Nat), v3 = enc c ∧ (∀ W, c = some W → W ≤ 1000) ∧ st ≤ ord.length ∧ st + d = ord.length + 1 ∧ (∀ i, i < ord.length → (gtw c (w (ord.getD i 0)) ↔ st ≤ i)) ∧ tw n fr to w ord ord.length 0 1 1 = tw n fr to w ord (ord.length - st) st (st + 1) v1)) ?_ (ord.length + 1) N _ _ _ _ _ _ _ (by omega) (Or.inr ⟨rfl, 0, none, rfl, (fun W h => by cases h), by omega, by omega, fun i _ => ⟨fun _ => by omega, fun _ => trivial⟩, rfl⟩)
  rintro k7 d v1 v3 v4 P1 lw1 rw1 mx1 hI hk7
  rcases hI with ⟨rfl, hv⟩ | ⟨rfl, st, c, rfl, hc, hst, hd, hcs, hv⟩
  · simp only [g_Mo_ties_7, if_pos]
    exact Ok_some hv
  · simp only [g_Mo_ties_7, if_neg n1]
    refine Ok_lo8 (fun d2 v1' v3' v5 v6 _ _ _ _ => ∃ (i : Nat) (o : Option Nat), v1' = v1 ∧ v3' = enc c ∧ v5 = enc o ∧ v6 = nI i ∧ i + d2 = k ∧ nxs pr w c i o) ?_ k N _ _ _ _ _ _ _ _ (by omega) ⟨0, none, rfl, rfl, rfl, rfl, by omega, fun a ha => absurd ha (Nat.not_lt_zero a)⟩
    rintro k18 d2 v1' v3' v5 v6 P2 lw2 rw2 mx2 ⟨i, o, rfl, rfl, rfl, rfl, hd2, hns⟩ hk18
    have ho1000 : ∀ x, o = some x → x ≤ 1000 := by
      intro x hx
      subst hx
      obtain ⟨⟨a, q1, q2, q3, q4⟩, -⟩ := hns
      rw [← q3]; exact (hV a (by omega)).2
    by_cases hi : i = k
    · subst hi
      have hle : nI i ≤ nI i := nI_le (Nat.le_refl _) (by omega)
      cases o with
      | none =>
        have nm : enc none < 0 := by decide
        simp only [g_Mo_ties_18, if_pos hle, if_pos nm, g_Mo_ties_90]
        refine hk7 0 _ _ _ _ _ _ _ (by omega) (Or.inl ⟨rfl, ?_⟩)
        have e : st = ord.length := by
          apply Classical.byContradiction
          intro hne
          have hlt : st < ord.length := by omega
          have hm := (hmem _).mp (getD_mem hlt)
          exact hns _ hm.1 hm.2 ((hcs st hlt).mpr (Nat.le_refl _))
        rw [hv, e, Nat.sub_self]
        rfl
      | some x =>
        have hx := ho1000 x rfl
        have np : ¬ enc (some x) < 0 := nI_pos (n := x) (by omega)
        obtain ⟨⟨a, q1, q2, q3, q4⟩, q5⟩ := hns
        obtain ⟨ia, ia1, ia2⟩ := mem_getD ((hmem a).mpr ⟨q1, q2⟩)
        have hsti : st ≤ ia := (hcs ia ia1).mp (by rw [ia2, q3]; exact q4)
        have hlt : st < ord.length := by omega
        have hW : w (ord.getD st 0) = x := by
          have hm := (hmem _).mp (getD_mem hlt)
          have h1 := q5 _ hm.1 hm.2 ((hcs st hlt).mpr (Nat.le_refl _))
          have h2 := hmono st ia hsti ia1
          rw [ia2, q3] at h2
          omega
        obtain ⟨en, e1, e2, e3, e4⟩ := run_ex (p := fun i => w (ord.getD i 0) = w (ord.getD st 0)) ord.length st hlt
        have hup : ∀ i, i < ord.length → (x < w (ord.getD i 0) ↔ en ≤ i) := by
          intro j hj
          constructor
          · intro hgt
            apply Classical.byContradiction
            intro hne
            by_cases e : j ≤ st
            · have := hmono j st e hlt; omega
            · have := e3 j (by omega) (by omega); omega
          · intro hge
            rcases e4 with e4 | e4
            · omega
            · have h1 := hmono st en (by omega) (by omega)
              have h2 := hmono en j hge hj
              omega
        obtain ⟨⟨r1, r2, r3, r4, r5⟩, f1, f2⟩ := tiesOf (N := N) (W := x) (P := P2) (lw := lw2) (rw_ := rw2) (mx := mx2) hN hn hk hA hV hx hH
        have f1' : f_Mo_tiesOf N (enc (some x)) (nI n) (nI i) P2 H V F T lw2 rw2 mx2 = some (r1, r2, r3, r4, r5) := f1
        simp only [g_Mo_ties_18, if_pos hle, if_neg np, g_Mo_ties_90, if_neg n1, f1', bk5, bn]
        refine hk7 (ord.length + 1 - en) _ _ _ _ _ _ _ (by omega) (Or.inr ⟨rfl, en, some x, rfl, (fun W hW2 => by rw [Option.some.injEq] at hW2; omega), e2, by omega, hup, ?_⟩)
        have f2' : r1 = chv n fr to (kr fr to (pal (fun a => pr a && decide (w a < x)) 0 i) (fun v => v)) (pal (fun a => pr a && decide (w a = x)) 0 i) := f2
        have g1 : seg ord st en = pal (fun a => pr a && decide (w a = x)) 0 i := by
          refine srt_eq _ _ ?_ pal_pw (fun b => ?_)
          · refine List.Pairwise.imp_of_mem (fun {p q} hp hq hpq => ?_) (seg_pw (st := st) (en := en) hsrt)
            obtain ⟨ip, p1, p2, p3⟩ := (seg_mem (by omega) e2).mp hp
            obtain ⟨iq, q1', q2', q3'⟩ := (seg_mem (by omega) e2).mp hq
            have wp : w p = x := by
              rw [← p3]
              by_cases e : ip = st
              · rw [e]; exact hW
              · rw [e3 ip (by omega) p2]; exact hW
            have wq : w q = x := by
              rw [← q3']
              by_cases e : iq = st
              · rw [e]; exact hW
              · rw [e3 iq (by omega) q2']; exact hW
            unfold ah at hpq
            omega
          · rw [seg_mem (by omega) e2, pal_mem]
            constructor
            · rintro ⟨j, j1, j2, j3⟩
              have hb := (hmem b).mp (by rw [← j3]; exact getD_mem (by omega))
              have wb : w b = x := by
                rw [← j3]
                by_cases e : j = st
                · rw [e]; exact hW
                · rw [e3 j (by omega) j2]; exact hW
              exact ⟨by omega, by omega, by rw [hb.2, decide_eq_true wb]; rfl⟩
            · rintro ⟨-, b1, b2⟩
              rw [Bool.and_eq_true, decide_eq_true_iff] at b2
              obtain ⟨j, j1, j2⟩ := mem_getD ((hmem b).mpr ⟨by omega, b2.1⟩)
              have h1 : ¬ en ≤ j := fun q => by have := (hup j j1).mpr q; rw [j2] at this; omega
              have h2 : st ≤ j := by
                apply Classical.byContradiction
                intro q
                have h3 : ¬ gtw c (w (ord.getD j 0)) := fun z => q ((hcs j j1).mp z)
                have h4 : gtw c (w (ord.getD st 0)) := (hcs st hlt).mpr (Nat.le_refl _)
                rw [j2, b2.2] at h3
                rw [hW] at h4
                exact h3 h4
              exact ⟨j, h2, by omega, j2⟩
        have g2 : kr fr to (ord.take st) (fun v => v) = kr fr to (pal (fun a => pr a && decide (w a < x)) 0 i) (fun v => v) := by
          have e0 : ord.take st = seg ord 0 st := by unfold seg; rw [List.drop_zero, Nat.sub_zero]
          rw [e0]
          refine kr_perm (fun b => ?_)
          rw [seg_mem (by omega) (by omega), pal_mem]
          constructor
          · rintro ⟨j, -, j2, j3⟩
            have hb := (hmem b).mp (by rw [← j3]; exact getD_mem (by omega))
            have h3 : ¬ gtw c (w (ord.getD j 0)) := fun z => by have := (hcs j (by omega)).mp z; omega
            have h4 : gtw c (w (ord.getD st 0)) := (hcs st hlt).mpr (Nat.le_refl _)
            have h5 := hmono j st (by omega) hlt
            have wb : w b < x := by
              rw [j3] at h3 h5
              rw [hW] at h4 h5
              have : w b ≠ x := fun z => h3 (by rw [z]; exact h4)
              omega
            exact ⟨by omega, by omega, by rw [hb.2, decide_eq_true wb]; rfl⟩
          · rintro ⟨-, b1, b2⟩
            rw [Bool.and_eq_true, decide_eq_true_iff] at b2
            obtain ⟨j, j1, j2⟩ := mem_getD ((hmem b).mpr ⟨by omega, b2.1⟩)
            refine ⟨j, by omega, ?_, j2⟩
            apply Classical.byContradiction
            intro q
            have := hmono st j (by omega) j1
            rw [j2, hW] at this
            omega
        rw [f2', ← g1, ← g2, hv]
        exact tw_step e1 e2 e3 e4
    · have hik : i < k := by omega
      have hle : ¬ nI k ≤ nI i := nI_ge hik (by omega)
      obtain ⟨w1, w2⟩ := hV i hik
      have hHi := hH i hik
      have hgl := gtw_le hc w2
      by_cases hpi : pr i = true
      · rw [if_pos hpi] at hHi
        by_cases hg : gtw c (w i)
        · have hng : ¬ nI (w i) ≤ enc c := fun q => hgl.mp q hg
          cases o with
          | none =>
            have nm : enc none < 0 := by decide
            simp only [g_Mo_ties_18, if_neg hle, gd_nI (show i < 30 by omega) (by decide), nI_clamp (show i < 2 ^ 31 by omega), hHi, if_neg n1, w1, if_neg hng, if_pos nm, g_Mo_ties_65, bn, nI_1]
            exact hk18 (d2 - 1) _ _ _ _ _ _ _ _ (by omega) ⟨i + 1, some (w i), rfl, rfl, rfl, rfl, by omega, nxs_new hns hpi hg (fun x hx => by cases hx)⟩
          | some x =>
            have hx := ho1000 x rfl
            have np : ¬ enc (some x) < 0 := nI_pos (n := x) (by omega)
            have hcmp : enc (some x) ≤ nI (w i) ↔ x ≤ w i := nI_leI (a := x) (by omega) (by omega)
            by_cases hz : x ≤ w i
            · simp only [g_Mo_ties_18, if_neg hle, gd_nI (show i < 30 by omega) (by decide), nI_clamp (show i < 2 ^ 31 by omega), hHi, if_neg n1, w1, if_neg hng, if_neg np, if_pos (hcmp.mpr hz), bn, nI_1]
              exact hk18 (d2 - 1) _ _ _ _ _ _ _ _ (by omega) ⟨i + 1, some x, rfl, rfl, rfl, rfl, by omega, nxs_skip hns (fun y _ _ hy => by rw [Option.some.injEq] at hy; omega) (fun hy => by cases hy)⟩
            · simp only [g_Mo_ties_18, if_neg hle, gd_nI (show i < 30 by omega) (by decide), nI_clamp (show i < 2 ^ 31 by omega), hHi, if_neg n1, w1, if_neg hng, if_neg np, if_neg (fun q => hz (hcmp.mp q)), g_Mo_ties_65, bn, nI_1]
              exact hk18 (d2 - 1) _ _ _ _ _ _ _ _ (by omega) ⟨i + 1, some (w i), rfl, rfl, rfl, rfl, by omega, nxs_new hns hpi hg (fun y hy => by rw [Option.some.injEq] at hy; omega)⟩
        · simp only [g_Mo_ties_18, if_neg hle, gd_nI (show i < 30 by omega) (by decide), nI_clamp (show i < 2 ^ 31 by omega), hHi, if_neg n1, w1, if_pos (hgl.mpr hg), bn, nI_1]
          exact hk18 (d2 - 1) _ _ _ _ _ _ _ _ (by omega) ⟨i + 1, o, rfl, rfl, rfl, rfl, by omega, nxs_skip hns (fun _ _ q _ => absurd q hg) (fun _ _ => hg)⟩
      · rw [if_neg hpi] at hHi
        simp only [g_Mo_ties_18, if_neg hle, gd_nI (show i < 30 by omega) (by decide), nI_clamp (show i < 2 ^ 31 by omega), hHi, if_pos, bn, nI_1]
        exact hk18 (d2 - 1) _ _ _ _ _ _ _ _ (by omega) ⟨i + 1, o, rfl, rfl, rfl, rfl, by omega, nxs_skip hns (fun _ q _ _ => absurd q hpi) (fun _ q => absurd q hpi)⟩
theorem st_ties {N : Nat} (hN : 200 ≤ N) : St_ties N InvC := by
  intro t_graph_nodes t_graph_numbered t_graph_size t_graph_present t_graph_from t_graph_to t_graph_weight t_graph_order t_forests_nextWeight t_forests_nextIn t_forests_nextOut t_forests_labels_nodes t_forests_labels_groups t_forests_labels_label t_forests_treeCount_groupOf t_forests_treeCount_links t_forests_treeCount_rows t_forests_treeCount_minor t_forests_heaviest t_boundedTrees_nodes t_boundedTrees_bound t_boundedTrees_between t_boundedTrees_branches t_boundedTrees_branch t_treesFromRoot_nodes t_treesFromRoot_arcs t_treesFromRoot_root t_treesFromRoot_tail t_treesFromRoot_head t_treesFromRoot_cost t_treesFromRoot_leastInto t_treesFromRoot_before t_treesFromRoot_group t_joiningTrees_labels_nodes t_joiningTrees_labels_groups t_joiningTrees_labels_label t_nodes t_arcs t_left t_swapIn t_swapOut t_boundedSet t_joinedSet t_froms t_tos t_weights t_there t_part t_low t_row t_matrix t_own t_chosen t_degrees t_fixed t_grown t_costs t_order hI
  obtain ⟨n, k, fr, to, w, pr, ord, hG, hC, hM⟩ := hI
  obtain ⟨⟨r1, r2, r3, r4, r5, r6, r7, r8⟩, e1, e2⟩ := countLeast (N := N) (L := t_forests_labels_label) (G := t_forests_treeCount_groupOf) (K := t_forests_treeCount_links) (R := t_forests_treeCount_rows) (mn := t_forests_treeCount_minor) (by omega) hG hC
  obtain ⟨⟨q1, q2, q3, q4, q5⟩, m1, m2⟩ := tiesM (P := t_part) (lw := t_low) (rw_ := t_row) (mx := t_matrix) hN hG hM
  have e : q1 = r1 := m2.trans e2.symm
  subst e
  refine ⟨q1, r2, r3, r4, r5, r6, r7, r8, q2, q3, q4, q5, ?_, m1, ⟨n, k, fr, to, w, pr, ord, hG, hC, hM⟩⟩
  simp only [f_RT_ties, e1, bk8]
