/-! growing from a root: arcs as they lead -/
def addN (X : Nat → Bool) (v : Nat) : Nat → Bool := fun u => X u || decide (u = v)
def Gw {α : Type} (tl hd : α → Nat) : (Nat → Bool) → List α → Prop
  | _, [] => True
  | X, e :: L => X (tl e) = true ∧ X (hd e) = false ∧ Gw tl hd (addN X (hd e)) L
def grow {α : Type} (hd : α → Nat) : (Nat → Bool) → List α → Nat → Bool
  | X, [] => X
  | X, e :: L => grow hd (addN X (hd e)) L
theorem grow_mem {α : Type} {hd : α → Nat} : ∀ (L : List α) {X : Nat → Bool} {v : Nat}, grow hd X L v = true ↔ X v = true ∨ ∃ e, e ∈ L ∧ hd e = v
  | [], X, v => by simp [grow]
  | e :: L, X, v => by
    simp only [grow, grow_mem L]
    unfold addN
    simp only [Bool.or_eq_true, decide_eq_true_eq, List.mem_cons]
    constructor
    · rintro ((h | h) | ⟨f, h1, h2⟩)
      · exact Or.inl h
      · exact Or.inr ⟨e, Or.inl rfl, h.symm⟩
      · exact Or.inr ⟨f, Or.inr h1, h2⟩
    · rintro (h | ⟨f, h1 | h1, h2⟩)
      · exact Or.inl (Or.inl h)
      · exact Or.inl (Or.inr (by rw [← h2, h1]))
      · exact Or.inr ⟨f, h1, h2⟩
/-- every set of nodes that has the root, and not all, is left by an arc of the list -/
def Rch {α : Type} (tl hd : α → Nat) (n r : Nat) (R : List α) : Prop := ∀ X : Nat → Bool, X r = true → (∃ v, v < n ∧ X v = false) → ∃ e, e ∈ R ∧ X (tl e) = true ∧ X (hd e) = false
theorem nbs_full {X : Nat → Bool} {n : Nat} (h : nbs X n < n) : ∃ v, v < n ∧ X v = false := by
  apply Classical.byContradiction
  intro hn
  have : nbs X n = n := by
    have h2 : ∀ m, m ≤ n → nbs X m = m := by
      intro m
      induction m with
      | zero => intro _; rfl
      | succ m ih =>
        intro hm
        unfold nbs
        rw [ih (by omega)]
        cases hX : X m with
        | true => simp
        | false => exact absurd ⟨m, by omega, hX⟩ hn
    exact h2 n (Nat.le_refl _)
  omega
theorem grow_of {α : Type} {tl hd : α → Nat} {n r : Nat} {R : List α} (hR : Rch tl hd n r R) (hh : ∀ e, e ∈ R → hd e < n) : ∀ (d : Nat) (X : Nat → Bool), nbs X n + d = n → X r = true → ∃ L, (∀ e, e ∈ L → e ∈ R) ∧ Gw tl hd X L ∧ ∀ v, v < n → grow hd X L v = true
  | 0, X, hd0, hr => ⟨[], fun e he => by simp at he, trivial, fun v hv => nbs_all (S := X) (n := n) (by omega) v hv⟩
  | d + 1, X, hd0, hr => by
    obtain ⟨e, e1, e2, e3⟩ := hR X hr (nbs_full (by omega))
    have hlt := nbs_lt (S := X) (T := addN X (hd e)) (fun v hv => by simp [addN, hv]) (u := hd e) e3 (by simp [addN]) n (hh e e1)
    by_cases hz : nbs (addN X (hd e)) n = nbs X n + 1
    · obtain ⟨L, l1, l2, l3⟩ := grow_of hR hh d (addN X (hd e)) (by omega) (by simp [addN, hr])
      refine ⟨e :: L, fun f hf => ?_, ⟨e2, e3, l2⟩, l3⟩
      rcases List.mem_cons.mp hf with h | h
      · rw [h]; exact e1
      · exact l1 f h
    · exfalso
      have h1 := nbs_out (q := addN X (hd e)) (m := hd e) (by simp [addN]) (hh e e1)
      have h2 : nbs (fun v => addN X (hd e) v && !decide (v = hd e)) n = nbs X n := nbs_congr (fun v _ => by
        unfold addN
        by_cases g : v = hd e
        · subst g; simp [e3]
        · simp [g])
      omega
def sgl (r : Nat) : Nat → Bool := fun v => decide (v = r)
theorem nbs_sgl {n r : Nat} (h : r < n) : nbs (sgl r) n = 1 := by
  have h1 := nbs_pos (q := sgl r) (u := r) (by simp [sgl]) h
  have h2 := nbs_one (q := sgl r) (fun u v hu hv => by simp only [sgl, decide_eq_true_eq] at hu hv; omega) n
  omega
theorem Gw_Rch {α : Type} {tl hd : α → Nat} : ∀ (L : List α) {X X0 : Nat → Bool}, Gw tl hd X0 L → (∀ v, X0 v = true → X v = true) → (∃ v, grow hd X0 L v = true ∧ X v = false) → ∃ e, e ∈ L ∧ X (tl e) = true ∧ X (hd e) = false
  | [], X, X0, _, hs, ⟨v, h1, h2⟩ => by
    have := hs v h1
    rw [h2] at this; cases this
  | e :: L, X, X0, ⟨g1, g2, g3⟩, hs, ⟨v, h1, h2⟩ => by
    cases hx : X (hd e) with
    | false => exact ⟨e, List.mem_cons_self .., hs _ g1, hx⟩
    | true =>
      obtain ⟨f, f1, f2⟩ := Gw_Rch L (X := X) g3 (fun u hu => by
        unfold addN at hu
        simp only [Bool.or_eq_true, decide_eq_true_eq] at hu
        rcases hu with hu | hu
        · exact hs u hu
        · rw [hu]; exact hx) ⟨v, h1, h2⟩
      exact ⟨f, List.mem_cons_of_mem _ f1, f2⟩
theorem Gw_Rch' {α : Type} {tl hd : α → Nat} {n r : Nat} {L : List α} (h : Gw tl hd (sgl r) L) (hc : ∀ v, v < n → grow hd (sgl r) L v = true) : Rch tl hd n r L := by
  intro X hr ⟨v, hv, hx⟩
  refine Gw_Rch L h (fun u hu => ?_) ⟨v, hc v hv, hx⟩
  simp only [sgl, decide_eq_true_eq] at hu
  rw [hu]; exact hr
theorem Gw_heads {α : Type} {tl hd : α → Nat} : ∀ (L : List α) {X : Nat → Bool}, Gw tl hd X L → (L.map hd).Nodup ∧ ∀ e, e ∈ L → X (hd e) = false
  | [], X, _ => ⟨List.Pairwise.nil, fun e he => by simp at he⟩
  | e :: L, X, ⟨g1, g2, g3⟩ => by
    obtain ⟨i1, i2⟩ := Gw_heads L g3
    have hno : ∀ f, f ∈ L → hd f ≠ hd e ∧ X (hd f) = false := fun f hf => by
      have := i2 f hf
      unfold addN at this
      simp only [Bool.or_eq_false_iff, decide_eq_false_iff_not] at this
      exact ⟨this.2, this.1⟩
    refine ⟨?_, fun f hf => ?_⟩
    · rw [List.map_cons, List.nodup_cons]
      refine ⟨fun h => ?_, i1⟩
      obtain ⟨f, f1, f2⟩ := List.mem_map.mp h
      exact (hno f f1).1 f2
    · rcases List.mem_cons.mp hf with h | h
      · rw [h]; exact g2
      · exact (hno f h).2
/-- sums over lists of anything -/
def asum {α : Type} (c : α → Nat) : List α → Nat
  | [] => 0
  | a :: l => c a + asum c l
theorem asum_app {α : Type} (c : α → Nat) : ∀ l1 l2 : List α, asum c (l1 ++ l2) = asum c l1 + asum c l2
  | [], l2 => by simp [asum]
  | a :: l, l2 => by
    have := asum_app c l l2
    simp only [List.cons_append, asum, this]
    omega
theorem asum_map {α β : Type} (c : β → Nat) (f : α → β) : ∀ l : List α, asum c (l.map f) = asum (fun a => c (f a)) l
  | [] => rfl
  | a :: l => by simp only [List.map_cons, asum, asum_map c f l]
theorem asum_add {α : Type} (c d : α → Nat) : ∀ l : List α, asum (fun a => c a + d a) l = asum c l + asum d l
  | [] => rfl
  | a :: l => by
    have := asum_add c d l
    simp only [asum, this]
    omega
theorem asum_congr {α : Type} {c d : α → Nat} : ∀ l : List α, (∀ a, a ∈ l → c a = d a) → asum c l = asum d l
  | [], _ => rfl
  | a :: l, h => by
    simp only [asum]
    rw [h a (List.mem_cons_self ..), asum_congr l (fun b hb => h b (List.mem_cons_of_mem _ hb))]
theorem asum_lsum (c : Nat → Nat) : ∀ l : List Nat, asum c l = lsum c l
  | [] => rfl
  | a :: l => by simp only [asum, lsum, asum_lsum c l]
theorem asum_le {α : Type} {c : α → Nat} {B : Nat} : ∀ l : List α, (∀ a, a ∈ l → c a ≤ B) → asum c l ≤ B * l.length
  | [], _ => by simp [asum]
  | a :: l, h => by
    have h1 := h a (List.mem_cons_self ..)
    have h2 := asum_le l (fun b hb => h b (List.mem_cons_of_mem _ hb))
    simp only [asum, List.length_cons, Nat.mul_succ]
    omega
/-- a list without repeats costs no more than one that has all of it -/
theorem asum_sub {α : Type} {c : α → Nat} : ∀ (L : List α) {R : List α}, L.Nodup → (∀ e, e ∈ L → e ∈ R) → asum c L ≤ asum c R
  | [], R, _, _ => by simp [asum]
  | e :: L, R, hn, hs => by
    obtain ⟨h1, h2⟩ := List.nodup_cons.mp hn
    obtain ⟨p, q, rfl⟩ := List.append_of_mem (hs e (List.mem_cons_self ..))
    have := asum_sub L (R := p ++ q) (c := c) h2 (fun f hf => by
      have h3 := hs f (List.mem_cons_of_mem _ hf)
      have h4 : f ≠ e := fun g => h1 (g ▸ hf)
      simp only [List.mem_append, List.mem_cons] at h3 ⊢
      rcases h3 with h | h | h
      · exact Or.inl h
      · exact absurd h h4
      · exact Or.inr h)
    rw [asum_app] at this ⊢
    simp only [asum]
    omega
theorem nodup_of_map {α β : Type} {f : α → β} : ∀ {l : List α}, (l.map f).Nodup → l.Nodup
  | [], _ => List.Pairwise.nil
  | a :: l, h => by
    rw [List.map_cons, List.nodup_cons] at h
    exact List.nodup_cons.mpr ⟨fun g => h.1 (List.mem_map.mpr ⟨a, g, rfl⟩), nodup_of_map h.2⟩
theorem lift {α β : Type} {f : α → β} {P : α → Prop} : ∀ (L : List β), (∀ b, b ∈ L → ∃ a, P a ∧ f a = b) → ∃ K : List α, (∀ a, a ∈ K → P a) ∧ K.map f = L
  | [], _ => ⟨[], fun a h => by simp at h, rfl⟩
  | b :: L, h => by
    obtain ⟨K, k1, k2⟩ := lift L (fun c hc => h c (List.mem_cons_of_mem _ hc))
    obtain ⟨a, a1, a2⟩ := h b (List.mem_cons_self ..)
    refine ⟨a :: K, fun x hx => ?_, by rw [List.map_cons, a2, k2]⟩
    rcases List.mem_cons.mp hx with g | g
    · rw [g]; exact a1
    · exact k1 x g
theorem Gw_map {α β : Type} {tl hd : β → Nat} {f : α → β} : ∀ (L : List α) {X : Nat → Bool}, Gw tl hd X (L.map f) ↔ Gw (fun a => tl (f a)) (fun a => hd (f a)) X L
  | [], X => Iff.rfl
  | a :: L, X => by
    simp only [List.map_cons, Gw, Gw_map L]
theorem grow_map {α β : Type} {hd : β → Nat} {f : α → β} : ∀ (L : List α) {X : Nat → Bool}, grow hd X (L.map f) = grow (fun a => hd (f a)) X L
  | [], X => rfl
  | a :: L, X => by
    simp only [List.map_cons, grow, grow_map L]
/-- what the heads of a tree from r over n nodes sum up to -/
theorem heads_sum {α : Type} {tl hd : α → Nat} {n r : Nat} {L : List α} (D : Nat → Nat) (h : Gw tl hd (sgl r) L) (hh : ∀ e, e ∈ L → hd e < n) (hc : ∀ v, v < n → grow hd (sgl r) L v = true) : asum (fun e => D (hd e)) L = wsum D (fun v => !decide (v = r)) n := by
  obtain ⟨h1, h2⟩ := Gw_heads L h
  rw [← asum_map D hd, asum_lsum, lsum_wsum h1 (fun v hv => by
    obtain ⟨e, e1, e2⟩ := List.mem_map.mp hv
    rw [← e2]; exact hh e e1)]
  apply wsum_congr
  intro v hv
  rw [Bool.eq_iff_iff]
  simp only [decide_eq_true_eq, Bool.not_eq_true', decide_eq_false_iff_not]
  constructor
  · intro hm
    obtain ⟨e, e1, e2⟩ := List.mem_map.mp hm
    have := h2 e e1
    simp only [sgl, decide_eq_false_iff_not] at this
    rw [← e2]; exact this
  · intro hm
    rcases (grow_mem L).mp (hc v hv) with g | ⟨e, e1, e2⟩
    · simp only [sgl, decide_eq_true_eq] at g
      exact absurd g hm
    · exact List.mem_map.mpr ⟨e, e1, e2⟩
abbrev Ed := Nat × Nat × Nat
def tlE (e : Ed) : Nat := e.1
def hdE (e : Ed) : Nat := e.2.1
def csE (e : Ed) : Nat := e.2.2
/-- the arcs E hold a tree from r over n nodes that costs x at most -/
def Low (n r : Nat) (E : List Ed) (x : Nat) : Prop := ∃ R, (∀ e, e ∈ R → e ∈ E) ∧ Rch tlE hdE n r R ∧ asum csE R ≤ x
theorem Low_tree {n r : Nat} {E : List Ed} {x : Nat} (hr : r < n) (hE : ∀ e, e ∈ E → hdE e < n) (h : Low n r E x) : ∃ L, (∀ e, e ∈ L → e ∈ E) ∧ Gw tlE hdE (sgl r) L ∧ (∀ v, v < n → grow hdE (sgl r) L v = true) ∧ asum csE L ≤ x := by
  obtain ⟨R, r1, r2, r3⟩ := h
  obtain ⟨L, l1, l2, l3⟩ := grow_of r2 (fun e he => hE e (r1 e he)) (n - 1) (sgl r) (by rw [nbs_sgl hr]; omega) (by simp [sgl])
  refine ⟨L, fun e he => r1 e (l1 e he), l2, l3, ?_⟩
  have := asum_sub (c := csE) L (nodup_of_map (Gw_heads L l2).1) l1
  omega
def red (D : Nat → Nat) (e : Ed) : Ed := (e.1, e.2.1, e.2.2 - D e.2.1)
theorem red_le {n r : Nat} {E : List Ed} {D : Nat → Nat} (hr : r < n) (hE : ∀ e, e ∈ E → hdE e < n) (hD : ∀ e, e ∈ E → D (hdE e) ≤ csE e) (x : Nat) : Low n r E x ↔ ∃ y, Low n r (E.map (red D)) y ∧ y + wsum D (fun v => !decide (v = r)) n ≤ x := by
  have hsum : ∀ L : List Ed, (∀ e, e ∈ L → e ∈ E) → Gw tlE hdE (sgl r) L → (∀ v, v < n → grow hdE (sgl r) L v = true) → asum csE L = asum csE (L.map (red D)) + wsum D (fun v => !decide (v = r)) n := by
    intro L l1 l2 l3
    rw [← heads_sum D l2 (fun e he => hE e (l1 e he)) l3, asum_map, ← asum_add]
    apply asum_congr
    intro e he
    have := hD e (l1 e he)
    simp only [csE, red, hdE] at *
    omega
  constructor
  · intro h
    obtain ⟨L, l1, l2, l3, l4⟩ := Low_tree hr hE h
    have hs := hsum L l1 l2 l3
    refine ⟨asum csE (L.map (red D)), ⟨L.map (red D), fun e he => ?_, ?_, Nat.le_refl _⟩, by omega⟩
    · obtain ⟨f, f1, f2⟩ := List.mem_map.mp he
      exact List.mem_map.mpr ⟨f, l1 f f1, f2⟩
    · exact Gw_Rch' ((Gw_map L).mpr l2) (by rw [grow_map]; exact l3)
  · rintro ⟨y, h, hy⟩
    obtain ⟨L', l1, l2, l3, l4⟩ := Low_tree hr (fun e he => by
      obtain ⟨f, f1, f2⟩ := List.mem_map.mp he
      rw [← f2]; exact hE f f1) h
    obtain ⟨L, k1, k2⟩ := lift (f := red D) (P := fun e => e ∈ E) L' (fun b hb => by
      obtain ⟨f, f1, f2⟩ := List.mem_map.mp (l1 b hb)
      exact ⟨f, f1, f2⟩)
    subst k2
    have g2 : Gw tlE hdE (sgl r) L := (Gw_map (f := red D) L).mp l2
    have g3 : ∀ v, v < n → grow hdE (sgl r) L v = true := fun v hv => by
      have := l3 v hv
      rw [grow_map] at this
      exact this
    have hs := hsum L k1 g2 g3
    exact ⟨L, k1, Gw_Rch' g2 g3, by omega⟩
/-! rings -/
def itb (b : Nat → Nat) : Nat → Nat → Nat
  | 0, v => v
  | l + 1, v => itb b l (b v)
theorem itb_s (b : Nat → Nat) : ∀ (l v : Nat), itb b (l + 1) v = b (itb b l v)
  | 0, v => rfl
  | l + 1, v => by
    have := itb_s b l (b v)
    show itb b (l + 1) (b v) = b (itb b l (b v))
    exact this
theorem itb_add (b : Nat → Nat) (i : Nat) : ∀ (j v : Nat), itb b (i + j) v = itb b i (itb b j v)
  | 0, v => rfl
  | j + 1, v => itb_add b i j (b v)
theorem cross {b : Nat → Nat} {X : Nat → Bool} {n r : Nat} (hb : ∀ w, w < n → w ≠ r → b w < n) (hr : X r = true) : ∀ (l v : Nat), v < n → X v = false → X (itb b l v) = true → ∃ w, w < n ∧ w ≠ r ∧ X w = false ∧ X (b w) = true
  | 0, v, _, h1, h2 => by
    have h2 : X v = true := h2
    rw [h1] at h2; cases h2
  | l + 1, v, hv, h1, h2 => by
    have hvr : v ≠ r := fun e => by rw [e, hr] at h1; cases h1
    cases hx : X (b v) with
    | true => exact ⟨v, hv, hvr, h1, hx⟩
    | false => exact cross hb hr l (b v) (hb v hv hvr) hx h2
/-- the chosen arcs -/
def chs (b : Nat → Nat) (n r : Nat) : List Ed := ((List.range n).filter (fun w => !decide (w = r))).map (fun w => (b w, w, 0))
theorem chs_mem {b : Nat → Nat} {n r w : Nat} (h1 : w < n) (h2 : w ≠ r) : (b w, w, 0) ∈ chs b n r := by
  unfold chs
  refine List.mem_map.mpr ⟨w, List.mem_filter.mpr ⟨List.mem_range.mpr h1, by simp [h2]⟩, rfl⟩
theorem chs_sub {b : Nat → Nat} {n r : Nat} {E : List Ed} (h : ∀ w, w < n → w ≠ r → (b w, w, 0) ∈ E) : ∀ e, e ∈ chs b n r → e ∈ E := by
  intro e he
  obtain ⟨w, w1, w2⟩ := List.mem_map.mp he
  obtain ⟨w3, w4⟩ := List.mem_filter.mp w1
  rw [← w2]
  exact h w (List.mem_range.mp w3) (by simpa using w4)
theorem chs_cost (b : Nat → Nat) (n r : Nat) : asum csE (chs b n r) = 0 := by
  unfold chs
  rw [asum_map]
  have : ∀ l : List Nat, asum (fun _ => 0) l = 0 := by
    intro l
    induction l with
    | nil => rfl
    | cons a l ih => simp only [asum, ih]
  exact this _
theorem no_ring {b : Nat → Nat} {n r : Nat} {E : List Ed} (hb : ∀ w, w < n → w ≠ r → b w < n) (h : ∀ w, w < n → w ≠ r → (b w, w, 0) ∈ E) (hl : ∀ v, v < n → ∃ l, itb b l v = r) : Low n r E 0 := by
  refine ⟨chs b n r, chs_sub h, ?_, by rw [chs_cost]; omega⟩
  rintro X hr ⟨v, hv, hx⟩
  obtain ⟨l, hlv⟩ := hl v hv
  obtain ⟨w, w1, w2, w3, w4⟩ := cross hb hr l v hv hx (by rw [hlv]; exact hr)
  exact ⟨_, chs_mem w1 w2, w4, w3⟩
theorem no_arc {n r v x : Nat} {E : List Ed} (hv : v < n) (hvr : v ≠ r) (h : ∀ e, e ∈ E → hdE e ≠ v) : ¬ Low n r E x := by
  rintro ⟨R, r1, r2, -⟩
  obtain ⟨e, e1, e2, e3⟩ := r2 (fun u => !decide (u = v)) (by simp; exact fun e => hvr e.symm) ⟨v, hv, by simp⟩
  have := h e (r1 e e1)
  simp at e3
  exact this e3
def con (g : Nat → Nat) (e : Ed) : Option Ed := if g e.1 = g e.2.1 then none else some (g e.1, g e.2.1, e.2.2)
theorem con_s {g : Nat → Nat} {e e' : Ed} (h : con g e = some e') : g e.1 ≠ g e.2.1 ∧ e' = (g e.1, g e.2.1, e.2.2) := by
  unfold con at h
  by_cases c : g e.1 = g e.2.1
  · rw [if_pos c] at h; cases h
  · rw [if_neg c] at h; cases h; exact ⟨c, rfl⟩
theorem con_sum {g : Nat → Nat} : ∀ R : List Ed, asum csE (R.filterMap (con g)) ≤ asum csE R
  | [] => Nat.le_refl _
  | e :: R => by
    have := con_sum (g := g) R
    cases h : con g e with
    | none => rw [List.filterMap_cons_none h]; simp only [asum]; omega
    | some f =>
      rw [List.filterMap_cons_some h]
      have := (con_s h).2
      simp only [asum, this, csE] at *
      omega
theorem contract_low {b g : Nat → Nat} {n r n' : Nat} {E : List Ed} (hr : r < n) (hE : ∀ e, e ∈ E → tlE e < n ∧ hdE e < n) (hb : ∀ w, w < n → w ≠ r → b w < n) (h : ∀ w, w < n → w ≠ r → (b w, w, 0) ∈ E)
    (hg : ∀ v, v < n → g v < n') (hon : ∀ c, c < n' → ∃ v, v < n ∧ g v = c) (hm : ∀ u v, u < n → v < n → g u = g v → u = v ∨ ∃ l, itb b l v = u) (x : Nat) : Low n r E x ↔ Low n' (g r) (E.filterMap (con g)) x := by
  constructor
  · rintro ⟨R, r1, r2, r3⟩
    refine ⟨R.filterMap (con g), fun e he => ?_, ?_, Nat.le_trans (con_sum R) r3⟩
    · obtain ⟨f, f1, f2⟩ := List.mem_filterMap.mp he
      exact List.mem_filterMap.mpr ⟨f, r1 f f1, f2⟩
    · rintro X hX ⟨c, hc, hxc⟩
      obtain ⟨v, hv, hvc⟩ := hon c hc
      obtain ⟨e, e1, e2, e3⟩ := r2 (fun u => X (g u)) hX ⟨v, hv, by rw [hvc]; exact hxc⟩
      have e2' : X (g e.1) = true := e2
      have e3' : X (g e.2.1) = false := e3
      have hne : g e.1 ≠ g e.2.1 := fun q => by rw [q, e3'] at e2'; cases e2'
      refine ⟨(g e.1, g e.2.1, e.2.2), List.mem_filterMap.mpr ⟨e, e1, ?_⟩, e2', e3'⟩
      unfold con
      rw [if_neg hne]
  · rintro ⟨R, r1, r2, r3⟩
    obtain ⟨K, k1, k2⟩ := lift (f := con g) (P := fun e => e ∈ E) (R.map some) (fun o ho => by
      obtain ⟨e, e1, e2⟩ := List.mem_map.mp ho
      obtain ⟨f, f1, f2⟩ := List.mem_filterMap.mp (r1 e e1)
      exact ⟨f, f1, by rw [f2, e2]⟩)
    have hKs : asum csE K = asum csE R := by
      have : ∀ (K R : List Ed), K.map (con g) = R.map some → asum csE K = asum csE R := by
        intro K
        induction K with
        | nil =>
          intro R hR
          cases R with
          | nil => rfl
          | cons a R => simp at hR
        | cons e K ih =>
          intro R hR
          cases R with
          | nil => simp at hR
          | cons a R =>
            simp only [List.map_cons, List.cons.injEq] at hR
            have h1 := ih R hR.2
            have h2 := (con_s hR.1).2
            simp only [asum, h1, h2, csE]
      exact this K R k2
    refine ⟨K ++ chs b n r, fun e he => ?_, ?_, ?_⟩
    · rcases List.mem_append.mp he with q | q
      · exact k1 e q
      · exact chs_sub h e q
    · rintro X hX ⟨v0, hv0, hxv0⟩
      by_cases hsat : ∀ u v, u < n → v < n → g u = g v → X u = true → X v = true
      · obtain ⟨e, e1, e2, e3⟩ := r2 (fun c => (List.range n).any (fun v => decide (g v = c) && X v)) (by
          rw [List.any_eq_true]
          exact ⟨r, List.mem_range.mpr hr, by simp [hX]⟩) ⟨g v0, hg v0 hv0, by
          rw [List.any_eq_false]
          intro u hu hc
          simp only [Bool.and_eq_true, decide_eq_true_eq] at hc
          have := hsat u v0 (List.mem_range.mp hu) hv0 hc.1 hc.2
          rw [hxv0] at this; cases this⟩
        have hem : some e ∈ K.map (con g) := by rw [k2]; exact List.mem_map.mpr ⟨e, e1, rfl⟩
        obtain ⟨f, f1, f2⟩ := List.mem_map.mp hem
        obtain ⟨f3, f4⟩ := con_s f2
        obtain ⟨b1, b2⟩ := hE f (k1 f f1)
        subst f4
        refine ⟨f, List.mem_append.mpr (Or.inl f1), ?_, ?_⟩
        · rw [List.any_eq_true] at e2
          obtain ⟨u, u1, u2⟩ := e2
          simp only [Bool.and_eq_true, decide_eq_true_eq] at u2
          exact hsat u f.1 (List.mem_range.mp u1) b1 u2.1 u2.2
        · rw [List.any_eq_false] at e3
          have := e3 f.2.1 (List.mem_range.mpr b2)
          simp only [Bool.and_eq_true, decide_eq_true_eq, not_and] at this
          have h4 := this rfl
          show X f.2.1 = false
          cases hq : X f.2.1 with
          | false => rfl
          | true => exact absurd hq h4
      · have hsat2 : ∃ u v, u < n ∧ v < n ∧ g u = g v ∧ X u = true ∧ X v = false := by
          apply Classical.byContradiction
          intro hq
          apply hsat
          intro u v hu hv huv hxu
          cases hxv : X v with
          | true => rfl
          | false => exact absurd ⟨u, v, hu, hv, huv, hxu, hxv⟩ hq
        obtain ⟨u, v, hu, hv, huv, hxu, hxv⟩ := hsat2
        rcases hm u v hu hv huv with e | ⟨l, hl⟩
        · subst e
          rw [hxu] at hxv; cases hxv
        · obtain ⟨w, w1, w2, w3, w4⟩ := cross hb hX l v hv hxv (by rw [hl]; exact hxu)
          exact ⟨_, List.mem_append.mpr (Or.inr (chs_mem w1 w2)), w4, w3⟩
    · rw [asum_app, chs_cost, hKs]
      omega
