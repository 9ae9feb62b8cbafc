/-! the class's code of a tree from a root: the weight, then the arc to each node -/
def m32 (p : Nat → Nat) : Nat → Nat
  | 0 => 0
  | j + 1 => 32 * m32 p j + p j
theorem m32_lt {p : Nat → Nat} : ∀ {m : Nat}, (∀ j, j < m → p j < 32) → m32 p m < 32 ^ m
  | 0, _ => by simp [m32]
  | m + 1, h => by
    have ih := m32_lt (p := p) (m := m) (fun j hj => h j (by omega))
    have h1 := h m (by omega)
    unfold m32
    rw [Nat.pow_succ]
    omega
theorem m32_congr {p q : Nat → Nat} : ∀ {m : Nat}, (∀ j, j < m → p j = q j) → m32 p m = m32 q m
  | 0, _ => rfl
  | m + 1, h => by
    unfold m32
    rw [m32_congr (m := m) (fun j hj => h j (by omega)), h m (by omega)]
theorem m32_add (p q : Nat → Nat) : ∀ m, m32 (fun j => p j + q j) m = m32 p m + m32 q m
  | 0 => rfl
  | m + 1 => by
    unfold m32
    rw [m32_add p q m]
    omega
theorem m32_0 : ∀ m, m32 (fun _ => 0) m = 0
  | 0 => rfl
  | m + 1 => by unfold m32; rw [m32_0 m]
theorem m32_one {i a : Nat} : ∀ {m : Nat}, i < m → m32 (fun j => if j = i then a else 0) m = a * 32 ^ (m - 1 - i)
  | 0, h => absurd h (Nat.not_lt_zero i)
  | m + 1, h => by
    unfold m32
    by_cases e : i = m
    · subst e
      rw [m32_congr (q := fun _ => 0) (fun j hj => if_neg (by omega)), m32_0]
      simp
    · have ih := m32_one (i := i) (a := a) (m := m) (by omega)
      have e2 : ¬ m = i := fun g => e g.symm
      simp only [if_neg e2]
      rw [ih]
      have e3 : m + 1 - 1 - i = (m - 1 - i) + 1 := by omega
      rw [e3, Nat.pow_succ]
      generalize 32 ^ (m - 1 - i) = y
      grind
theorem m32_dig {p : Nat → Nat} {i : Nat} : ∀ {m : Nat}, i < m → (∀ j, i ≤ j → j < m → p j < 32) → m32 p m / 32 ^ (m - 1 - i) % 32 = p i
  | 0, h, _ => absurd h (Nat.not_lt_zero i)
  | m + 1, h, hp => by
    have hm := hp m (by omega) (by omega)
    by_cases e : i = m
    · subst e
      have : i + 1 - 1 - i = 0 := by omega
      rw [this]
      unfold m32
      simp
      omega
    · have ih := m32_dig (p := p) (i := i) (m := m) (by omega) (fun j h1 h2 => hp j h1 (by omega))
      have e3 : m + 1 - 1 - i = 1 + (m - 1 - i) := by omega
      have e4 : m32 p (m + 1) / 32 = m32 p m := by
        show (32 * m32 p m + p m) / 32 = m32 p m
        omega
      rw [e3, Nat.pow_add, Nat.pow_one, ← Nat.div_div_eq_div_mul, e4, ih]
theorem m32_first {p q : Nat → Nat} {i : Nat} (h : ∀ j, j < i → p j = q j) (hi : p i < q i) : ∀ {d : Nat}, (∀ j, j < i + 1 + d → p j < 32) → m32 p (i + 1 + d) < m32 q (i + 1 + d)
  | 0, _ => by
    show 32 * m32 p i + p i < 32 * m32 q i + q i
    rw [m32_congr h]
    omega
  | d + 1, hp => by
    have ih := m32_first h hi (d := d) (fun j hj => hp j (by omega))
    have h1 := hp (i + 1 + d) (by omega)
    show 32 * m32 p (i + 1 + d) + p (i + 1 + d) < 32 * m32 q (i + 1 + d) + q (i + 1 + d)
    omega
def nd (r j : Nat) : Nat := if j < r then j else j + 1
theorem nd_pl : ∀ r, r < 10 → ∀ v, v < 10 → v ≠ r → nd r (pl r v) = v ∧ pl r v < 9 := by decide +kernel
theorem nd_eq : ∀ r, r < 10 → ∀ v, v < 10 → v ≠ r → ∀ j, j < 9 → (v = nd r j ↔ j = pl r v) := by decide +kernel
theorem nd_lt : ∀ r, r < 10 → ∀ v, v < 10 → v ≠ r → ∀ j, j < pl r v → nd r j < v ∧ nd r j ≠ r := by decide +kernel
/-- the arc of la to v -/
def pa (to : Nat → Nat) (la : List Nat) (v : Nat) : Nat := lsum (fun a => if to a = v then a else 0) la
theorem pa_0 {to : Nat → Nat} {v : Nat} : ∀ {la : List Nat}, (∀ a, a ∈ la → to a ≠ v) → pa to la v = 0
  | [], _ => rfl
  | a :: la, h => by
    have ih := pa_0 (to := to) (v := v) (la := la) (fun b hb => h b (List.mem_cons_of_mem _ hb))
    have h1 := h a (List.mem_cons_self ..)
    unfold pa at *
    simp only [lsum, if_neg h1, ih]
theorem pa_of {to : Nat → Nat} : ∀ {la : List Nat} {a : Nat}, (la.map to).Nodup → a ∈ la → pa to la (to a) = a
  | [], a, _, h => absurd h (by simp)
  | b :: la, a, hn, h => by
    rw [List.map_cons, List.nodup_cons] at hn
    rcases List.mem_cons.mp h with g | g
    · subst g
      have h0 := pa_0 (to := to) (v := to a) (la := la) (fun c hc e => hn.1 (by rw [← e]; exact List.mem_map.mpr ⟨c, hc, rfl⟩))
      unfold pa at *
      simp only [lsum, if_pos, h0]
      omega
    · have ih := pa_of (to := to) (la := la) (a := a) hn.2 g
      have hne : ¬ to b = to a := fun e => hn.1 (by rw [e]; exact List.mem_map.mpr ⟨a, g, rfl⟩)
      unfold pa at *
      simp only [lsum, if_neg hne, ih]
      omega
theorem pa_lt {to : Nat → Nat} {la : List Nat} {v : Nat} (hn : (la.map to).Nodup) (h : ∀ a, a ∈ la → a < 30) : pa to la v < 30 := by
  by_cases hv : ∃ a, a ∈ la ∧ to a = v
  · obtain ⟨a, a1, a2⟩ := hv
    rw [← a2, pa_of hn a1]
    exact h a a1
  · rw [pa_0 (fun a ha e => hv ⟨a, ha, e⟩)]
    omega
theorem code_sum {to w : Nat → Nat} {r : Nat} (hr : r < 10) : ∀ {la : List Nat}, (∀ a, a ∈ la → to a < 10 ∧ to a ≠ r) → lsum (ec r to w) la = lsum w la * 2 ^ 45 + m32 (fun j => pa to la (nd r j)) 9
  | [], _ => by
    have : m32 (fun j => pa to [] (nd r j)) 9 = m32 (fun _ => 0) 9 := rfl
    rw [this, m32_0]
    simp [lsum]
  | a :: la, h => by
    have ih := code_sum (to := to) (w := w) hr (la := la) (fun b hb => h b (List.mem_cons_of_mem _ hb))
    obtain ⟨h1, h2⟩ := h a (List.mem_cons_self ..)
    have e1 : m32 (fun j => pa to (a :: la) (nd r j)) 9 = m32 (fun j => if j = pl r (to a) then a else 0) 9 + m32 (fun j => pa to la (nd r j)) 9 := by
      rw [← m32_add]
      apply m32_congr
      intro j hj
      show (if to a = nd r j then a else 0) + pa to la (nd r j) = _
      by_cases e : to a = nd r j
      · rw [if_pos e, if_pos ((nd_eq r hr (to a) h1 h2 j hj).mp e)]
      · rw [if_neg e, if_neg (fun g => e ((nd_eq r hr (to a) h1 h2 j hj).mpr g))]
    have e2 : a * 32 ^ (9 - 1 - pl r (to a)) = a * 2 ^ (fld r (to a)) := by
      unfold fld
      have : 2 ^ ((8 - pl r (to a)) * 5) = 32 ^ (8 - pl r (to a)) := by
        rw [Nat.mul_comm, Nat.pow_mul]
      rw [this]
    rw [e1, m32_one (nd_pl r hr (to a) h1 h2).2, e2]
    simp only [lsum, ih, ec]
    rw [Nat.add_mul]
    omega
/-- in the class's arcs: a tree of the reference -/
theorem Low_FA {n k r x : Nat} {fr to w : Nat → Nat} {pr : Nat → Bool} {ord : List Nat} (hr : r < n) (hm : ∀ a, a ∈ ord ↔ a < k ∧ pr a = true) (hto : ∀ a, a ∈ ord → to a < n) : Low n r (e0 r fr to w ord) x ↔ ∃ la, FA fr to n k r pr (fun _ => none) la ∧ lsum (ec r to w) la ≤ x := by
  constructor
  · intro h
    obtain ⟨L, l1, l2, l3, l4⟩ := Low_tree hr (fun e he => by
      obtain ⟨a, a1, a2⟩ := List.mem_map.mp he
      rw [← a2]
      exact hto a (List.mem_filter.mp a1).1) h
    obtain ⟨la, k1, k2⟩ := lift (f := fun a => ((fr a, to a, ec r to w a) : Ed)) (P := fun a => a ∈ ord) L (fun b hb => by
      obtain ⟨a, a1, a2⟩ := List.mem_map.mp (l1 b hb)
      exact ⟨a, (List.mem_filter.mp a1).1, a2⟩)
    subst k2
    refine ⟨la, ⟨(Gw_map (tl := tlE) (hd := hdE) (f := fun a => ((fr a, to a, ec r to w a) : Ed)) la).mp l2, fun a ha => ?_, fun v hv => ?_⟩, ?_⟩
    · have := (hm a).mp (k1 a ha)
      exact ⟨this.1, this.2, Or.inl rfl⟩
    · have := l3 v hv
      rw [grow_map] at this
      exact this
    · rw [asum_map, asum_lsum] at l4
      exact l4
  · rintro ⟨la, ⟨f1, f2, f3⟩, hx⟩
    refine ⟨la.map (fun a => ((fr a, to a, ec r to w a) : Ed)), fun e he => ?_, Gw_Rch' ((Gw_map la).mpr f1) (by rw [grow_map]; exact f3), ?_⟩
    · obtain ⟨a, a1, a2⟩ := List.mem_map.mp he
      have h1 := f2 a a1
      have h2 := (Gw_heads la f1).2 a a1
      simp only [sgl, decide_eq_false_iff_not] at h2
      refine List.mem_map.mpr ⟨a, List.mem_filter.mpr ⟨(hm a).mpr ⟨h1.1, h1.2.1⟩, by simp [h2]⟩, a2⟩
    · rw [asum_map, asum_lsum]
      exact hx
/-- the class's tree -/
def Rt (fr to w : Nat → Nat) (n k r : Nat) (pr : Nat → Bool) (la : List Nat) : Prop := FA fr to n k r pr (fun _ => none) la ∧ ∀ l, FA fr to n k r pr (fun _ => none) l → lsum (ec r to w) la ≤ lsum (ec r to w) l
theorem FA_weak {fr to : Nat → Nat} {n k r : Nat} {pr : Nat → Bool} {fx : Nat → Option Nat} {la : List Nat} (h : FA fr to n k r pr fx la) : FA fr to n k r pr (fun _ => none) la := ⟨h.1, fun a ha => ⟨(h.2.1 a ha).1, (h.2.1 a ha).2.1, Or.inl rfl⟩, h.2.2⟩
theorem FA_to {fr to : Nat → Nat} {n k r : Nat} {pr : Nat → Bool} {fx : Nat → Option Nat} {la : List Nat} (h : FA fr to n k r pr fx la) (hto : ∀ a, a < k → to a < n) (hn : n ≤ 10) : ∀ a, a ∈ la → to a < 10 ∧ to a ≠ r := by
  intro a ha
  have h1 := hto a (h.2.1 a ha).1
  have h2 := (Gw_heads la h.1).2 a ha
  simp only [sgl, decide_eq_false_iff_not] at h2
  exact ⟨by omega, h2⟩
theorem FA_dig {fr to : Nat → Nat} {n k r : Nat} {pr : Nat → Bool} {fx : Nat → Option Nat} {la : List Nat} (h : FA fr to n k r pr fx la) (hk : k ≤ 30) (v : Nat) : pa to la v < 30 := pa_lt (Gw_heads la h.1).1 (fun a ha => by have := (h.2.1 a ha).1; omega)
theorem FA_at {fr to : Nat → Nat} {n k r : Nat} {pr : Nat → Bool} {fx : Nat → Option Nat} {la : List Nat} (h : FA fr to n k r pr fx la) {v : Nat} (hv : v < n) (hvr : v ≠ r) : ∃ a, a ∈ la ∧ to a = v ∧ pa to la v = a := by
  rcases (grow_mem la).mp (h.2.2 v hv) with g | ⟨a, a1, a2⟩
  · simp only [sgl, decide_eq_true_eq] at g
    exact absurd g hvr
  · exact ⟨a, a1, a2, by rw [← a2]; exact pa_of (Gw_heads la h.1).1 a1⟩
theorem Rt_w {fr to w : Nat → Nat} {n k r : Nat} {pr : Nat → Bool} {la l : List Nat} (hn : n ≤ 10) (hk : k ≤ 30) (hr : r < n) (hto : ∀ a, a < k → to a < n) (h : Rt fr to w n k r pr la) (hl : FA fr to n k r pr (fun _ => none) l) : lsum w la ≤ lsum w l ∧ (lsum w la = lsum w l → m32 (fun j => pa to la (nd r j)) 9 ≤ m32 (fun j => pa to l (nd r j)) 9) := by
  have h1 := h.2 l hl
  rw [code_sum (by omega) (FA_to h.1 hto hn), code_sum (by omega) (FA_to hl hto hn)] at h1
  have h2 := m32_lt (p := fun j => pa to la (nd r j)) (m := 9) (fun j _ => by have := FA_dig h.1 hk (nd r j); show pa to la (nd r j) < 32; omega)
  have h3 := m32_lt (p := fun j => pa to l (nd r j)) (m := 9) (fun j _ => by have := FA_dig hl hk (nd r j); show pa to l (nd r j) < 32; omega)
  omega
/-- fixing arcs one by one finds the class's tree -/
theorem Rt_acc {fr to w : Nat → Nat} {n k r v : Nat} {pr : Nat → Bool} {la : List Nat} {fx : Nat → Option Nat} (h : Rt fr to w n k r pr la) (hfx : ∀ u, fx u = none ∨ fx u = some (pa to la u)) : FA fr to n k r pr fx la := by
  obtain ⟨⟨f1, f2, f3⟩, -⟩ := h
  refine ⟨f1, fun a ha => ?_, f3⟩
  have h1 := f2 a ha
  refine ⟨h1.1, h1.2.1, ?_⟩
  rcases hfx (to a) with g | g
  · exact Or.inl g
  · exact Or.inr (by rw [g, pa_of (Gw_heads la f1).1 ha])
theorem Rt_rej {fr to w : Nat → Nat} {n k r v j : Nat} {pr : Nat → Bool} {la l : List Nat} {fx : Nat → Option Nat} (hn : n ≤ 10) (hk : k ≤ 30) (hr : r < n) (hto : ∀ a, a < k → to a < n) (h : Rt fr to w n k r pr la) (hv : v < n) (hvr : v ≠ r) (hfx : ∀ u, u < v → u ≠ r → fx u = some (pa to la u)) (hfv : fx v = some j) (hl : FA fr to n k r pr fx l) (hw : lsum w l = lsum w la) : ¬ j < pa to la v := by
  intro hj
  have h1 := (Rt_w hn hk hr hto h (FA_weak hl)).2 hw.symm
  have hdig : ∀ u, u < n → u ≠ r → ∀ c, fx u = some c → pa to l u = c := by
    intro u hu hur c hc
    obtain ⟨a, a1, a2, a3⟩ := FA_at hl hu hur
    rw [a3]
    rcases (hl.2.1 a a1).2.2 with g | g
    · rw [a2, hc] at g; cases g
    · rw [a2, hc] at g; cases g; rfl
  obtain ⟨p1, p2⟩ := nd_pl r (by omega) v (by omega) hvr
  have h2 := m32_first (p := fun j => pa to l (nd r j)) (q := fun j => pa to la (nd r j)) (i := pl r v) (fun i hi => by
    obtain ⟨q1, q2⟩ := nd_lt r (by omega) v (by omega) hvr i hi
    exact hdig _ (by omega) q2 _ (hfx _ q1 q2)) (by
    show pa to l (nd r (pl r v)) < pa to la (nd r (pl r v))
    rw [p1, hdig v hv hvr j hfv]
    exact hj) (d := 9 - (pl r v + 1)) (fun i _ => by have := FA_dig hl hk (nd r i); show pa to l (nd r i) < 32; omega)
  have e : pl r v + 1 + (9 - (pl r v + 1)) = 9 := by omega
  rw [e] at h2
  omega
/-! what the class reads out of the code -/
theorem sh45 : (((45 : Int32).toInt64 &&& 63).toBitVec.smod 64).toNat = 45 := by decide +kernel
theorem weightR {W M : Nat} (hW : W ≤ 30000) (hM : M < 2 ^ 45) : f_TreesFromRoot_weightIn (cN (W * 2 ^ 45 + M)) = some (nI W) := by
  unfold f_TreesFromRoot_weightIn
  congr 1
  apply Int32.toBitVec_inj.mp
  apply BitVec.eq_of_toNat_eq
  have e : (cN (W * 2 ^ 45 + M)).toBitVec.msb = false := by
    rw [cN_bv, BitVec.msb_eq_decide, BitVec.toNat_ofNat]
    simp
    omega
  rw [Int64.toBitVec_toInt32, Int64.toBitVec_shiftRight, BitVec.sshiftRight_eq', sh45, BitVec.sshiftRight_eq_of_msb_false e]
  unfold nI
  rw [Int32.toBitVec_ofNat', cN_bv]
  rw [BitVec.signExtend_eq_setWidth_of_le _ (by omega), BitVec.toNat_setWidth, BitVec.toNat_ushiftRight, BitVec.toNat_ofNat, BitVec.toNat_ofNat, Nat.shiftRight_eq_div_pow]
  omega
theorem arcR {x f : Nat} (hx : x < 2 ^ 62) (hf : f ≤ 40) : (((cN x >>> ((nI f).toInt64 &&& 63)).toInt32) &&& (31 : Int32)) = nI (x / 2 ^ f % 32) := by
  apply Int32.toBitVec_inj.mp
  apply BitVec.eq_of_toNat_eq
  have e : (cN x).toBitVec.msb = false := by
    rw [cN_bv, BitVec.msb_eq_decide, BitVec.toNat_ofNat]
    simp
    omega
  rw [Int32.toBitVec_and, Int64.toBitVec_toInt32, Int64.toBitVec_shiftRight, BitVec.sshiftRight_eq', sh64 f (by omega), BitVec.sshiftRight_eq_of_msb_false e]
  unfold nI
  have e31 : (31 : Int32).toBitVec.toNat = 2 ^ 5 - 1 := by decide
  rw [Int32.toBitVec_ofNat', cN_bv, BitVec.toNat_and, e31, Nat.and_two_pow_sub_one_eq_mod]
  rw [BitVec.signExtend_eq_setWidth_of_le _ (by omega), BitVec.toNat_setWidth, BitVec.toNat_ushiftRight, BitVec.toNat_ofNat, BitVec.toNat_ofNat, Nat.shiftRight_eq_div_pow]
  have e2 : x % 2 ^ 64 = x := Nat.mod_eq_of_lt (by omega)
  rw [e2]
  generalize x / 2 ^ f = y
  omega
theorem code_at {fr to w : Nat → Nat} {n k r v : Nat} {pr : Nat → Bool} {fx : Nat → Option Nat} {la : List Nat} (hn : n ≤ 10) (hk : k ≤ 30) (hr : r < n) (hto : ∀ a, a < k → to a < n) (h : FA fr to n k r pr fx la) (hv : v < n) (hvr : v ≠ r) : lsum (ec r to w) la / 2 ^ (fld r v) % 32 = pa to la v := by
  rw [code_sum (by omega) (FA_to h hto hn)]
  obtain ⟨p1, p2⟩ := nd_pl r (by omega) v (by omega) hvr
  have e1 : lsum w la * 2 ^ 45 + m32 (fun j => pa to la (nd r j)) 9 = m32 (fun j => match j with | 0 => lsum w la | i + 1 => pa to la (nd r i)) 10 := by
    simp only [m32]
    omega
  have e2 : 2 ^ (fld r v) = 32 ^ (10 - 1 - (pl r v + 1)) := by
    unfold fld
    have e3 : 10 - 1 - (pl r v + 1) = 8 - pl r v := by omega
    rw [e3, Nat.mul_comm, Nat.pow_mul]
  rw [e1, e2, m32_dig (by omega) (fun j h1 h2 => ?_)]
  · show pa to la (nd r (pl r v)) = _
    rw [p1]
  · cases j with
    | zero => omega
    | succ i =>
      have := FA_dig h hk (nd r i)
      show pa to la (nd r i) < 32
      omega
