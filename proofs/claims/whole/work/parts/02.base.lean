/-! own words: pure pictures of methods (Option: none where an index or a divisor would be wrong, or the steps run out) -/
def bn {α β : Type} (a : α) (f : α → β) : β := f a
def gd {α : Type} (b : Bool) (x : Option α) : Option α := match b with
  | true => x
  | false => none
def inb (i : Int32) (n : Nat) : Bool := decide (¬ (i < 0 ∨ n ≤ i.toNatClampNeg))
def nzI (y : Int32) : Bool := decide (¬ y = 0)
def nzL (y : Int64) : Bool := decide (¬ y = 0)
def zb (v : Int32) : Bool := decide (v = 0 ∨ v = 1)
def cpok (sp dp n : Int32) (a b : Nat) : Bool := decide (¬ sp < 0 ∧ ¬ dp < 0 ∧ ¬ n < 0 ∧ sp.toNatClampNeg + n.toNatClampNeg ≤ a ∧ dp.toNatClampNeg + n.toNatClampNeg ≤ b)
def stGL (M : Nat → Nat → Int64) (a : Nat) (f : Nat → Int64) : Nat → Nat → Int64 := fun r => if r = a then f else M r
def upGL (M : Nat → Nat → Int64) (a b : Nat) (x : Int64) : Nat → Nat → Int64 := stGL M a (vp_updL (M a) b x)
def bk0 {R : Type} (o : Option Unit) (f : Unit → Option R) : Option R := match o with
  | none => none
  | some u => f u
theorem bk0_e {R : Type} {o : Option Unit} {f : Unit → Option R} {r : R} (h : bk0 o f = some r) : ∃ u, o = some u ∧ f u = some r := by
  cases o with
  | none => simp [bk0] at h
  | some x => exact ⟨x, rfl, h⟩
def bk1 {R A1 : Type} (o : Option (A1)) (f : A1 → Option R) : Option R := match o with
  | none => none
  | some a1 => f a1
theorem bk1_e {R A1 : Type} {o : Option A1} {f : A1 → Option R} {r : R} (h : bk1 o f = some r) : ∃ a1, o = some a1 ∧ f a1 = some r := by
  cases o with
  | none => simp [bk1] at h
  | some x => exact ⟨x, rfl, h⟩
def bk2 {R A1 A2 : Type} (o : Option (A1 × A2)) (f : A1 → A2 → Option R) : Option R := match o with
  | none => none
  | some (a1, a2) => f a1 a2
theorem bk2_e {R A1 A2 : Type} {o : Option (A1 × A2)} {f : A1 → A2 → Option R} {r : R} (h : bk2 o f = some r) : ∃ a1 a2, o = some (a1, a2) ∧ f a1 a2 = some r := by
  cases o with
  | none => simp [bk2] at h
  | some x =>
    obtain ⟨a1, a2⟩ := x
    exact ⟨a1, a2, rfl, h⟩
def bk3 {R A1 A2 A3 : Type} (o : Option (A1 × A2 × A3)) (f : A1 → A2 → A3 → Option R) : Option R := match o with
  | none => none
  | some (a1, a2, a3) => f a1 a2 a3
theorem bk3_e {R A1 A2 A3 : Type} {o : Option (A1 × A2 × A3)} {f : A1 → A2 → A3 → Option R} {r : R} (h : bk3 o f = some r) : ∃ a1 a2 a3, o = some (a1, a2, a3) ∧ f a1 a2 a3 = some r := by
  cases o with
  | none => simp [bk3] at h
  | some x =>
    obtain ⟨a1, a2, a3⟩ := x
    exact ⟨a1, a2, a3, rfl, h⟩
def bk4 {R A1 A2 A3 A4 : Type} (o : Option (A1 × A2 × A3 × A4)) (f : A1 → A2 → A3 → A4 → Option R) : Option R := match o with
  | none => none
  | some (a1, a2, a3, a4) => f a1 a2 a3 a4
theorem bk4_e {R A1 A2 A3 A4 : Type} {o : Option (A1 × A2 × A3 × A4)} {f : A1 → A2 → A3 → A4 → Option R} {r : R} (h : bk4 o f = some r) : ∃ a1 a2 a3 a4, o = some (a1, a2, a3, a4) ∧ f a1 a2 a3 a4 = some r := by
  cases o with
  | none => simp [bk4] at h
  | some x =>
    obtain ⟨a1, a2, a3, a4⟩ := x
    exact ⟨a1, a2, a3, a4, rfl, h⟩
def bk5 {R A1 A2 A3 A4 A5 : Type} (o : Option (A1 × A2 × A3 × A4 × A5)) (f : A1 → A2 → A3 → A4 → A5 → Option R) : Option R := match o with
  | none => none
  | some (a1, a2, a3, a4, a5) => f a1 a2 a3 a4 a5
theorem bk5_e {R A1 A2 A3 A4 A5 : Type} {o : Option (A1 × A2 × A3 × A4 × A5)} {f : A1 → A2 → A3 → A4 → A5 → Option R} {r : R} (h : bk5 o f = some r) : ∃ a1 a2 a3 a4 a5, o = some (a1, a2, a3, a4, a5) ∧ f a1 a2 a3 a4 a5 = some r := by
  cases o with
  | none => simp [bk5] at h
  | some x =>
    obtain ⟨a1, a2, a3, a4, a5⟩ := x
    exact ⟨a1, a2, a3, a4, a5, rfl, h⟩
def bk6 {R A1 A2 A3 A4 A5 A6 : Type} (o : Option (A1 × A2 × A3 × A4 × A5 × A6)) (f : A1 → A2 → A3 → A4 → A5 → A6 → Option R) : Option R := match o with
  | none => none
  | some (a1, a2, a3, a4, a5, a6) => f a1 a2 a3 a4 a5 a6
theorem bk6_e {R A1 A2 A3 A4 A5 A6 : Type} {o : Option (A1 × A2 × A3 × A4 × A5 × A6)} {f : A1 → A2 → A3 → A4 → A5 → A6 → Option R} {r : R} (h : bk6 o f = some r) : ∃ a1 a2 a3 a4 a5 a6, o = some (a1, a2, a3, a4, a5, a6) ∧ f a1 a2 a3 a4 a5 a6 = some r := by
  cases o with
  | none => simp [bk6] at h
  | some x =>
    obtain ⟨a1, a2, a3, a4, a5, a6⟩ := x
    exact ⟨a1, a2, a3, a4, a5, a6, rfl, h⟩
def bk7 {R A1 A2 A3 A4 A5 A6 A7 : Type} (o : Option (A1 × A2 × A3 × A4 × A5 × A6 × A7)) (f : A1 → A2 → A3 → A4 → A5 → A6 → A7 → Option R) : Option R := match o with
  | none => none
  | some (a1, a2, a3, a4, a5, a6, a7) => f a1 a2 a3 a4 a5 a6 a7
theorem bk7_e {R A1 A2 A3 A4 A5 A6 A7 : Type} {o : Option (A1 × A2 × A3 × A4 × A5 × A6 × A7)} {f : A1 → A2 → A3 → A4 → A5 → A6 → A7 → Option R} {r : R} (h : bk7 o f = some r) : ∃ a1 a2 a3 a4 a5 a6 a7, o = some (a1, a2, a3, a4, a5, a6, a7) ∧ f a1 a2 a3 a4 a5 a6 a7 = some r := by
  cases o with
  | none => simp [bk7] at h
  | some x =>
    obtain ⟨a1, a2, a3, a4, a5, a6, a7⟩ := x
    exact ⟨a1, a2, a3, a4, a5, a6, a7, rfl, h⟩
def bk8 {R A1 A2 A3 A4 A5 A6 A7 A8 : Type} (o : Option (A1 × A2 × A3 × A4 × A5 × A6 × A7 × A8)) (f : A1 → A2 → A3 → A4 → A5 → A6 → A7 → A8 → Option R) : Option R := match o with
  | none => none
  | some (a1, a2, a3, a4, a5, a6, a7, a8) => f a1 a2 a3 a4 a5 a6 a7 a8
theorem bk8_e {R A1 A2 A3 A4 A5 A6 A7 A8 : Type} {o : Option (A1 × A2 × A3 × A4 × A5 × A6 × A7 × A8)} {f : A1 → A2 → A3 → A4 → A5 → A6 → A7 → A8 → Option R} {r : R} (h : bk8 o f = some r) : ∃ a1 a2 a3 a4 a5 a6 a7 a8, o = some (a1, a2, a3, a4, a5, a6, a7, a8) ∧ f a1 a2 a3 a4 a5 a6 a7 a8 = some r := by
  cases o with
  | none => simp [bk8] at h
  | some x =>
    obtain ⟨a1, a2, a3, a4, a5, a6, a7, a8⟩ := x
    exact ⟨a1, a2, a3, a4, a5, a6, a7, a8, rfl, h⟩
def bk9 {R A1 A2 A3 A4 A5 A6 A7 A8 A9 : Type} (o : Option (A1 × A2 × A3 × A4 × A5 × A6 × A7 × A8 × A9)) (f : A1 → A2 → A3 → A4 → A5 → A6 → A7 → A8 → A9 → Option R) : Option R := match o with
  | none => none
  | some (a1, a2, a3, a4, a5, a6, a7, a8, a9) => f a1 a2 a3 a4 a5 a6 a7 a8 a9
theorem bk9_e {R A1 A2 A3 A4 A5 A6 A7 A8 A9 : Type} {o : Option (A1 × A2 × A3 × A4 × A5 × A6 × A7 × A8 × A9)} {f : A1 → A2 → A3 → A4 → A5 → A6 → A7 → A8 → A9 → Option R} {r : R} (h : bk9 o f = some r) : ∃ a1 a2 a3 a4 a5 a6 a7 a8 a9, o = some (a1, a2, a3, a4, a5, a6, a7, a8, a9) ∧ f a1 a2 a3 a4 a5 a6 a7 a8 a9 = some r := by
  cases o with
  | none => simp [bk9] at h
  | some x =>
    obtain ⟨a1, a2, a3, a4, a5, a6, a7, a8, a9⟩ := x
    exact ⟨a1, a2, a3, a4, a5, a6, a7, a8, a9, rfl, h⟩
def bk10 {R A1 A2 A3 A4 A5 A6 A7 A8 A9 A10 : Type} (o : Option (A1 × A2 × A3 × A4 × A5 × A6 × A7 × A8 × A9 × A10)) (f : A1 → A2 → A3 → A4 → A5 → A6 → A7 → A8 → A9 → A10 → Option R) : Option R := match o with
  | none => none
  | some (a1, a2, a3, a4, a5, a6, a7, a8, a9, a10) => f a1 a2 a3 a4 a5 a6 a7 a8 a9 a10
theorem bk10_e {R A1 A2 A3 A4 A5 A6 A7 A8 A9 A10 : Type} {o : Option (A1 × A2 × A3 × A4 × A5 × A6 × A7 × A8 × A9 × A10)} {f : A1 → A2 → A3 → A4 → A5 → A6 → A7 → A8 → A9 → A10 → Option R} {r : R} (h : bk10 o f = some r) : ∃ a1 a2 a3 a4 a5 a6 a7 a8 a9 a10, o = some (a1, a2, a3, a4, a5, a6, a7, a8, a9, a10) ∧ f a1 a2 a3 a4 a5 a6 a7 a8 a9 a10 = some r := by
  cases o with
  | none => simp [bk10] at h
  | some x =>
    obtain ⟨a1, a2, a3, a4, a5, a6, a7, a8, a9, a10⟩ := x
    exact ⟨a1, a2, a3, a4, a5, a6, a7, a8, a9, a10, rfl, h⟩
def bk11 {R A1 A2 A3 A4 A5 A6 A7 A8 A9 A10 A11 : Type} (o : Option (A1 × A2 × A3 × A4 × A5 × A6 × A7 × A8 × A9 × A10 × A11)) (f : A1 → A2 → A3 → A4 → A5 → A6 → A7 → A8 → A9 → A10 → A11 → Option R) : Option R := match o with
  | none => none
  | some (a1, a2, a3, a4, a5, a6, a7, a8, a9, a10, a11) => f a1 a2 a3 a4 a5 a6 a7 a8 a9 a10 a11
theorem bk11_e {R A1 A2 A3 A4 A5 A6 A7 A8 A9 A10 A11 : Type} {o : Option (A1 × A2 × A3 × A4 × A5 × A6 × A7 × A8 × A9 × A10 × A11)} {f : A1 → A2 → A3 → A4 → A5 → A6 → A7 → A8 → A9 → A10 → A11 → Option R} {r : R} (h : bk11 o f = some r) : ∃ a1 a2 a3 a4 a5 a6 a7 a8 a9 a10 a11, o = some (a1, a2, a3, a4, a5, a6, a7, a8, a9, a10, a11) ∧ f a1 a2 a3 a4 a5 a6 a7 a8 a9 a10 a11 = some r := by
  cases o with
  | none => simp [bk11] at h
  | some x =>
    obtain ⟨a1, a2, a3, a4, a5, a6, a7, a8, a9, a10, a11⟩ := x
    exact ⟨a1, a2, a3, a4, a5, a6, a7, a8, a9, a10, a11, rfl, h⟩
def bk12 {R A1 A2 A3 A4 A5 A6 A7 A8 A9 A10 A11 A12 : Type} (o : Option (A1 × A2 × A3 × A4 × A5 × A6 × A7 × A8 × A9 × A10 × A11 × A12)) (f : A1 → A2 → A3 → A4 → A5 → A6 → A7 → A8 → A9 → A10 → A11 → A12 → Option R) : Option R := match o with
  | none => none
  | some (a1, a2, a3, a4, a5, a6, a7, a8, a9, a10, a11, a12) => f a1 a2 a3 a4 a5 a6 a7 a8 a9 a10 a11 a12
theorem bk12_e {R A1 A2 A3 A4 A5 A6 A7 A8 A9 A10 A11 A12 : Type} {o : Option (A1 × A2 × A3 × A4 × A5 × A6 × A7 × A8 × A9 × A10 × A11 × A12)} {f : A1 → A2 → A3 → A4 → A5 → A6 → A7 → A8 → A9 → A10 → A11 → A12 → Option R} {r : R} (h : bk12 o f = some r) : ∃ a1 a2 a3 a4 a5 a6 a7 a8 a9 a10 a11 a12, o = some (a1, a2, a3, a4, a5, a6, a7, a8, a9, a10, a11, a12) ∧ f a1 a2 a3 a4 a5 a6 a7 a8 a9 a10 a11 a12 = some r := by
  cases o with
  | none => simp [bk12] at h
  | some x =>
    obtain ⟨a1, a2, a3, a4, a5, a6, a7, a8, a9, a10, a11, a12⟩ := x
    exact ⟨a1, a2, a3, a4, a5, a6, a7, a8, a9, a10, a11, a12, rfl, h⟩
def bk13 {R A1 A2 A3 A4 A5 A6 A7 A8 A9 A10 A11 A12 A13 : Type} (o : Option (A1 × A2 × A3 × A4 × A5 × A6 × A7 × A8 × A9 × A10 × A11 × A12 × A13)) (f : A1 → A2 → A3 → A4 → A5 → A6 → A7 → A8 → A9 → A10 → A11 → A12 → A13 → Option R) : Option R := match o with
  | none => none
  | some (a1, a2, a3, a4, a5, a6, a7, a8, a9, a10, a11, a12, a13) => f a1 a2 a3 a4 a5 a6 a7 a8 a9 a10 a11 a12 a13
theorem bk13_e {R A1 A2 A3 A4 A5 A6 A7 A8 A9 A10 A11 A12 A13 : Type} {o : Option (A1 × A2 × A3 × A4 × A5 × A6 × A7 × A8 × A9 × A10 × A11 × A12 × A13)} {f : A1 → A2 → A3 → A4 → A5 → A6 → A7 → A8 → A9 → A10 → A11 → A12 → A13 → Option R} {r : R} (h : bk13 o f = some r) : ∃ a1 a2 a3 a4 a5 a6 a7 a8 a9 a10 a11 a12 a13, o = some (a1, a2, a3, a4, a5, a6, a7, a8, a9, a10, a11, a12, a13) ∧ f a1 a2 a3 a4 a5 a6 a7 a8 a9 a10 a11 a12 a13 = some r := by
  cases o with
  | none => simp [bk13] at h
  | some x =>
    obtain ⟨a1, a2, a3, a4, a5, a6, a7, a8, a9, a10, a11, a12, a13⟩ := x
    exact ⟨a1, a2, a3, a4, a5, a6, a7, a8, a9, a10, a11, a12, a13, rfl, h⟩
def bk14 {R A1 A2 A3 A4 A5 A6 A7 A8 A9 A10 A11 A12 A13 A14 : Type} (o : Option (A1 × A2 × A3 × A4 × A5 × A6 × A7 × A8 × A9 × A10 × A11 × A12 × A13 × A14)) (f : A1 → A2 → A3 → A4 → A5 → A6 → A7 → A8 → A9 → A10 → A11 → A12 → A13 → A14 → Option R) : Option R := match o with
  | none => none
  | some (a1, a2, a3, a4, a5, a6, a7, a8, a9, a10, a11, a12, a13, a14) => f a1 a2 a3 a4 a5 a6 a7 a8 a9 a10 a11 a12 a13 a14
theorem bk14_e {R A1 A2 A3 A4 A5 A6 A7 A8 A9 A10 A11 A12 A13 A14 : Type} {o : Option (A1 × A2 × A3 × A4 × A5 × A6 × A7 × A8 × A9 × A10 × A11 × A12 × A13 × A14)} {f : A1 → A2 → A3 → A4 → A5 → A6 → A7 → A8 → A9 → A10 → A11 → A12 → A13 → A14 → Option R} {r : R} (h : bk14 o f = some r) : ∃ a1 a2 a3 a4 a5 a6 a7 a8 a9 a10 a11 a12 a13 a14, o = some (a1, a2, a3, a4, a5, a6, a7, a8, a9, a10, a11, a12, a13, a14) ∧ f a1 a2 a3 a4 a5 a6 a7 a8 a9 a10 a11 a12 a13 a14 = some r := by
  cases o with
  | none => simp [bk14] at h
  | some x =>
    obtain ⟨a1, a2, a3, a4, a5, a6, a7, a8, a9, a10, a11, a12, a13, a14⟩ := x
    exact ⟨a1, a2, a3, a4, a5, a6, a7, a8, a9, a10, a11, a12, a13, a14, rfl, h⟩
def lo1 {R A1 : Type} (g : (A1 → Option R) → A1 → Option R) : Nat → A1 → Option R
  | 0 => fun _ => none
  | n + 1 => fun a1 => g (lo1 g n) a1
def lo2 {R A1 A2 : Type} (g : (A1 → A2 → Option R) → A1 → A2 → Option R) : Nat → A1 → A2 → Option R
  | 0 => fun _ _ => none
  | n + 1 => fun a1 a2 => g (lo2 g n) a1 a2
def lo3 {R A1 A2 A3 : Type} (g : (A1 → A2 → A3 → Option R) → A1 → A2 → A3 → Option R) : Nat → A1 → A2 → A3 → Option R
  | 0 => fun _ _ _ => none
  | n + 1 => fun a1 a2 a3 => g (lo3 g n) a1 a2 a3
def lo4 {R A1 A2 A3 A4 : Type} (g : (A1 → A2 → A3 → A4 → Option R) → A1 → A2 → A3 → A4 → Option R) : Nat → A1 → A2 → A3 → A4 → Option R
  | 0 => fun _ _ _ _ => none
  | n + 1 => fun a1 a2 a3 a4 => g (lo4 g n) a1 a2 a3 a4
def lo5 {R A1 A2 A3 A4 A5 : Type} (g : (A1 → A2 → A3 → A4 → A5 → Option R) → A1 → A2 → A3 → A4 → A5 → Option R) : Nat → A1 → A2 → A3 → A4 → A5 → Option R
  | 0 => fun _ _ _ _ _ => none
  | n + 1 => fun a1 a2 a3 a4 a5 => g (lo5 g n) a1 a2 a3 a4 a5
def lo6 {R A1 A2 A3 A4 A5 A6 : Type} (g : (A1 → A2 → A3 → A4 → A5 → A6 → Option R) → A1 → A2 → A3 → A4 → A5 → A6 → Option R) : Nat → A1 → A2 → A3 → A4 → A5 → A6 → Option R
  | 0 => fun _ _ _ _ _ _ => none
  | n + 1 => fun a1 a2 a3 a4 a5 a6 => g (lo6 g n) a1 a2 a3 a4 a5 a6
def lo7 {R A1 A2 A3 A4 A5 A6 A7 : Type} (g : (A1 → A2 → A3 → A4 → A5 → A6 → A7 → Option R) → A1 → A2 → A3 → A4 → A5 → A6 → A7 → Option R) : Nat → A1 → A2 → A3 → A4 → A5 → A6 → A7 → Option R
  | 0 => fun _ _ _ _ _ _ _ => none
  | n + 1 => fun a1 a2 a3 a4 a5 a6 a7 => g (lo7 g n) a1 a2 a3 a4 a5 a6 a7
def lo8 {R A1 A2 A3 A4 A5 A6 A7 A8 : Type} (g : (A1 → A2 → A3 → A4 → A5 → A6 → A7 → A8 → Option R) → A1 → A2 → A3 → A4 → A5 → A6 → A7 → A8 → Option R) : Nat → A1 → A2 → A3 → A4 → A5 → A6 → A7 → A8 → Option R
  | 0 => fun _ _ _ _ _ _ _ _ => none
  | n + 1 => fun a1 a2 a3 a4 a5 a6 a7 a8 => g (lo8 g n) a1 a2 a3 a4 a5 a6 a7 a8
def lo9 {R A1 A2 A3 A4 A5 A6 A7 A8 A9 : Type} (g : (A1 → A2 → A3 → A4 → A5 → A6 → A7 → A8 → A9 → Option R) → A1 → A2 → A3 → A4 → A5 → A6 → A7 → A8 → A9 → Option R) : Nat → A1 → A2 → A3 → A4 → A5 → A6 → A7 → A8 → A9 → Option R
  | 0 => fun _ _ _ _ _ _ _ _ _ => none
  | n + 1 => fun a1 a2 a3 a4 a5 a6 a7 a8 a9 => g (lo9 g n) a1 a2 a3 a4 a5 a6 a7 a8 a9
def lo10 {R A1 A2 A3 A4 A5 A6 A7 A8 A9 A10 : Type} (g : (A1 → A2 → A3 → A4 → A5 → A6 → A7 → A8 → A9 → A10 → Option R) → A1 → A2 → A3 → A4 → A5 → A6 → A7 → A8 → A9 → A10 → Option R) : Nat → A1 → A2 → A3 → A4 → A5 → A6 → A7 → A8 → A9 → A10 → Option R
  | 0 => fun _ _ _ _ _ _ _ _ _ _ => none
  | n + 1 => fun a1 a2 a3 a4 a5 a6 a7 a8 a9 a10 => g (lo10 g n) a1 a2 a3 a4 a5 a6 a7 a8 a9 a10
def lo11 {R A1 A2 A3 A4 A5 A6 A7 A8 A9 A10 A11 : Type} (g : (A1 → A2 → A3 → A4 → A5 → A6 → A7 → A8 → A9 → A10 → A11 → Option R) → A1 → A2 → A3 → A4 → A5 → A6 → A7 → A8 → A9 → A10 → A11 → Option R) : Nat → A1 → A2 → A3 → A4 → A5 → A6 → A7 → A8 → A9 → A10 → A11 → Option R
  | 0 => fun _ _ _ _ _ _ _ _ _ _ _ => none
  | n + 1 => fun a1 a2 a3 a4 a5 a6 a7 a8 a9 a10 a11 => g (lo11 g n) a1 a2 a3 a4 a5 a6 a7 a8 a9 a10 a11
def lo12 {R A1 A2 A3 A4 A5 A6 A7 A8 A9 A10 A11 A12 : Type} (g : (A1 → A2 → A3 → A4 → A5 → A6 → A7 → A8 → A9 → A10 → A11 → A12 → Option R) → A1 → A2 → A3 → A4 → A5 → A6 → A7 → A8 → A9 → A10 → A11 → A12 → Option R) : Nat → A1 → A2 → A3 → A4 → A5 → A6 → A7 → A8 → A9 → A10 → A11 → A12 → Option R
  | 0 => fun _ _ _ _ _ _ _ _ _ _ _ _ => none
  | n + 1 => fun a1 a2 a3 a4 a5 a6 a7 a8 a9 a10 a11 a12 => g (lo12 g n) a1 a2 a3 a4 a5 a6 a7 a8 a9 a10 a11 a12
def lo13 {R A1 A2 A3 A4 A5 A6 A7 A8 A9 A10 A11 A12 A13 : Type} (g : (A1 → A2 → A3 → A4 → A5 → A6 → A7 → A8 → A9 → A10 → A11 → A12 → A13 → Option R) → A1 → A2 → A3 → A4 → A5 → A6 → A7 → A8 → A9 → A10 → A11 → A12 → A13 → Option R) : Nat → A1 → A2 → A3 → A4 → A5 → A6 → A7 → A8 → A9 → A10 → A11 → A12 → A13 → Option R
  | 0 => fun _ _ _ _ _ _ _ _ _ _ _ _ _ => none
  | n + 1 => fun a1 a2 a3 a4 a5 a6 a7 a8 a9 a10 a11 a12 a13 => g (lo13 g n) a1 a2 a3 a4 a5 a6 a7 a8 a9 a10 a11 a12 a13
def lo14 {R A1 A2 A3 A4 A5 A6 A7 A8 A9 A10 A11 A12 A13 A14 : Type} (g : (A1 → A2 → A3 → A4 → A5 → A6 → A7 → A8 → A9 → A10 → A11 → A12 → A13 → A14 → Option R) → A1 → A2 → A3 → A4 → A5 → A6 → A7 → A8 → A9 → A10 → A11 → A12 → A13 → A14 → Option R) : Nat → A1 → A2 → A3 → A4 → A5 → A6 → A7 → A8 → A9 → A10 → A11 → A12 → A13 → A14 → Option R
  | 0 => fun _ _ _ _ _ _ _ _ _ _ _ _ _ _ => none
  | n + 1 => fun a1 a2 a3 a4 a5 a6 a7 a8 a9 a10 a11 a12 a13 a14 => g (lo14 g n) a1 a2 a3 a4 a5 a6 a7 a8 a9 a10 a11 a12 a13 a14
def lo15 {R A1 A2 A3 A4 A5 A6 A7 A8 A9 A10 A11 A12 A13 A14 A15 : Type} (g : (A1 → A2 → A3 → A4 → A5 → A6 → A7 → A8 → A9 → A10 → A11 → A12 → A13 → A14 → A15 → Option R) → A1 → A2 → A3 → A4 → A5 → A6 → A7 → A8 → A9 → A10 → A11 → A12 → A13 → A14 → A15 → Option R) : Nat → A1 → A2 → A3 → A4 → A5 → A6 → A7 → A8 → A9 → A10 → A11 → A12 → A13 → A14 → A15 → Option R
  | 0 => fun _ _ _ _ _ _ _ _ _ _ _ _ _ _ _ => none
  | n + 1 => fun a1 a2 a3 a4 a5 a6 a7 a8 a9 a10 a11 a12 a13 a14 a15 => g (lo15 g n) a1 a2 a3 a4 a5 a6 a7 a8 a9 a10 a11 a12 a13 a14 a15
def lo16 {R A1 A2 A3 A4 A5 A6 A7 A8 A9 A10 A11 A12 A13 A14 A15 A16 : Type} (g : (A1 → A2 → A3 → A4 → A5 → A6 → A7 → A8 → A9 → A10 → A11 → A12 → A13 → A14 → A15 → A16 → Option R) → A1 → A2 → A3 → A4 → A5 → A6 → A7 → A8 → A9 → A10 → A11 → A12 → A13 → A14 → A15 → A16 → Option R) : Nat → A1 → A2 → A3 → A4 → A5 → A6 → A7 → A8 → A9 → A10 → A11 → A12 → A13 → A14 → A15 → A16 → Option R
  | 0 => fun _ _ _ _ _ _ _ _ _ _ _ _ _ _ _ _ => none
  | n + 1 => fun a1 a2 a3 a4 a5 a6 a7 a8 a9 a10 a11 a12 a13 a14 a15 a16 => g (lo16 g n) a1 a2 a3 a4 a5 a6 a7 a8 a9 a10 a11 a12 a13 a14 a15 a16
theorem bn_e {α β : Type} {a x : α} {f : α → Option β} {r : β} (e : x = a) (h : bn a f = some r) : f x = some r := by
  subst e
  exact h
theorem gd_e {α : Type} {b : Bool} {x : Option α} {r : α} (h : gd b x = some r) : b = true ∧ x = some r := by
  cases b with
  | true => exact ⟨rfl, h⟩
  | false => simp [gd] at h
theorem inb_e {i : Int32} {n : Nat} (h : inb i n = true) : vp_in i n := of_decide_eq_true (p := ¬ (i < 0 ∨ n ≤ i.toNatClampNeg)) h
theorem nz_eI {y : Int32} (h : nzI y = true) : ¬ y = 0 := of_decide_eq_true h
theorem nz_eL {y : Int64} (h : nzL y = true) : ¬ y = 0 := of_decide_eq_true h
theorem zb_e {v : Int32} (h : zb v = true) : narrow .boolean (.int v) = .int v := by
  rcases (of_decide_eq_true h : v = 0 ∨ v = 1) with rfl | rfl <;> rfl
theorem if_t {α : Type} {c : Prop} {h : Decidable c} {x y : Option α} {r : Option α} (hc : c) (hf : (if c then x else y) = r) : x = r := by
  rw [if_pos hc] at hf
  exact hf
theorem if_f {α : Type} {c : Prop} {h : Decidable c} {x y : Option α} {r : Option α} (hc : ¬ c) (hf : (if c then x else y) = r) : y = r := by
  rw [if_neg hc] at hf
  exact hf
/-! a grid: an array of references to n rows of k longs; its rows stand one behind another in the world -/
def gsL (n k : Nat) (cJ : ClassId) (ra : Nat → Nat) (M : Nat → Nat → Int64) : va_W := (List.range n).map (fun i => (ra i, .inl (cJ, k, .inr (.inl (M i)))))
/-! a method's contract in one shape: from the cells w0 it answers o and leaves w1 -/
def PW (D : va_G) (CL : List vw_C) (TY : List (ClassId × FieldType)) (ws : va_W) (sz : Nat) (U : State) : Prop := U.heap.size = sz ∧ va_P D CL ws U.heap ∧ va_K D CL TY U ∧ va_D (fun _ => True) ws
def Qg (D : va_G) (CL : List vw_C) (TY : List (ClassId × FieldType)) (o : Option Value) (w1 : va_W) (A : Nat → Prop) : Array Value → State → Outcome → State → Prop := fun _ st oc t => (oc = .returned o ∧ va_P D CL w1 t.heap ∧ va_K D CL TY t ∧ va_D A w1) ∧ va_F A st t
def MeG (l : Launch) (D : va_G) (CL : List vw_C) (TY : List (ClassId × FieldType)) (y : MethodName) (ws : List Cond) (rm : Room) (av : List Value) (w0 : va_W) (o : Option Value) (w1 : va_W) : Prop :=
  ∀ sz : Nat, Met l y ws rm (va_Pc av (PW D CL TY w0 sz)) (Qg D CL TY o w1 (va_A w0 sz)) 0 0 (va_A w0 sz)
/-- what holds all through a method's walk -/
def CX (p : Program) (R : Room) (s : State) (m : MethodId) (args : Array Value) (meth : Method) (c : Code) (cc : ByteArray) (nL : Nat) (own : String) (Ts : List Cond) (D : va_G) (CL : List vw_C) (TY : List (ClassId × FieldType)) (A : Nat → Prop) (fr lo : Nat) : Prop :=
  p.tables.exec = Jvm.exec ∧ c.code = cc ∧ c.maxLocals = nL ∧ s.vm.findClass own = some m.cls ∧ (∀ w ∈ Ts, w.before args s = true) ∧ va_K D CL TY s ∧ (∀ q, s.heap.size ≤ q → A q) ∧ fr ≤ R.frames ∧ lo ≤ R.locals ∧ meth.locks = false
theorem pw_blind {D : va_G} {CL : List vw_C} {TY : List (ClassId × FieldType)} {w0 : va_W} {sz : Nat} {av : List Value} : FrameBlind (va_Pc av (PW D CL TY w0 sz)) := by
  intro a U g mk q
  obtain ⟨q0, q1, qP, qK, qD⟩ := q
  exact ⟨q0, q1, qP, va_K.moved (u := U) (U := U.calling g mk a) (Vm.Alike.refl U.vm) qK, qD⟩
theorem inb_lt {i : Int32} {n : Nat} (h : inb i n = true) : i.toNatClampNeg < n := Nat.not_le.mp fun q => (of_decide_eq_true h) (Or.inr q)
theorem gs_len (n k : Nat) (cJ : ClassId) (ra : Nat → Nat) (M : Nat → Nat → Int64) : (gsL n k cJ ra M).length = n := by simp [gsL]
def wa (X Y : va_W) : va_W := X ++ Y
theorem wa_assoc (X Y Z : va_W) : wa (wa X Y) Z = wa X (wa Y Z) := List.append_assoc X Y Z
theorem wa_len (X Y : va_W) : (wa X Y).length = X.length + Y.length := List.length_append
theorem gg0 {X Y : va_W} {n k x i : Nat} {cJ : ClassId} {ra : Nat → Nat} {M : Nat → Nat → Int64} (hx : X.length = x) (hi : i < n) : (wa X (wa (gsL n k cJ ra M) Y))[x + i]? = some (ra i, .inl (cJ, k, .inr (.inl (M i)))) := by
  subst hx
  show (X ++ (gsL n k cJ ra M ++ Y))[X.length + i]? = _
  rw [List.getElem?_append_right (Nat.le_add_right _ _), Nat.add_sub_cancel_left, List.getElem?_append_left (by rw [gs_len]; exact hi)]
  simp [gsL, hi]
theorem gs_set {n k i : Nat} {cJ : ClassId} {ra : Nat → Nat} {M : Nat → Nat → Int64} {f : Nat → Int64} : (gsL n k cJ ra M).set i (ra i, .inl (cJ, k, .inr (.inl f))) = gsL n k cJ ra (stGL M i f) := by
  apply List.ext_getElem?
  intro j
  rw [List.getElem?_set]
  by_cases hij : i = j
  · subst hij
    by_cases hl : i < n
    · simp [gsL, hl, stGL]
    · simp [gsL, hl]
  · rw [if_neg hij]
    simp only [gsL, List.getElem?_map]
    cases hr : (List.range n)[j]? with
    | none => rfl
    | some z =>
      have hz : z = j := by
        have h1 := List.getElem?_eq_some_iff.mp hr
        obtain ⟨h2, h3⟩ := h1
        rw [List.getElem_range] at h3
        exact h3.symm
      subst hz
      simp [stGL, Ne.symm hij]
theorem gt0 {X Y : va_W} {n k x i : Nat} {cJ : ClassId} {ra : Nat → Nat} {M : Nat → Nat → Int64} {f : Nat → Int64} (hx : X.length = x) (hi : i < n) : List.set (wa X (wa (gsL n k cJ ra M) Y)) (x + i) (ra i, .inl (cJ, k, .inr (.inl f))) = wa X (wa (gsL n k cJ ra (stGL M i f)) Y) := by
  subst hx
  show List.set (X ++ (gsL n k cJ ra M ++ Y)) _ _ = X ++ (gsL n k cJ ra (stGL M i f) ++ Y)
  rw [List.set_append_right _ _ (Nat.le_add_right _ _), Nat.add_sub_cancel_left, List.set_append_left _ _ (by rw [gs_len]; exact hi), gs_set]
theorem gg1 {X Y : va_W} {n k n1 k1 x i : Nat} {cJ c1 : ClassId} {ra r1 : Nat → Nat} {M M1 : Nat → Nat → Int64} (hx : X.length + n1 = x) (hi : i < n) : (wa X (wa (gsL n1 k1 c1 r1 M1) (wa (gsL n k cJ ra M) Y)))[x + i]? = some (ra i, .inl (cJ, k, .inr (.inl (M i)))) := by
  rw [← wa_assoc]
  exact gg0 (by rw [wa_len, gs_len]; exact hx) hi
theorem gt1 {X Y : va_W} {n k n1 k1 x i : Nat} {cJ c1 : ClassId} {ra r1 : Nat → Nat} {M M1 : Nat → Nat → Int64} {f : Nat → Int64} (hx : X.length + n1 = x) (hi : i < n) : List.set (wa X (wa (gsL n1 k1 c1 r1 M1) (wa (gsL n k cJ ra M) Y))) (x + i) (ra i, .inl (cJ, k, .inr (.inl f))) = wa X (wa (gsL n1 k1 c1 r1 M1) (wa (gsL n k cJ ra (stGL M i f)) Y)) := by
  rw [← wa_assoc, gt0 (by rw [wa_len, gs_len]; exact hx) hi, wa_assoc]
theorem gg2 {X Y : va_W} {n k n1 k1 n2 k2 x i : Nat} {cJ c1 c2 : ClassId} {ra r1 r2 : Nat → Nat} {M M1 M2 : Nat → Nat → Int64} (hx : X.length + n1 + n2 = x) (hi : i < n) : (wa X (wa (gsL n1 k1 c1 r1 M1) (wa (gsL n2 k2 c2 r2 M2) (wa (gsL n k cJ ra M) Y))))[x + i]? = some (ra i, .inl (cJ, k, .inr (.inl (M i)))) := by
  rw [← wa_assoc]
  exact gg1 (by rw [wa_len, gs_len]; exact hx) hi
theorem gt2 {X Y : va_W} {n k n1 k1 n2 k2 x i : Nat} {cJ c1 c2 : ClassId} {ra r1 r2 : Nat → Nat} {M M1 M2 : Nat → Nat → Int64} {f : Nat → Int64} (hx : X.length + n1 + n2 = x) (hi : i < n) : List.set (wa X (wa (gsL n1 k1 c1 r1 M1) (wa (gsL n2 k2 c2 r2 M2) (wa (gsL n k cJ ra M) Y)))) (x + i) (ra i, .inl (cJ, k, .inr (.inl f))) = wa X (wa (gsL n1 k1 c1 r1 M1) (wa (gsL n2 k2 c2 r2 M2) (wa (gsL n k cJ ra (stGL M i f)) Y))) := by
  rw [← wa_assoc, gt1 (by rw [wa_len, gs_len]; exact hx) hi, wa_assoc]
theorem pw_in {D : va_G} {CL : List vw_C} {TY : List (ClassId × FieldType)} {ws : va_W} {H : Heap} {U : State} (hU : U.heap = H) (hP : va_P D CL ws H) (hK : va_K D CL TY U) (hD : va_D (fun _ => True) ws) : PW D CL TY ws H.size U := ⟨by rw [hU], by rw [hU]; exact hP, hK, hD⟩
theorem pn_P {D : va_G} {CL : List vw_C} {H : Heap} : va_P D CL [] H := fun k q h => by simp at h
theorem pn_D {A : Nat → Prop} : va_D A [] := ⟨fun i j p q h => by simp at h, fun k q h => by simp at h⟩
theorem va_D.one {x : Nat × va_E} : va_D (fun _ => True) [x] := ⟨fun i j p q h h2 _ => by
  have h3 := (List.getElem?_eq_some_iff.mp h).1
  have h4 := (List.getElem?_eq_some_iff.mp h2).1
  simp at h3 h4
  omega, fun k q h => trivial⟩
theorem cpok_e {sp dp n : Int32} {a b : Nat} (h : cpok sp dp n a b = true) : ¬ sp < 0 ∧ ¬ dp < 0 ∧ ¬ n < 0 ∧ sp.toNatClampNeg + n.toNatClampNeg ≤ a ∧ dp.toNatClampNeg + n.toNatClampNeg ≤ b := of_decide_eq_true h
theorem mapsome_fm {α β : Type} (f : α → Option β) : ∀ (is : List α) (w : List β), is.map f = w.map some → is.filterMap f = w
  | [], [], _ => rfl
  | [], _ :: _, h => by cases h
  | _ :: _, [], h => by cases h
  | a :: is, b :: w, h => by
    rw [List.map_cons, List.map_cons] at h
    have h1 := (List.cons.inj h).1
    have h2 := (List.cons.inj h).2
    rw [List.filterMap_cons, h1, mapsome_fm f is w h2]
section CLGO
variable {p : Program} {l : Launch} {e : Env} {R : Room} {s : State} {m : MethodId} {args : Array Value} {below : List Frame} {meth : Method} {c : Code} {H : Heap} {locs : List Loc} {cells slots : Nat} {Q : State → Prop}
variable {pc : Nat} {ls : Array Slot} {rest st0 : List Value} {D : va_G} {CL : List vw_C} {TY : List (ClassId × FieldType)} {A : Nat → Prop} {W0 w0 w1 wr W1 : va_W} {o : Option Value} {av : Array Value}
theorem cl_go (hr : va_Run p l e R s m args below meth c H locs cells slots 0 0 (F0 m pc ls st0) rest (Qg D CL TY o w1 (va_A w0 H.size) av) (va_A w0 H.size))
    (hP : va_P D CL W0 H) (hD : va_D A W0) (hS : va_S A s.heap H locs) (hA : ∀ q, s.heap.size ≤ q → A q)
    (isC isR : List Nat) (hC : isC.map (fun i => W0[i]?) = w0.map some) (hR : isR.map (fun i => W0[i]?) = wr.map some) (hn : va_nd isR = true) (hdis : isR.all (fun i => !isC.contains i) = true)
    (ps : List Nat) (hps : ps.map (fun i => (wr ++ w1)[i]?) = W1.map some) (hpd : va_nd ps = true)
    (kk : ∀ (H1 : Heap) (locs1 : List Loc), va_P D CL W1 H1 → va_D A W1 → va_S A s.heap H1 locs1 → W p l e R s m args below meth c H1 locs1 cells slots Q (F0 m (pc + 3) ls (o.toList ++ rest))) :
    W p l e R s m args below meth c H locs cells slots Q (F0 m pc ls st0) := by
  intro T hT X
  have hF := va_free (wc := w0) hD hS hA isC hC
  obtain ⟨v, st₀, t, T', L, h0, X', hL, e1, e2, ⟨⟨hv, hb, hk1, hd⟩, hz, hk⟩, st⟩ := hr T hT X
  cases hv
  rw [h0] at hz hk
  have hk' : ∀ q : Nat, q < H.size → ¬ va_A w0 H.size q → T'.heap[q]? = H[q]? := fun q h1 h2 => by rw [e1]; exact hk q h1 h2
  have hb' : va_P D CL w1 T'.heap := by rw [e1]; exact hb
  have hdis' : ∀ i ∈ isR, i ∉ isC := fun i hi hc => by
    have h9 := List.all_eq_true.mp hdis i hi
    simp [hc] at h9
  obtain ⟨jP, jD⟩ := va_join hP hD isC isR hC hR hn hdis' hk' hF hb' hd
  obtain ⟨t2, a1, b1⟩ := kk T'.heap (locs ++ L) (jP.sub ps (mapsome_fm _ _ _ hps)) (jD.sub ps hpd hps)
    ⟨Nat.le_trans hS.1 (by rw [e1]; exact hz), fun q h1 h2 => by rw [e1, hk q (Nat.lt_of_lt_of_le h1 hS.1) (fun z => h2 (hF q z))]; exact hS.2.1 q h1 h2, fun q hq => by
      rcases List.mem_append.mp hq with h | h
      · exact hS.2.2 q h
      · exact hF _ (hL q h)⟩ T' rfl X'
  exact ⟨t2, st t2 a1, b1⟩
/-- a call that has no cells -/
theorem cl_nil (hr : va_Run p l e R s m args below meth c H locs cells slots 0 0 (F0 m pc ls st0) rest (Qg D CL TY o [] (va_A [] H.size) av) (va_A [] H.size))
    (hP : va_P D CL W0 H) (hD : va_D A W0) (hS : va_S A s.heap H locs) (hA : ∀ q, s.heap.size ≤ q → A q)
    (kk : ∀ (H1 : Heap) (locs1 : List Loc), va_P D CL W0 H1 → va_D A W0 → va_S A s.heap H1 locs1 → W p l e R s m args below meth c H1 locs1 cells slots Q (F0 m (pc + 3) ls (o.toList ++ rest))) :
    W p l e R s m args below meth c H locs cells slots Q (F0 m pc ls st0) := by
  intro T hT X
  have hF : ∀ z, va_A [] H.size z → A z := by
    intro z hz
    rcases hz with ⟨j, e9, hj⟩ | hz
    · simp at hj
    · exact hA z (Nat.le_trans hS.1 hz)
  obtain ⟨v, st₀, t, T', L, h0, X', hL, e1', e2, ⟨⟨hv, hb, hk1, hd⟩, hz, hkk⟩, st⟩ := hr T hT X
  cases hv
  rw [h0] at hz hkk
  have hP1 : va_P D CL W0 T'.heap := by
    intro j z hj
    refine (hP j z hj).kept ?_
    rw [e1']
    refine hkk z.1 (hP j z hj).lt ?_
    intro hz9
    rcases hz9 with ⟨i, e9, hi⟩ | hz9
    · simp at hi
    · have := (hP j z hj).lt
      omega
  obtain ⟨t2, a1, b1⟩ := kk T'.heap (locs ++ L) hP1 hD
    ⟨Nat.le_trans hS.1 (by rw [e1']; exact hz), fun q h1 h2 => by rw [e1', hkk q (Nat.lt_of_lt_of_le h1 hS.1) (fun z => h2 (hF q z))]; exact hS.2.1 q h1 h2, fun q hq => by
      rcases List.mem_append.mp hq with h | h
      · exact hS.2.2 q h
      · exact hF _ (hL q h)⟩ T' rfl X'
  exact ⟨t2, st t2 a1, b1⟩
/-- a call that has one cell for its world, at a known place of ours -/
theorem cl_one {k q : Nat} {e0 e1 : va_E} (hr : va_Run p l e R s m args below meth c H locs cells slots 0 0 (F0 m pc ls st0) rest (Qg D CL TY o [(q, e1)] (va_A [(q, e0)] H.size) av) (va_A [(q, e0)] H.size))
    (hP : va_P D CL W0 H) (hD : va_D A W0) (hS : va_S A s.heap H locs) (hA : ∀ q, s.heap.size ≤ q → A q) (hk : W0[k]? = some (q, e0)) (hW : W0.set k (q, e1) = W1)
    (kk : ∀ (H1 : Heap) (locs1 : List Loc), va_P D CL W1 H1 → va_D A W1 → va_S A s.heap H1 locs1 → W p l e R s m args below meth c H1 locs1 cells slots Q (F0 m (pc + 3) ls (o.toList ++ rest))) :
    W p l e R s m args below meth c H locs cells slots Q (F0 m pc ls st0) := by
  subst hW
  intro T hT X
  have hF : ∀ z, va_A [(q, e0)] H.size z → A z := by
    intro z hz
    rcases hz with ⟨j, e9, hj⟩ | hz
    · cases j with
      | zero =>
        have h9 : (q, e0) = (z, e9) := Option.some.inj hj
        have h10 : q = z := congrArg Prod.fst h9
        rw [← h10]
        exact hD.2 k _ hk
      | succ j => simp at hj
    · exact hA z (Nat.le_trans hS.1 hz)
  obtain ⟨v, st₀, t, T', L, h0, X', hL, e1', e2, ⟨⟨hv, hb, hk1, hd⟩, hz, hkk⟩, st⟩ := hr T hT X
  cases hv
  rw [h0] at hz hkk
  have hl := (List.getElem?_eq_some_iff.mp hk).1
  have hP1 : va_P D CL (W0.set k (q, e1)) T'.heap := by
    intro j z hj
    by_cases hjk : j = k
    · subst hjk
      rw [List.getElem?_set_self hl] at hj
      cases hj
      rw [e1']
      exact hb 0 _ rfl
    · rw [List.getElem?_set_ne (Ne.symm hjk)] at hj
      refine (hP j z hj).kept ?_
      rw [e1']
      refine hkk z.1 (hP j z hj).lt ?_
      intro hz9
      rcases hz9 with ⟨i, e9, hi⟩ | hz9
      · cases i with
        | zero =>
          have h9 : (q, e0) = (z.1, e9) := Option.some.inj hi
          exact hjk (hD.1 j k z (q, e0) hj hk (congrArg Prod.fst h9).symm)
        | succ i => simp at hi
      · have := (hP j z hj).lt
        omega
  obtain ⟨t2, a1, b1⟩ := kk T'.heap (locs ++ L) hP1 (hD.set hk)
    ⟨Nat.le_trans hS.1 (by rw [e1']; exact hz), fun q h1 h2 => by rw [e1', hkk q (Nat.lt_of_lt_of_le h1 hS.1) (fun z => h2 (hF q z))]; exact hS.2.1 q h1 h2, fun q hq => by
      rcases List.mem_append.mp hq with h | h
      · exact hS.2.2 q h
      · exact hF _ (hL q h)⟩ T' rfl X'
  exact ⟨t2, st t2 a1, b1⟩
/-- aaload of a grid's outer array -/
theorem ga_ld {cc : ByteArray} {a : Nat} (hexec : p.tables.exec = Jvm.exec) (hb : c.code = cc) (hK : va_K D CL TY s) (hP : va_P D CL W0 H) (q0 t0 : Nat) {cA : ClassId} {ty : FieldType} {n : Nat} {r : Nat → Nat} (ha : W0[q0]? = some (a, .inl (cA, n, .inr (.inr (.inr (.inr (fun i => some (r i)))))))) (ht : TY[t0]? = some (cA, .array ty)) {i : Int32} (hin : vp_in i n) (hdg : decode cc pc = .ok (.aaload, 1))
    (kk : W p l e R s m args below meth c H locs cells slots Q (F0 m (pc + 1) ls (.ref (r i.toNatClampNeg) :: rest))) : W p l e R s m args below meth c H locs cells slots Q (F0 m pc ls (.int i :: .ref a :: rest)) := by
  have hlt : i.toNatClampNeg < n := Nat.not_le.mp fun q => hin (Or.inr q)
  exact W.aald (v := .ref (r i.toNatClampNeg)) (ty := .array ty) hexec hb (hP q0 _ ha) ((hK.2 t0 _ ht).1 n (fun j => va_rf (some (r j)))) rfl (fun q => by cases q) (by show ¬ (i < 0 ∨ (arrV _ _ _).slots.size ≤ _); rw [arrV_size]; exact hin) (by show (arrV _ _ _).slots[_]? = _; rw [arrV_read _ _ hlt]; rfl) rfl rfl hdg kk
end CLGO

