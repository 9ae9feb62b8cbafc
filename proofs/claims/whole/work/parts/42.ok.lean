/-! a run that ends well: rules -/
def Ok {R : Type} (o : Option R) (Q : R → Prop) : Prop := ∃ r, o = some r ∧ Q r
theorem Ok_some {R : Type} {r : R} {Q : R → Prop} (h : Q r) : Ok (some r) Q := ⟨r, rfl, h⟩
theorem Ok_mono {R : Type} {o : Option R} {P Q : R → Prop} (h : Ok o P) (hq : ∀ r, P r → Q r) : Ok o Q := by
  obtain ⟨r, e, p⟩ := h
  exact ⟨r, e, hq r p⟩
theorem Ok_gd {R : Type} {b : Bool} {o : Option R} {Q : R → Prop} (hb : b = true) (h : Ok o Q) : Ok (gd b o) Q := by
  rw [hb]; exact h
theorem Ok_bk1 {R A1 : Type} {o : Option (A1)} {f : A1 → Option R} {P : (A1) → Prop} {Q : R → Prop} (h : Ok o P) (hf : ∀ r, P r → Ok (f r) Q) : Ok (bk1 o f) Q := by
  obtain ⟨r, e, p⟩ := h
  rw [e]
  exact hf r p
theorem Ok_bk2 {R A1 A2 : Type} {o : Option (A1 × A2)} {f : A1 → A2 → Option R} {P : (A1 × A2) → Prop} {Q : R → Prop} (h : Ok o P) (hf : ∀ r, P r → Ok (f (r.1) (r.2)) Q) : Ok (bk2 o f) Q := by
  obtain ⟨r, e, p⟩ := h
  rw [e]
  exact hf r p
theorem Ok_bk3 {R A1 A2 A3 : Type} {o : Option (A1 × A2 × A3)} {f : A1 → A2 → A3 → Option R} {P : (A1 × A2 × A3) → Prop} {Q : R → Prop} (h : Ok o P) (hf : ∀ r, P r → Ok (f (r.1) (r.2.1) (r.2.2)) Q) : Ok (bk3 o f) Q := by
  obtain ⟨r, e, p⟩ := h
  rw [e]
  exact hf r p
theorem Ok_bk4 {R A1 A2 A3 A4 : Type} {o : Option (A1 × A2 × A3 × A4)} {f : A1 → A2 → A3 → A4 → Option R} {P : (A1 × A2 × A3 × A4) → Prop} {Q : R → Prop} (h : Ok o P) (hf : ∀ r, P r → Ok (f (r.1) (r.2.1) (r.2.2.1) (r.2.2.2)) Q) : Ok (bk4 o f) Q := by
  obtain ⟨r, e, p⟩ := h
  rw [e]
  exact hf r p
theorem Ok_bk5 {R A1 A2 A3 A4 A5 : Type} {o : Option (A1 × A2 × A3 × A4 × A5)} {f : A1 → A2 → A3 → A4 → A5 → Option R} {P : (A1 × A2 × A3 × A4 × A5) → Prop} {Q : R → Prop} (h : Ok o P) (hf : ∀ r, P r → Ok (f (r.1) (r.2.1) (r.2.2.1) (r.2.2.2.1) (r.2.2.2.2)) Q) : Ok (bk5 o f) Q := by
  obtain ⟨r, e, p⟩ := h
  rw [e]
  exact hf r p
theorem Ok_bk6 {R A1 A2 A3 A4 A5 A6 : Type} {o : Option (A1 × A2 × A3 × A4 × A5 × A6)} {f : A1 → A2 → A3 → A4 → A5 → A6 → Option R} {P : (A1 × A2 × A3 × A4 × A5 × A6) → Prop} {Q : R → Prop} (h : Ok o P) (hf : ∀ r, P r → Ok (f (r.1) (r.2.1) (r.2.2.1) (r.2.2.2.1) (r.2.2.2.2.1) (r.2.2.2.2.2)) Q) : Ok (bk6 o f) Q := by
  obtain ⟨r, e, p⟩ := h
  rw [e]
  exact hf r p
theorem Ok_bk7 {R A1 A2 A3 A4 A5 A6 A7 : Type} {o : Option (A1 × A2 × A3 × A4 × A5 × A6 × A7)} {f : A1 → A2 → A3 → A4 → A5 → A6 → A7 → Option R} {P : (A1 × A2 × A3 × A4 × A5 × A6 × A7) → Prop} {Q : R → Prop} (h : Ok o P) (hf : ∀ r, P r → Ok (f (r.1) (r.2.1) (r.2.2.1) (r.2.2.2.1) (r.2.2.2.2.1) (r.2.2.2.2.2.1) (r.2.2.2.2.2.2)) Q) : Ok (bk7 o f) Q := by
  obtain ⟨r, e, p⟩ := h
  rw [e]
  exact hf r p
theorem Ok_bk8 {R A1 A2 A3 A4 A5 A6 A7 A8 : Type} {o : Option (A1 × A2 × A3 × A4 × A5 × A6 × A7 × A8)} {f : A1 → A2 → A3 → A4 → A5 → A6 → A7 → A8 → Option R} {P : (A1 × A2 × A3 × A4 × A5 × A6 × A7 × A8) → Prop} {Q : R → Prop} (h : Ok o P) (hf : ∀ r, P r → Ok (f (r.1) (r.2.1) (r.2.2.1) (r.2.2.2.1) (r.2.2.2.2.1) (r.2.2.2.2.2.1) (r.2.2.2.2.2.2.1) (r.2.2.2.2.2.2.2)) Q) : Ok (bk8 o f) Q := by
  obtain ⟨r, e, p⟩ := h
  rw [e]
  exact hf r p
theorem Ok_bk9 {R A1 A2 A3 A4 A5 A6 A7 A8 A9 : Type} {o : Option (A1 × A2 × A3 × A4 × A5 × A6 × A7 × A8 × A9)} {f : A1 → A2 → A3 → A4 → A5 → A6 → A7 → A8 → A9 → Option R} {P : (A1 × A2 × A3 × A4 × A5 × A6 × A7 × A8 × A9) → Prop} {Q : R → Prop} (h : Ok o P) (hf : ∀ r, P r → Ok (f (r.1) (r.2.1) (r.2.2.1) (r.2.2.2.1) (r.2.2.2.2.1) (r.2.2.2.2.2.1) (r.2.2.2.2.2.2.1) (r.2.2.2.2.2.2.2.1) (r.2.2.2.2.2.2.2.2)) Q) : Ok (bk9 o f) Q := by
  obtain ⟨r, e, p⟩ := h
  rw [e]
  exact hf r p
theorem Ok_bk10 {R A1 A2 A3 A4 A5 A6 A7 A8 A9 A10 : Type} {o : Option (A1 × A2 × A3 × A4 × A5 × A6 × A7 × A8 × A9 × A10)} {f : A1 → A2 → A3 → A4 → A5 → A6 → A7 → A8 → A9 → A10 → Option R} {P : (A1 × A2 × A3 × A4 × A5 × A6 × A7 × A8 × A9 × A10) → Prop} {Q : R → Prop} (h : Ok o P) (hf : ∀ r, P r → Ok (f (r.1) (r.2.1) (r.2.2.1) (r.2.2.2.1) (r.2.2.2.2.1) (r.2.2.2.2.2.1) (r.2.2.2.2.2.2.1) (r.2.2.2.2.2.2.2.1) (r.2.2.2.2.2.2.2.2.1) (r.2.2.2.2.2.2.2.2.2)) Q) : Ok (bk10 o f) Q := by
  obtain ⟨r, e, p⟩ := h
  rw [e]
  exact hf r p
theorem Ok_bk11 {R A1 A2 A3 A4 A5 A6 A7 A8 A9 A10 A11 : Type} {o : Option (A1 × A2 × A3 × A4 × A5 × A6 × A7 × A8 × A9 × A10 × A11)} {f : A1 → A2 → A3 → A4 → A5 → A6 → A7 → A8 → A9 → A10 → A11 → Option R} {P : (A1 × A2 × A3 × A4 × A5 × A6 × A7 × A8 × A9 × A10 × A11) → Prop} {Q : R → Prop} (h : Ok o P) (hf : ∀ r, P r → Ok (f (r.1) (r.2.1) (r.2.2.1) (r.2.2.2.1) (r.2.2.2.2.1) (r.2.2.2.2.2.1) (r.2.2.2.2.2.2.1) (r.2.2.2.2.2.2.2.1) (r.2.2.2.2.2.2.2.2.1) (r.2.2.2.2.2.2.2.2.2.1) (r.2.2.2.2.2.2.2.2.2.2)) Q) : Ok (bk11 o f) Q := by
  obtain ⟨r, e, p⟩ := h
  rw [e]
  exact hf r p
theorem Ok_bk12 {R A1 A2 A3 A4 A5 A6 A7 A8 A9 A10 A11 A12 : Type} {o : Option (A1 × A2 × A3 × A4 × A5 × A6 × A7 × A8 × A9 × A10 × A11 × A12)} {f : A1 → A2 → A3 → A4 → A5 → A6 → A7 → A8 → A9 → A10 → A11 → A12 → Option R} {P : (A1 × A2 × A3 × A4 × A5 × A6 × A7 × A8 × A9 × A10 × A11 × A12) → Prop} {Q : R → Prop} (h : Ok o P) (hf : ∀ r, P r → Ok (f (r.1) (r.2.1) (r.2.2.1) (r.2.2.2.1) (r.2.2.2.2.1) (r.2.2.2.2.2.1) (r.2.2.2.2.2.2.1) (r.2.2.2.2.2.2.2.1) (r.2.2.2.2.2.2.2.2.1) (r.2.2.2.2.2.2.2.2.2.1) (r.2.2.2.2.2.2.2.2.2.2.1) (r.2.2.2.2.2.2.2.2.2.2.2)) Q) : Ok (bk12 o f) Q := by
  obtain ⟨r, e, p⟩ := h
  rw [e]
  exact hf r p
theorem Ok_bk13 {R A1 A2 A3 A4 A5 A6 A7 A8 A9 A10 A11 A12 A13 : Type} {o : Option (A1 × A2 × A3 × A4 × A5 × A6 × A7 × A8 × A9 × A10 × A11 × A12 × A13)} {f : A1 → A2 → A3 → A4 → A5 → A6 → A7 → A8 → A9 → A10 → A11 → A12 → A13 → Option R} {P : (A1 × A2 × A3 × A4 × A5 × A6 × A7 × A8 × A9 × A10 × A11 × A12 × A13) → Prop} {Q : R → Prop} (h : Ok o P) (hf : ∀ r, P r → Ok (f (r.1) (r.2.1) (r.2.2.1) (r.2.2.2.1) (r.2.2.2.2.1) (r.2.2.2.2.2.1) (r.2.2.2.2.2.2.1) (r.2.2.2.2.2.2.2.1) (r.2.2.2.2.2.2.2.2.1) (r.2.2.2.2.2.2.2.2.2.1) (r.2.2.2.2.2.2.2.2.2.2.1) (r.2.2.2.2.2.2.2.2.2.2.2.1) (r.2.2.2.2.2.2.2.2.2.2.2.2)) Q) : Ok (bk13 o f) Q := by
  obtain ⟨r, e, p⟩ := h
  rw [e]
  exact hf r p
theorem Ok_bk14 {R A1 A2 A3 A4 A5 A6 A7 A8 A9 A10 A11 A12 A13 A14 : Type} {o : Option (A1 × A2 × A3 × A4 × A5 × A6 × A7 × A8 × A9 × A10 × A11 × A12 × A13 × A14)} {f : A1 → A2 → A3 → A4 → A5 → A6 → A7 → A8 → A9 → A10 → A11 → A12 → A13 → A14 → Option R} {P : (A1 × A2 × A3 × A4 × A5 × A6 × A7 × A8 × A9 × A10 × A11 × A12 × A13 × A14) → Prop} {Q : R → Prop} (h : Ok o P) (hf : ∀ r, P r → Ok (f (r.1) (r.2.1) (r.2.2.1) (r.2.2.2.1) (r.2.2.2.2.1) (r.2.2.2.2.2.1) (r.2.2.2.2.2.2.1) (r.2.2.2.2.2.2.2.1) (r.2.2.2.2.2.2.2.2.1) (r.2.2.2.2.2.2.2.2.2.1) (r.2.2.2.2.2.2.2.2.2.2.1) (r.2.2.2.2.2.2.2.2.2.2.2.1) (r.2.2.2.2.2.2.2.2.2.2.2.2.1) (r.2.2.2.2.2.2.2.2.2.2.2.2.2)) Q) : Ok (bk14 o f) Q := by
  obtain ⟨r, e, p⟩ := h
  rw [e]
  exact hf r p
theorem Ok_lo1 {R A1 : Type} {g : (A1 → Option R) → A1 → Option R} {Q : R → Prop} (I : Nat → A1 → Prop) (h : ∀ (kk : A1 → Option R) (d : Nat) (a1 : A1), I d a1 → (∀ (e : Nat) (b1 : A1), e < d → I e b1 → Ok (kk b1) Q) → Ok (g kk a1) Q) : ∀ (d f : Nat) (a1 : A1), d < f → I d a1 → Ok (lo1 g f a1) Q := by
  intro d f
  induction f generalizing d with
  | zero => intro a1 hd; omega
  | succ f ih => intro a1 hd hI; exact h (lo1 g f) d a1 hI (fun e b1 he hb => ih e b1 (by omega) hb)
theorem Ok_lo2 {R A1 A2 : Type} {g : (A1 → A2 → Option R) → A1 → A2 → Option R} {Q : R → Prop} (I : Nat → A1 → A2 → Prop) (h : ∀ (kk : A1 → A2 → Option R) (d : Nat) (a1 : A1) (a2 : A2), I d a1 a2 → (∀ (e : Nat) (b1 : A1) (b2 : A2), e < d → I e b1 b2 → Ok (kk b1 b2) Q) → Ok (g kk a1 a2) Q) : ∀ (d f : Nat) (a1 : A1) (a2 : A2), d < f → I d a1 a2 → Ok (lo2 g f a1 a2) Q := by
  intro d f
  induction f generalizing d with
  | zero => intro a1 a2 hd; omega
  | succ f ih => intro a1 a2 hd hI; exact h (lo2 g f) d a1 a2 hI (fun e b1 b2 he hb => ih e b1 b2 (by omega) hb)
theorem Ok_lo3 {R A1 A2 A3 : Type} {g : (A1 → A2 → A3 → Option R) → A1 → A2 → A3 → Option R} {Q : R → Prop} (I : Nat → A1 → A2 → A3 → Prop) (h : ∀ (kk : A1 → A2 → A3 → Option R) (d : Nat) (a1 : A1) (a2 : A2) (a3 : A3), I d a1 a2 a3 → (∀ (e : Nat) (b1 : A1) (b2 : A2) (b3 : A3), e < d → I e b1 b2 b3 → Ok (kk b1 b2 b3) Q) → Ok (g kk a1 a2 a3) Q) : ∀ (d f : Nat) (a1 : A1) (a2 : A2) (a3 : A3), d < f → I d a1 a2 a3 → Ok (lo3 g f a1 a2 a3) Q := by
  intro d f
  induction f generalizing d with
  | zero => intro a1 a2 a3 hd; omega
  | succ f ih => intro a1 a2 a3 hd hI; exact h (lo3 g f) d a1 a2 a3 hI (fun e b1 b2 b3 he hb => ih e b1 b2 b3 (by omega) hb)
theorem Ok_lo4 {R A1 A2 A3 A4 : Type} {g : (A1 → A2 → A3 → A4 → Option R) → A1 → A2 → A3 → A4 → Option R} {Q : R → Prop} (I : Nat → A1 → A2 → A3 → A4 → Prop) (h : ∀ (kk : A1 → A2 → A3 → A4 → Option R) (d : Nat) (a1 : A1) (a2 : A2) (a3 : A3) (a4 : A4), I d a1 a2 a3 a4 → (∀ (e : Nat) (b1 : A1) (b2 : A2) (b3 : A3) (b4 : A4), e < d → I e b1 b2 b3 b4 → Ok (kk b1 b2 b3 b4) Q) → Ok (g kk a1 a2 a3 a4) Q) : ∀ (d f : Nat) (a1 : A1) (a2 : A2) (a3 : A3) (a4 : A4), d < f → I d a1 a2 a3 a4 → Ok (lo4 g f a1 a2 a3 a4) Q := by
  intro d f
  induction f generalizing d with
  | zero => intro a1 a2 a3 a4 hd; omega
  | succ f ih => intro a1 a2 a3 a4 hd hI; exact h (lo4 g f) d a1 a2 a3 a4 hI (fun e b1 b2 b3 b4 he hb => ih e b1 b2 b3 b4 (by omega) hb)
theorem Ok_lo5 {R A1 A2 A3 A4 A5 : Type} {g : (A1 → A2 → A3 → A4 → A5 → Option R) → A1 → A2 → A3 → A4 → A5 → Option R} {Q : R → Prop} (I : Nat → A1 → A2 → A3 → A4 → A5 → Prop) (h : ∀ (kk : A1 → A2 → A3 → A4 → A5 → Option R) (d : Nat) (a1 : A1) (a2 : A2) (a3 : A3) (a4 : A4) (a5 : A5), I d a1 a2 a3 a4 a5 → (∀ (e : Nat) (b1 : A1) (b2 : A2) (b3 : A3) (b4 : A4) (b5 : A5), e < d → I e b1 b2 b3 b4 b5 → Ok (kk b1 b2 b3 b4 b5) Q) → Ok (g kk a1 a2 a3 a4 a5) Q) : ∀ (d f : Nat) (a1 : A1) (a2 : A2) (a3 : A3) (a4 : A4) (a5 : A5), d < f → I d a1 a2 a3 a4 a5 → Ok (lo5 g f a1 a2 a3 a4 a5) Q := by
  intro d f
  induction f generalizing d with
  | zero => intro a1 a2 a3 a4 a5 hd; omega
  | succ f ih => intro a1 a2 a3 a4 a5 hd hI; exact h (lo5 g f) d a1 a2 a3 a4 a5 hI (fun e b1 b2 b3 b4 b5 he hb => ih e b1 b2 b3 b4 b5 (by omega) hb)
theorem Ok_lo6 {R A1 A2 A3 A4 A5 A6 : Type} {g : (A1 → A2 → A3 → A4 → A5 → A6 → Option R) → A1 → A2 → A3 → A4 → A5 → A6 → Option R} {Q : R → Prop} (I : Nat → A1 → A2 → A3 → A4 → A5 → A6 → Prop) (h : ∀ (kk : A1 → A2 → A3 → A4 → A5 → A6 → Option R) (d : Nat) (a1 : A1) (a2 : A2) (a3 : A3) (a4 : A4) (a5 : A5) (a6 : A6), I d a1 a2 a3 a4 a5 a6 → (∀ (e : Nat) (b1 : A1) (b2 : A2) (b3 : A3) (b4 : A4) (b5 : A5) (b6 : A6), e < d → I e b1 b2 b3 b4 b5 b6 → Ok (kk b1 b2 b3 b4 b5 b6) Q) → Ok (g kk a1 a2 a3 a4 a5 a6) Q) : ∀ (d f : Nat) (a1 : A1) (a2 : A2) (a3 : A3) (a4 : A4) (a5 : A5) (a6 : A6), d < f → I d a1 a2 a3 a4 a5 a6 → Ok (lo6 g f a1 a2 a3 a4 a5 a6) Q := by
  intro d f
  induction f generalizing d with
  | zero => intro a1 a2 a3 a4 a5 a6 hd; omega
  | succ f ih => intro a1 a2 a3 a4 a5 a6 hd hI; exact h (lo6 g f) d a1 a2 a3 a4 a5 a6 hI (fun e b1 b2 b3 b4 b5 b6 he hb => ih e b1 b2 b3 b4 b5 b6 (by omega) hb)
theorem Ok_lo7 {R A1 A2 A3 A4 A5 A6 A7 : Type} {g : (A1 → A2 → A3 → A4 → A5 → A6 → A7 → Option R) → A1 → A2 → A3 → A4 → A5 → A6 → A7 → Option R} {Q : R → Prop} (I : Nat → A1 → A2 → A3 → A4 → A5 → A6 → A7 → Prop) (h : ∀ (kk : A1 → A2 → A3 → A4 → A5 → A6 → A7 → Option R) (d : Nat) (a1 : A1) (a2 : A2) (a3 : A3) (a4 : A4) (a5 : A5) (a6 : A6) (a7 : A7), I d a1 a2 a3 a4 a5 a6 a7 → (∀ (e : Nat) (b1 : A1) (b2 : A2) (b3 : A3) (b4 : A4) (b5 : A5) (b6 : A6) (b7 : A7), e < d → I e b1 b2 b3 b4 b5 b6 b7 → Ok (kk b1 b2 b3 b4 b5 b6 b7) Q) → Ok (g kk a1 a2 a3 a4 a5 a6 a7) Q) : ∀ (d f : Nat) (a1 : A1) (a2 : A2) (a3 : A3) (a4 : A4) (a5 : A5) (a6 : A6) (a7 : A7), d < f → I d a1 a2 a3 a4 a5 a6 a7 → Ok (lo7 g f a1 a2 a3 a4 a5 a6 a7) Q := by
  intro d f
  induction f generalizing d with
  | zero => intro a1 a2 a3 a4 a5 a6 a7 hd; omega
  | succ f ih => intro a1 a2 a3 a4 a5 a6 a7 hd hI; exact h (lo7 g f) d a1 a2 a3 a4 a5 a6 a7 hI (fun e b1 b2 b3 b4 b5 b6 b7 he hb => ih e b1 b2 b3 b4 b5 b6 b7 (by omega) hb)
theorem Ok_lo8 {R A1 A2 A3 A4 A5 A6 A7 A8 : Type} {g : (A1 → A2 → A3 → A4 → A5 → A6 → A7 → A8 → Option R) → A1 → A2 → A3 → A4 → A5 → A6 → A7 → A8 → Option R} {Q : R → Prop} (I : Nat → A1 → A2 → A3 → A4 → A5 → A6 → A7 → A8 → Prop) (h : ∀ (kk : A1 → A2 → A3 → A4 → A5 → A6 → A7 → A8 → Option R) (d : Nat) (a1 : A1) (a2 : A2) (a3 : A3) (a4 : A4) (a5 : A5) (a6 : A6) (a7 : A7) (a8 : A8), I d a1 a2 a3 a4 a5 a6 a7 a8 → (∀ (e : Nat) (b1 : A1) (b2 : A2) (b3 : A3) (b4 : A4) (b5 : A5) (b6 : A6) (b7 : A7) (b8 : A8), e < d → I e b1 b2 b3 b4 b5 b6 b7 b8 → Ok (kk b1 b2 b3 b4 b5 b6 b7 b8) Q) → Ok (g kk a1 a2 a3 a4 a5 a6 a7 a8) Q) : ∀ (d f : Nat) (a1 : A1) (a2 : A2) (a3 : A3) (a4 : A4) (a5 : A5) (a6 : A6) (a7 : A7) (a8 : A8), d < f → I d a1 a2 a3 a4 a5 a6 a7 a8 → Ok (lo8 g f a1 a2 a3 a4 a5 a6 a7 a8) Q := by
  intro d f
  induction f generalizing d with
  | zero => intro a1 a2 a3 a4 a5 a6 a7 a8 hd; omega
  | succ f ih => intro a1 a2 a3 a4 a5 a6 a7 a8 hd hI; exact h (lo8 g f) d a1 a2 a3 a4 a5 a6 a7 a8 hI (fun e b1 b2 b3 b4 b5 b6 b7 b8 he hb => ih e b1 b2 b3 b4 b5 b6 b7 b8 (by omega) hb)
theorem Ok_lo9 {R A1 A2 A3 A4 A5 A6 A7 A8 A9 : Type} {g : (A1 → A2 → A3 → A4 → A5 → A6 → A7 → A8 → A9 → Option R) → A1 → A2 → A3 → A4 → A5 → A6 → A7 → A8 → A9 → Option R} {Q : R → Prop} (I : Nat → A1 → A2 → A3 → A4 → A5 → A6 → A7 → A8 → A9 → Prop) (h : ∀ (kk : A1 → A2 → A3 → A4 → A5 → A6 → A7 → A8 → A9 → Option R) (d : Nat) (a1 : A1) (a2 : A2) (a3 : A3) (a4 : A4) (a5 : A5) (a6 : A6) (a7 : A7) (a8 : A8) (a9 : A9), I d a1 a2 a3 a4 a5 a6 a7 a8 a9 → (∀ (e : Nat) (b1 : A1) (b2 : A2) (b3 : A3) (b4 : A4) (b5 : A5) (b6 : A6) (b7 : A7) (b8 : A8) (b9 : A9), e < d → I e b1 b2 b3 b4 b5 b6 b7 b8 b9 → Ok (kk b1 b2 b3 b4 b5 b6 b7 b8 b9) Q) → Ok (g kk a1 a2 a3 a4 a5 a6 a7 a8 a9) Q) : ∀ (d f : Nat) (a1 : A1) (a2 : A2) (a3 : A3) (a4 : A4) (a5 : A5) (a6 : A6) (a7 : A7) (a8 : A8) (a9 : A9), d < f → I d a1 a2 a3 a4 a5 a6 a7 a8 a9 → Ok (lo9 g f a1 a2 a3 a4 a5 a6 a7 a8 a9) Q := by
  intro d f
  induction f generalizing d with
  | zero => intro a1 a2 a3 a4 a5 a6 a7 a8 a9 hd; omega
  | succ f ih => intro a1 a2 a3 a4 a5 a6 a7 a8 a9 hd hI; exact h (lo9 g f) d a1 a2 a3 a4 a5 a6 a7 a8 a9 hI (fun e b1 b2 b3 b4 b5 b6 b7 b8 b9 he hb => ih e b1 b2 b3 b4 b5 b6 b7 b8 b9 (by omega) hb)
theorem Ok_lo10 {R A1 A2 A3 A4 A5 A6 A7 A8 A9 A10 : Type} {g : (A1 → A2 → A3 → A4 → A5 → A6 → A7 → A8 → A9 → A10 → Option R) → A1 → A2 → A3 → A4 → A5 → A6 → A7 → A8 → A9 → A10 → Option R} {Q : R → Prop} (I : Nat → A1 → A2 → A3 → A4 → A5 → A6 → A7 → A8 → A9 → A10 → Prop) (h : ∀ (kk : A1 → A2 → A3 → A4 → A5 → A6 → A7 → A8 → A9 → A10 → Option R) (d : Nat) (a1 : A1) (a2 : A2) (a3 : A3) (a4 : A4) (a5 : A5) (a6 : A6) (a7 : A7) (a8 : A8) (a9 : A9) (a10 : A10), I d a1 a2 a3 a4 a5 a6 a7 a8 a9 a10 → (∀ (e : Nat) (b1 : A1) (b2 : A2) (b3 : A3) (b4 : A4) (b5 : A5) (b6 : A6) (b7 : A7) (b8 : A8) (b9 : A9) (b10 : A10), e < d → I e b1 b2 b3 b4 b5 b6 b7 b8 b9 b10 → Ok (kk b1 b2 b3 b4 b5 b6 b7 b8 b9 b10) Q) → Ok (g kk a1 a2 a3 a4 a5 a6 a7 a8 a9 a10) Q) : ∀ (d f : Nat) (a1 : A1) (a2 : A2) (a3 : A3) (a4 : A4) (a5 : A5) (a6 : A6) (a7 : A7) (a8 : A8) (a9 : A9) (a10 : A10), d < f → I d a1 a2 a3 a4 a5 a6 a7 a8 a9 a10 → Ok (lo10 g f a1 a2 a3 a4 a5 a6 a7 a8 a9 a10) Q := by
  intro d f
  induction f generalizing d with
  | zero => intro a1 a2 a3 a4 a5 a6 a7 a8 a9 a10 hd; omega
  | succ f ih => intro a1 a2 a3 a4 a5 a6 a7 a8 a9 a10 hd hI; exact h (lo10 g f) d a1 a2 a3 a4 a5 a6 a7 a8 a9 a10 hI (fun e b1 b2 b3 b4 b5 b6 b7 b8 b9 b10 he hb => ih e b1 b2 b3 b4 b5 b6 b7 b8 b9 b10 (by omega) hb)
theorem Ok_lo11 {R A1 A2 A3 A4 A5 A6 A7 A8 A9 A10 A11 : Type} {g : (A1 → A2 → A3 → A4 → A5 → A6 → A7 → A8 → A9 → A10 → A11 → Option R) → A1 → A2 → A3 → A4 → A5 → A6 → A7 → A8 → A9 → A10 → A11 → Option R} {Q : R → Prop} (I : Nat → A1 → A2 → A3 → A4 → A5 → A6 → A7 → A8 → A9 → A10 → A11 → Prop) (h : ∀ (kk : A1 → A2 → A3 → A4 → A5 → A6 → A7 → A8 → A9 → A10 → A11 → Option R) (d : Nat) (a1 : A1) (a2 : A2) (a3 : A3) (a4 : A4) (a5 : A5) (a6 : A6) (a7 : A7) (a8 : A8) (a9 : A9) (a10 : A10) (a11 : A11), I d a1 a2 a3 a4 a5 a6 a7 a8 a9 a10 a11 → (∀ (e : Nat) (b1 : A1) (b2 : A2) (b3 : A3) (b4 : A4) (b5 : A5) (b6 : A6) (b7 : A7) (b8 : A8) (b9 : A9) (b10 : A10) (b11 : A11), e < d → I e b1 b2 b3 b4 b5 b6 b7 b8 b9 b10 b11 → Ok (kk b1 b2 b3 b4 b5 b6 b7 b8 b9 b10 b11) Q) → Ok (g kk a1 a2 a3 a4 a5 a6 a7 a8 a9 a10 a11) Q) : ∀ (d f : Nat) (a1 : A1) (a2 : A2) (a3 : A3) (a4 : A4) (a5 : A5) (a6 : A6) (a7 : A7) (a8 : A8) (a9 : A9) (a10 : A10) (a11 : A11), d < f → I d a1 a2 a3 a4 a5 a6 a7 a8 a9 a10 a11 → Ok (lo11 g f a1 a2 a3 a4 a5 a6 a7 a8 a9 a10 a11) Q := by
  intro d f
  induction f generalizing d with
  | zero => intro a1 a2 a3 a4 a5 a6 a7 a8 a9 a10 a11 hd; omega
  | succ f ih => intro a1 a2 a3 a4 a5 a6 a7 a8 a9 a10 a11 hd hI; exact h (lo11 g f) d a1 a2 a3 a4 a5 a6 a7 a8 a9 a10 a11 hI (fun e b1 b2 b3 b4 b5 b6 b7 b8 b9 b10 b11 he hb => ih e b1 b2 b3 b4 b5 b6 b7 b8 b9 b10 b11 (by omega) hb)
theorem Ok_lo12 {R A1 A2 A3 A4 A5 A6 A7 A8 A9 A10 A11 A12 : Type} {g : (A1 → A2 → A3 → A4 → A5 → A6 → A7 → A8 → A9 → A10 → A11 → A12 → Option R) → A1 → A2 → A3 → A4 → A5 → A6 → A7 → A8 → A9 → A10 → A11 → A12 → Option R} {Q : R → Prop} (I : Nat → A1 → A2 → A3 → A4 → A5 → A6 → A7 → A8 → A9 → A10 → A11 → A12 → Prop) (h : ∀ (kk : A1 → A2 → A3 → A4 → A5 → A6 → A7 → A8 → A9 → A10 → A11 → A12 → Option R) (d : Nat) (a1 : A1) (a2 : A2) (a3 : A3) (a4 : A4) (a5 : A5) (a6 : A6) (a7 : A7) (a8 : A8) (a9 : A9) (a10 : A10) (a11 : A11) (a12 : A12), I d a1 a2 a3 a4 a5 a6 a7 a8 a9 a10 a11 a12 → (∀ (e : Nat) (b1 : A1) (b2 : A2) (b3 : A3) (b4 : A4) (b5 : A5) (b6 : A6) (b7 : A7) (b8 : A8) (b9 : A9) (b10 : A10) (b11 : A11) (b12 : A12), e < d → I e b1 b2 b3 b4 b5 b6 b7 b8 b9 b10 b11 b12 → Ok (kk b1 b2 b3 b4 b5 b6 b7 b8 b9 b10 b11 b12) Q) → Ok (g kk a1 a2 a3 a4 a5 a6 a7 a8 a9 a10 a11 a12) Q) : ∀ (d f : Nat) (a1 : A1) (a2 : A2) (a3 : A3) (a4 : A4) (a5 : A5) (a6 : A6) (a7 : A7) (a8 : A8) (a9 : A9) (a10 : A10) (a11 : A11) (a12 : A12), d < f → I d a1 a2 a3 a4 a5 a6 a7 a8 a9 a10 a11 a12 → Ok (lo12 g f a1 a2 a3 a4 a5 a6 a7 a8 a9 a10 a11 a12) Q := by
  intro d f
  induction f generalizing d with
  | zero => intro a1 a2 a3 a4 a5 a6 a7 a8 a9 a10 a11 a12 hd; omega
  | succ f ih => intro a1 a2 a3 a4 a5 a6 a7 a8 a9 a10 a11 a12 hd hI; exact h (lo12 g f) d a1 a2 a3 a4 a5 a6 a7 a8 a9 a10 a11 a12 hI (fun e b1 b2 b3 b4 b5 b6 b7 b8 b9 b10 b11 b12 he hb => ih e b1 b2 b3 b4 b5 b6 b7 b8 b9 b10 b11 b12 (by omega) hb)
theorem Ok_lo13 {R A1 A2 A3 A4 A5 A6 A7 A8 A9 A10 A11 A12 A13 : Type} {g : (A1 → A2 → A3 → A4 → A5 → A6 → A7 → A8 → A9 → A10 → A11 → A12 → A13 → Option R) → A1 → A2 → A3 → A4 → A5 → A6 → A7 → A8 → A9 → A10 → A11 → A12 → A13 → Option R} {Q : R → Prop} (I : Nat → A1 → A2 → A3 → A4 → A5 → A6 → A7 → A8 → A9 → A10 → A11 → A12 → A13 → Prop) (h : ∀ (kk : A1 → A2 → A3 → A4 → A5 → A6 → A7 → A8 → A9 → A10 → A11 → A12 → A13 → Option R) (d : Nat) (a1 : A1) (a2 : A2) (a3 : A3) (a4 : A4) (a5 : A5) (a6 : A6) (a7 : A7) (a8 : A8) (a9 : A9) (a10 : A10) (a11 : A11) (a12 : A12) (a13 : A13), I d a1 a2 a3 a4 a5 a6 a7 a8 a9 a10 a11 a12 a13 → (∀ (e : Nat) (b1 : A1) (b2 : A2) (b3 : A3) (b4 : A4) (b5 : A5) (b6 : A6) (b7 : A7) (b8 : A8) (b9 : A9) (b10 : A10) (b11 : A11) (b12 : A12) (b13 : A13), e < d → I e b1 b2 b3 b4 b5 b6 b7 b8 b9 b10 b11 b12 b13 → Ok (kk b1 b2 b3 b4 b5 b6 b7 b8 b9 b10 b11 b12 b13) Q) → Ok (g kk a1 a2 a3 a4 a5 a6 a7 a8 a9 a10 a11 a12 a13) Q) : ∀ (d f : Nat) (a1 : A1) (a2 : A2) (a3 : A3) (a4 : A4) (a5 : A5) (a6 : A6) (a7 : A7) (a8 : A8) (a9 : A9) (a10 : A10) (a11 : A11) (a12 : A12) (a13 : A13), d < f → I d a1 a2 a3 a4 a5 a6 a7 a8 a9 a10 a11 a12 a13 → Ok (lo13 g f a1 a2 a3 a4 a5 a6 a7 a8 a9 a10 a11 a12 a13) Q := by
  intro d f
  induction f generalizing d with
  | zero => intro a1 a2 a3 a4 a5 a6 a7 a8 a9 a10 a11 a12 a13 hd; omega
  | succ f ih => intro a1 a2 a3 a4 a5 a6 a7 a8 a9 a10 a11 a12 a13 hd hI; exact h (lo13 g f) d a1 a2 a3 a4 a5 a6 a7 a8 a9 a10 a11 a12 a13 hI (fun e b1 b2 b3 b4 b5 b6 b7 b8 b9 b10 b11 b12 b13 he hb => ih e b1 b2 b3 b4 b5 b6 b7 b8 b9 b10 b11 b12 b13 (by omega) hb)
theorem Ok_lo14 {R A1 A2 A3 A4 A5 A6 A7 A8 A9 A10 A11 A12 A13 A14 : Type} {g : (A1 → A2 → A3 → A4 → A5 → A6 → A7 → A8 → A9 → A10 → A11 → A12 → A13 → A14 → Option R) → A1 → A2 → A3 → A4 → A5 → A6 → A7 → A8 → A9 → A10 → A11 → A12 → A13 → A14 → Option R} {Q : R → Prop} (I : Nat → A1 → A2 → A3 → A4 → A5 → A6 → A7 → A8 → A9 → A10 → A11 → A12 → A13 → A14 → Prop) (h : ∀ (kk : A1 → A2 → A3 → A4 → A5 → A6 → A7 → A8 → A9 → A10 → A11 → A12 → A13 → A14 → Option R) (d : Nat) (a1 : A1) (a2 : A2) (a3 : A3) (a4 : A4) (a5 : A5) (a6 : A6) (a7 : A7) (a8 : A8) (a9 : A9) (a10 : A10) (a11 : A11) (a12 : A12) (a13 : A13) (a14 : A14), I d a1 a2 a3 a4 a5 a6 a7 a8 a9 a10 a11 a12 a13 a14 → (∀ (e : Nat) (b1 : A1) (b2 : A2) (b3 : A3) (b4 : A4) (b5 : A5) (b6 : A6) (b7 : A7) (b8 : A8) (b9 : A9) (b10 : A10) (b11 : A11) (b12 : A12) (b13 : A13) (b14 : A14), e < d → I e b1 b2 b3 b4 b5 b6 b7 b8 b9 b10 b11 b12 b13 b14 → Ok (kk b1 b2 b3 b4 b5 b6 b7 b8 b9 b10 b11 b12 b13 b14) Q) → Ok (g kk a1 a2 a3 a4 a5 a6 a7 a8 a9 a10 a11 a12 a13 a14) Q) : ∀ (d f : Nat) (a1 : A1) (a2 : A2) (a3 : A3) (a4 : A4) (a5 : A5) (a6 : A6) (a7 : A7) (a8 : A8) (a9 : A9) (a10 : A10) (a11 : A11) (a12 : A12) (a13 : A13) (a14 : A14), d < f → I d a1 a2 a3 a4 a5 a6 a7 a8 a9 a10 a11 a12 a13 a14 → Ok (lo14 g f a1 a2 a3 a4 a5 a6 a7 a8 a9 a10 a11 a12 a13 a14) Q := by
  intro d f
  induction f generalizing d with
  | zero => intro a1 a2 a3 a4 a5 a6 a7 a8 a9 a10 a11 a12 a13 a14 hd; omega
  | succ f ih => intro a1 a2 a3 a4 a5 a6 a7 a8 a9 a10 a11 a12 a13 a14 hd hI; exact h (lo14 g f) d a1 a2 a3 a4 a5 a6 a7 a8 a9 a10 a11 a12 a13 a14 hI (fun e b1 b2 b3 b4 b5 b6 b7 b8 b9 b10 b11 b12 b13 b14 he hb => ih e b1 b2 b3 b4 b5 b6 b7 b8 b9 b10 b11 b12 b13 b14 (by omega) hb)
theorem Ok_lo15 {R A1 A2 A3 A4 A5 A6 A7 A8 A9 A10 A11 A12 A13 A14 A15 : Type} {g : (A1 → A2 → A3 → A4 → A5 → A6 → A7 → A8 → A9 → A10 → A11 → A12 → A13 → A14 → A15 → Option R) → A1 → A2 → A3 → A4 → A5 → A6 → A7 → A8 → A9 → A10 → A11 → A12 → A13 → A14 → A15 → Option R} {Q : R → Prop} (I : Nat → A1 → A2 → A3 → A4 → A5 → A6 → A7 → A8 → A9 → A10 → A11 → A12 → A13 → A14 → A15 → Prop) (h : ∀ (kk : A1 → A2 → A3 → A4 → A5 → A6 → A7 → A8 → A9 → A10 → A11 → A12 → A13 → A14 → A15 → Option R) (d : Nat) (a1 : A1) (a2 : A2) (a3 : A3) (a4 : A4) (a5 : A5) (a6 : A6) (a7 : A7) (a8 : A8) (a9 : A9) (a10 : A10) (a11 : A11) (a12 : A12) (a13 : A13) (a14 : A14) (a15 : A15), I d a1 a2 a3 a4 a5 a6 a7 a8 a9 a10 a11 a12 a13 a14 a15 → (∀ (e : Nat) (b1 : A1) (b2 : A2) (b3 : A3) (b4 : A4) (b5 : A5) (b6 : A6) (b7 : A7) (b8 : A8) (b9 : A9) (b10 : A10) (b11 : A11) (b12 : A12) (b13 : A13) (b14 : A14) (b15 : A15), e < d → I e b1 b2 b3 b4 b5 b6 b7 b8 b9 b10 b11 b12 b13 b14 b15 → Ok (kk b1 b2 b3 b4 b5 b6 b7 b8 b9 b10 b11 b12 b13 b14 b15) Q) → Ok (g kk a1 a2 a3 a4 a5 a6 a7 a8 a9 a10 a11 a12 a13 a14 a15) Q) : ∀ (d f : Nat) (a1 : A1) (a2 : A2) (a3 : A3) (a4 : A4) (a5 : A5) (a6 : A6) (a7 : A7) (a8 : A8) (a9 : A9) (a10 : A10) (a11 : A11) (a12 : A12) (a13 : A13) (a14 : A14) (a15 : A15), d < f → I d a1 a2 a3 a4 a5 a6 a7 a8 a9 a10 a11 a12 a13 a14 a15 → Ok (lo15 g f a1 a2 a3 a4 a5 a6 a7 a8 a9 a10 a11 a12 a13 a14 a15) Q := by
  intro d f
  induction f generalizing d with
  | zero => intro a1 a2 a3 a4 a5 a6 a7 a8 a9 a10 a11 a12 a13 a14 a15 hd; omega
  | succ f ih => intro a1 a2 a3 a4 a5 a6 a7 a8 a9 a10 a11 a12 a13 a14 a15 hd hI; exact h (lo15 g f) d a1 a2 a3 a4 a5 a6 a7 a8 a9 a10 a11 a12 a13 a14 a15 hI (fun e b1 b2 b3 b4 b5 b6 b7 b8 b9 b10 b11 b12 b13 b14 b15 he hb => ih e b1 b2 b3 b4 b5 b6 b7 b8 b9 b10 b11 b12 b13 b14 b15 (by omega) hb)
theorem Ok_lo16 {R A1 A2 A3 A4 A5 A6 A7 A8 A9 A10 A11 A12 A13 A14 A15 A16 : Type} {g : (A1 → A2 → A3 → A4 → A5 → A6 → A7 → A8 → A9 → A10 → A11 → A12 → A13 → A14 → A15 → A16 → Option R) → A1 → A2 → A3 → A4 → A5 → A6 → A7 → A8 → A9 → A10 → A11 → A12 → A13 → A14 → A15 → A16 → Option R} {Q : R → Prop} (I : Nat → A1 → A2 → A3 → A4 → A5 → A6 → A7 → A8 → A9 → A10 → A11 → A12 → A13 → A14 → A15 → A16 → Prop) (h : ∀ (kk : A1 → A2 → A3 → A4 → A5 → A6 → A7 → A8 → A9 → A10 → A11 → A12 → A13 → A14 → A15 → A16 → Option R) (d : Nat) (a1 : A1) (a2 : A2) (a3 : A3) (a4 : A4) (a5 : A5) (a6 : A6) (a7 : A7) (a8 : A8) (a9 : A9) (a10 : A10) (a11 : A11) (a12 : A12) (a13 : A13) (a14 : A14) (a15 : A15) (a16 : A16), I d a1 a2 a3 a4 a5 a6 a7 a8 a9 a10 a11 a12 a13 a14 a15 a16 → (∀ (e : Nat) (b1 : A1) (b2 : A2) (b3 : A3) (b4 : A4) (b5 : A5) (b6 : A6) (b7 : A7) (b8 : A8) (b9 : A9) (b10 : A10) (b11 : A11) (b12 : A12) (b13 : A13) (b14 : A14) (b15 : A15) (b16 : A16), e < d → I e b1 b2 b3 b4 b5 b6 b7 b8 b9 b10 b11 b12 b13 b14 b15 b16 → Ok (kk b1 b2 b3 b4 b5 b6 b7 b8 b9 b10 b11 b12 b13 b14 b15 b16) Q) → Ok (g kk a1 a2 a3 a4 a5 a6 a7 a8 a9 a10 a11 a12 a13 a14 a15 a16) Q) : ∀ (d f : Nat) (a1 : A1) (a2 : A2) (a3 : A3) (a4 : A4) (a5 : A5) (a6 : A6) (a7 : A7) (a8 : A8) (a9 : A9) (a10 : A10) (a11 : A11) (a12 : A12) (a13 : A13) (a14 : A14) (a15 : A15) (a16 : A16), d < f → I d a1 a2 a3 a4 a5 a6 a7 a8 a9 a10 a11 a12 a13 a14 a15 a16 → Ok (lo16 g f a1 a2 a3 a4 a5 a6 a7 a8 a9 a10 a11 a12 a13 a14 a15 a16) Q := by
  intro d f
  induction f generalizing d with
  | zero => intro a1 a2 a3 a4 a5 a6 a7 a8 a9 a10 a11 a12 a13 a14 a15 a16 hd; omega
  | succ f ih => intro a1 a2 a3 a4 a5 a6 a7 a8 a9 a10 a11 a12 a13 a14 a15 a16 hd hI; exact h (lo16 g f) d a1 a2 a3 a4 a5 a6 a7 a8 a9 a10 a11 a12 a13 a14 a15 a16 hI (fun e b1 b2 b3 b4 b5 b6 b7 b8 b9 b10 b11 b12 b13 b14 b15 b16 he hb => ih e b1 b2 b3 b4 b5 b6 b7 b8 b9 b10 b11 b12 b13 b14 b15 b16 (by omega) hb)
