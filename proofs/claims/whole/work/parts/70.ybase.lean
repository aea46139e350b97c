/-! ===== the model's rows ===== -/
def gY (M : Mem) : Nat → Int := fun i => match i with
  | 0 => M 0 0
  | 1 => M 0 1
  | 2 => M 0 5
  | 3 => M 0 6
  | 4 => M 0 7
  | _ => M 0 8
abbrev gyB (M : Mem) : Prop := gOK (gY M) ∧ M 0 2 = M 0 0 * M 0 1
def kiY (M : Mem) (κ : Nat → Int) : Prop := ∀ t : Nat, t < 144 → M 1 t = κ t
abbrev woY (M : Mem) : Prop := (∀ t : Nat, t < 144 → 0 ≤ M 1 t ∧ M 1 t ≤ 5) ∧ (∀ k : Nat, k < 6 → 0 ≤ M 2 k ∧ M 2 k ≤ 9)
def lbY (M : Mem) (L : Nat → Int) : Prop := ∀ t : Nat, t < nT (gY M) → M 5 t = L t
def layY (M : Mem) (g κ : Nat → Int) : Prop := ∀ t : Nat, t < nT g → M 5 t = lab g κ t ∧ M 6 t = crs g κ t ∧ M 7 t = dep g κ t
def RYs (M : Mem) (g : Nat → Int) (B : Mem) : Prop := ∀ t : Nat, t < nT g → M 5 t = B 0 t ∧ (0 ≤ B 0 t → M 6 t = B 1 t ∧ M 7 t = B 2 t)
def RYq (M : Mem) (g : Nat → Int) (B : Mem) : Prop := RYs M g B ∧ ∀ j : Nat, (j : Int) < B 4 0 → M 8 j = B 3 j
def preFy (f : Int) (M : Mem) (κ : Nat → Int) (B : Mem) : Prop := kiY M κ ∧ RYs M (gY M) B ∧ BG (gY M) κ B ∧ (0 ≤ f ∧ f < nT (gY M)) ∧ B 0 f.toNat < 0
def absY (M σ : Mem) : Prop := okS σ ∧ (gY M = gS σ ∧ M 0 2 = M 0 0 * M 0 1) ∧ kiY M (σ 1) ∧ (∀ k : Nat, k < 6 → M 2 k = σ 2 k) ∧ (M 0 9 = σ 0 6 ∧ ∀ j : Nat, (j : Int) < σ 0 6 → M 3 j = σ 3 j) ∧ (M 0 16 = σ 0 7 ∧ ∀ i : Nat, (i : Int) < 144 * σ 0 7 → M 9 i = σ 4 i)
theorem gY_congr {M M' : Mem} (h : gyB M) (e : M' 0 = M 0) : gyB M' ∧ gY M' = gY M := by
  have eg : gY M' = gY M := by funext i; unfold gY; rw [e]
  refine ⟨⟨by rw [eg]; exact h.1, by rw [e]; exact h.2⟩, eg⟩
theorem gY_n {M : Mem} (h : gyB M) : M 0 2 = nT (gY M) ∧ 9 ≤ nT (gY M) ∧ nT (gY M) ≤ 144 := by
  obtain ⟨nE, n9, n144⟩ := nT_b h.1
  exact ⟨h.2.trans nE.symm, n9, n144⟩
