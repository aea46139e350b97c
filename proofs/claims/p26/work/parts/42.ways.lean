/-! ===== the class's rows of distances ===== -/
abbrev wok (M : Mem) : Prop := (∀ t : Nat, t < 144 → 0 ≤ M 6 t ∧ M 6 t ≤ 5) ∧ (∀ k : Nat, k < 6 → 0 ≤ M 8 k ∧ M 8 k ≤ 9)
/-- the list of the tiles that are reached and not settled; k are settled -/
def OLp (M : Mem) (g : Nat → Int) (Sd : Nat → Prop) (k : Int) : Prop :=
  0 ≤ M 10 1 ∧ (∀ j : Nat, (j : Int) < M 10 1 → (0 ≤ M 11 j ∧ M 11 j < nT g) ∧ 0 ≤ M 9 (M 11 j).toNat ∧ ¬ Sd (M 11 j).toNat) ∧
  (∀ i j : Nat, (i : Int) < M 10 1 → (j : Int) < M 10 1 → M 11 i = M 11 j → i = j) ∧
  (∀ t : Nat, t < nT g → 0 ≤ M 9 t → ¬ Sd t → ∃ j : Nat, (j : Int) < M 10 1 ∧ M 11 j = t) ∧ k + M 10 1 = sumF (fun t => if 0 ≤ M 9 t then 1 else 0) (nT g)
def preW (t : Int) (M : Mem) (s : Nat) (Sd : Nat → Prop) (k B : Int) : Prop := (0 ≤ t ∧ t < nT (gX M)) ∧ DI (gX M) (M 6) (M 8) s (M 9) Sd t 0 B ∧ OLp M (gX M) Sd k ∧ M 9 t.toNat + 18 ≤ B ∧ B ≤ 10000 ∧ 0 ≤ k
def lenR (M : Mem) (L : Nat → Int) : Prop := ∀ t : Nat, t < nT (gX M) → M 9 t = L t
/-- the next tile of a route: the first of n directions in which a shortest way begins -/
def onw (g κ wt L : Nat → Int) (t : Int) : Nat → Int
  | 0 => t
  | n + 1 => if 0 < stl g κ wt t (3 - n) ∧ L (nx g t (3 - n)).toNat + stl g κ wt t (3 - n) = L t.toNat then nx g t (3 - n) else onw g κ wt L t n
def rgo (g κ wt L : Nat → Int) (o k : Int) : Nat → Int → Int → Int
  | 0, a, c => if k = -1 then c else if c = k then a else -5
  | n + 1, a, c => if a = o ∨ c = k then (if k = -1 then c else if c = k then a else -5) else rgo g κ wt L o k n (onw g κ wt L a 4) (c + 1)
def faF (L : Nat → Int) (s : Int) : Nat → Int
  | 0 => s
  | n + 1 => if L (faF L s n).toNat < L n then (n : Int) else faF L s n
def neF (L κ : Nat → Int) (k : Int) : Nat → Int
  | 0 => -5
  | n + 1 => if κ n = k ∧ L n ≠ -4 ∧ (neF L κ k n = -5 ∨ L n < L (neF L κ k n).toNat) then (n : Int) else neF L κ k n
