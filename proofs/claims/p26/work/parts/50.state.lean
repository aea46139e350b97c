/-! ===== texts, walks, kept maps: as functions ===== -/
/-- the first of n that is bad, or -1 -/
def ffF (bad : Nat → Bool) : Nat → Int
  | 0 => -1
  | n + 1 => if ffF bad n = -1 then (if bad n = true then (n : Int) else -1) else ffF bad n
def badT (a b : Int) (T : Nat → Int) (k : Nat) : Bool := decide (¬ ((k : Int) < b * (a + 1) - 1 ∧ (if (k : Int) % (a + 1) = a then T k = 47 else 48 ≤ T k ∧ T k ≤ 53)))
def ftF (a b : Int) (T : Nat → Int) (n : Int) : Int := if ffF (badT a b T) n.toNat = -1 then (if n < b * (a + 1) - 1 then n else -1) else ffF (badT a b T) n.toNat
def badW (T : Nat → Int) (k : Nat) : Bool := decide (T k ≠ 102 ∧ T k ≠ 114 ∧ T k ≠ 108)
/-- a walker: 0 tile, 1 heading, 2 side, 3 steps, 4 different tiles, 5 goes on, 6 and on: entered -/
def WR (M : Mem) (S : Nat → Int) : Prop := M 14 2 = S 0 ∧ M 14 3 = S 1 ∧ M 14 4 = S 2 ∧ M 14 5 = S 3 ∧ M 14 6 = S 4 ∧ ∀ t : Nat, t < 144 → M 15 t = S (6 + t)
def entW (S : Nat → Int) (t : Int) : Nat → Int := if S (6 + t.toNat) = 0 then upR (upR (upR S 0 t) (6 + t.toNat) 1) 4 (S 4 + 1) else upR S 0 t
def trn (r : Bool) (s h : Int) : Int := if r = decide (s = 0) then (if h = 3 then 0 else h + 1) else (if h = 0 then 3 else h - 1)
abbrev flp (g : Nat → Int) (t d : Int) : Prop := (sm g t d = 1 ∧ g 2 = 2) ∨ (sm g t d = 2 ∧ g 4 = 2)
def stW (g : Nat → Int) (c : Int) (S : Nat → Int) : Nat → Int :=
  if S 5 = 0 then S else if c = 102 then (if nx g (S 0) (S 1) < 0 then upR S 5 0 else entW (upR (upR S 2 (if flp g (S 0) (S 1) then 1 - S 2 else S 2)) 3 (S 3 + 1)) (nx g (S 0) (S 1))) else upR S 1 (trn (decide (c = 114)) (S 2) (S 1))
def wlk (g T : Nat → Int) (t h : Int) : Nat → Nat → Int
  | 0 => fun i => if i = 0 then t else if i = 1 then h else if i = 4 ∨ i = 5 ∨ i = 6 + t.toNat then 1 else 0
  | n + 1 => stW g (T n) (wlk g T t h n)
def wkb (g S : Nat → Int) (n : Int) : Prop := (0 ≤ S 0 ∧ S 0 < nT g) ∧ (0 ≤ S 1 ∧ S 1 < 4) ∧ (S 2 = 0 ∨ S 2 = 1) ∧ (0 ≤ S 3 ∧ S 3 ≤ n) ∧ (0 ≤ S 4 ∧ S 4 ≤ n + 1) ∧ (S 5 = 0 ∨ S 5 = 1)
def preWk (M : Mem) (S : Nat → Int) (n : Int) : Prop := WR M S ∧ wkb (gX M) S n ∧ S 5 = 1 ∧ n ≤ 160
/-- kept maps in the ring -/
def plc (o a : Int) : Int := if o + a < 12 then o + a else o + a - 12
def HR (M : Mem) (H : Nat → Int) (n : Int) : Prop := M 16 2 = n ∧ (0 ≤ n ∧ n ≤ 12) ∧ (0 ≤ M 16 1 ∧ M 16 1 < 12) ∧ ∀ j t : Nat, (j : Int) < n → t < 144 → M (18 + (plc (M 16 1) j).toNat) t = H (144 * j + t)
def kpH (H : Nat → Int) (n : Int) (K : Nat → Int) : Nat → Int := fun i => if n = 12 then (if i < 1584 then H (i + 144) else K (i - 1584)) else if (i : Int) < 144 * n then H i else K (i - (144 * n).toNat)
