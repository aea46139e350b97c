/-! ===== what is asked of the finished rows: L labels, C classes, Dp depths ===== -/
def kthF (L : Nat → Int) (k : Int) : Nat → Int
  | 0 => -5
  | n + 1 => if kthF L k n = -5 then (if L n = n ∧ cntS L n = k then (n : Int) else -5) else kthF L k n
def grF (P : Nat → Bool) (S : Nat → Int) : Nat → Int
  | 0 => -5
  | n + 1 => if P n = true ∧ (grF P S n = -5 ∨ S (grF P S n).toNat < S n) then (n : Int) else grF P S n
abbrev nxk (g : Nat → Int) (k : Nat) : Int := nx g ((k / 4 : Nat) : Int) ((k % 4 : Nat) : Int)
abbrev qO (L g : Nat → Int) (f : Int) (k : Nat) : Int := if L (k / 4) = f ∧ 0 ≤ nxk g k ∧ L (nxk g k).toNat ≠ f then 1 else 0
abbrev qN (L g : Nat → Int) (f : Int) (k : Nat) : Int := if L (k / 4) = f ∧ nxk g k < 0 then 1 else 0
/-- one more class in a set of classes -/
def wlN (s c : Int) : Nat → Int
  | 0 => s
  | j + 1 => if bAnd (bShr s j) 1 = 1 then bOr (wlN s c j) (bShl 1 (bXor j c)) else wlN s c j
/-- the class of the loop over one step -/
def lcl (L C g : Nat → Int) (k : Nat) : Int := if 0 ≤ nxk g k ∧ L (nxk g k).toNat = L (k / 4) then bXor (bXor (C (k / 4)) (sm g ((k / 4 : Nat) : Int) ((k % 4 : Nat) : Int))) (C (nxk g k).toNat) else 0
def lpF (L C g : Nat → Int) (f : Int) : Nat → Int
  | 0 => 1
  | k + 1 => if L (k / 4) = f then wlN (lpF L C g f k) (lcl L C g k) 4 else lpF L C g f k
/-- which parts have been met: row 0 how many, row 1 which -/
def bsF (L g : Nat → Int) (f : Int) : Nat → Mem
  | 0 => fun _ _ => 0
  | k + 1 => if L (k / 4) = f ∧ 0 ≤ nxk g k ∧ L (nxk g k).toNat ≠ f then (if bsF L g f k 1 (L (nxk g k).toNat).toNat = 0 then up (up (bsF L g f k) 0 0 (bsF L g f k 0 0 + 1)) 1 (L (nxk g k).toNat).toNat 1 else bsF L g f k) else bsF L g f k
def gdF (L Dp : Nat → Int) (f : Int) : Nat → Int
  | 0 => 0
  | n + 1 => if L n = f ∧ gdF L Dp f n < Dp n then Dp n else gdF L Dp f n
/-- is the class odd: over flipped seams an odd number of times -/
def oddB (x y : Bool) (c : Int) : Bool := ((decide (c = 1) || decide (c = 3)) && x) != ((decide (c = 2) || decide (c = 3)) && y)
def odd (g : Nat → Int) (c : Int) : Bool := oddB (decide (g 2 = 2)) (decide (g 4 = 2)) c
def phiB (x y : Bool) (c : Int) : Int := if c = 0 then 0 else if c = 3 then bXor (bif x then 5 else 1) (bif y then 6 else 2) else if c = 1 then (bif x then 5 else 1) else (bif y then 6 else 2)
theorem phiB_of {g : Nat → Int} {c : Int} (hc : 0 ≤ c ∧ c ≤ 3) : phi g c = phiB (decide (g 2 = 2)) (decide (g 4 = 2)) c := by
  have e1 : cxb g 1 = bif decide (g 2 = 2) then 5 else 1 := by
    rw [cxb1]; by_cases a : g 2 = 2
    · rw [if_pos a, decide_eq_true a]; rfl
    · rw [if_neg a, decide_eq_false a]; rfl
  have e2 : cxb g 2 = bif decide (g 4 = 2) then 6 else 2 := by
    rw [cxb2]; by_cases a : g 4 = 2
    · rw [if_pos a, decide_eq_true a]; rfl
    · rw [if_neg a, decide_eq_false a]; rfl
  unfold phi phiB
  rw [e1, e2]
  rcases (by omega : c = 0 ∨ c = 1 ∨ c = 2 ∨ c = 3) with rfl | rfl | rfl | rfl
  · rfl
  · rw [if_neg (by decide), if_neg (by decide), e1]; rfl
  · rw [if_neg (by decide), if_neg (by decide), e2]; rfl
  · rfl
theorem phiB_odd : ∀ x y : Bool, ∀ c : Nat, c < 4 → (bAnd (phiB x y c) 4 = 0 ↔ oddB x y c = false) ∧ bAnd (phiB x y c) 3 = c := by decide +kernel
theorem lab_le {g κ : Nat → Int} (G : gOK g) : ∀ i : Nat, i ≤ nT g → ∀ t : Nat, t < nT g → bly g κ i 0 t ≤ t := by
  intro i
  induction i with
  | zero => intro _ t _; show (-1 : Int) ≤ t; omega
  | succ i ih =>
    intro hi t tl
    obtain ⟨a1, a2⟩ := BG_ly (κ := κ) G i (by omega)
    unfold bly
    split
    next hu =>
      rcases bfl_lab (g := g) (κ := κ) (f := (i : Int)) (B := bly g κ i) 144 t with z | z
      · rw [z]; exact ih (by omega) t tl
      · by_cases q : t < i
        · obtain ⟨-, -, -, b4, -⟩ := BG_fl (f := (i : Int)) G a1 (by omega) (by simpa using hu)
          rw [b4 t tl (a2 t q)]
          exact ih (by omega) t tl
        · omega
    next hu => exact ih (by omega) t tl
theorem kth_at {L : Nat → Int} {k : Int} {t : Nat} (h : kthF L k t = -5) (h1 : L t = t) (h2 : cntS L t = k) : ∀ j : Nat, kthF L k (t + 1 + j) = t := by
  intro j
  induction j with
  | zero =>
    unfold kthF
    rw [if_pos h, if_pos ⟨h1, h2⟩]
  | succ j ih =>
    show (if kthF L k (t + 1 + j) = -5 then _ else kthF L k (t + 1 + j)) = _
    rw [ih, if_neg (by omega)]
theorem sumF_low {f : Nat → Int} {n : Nat} (h : ∀ j, j < n → f j = 0) : sumF f n = 0 := by
  rw [sumF_congr (h := fun _ => 0) h]
  exact sumF_0 (fun _ => rfl) n
theorem sumF_s {f : Nat → Int} {n m : Nat} (h : m = n + 1) : sumF f m = sumF f n + f n := by subst h; rfl
theorem odd_phi {g : Nat → Int} {c : Int} (hc : 0 ≤ c ∧ c ≤ 3) : (bAnd (phi g c) 4 = 0 ↔ odd g c = false) ∧ bAnd (phi g c) 3 = c := by
  have := phiB_odd (decide (g 2 = 2)) (decide (g 4 = 2)) c.toNat (by omega)
  rw [show ((c.toNat : Nat) : Int) = c by omega, ← phiB_of hc] at this
  exact this
theorem wlN_b : ∀ s : Nat, s < 16 → ∀ c : Nat, c < 4 → 0 ≤ wlN s c 4 ∧ wlN s c 4 < 16 := by decide +kernel
theorem wlN_0 : ∀ s : Nat, s < 16 → wlN s 0 4 = s := by decide +kernel
def labR (p : Nat) (M : Mem) (L : Nat → Int) : Prop := ∀ t : Nat, t < nT (gX M) → M (p + 1) t = L t
def crsR (p : Nat) (M : Mem) (C : Nat → Int) : Prop := ∀ t : Nat, t < nT (gX M) → M (p + 4) t = phi (gX M) (C t) ∧ 0 ≤ C t ∧ C t ≤ 3
abbrev lowL (p : Nat) (f : Int) (M : Mem) : Prop := (0 ≤ f ∧ f < nT (gX M)) ∧ ∀ t : Nat, (t : Int) < f → M (p + 1) t ≠ f
def propF (g κ : Nat → Int) (f w : Int) : Int := if w = 0 then κ f.toNat else if w = 1 then cntL (lab g κ) f (nT g) else if w = 2 then sumF (qO (lab g κ) g f) (nT g * 4) else if w = 3 then sumF (qN (lab g κ) g f) (nT g * 4) else if w = 4 then lpF (lab g κ) (crs g κ) g f (nT g * 4)
  else if w = 5 then (bif (List.range (nT g * 4)).any (fun k => decide (lab g κ (k / 4) = f) && odd g (lcl (lab g κ) (crs g κ) g k)) then 1 else 0) else if w = 6 then bsF (lab g κ) g f (nT g * 4) 0 0 else gdF (lab g κ) (dep g κ) f (nT g)
