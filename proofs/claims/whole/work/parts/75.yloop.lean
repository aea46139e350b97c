/-! ===== classes of loops as the model joins them; distances as the model keeps them ===== -/
def moN (s c : Int) : Nat → Int
  | 0 => 0
  | j + 1 => bOr (moN s c j) (if bAnd (bShr s j) 1 = 1 then bShl 1 (bXor j c) else 0)
theorem moN_w : ∀ s : Nat, s < 16 → ∀ c : Nat, c < 4 → bOr s (moN s c 4) = wlN s c 4 := by decide +kernel
def bitB (s : Int) (j : Nat) : Bool := decide (bAnd (bShr s j) 1 = 1)
def anyO (x y : Bool) (s : Int) : Nat → Bool
  | 0 => false
  | j + 1 => anyO x y s j || (bitB s j && oddB x y j)
theorem anyO_w : ∀ x y : Bool, ∀ s : Nat, s < 16 → bitB s 0 = true → ∀ c : Nat, c < 4 → anyO x y (wlN s c 4) 4 = (anyO x y s 4 || oddB x y c) ∧ bitB (wlN s c 4) 0 = true := by decide +kernel
theorem xor3 : ∀ x : Nat, x < 4 → ∀ y : Nat, y < 4 → ∀ z : Nat, z < 4 → bXor (bXor (x : Int) y) z = bXor (bXor (x : Int) z) y := by decide +kernel
/-- a set of classes holds an odd one when one of the loops is odd -/
theorem lp_odd {g κ : Nat → Int} (G : gOK g) {f : Int} : ∀ n : Nat, n ≤ nT g * 4 →
    (0 ≤ lpF (lab g κ) (crs g κ) g f n ∧ lpF (lab g κ) (crs g κ) g f n < 16) ∧ bitB (lpF (lab g κ) (crs g κ) g f n) 0 = true ∧
    anyO (decide (g 2 = 2)) (decide (g 4 = 2)) (lpF (lab g κ) (crs g κ) g f n) 4 = (List.range n).any (fun k => decide (lab g κ (k / 4) = f) && odd g (lcl (lab g κ) (crs g κ) g k)) := by
  intro n
  induction n with
  | zero =>
    intro _
    refine ⟨by unfold lpF; decide, by unfold lpF; decide, ?_⟩
    show anyO _ _ 1 4 = false
    cases decide (g 2 = 2) <;> cases decide (g 4 = 2) <;> decide
  | succ n ih =>
    intro hn
    obtain ⟨i1, i2, i3⟩ := ih (by omega)
    rw [List.range_succ, List.any_append, ← i3]
    by_cases q : lab g κ (n / 4) = f
    · rw [lpF_s rfl, if_pos q]
      have hc : 0 ≤ lcl (lab g κ) (crs g κ) g n ∧ lcl (lab g κ) (crs g κ) g n ≤ 3 := by
        unfold lcl
        split
        next h =>
          have hu := (nx_b G (t := ((n / 4 : Nat) : Int)) (d := ((n % 4 : Nat) : Int)) (by omega) (by have := (nT_b G).1; omega)).resolve_left (by unfold nxk at h; omega)
          have c1 := (lab_facts (κ := κ) G (t := n / 4) (by omega)).2.1
          have c2 := (lab_facts (κ := κ) G (t := (nxk g n).toNat) (by unfold nxk; have := (nT_b G).1; omega)).2.1
          exact bX_b (bX3 c1 sm_b) c2
        next => omega
      obtain ⟨a1, a2⟩ := anyO_w (decide (g 2 = 2)) (decide (g 4 = 2)) (lpF (lab g κ) (crs g κ) g f n).toNat (by omega) (by rw [Int.toNat_of_nonneg i1.1]; exact i2) (lcl (lab g κ) (crs g κ) g n).toNat (by omega)
      rw [Int.toNat_of_nonneg i1.1, Int.toNat_of_nonneg hc.1] at a1 a2
      refine ⟨wl_int i1 hc, a2, ?_⟩
      rw [a1]
      show (_ || odd g (lcl (lab g κ) (crs g κ) g n)) = (_ || ((decide (lab g κ (n / 4) = f) && odd g (lcl (lab g κ) (crs g κ) g n)) || false))
      rw [decide_eq_true q, Bool.true_and, Bool.or_false]
    · rw [lpF_s rfl, if_neg q]
      refine ⟨i1, i2, ?_⟩
      show _ = (_ || ((decide (lab g κ (n / 4) = f) && odd g (lcl (lab g κ) (crs g κ) g n)) || false))
      rw [decide_eq_false q, Bool.false_and, Bool.or_false, Bool.or_false]
/-- distances: the model's 1000000 stands for none -/
def dY (M : Mem) (t : Nat) : Int := if M 11 t = 1000000 then -4 else M 11 t
def lnY_ (M : Mem) (L : Nat → Int) : Prop := ∀ t : Nat, t < nT (gY M) → dY M t = L t
