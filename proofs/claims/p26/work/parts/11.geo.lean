/-! ===== the map: g 0 columns, g 1 rows, g 2 and g 3 the side seam's kind and shift, g 4 and g 5 the end seam's ===== -/
abbrev gOK (g : Nat → Int) : Prop := (3 ≤ g 0 ∧ g 0 ≤ 12) ∧ (3 ≤ g 1 ∧ g 1 ≤ 12) ∧ (0 ≤ g 2 ∧ g 2 ≤ 2) ∧ (0 ≤ g 3 ∧ g 3 < g 1) ∧ (0 ≤ g 4 ∧ g 4 ≤ 2) ∧ 0 ≤ g 5 ∧ g 5 < g 0
def md (a b : Int) : Int := if a < 0 then a + b else if a < b then a else a - b
/-- the place along a seam: kind, shift, place, length, forward or back -/
def ac (k s a b : Int) (fwd : Bool) : Int := if k = 2 then md (s - a) b else if fwd = true then md (a + s) b else md (a - s) b
def nX (g : Nat → Int) (x y d : Int) : Int :=
  if d = 0 then (if x < g 0 - 1 then x + 1 else 0) else if d = 2 then (if 0 < x then x - 1 else g 0 - 1) else if d = 1 then (if y < g 1 - 1 then x else ac (g 4) (g 5) x (g 0) true) else (if 0 < y then x else ac (g 4) (g 5) x (g 0) false)
def nY (g : Nat → Int) (x y d : Int) : Int :=
  if d = 0 then (if x < g 0 - 1 then y else ac (g 2) (g 3) y (g 1) true) else if d = 2 then (if 0 < x then y else ac (g 2) (g 3) y (g 1) false) else if d = 1 then (if y < g 1 - 1 then y + 1 else 0) else (if 0 < y then y - 1 else g 1 - 1)
/-- which seam a step leads over -/
def sv (g : Nat → Int) (x y d : Int) : Int := if (d = 0 ∧ x = g 0 - 1) ∨ (d = 2 ∧ x = 0) then 1 else if (d = 1 ∧ y = g 1 - 1) ∨ (d = 3 ∧ y = 0) then 2 else 0
abbrev opn (g : Nat → Int) (x y d : Int) : Prop := ¬ (sv g x y d = 1 ∧ g 2 = 0) ∧ ¬ (sv g x y d = 2 ∧ g 4 = 0)
def nx (g : Nat → Int) (t d : Int) : Int := if opn g (t % g 0) (t / g 0) d then g 0 * nY g (t % g 0) (t / g 0) d + nX g (t % g 0) (t / g 0) d else -5
def sm (g : Nat → Int) (t d : Int) : Int := sv g (t % g 0) (t / g 0) d
def rev (d : Int) : Int := if d < 2 then d + 2 else d - 2
theorem idx_b {w h x y : Int} (h1 : 0 ≤ x) (h2 : x < w) (h3 : 0 ≤ y) (h4 : y < h) : 0 ≤ w * y + x ∧ w * y + x < w * h := by
  have e1 : 0 ≤ w * y := Int.mul_nonneg (by omega) h3
  have e2 : w * y ≤ w * (h - 1) := Int.mul_le_mul_of_nonneg_left (by omega) (by omega)
  rw [Int.mul_sub, Int.mul_one] at e2
  omega
theorem idx_x {w x y : Int} (h1 : 0 ≤ x) (h2 : x < w) : (w * y + x) % w = x := by
  rw [Int.add_comm, Int.add_mul_emod_self_left, Int.emod_eq_of_lt h1 h2]
theorem idx_y {w x y : Int} (h1 : 0 ≤ x) (h2 : x < w) : (w * y + x) / w = y := by
  rw [Int.add_comm, Int.add_mul_ediv_left _ _ (by omega), Int.ediv_eq_zero_of_lt h1 h2]; omega
theorem idx_t {w h t : Int} (hw : 0 < w) (h0 : 0 ≤ t) (h1 : t < w * h) : (0 ≤ t % w ∧ t % w < w) ∧ (0 ≤ t / w ∧ t / w < h) ∧ t = w * (t / w) + t % w :=
  ⟨⟨Int.emod_nonneg _ (by omega), Int.emod_lt_of_pos _ hw⟩, ⟨Int.ediv_nonneg h0 (by omega), Int.ediv_lt_of_lt_mul hw (by rw [Int.mul_comm]; exact h1)⟩, by have := Int.emod_add_mul_ediv t w; omega⟩
theorem ac_b {k s a b : Int} {f : Bool} (h0 : 0 ≤ a) (h1 : a < b) (h2 : 0 ≤ s) (h3 : s < b) : 0 ≤ ac k s a b f ∧ ac k s a b f < b := by
  unfold ac md
  split
  · split
    · omega
    · split <;> omega
  · split
    · split
      · omega
      · split <;> omega
    · split
      · omega
      · split <;> omega
theorem ac_inv {k s a b : Int} {f : Bool} (h0 : 0 ≤ a) (h1 : a < b) (h2 : 0 ≤ s) (h3 : s < b) : ac k s (ac k s a b f) b (!f) = a := by
  unfold ac md
  cases f
  · by_cases hk : k = 2
    · simp only [hk, if_true]
      split <;> split <;> (try split) <;> omega
    · simp only [hk, if_false, Bool.not_false, Bool.false_eq_true, if_true]
      split <;> split <;> (try split) <;> omega
  · by_cases hk : k = 2
    · simp only [hk, if_true]
      split <;> split <;> (try split) <;> omega
    · simp only [hk, if_false, Bool.not_true, Bool.false_eq_true, if_true]
      split <;> split <;> (try split) <;> omega
theorem md_mod {a b : Int} (h0 : -b ≤ a) (h1 : a < 2 * b) (h2 : 0 < b) : md a b = a % b := by
  unfold md
  split
  · rw [← Int.emod_eq_of_lt (a := a + b) (b := b) (by omega) (by omega), Int.add_emod_right]
  · split
    · rw [Int.emod_eq_of_lt (by omega) (by omega)]
    · rw [← Int.emod_eq_of_lt (a := a - b) (b := b) (by omega) (by omega), Int.sub_emod_right]
theorem n_b {g : Nat → Int} (G : gOK g) {x y d : Int} (hx : 0 ≤ x ∧ x < g 0) (hy : 0 ≤ y ∧ y < g 1) : (0 ≤ nX g x y d ∧ nX g x y d < g 0) ∧ (0 ≤ nY g x y d ∧ nY g x y d < g 1) := by
  obtain ⟨a1, a2, a3, a4, a5, a6⟩ := G
  have e1 := ac_b (k := g 4) (s := g 5) (a := x) (b := g 0) (f := true) hx.1 hx.2 a6.1 a6.2
  have e2 := ac_b (k := g 4) (s := g 5) (a := x) (b := g 0) (f := false) hx.1 hx.2 a6.1 a6.2
  have e3 := ac_b (k := g 2) (s := g 3) (a := y) (b := g 1) (f := true) hy.1 hy.2 a4.1 a4.2
  have e4 := ac_b (k := g 2) (s := g 3) (a := y) (b := g 1) (f := false) hy.1 hy.2 a4.1 a4.2
  unfold nX nY
  refine ⟨?_, ?_⟩ <;> split <;> (try split) <;> (try split) <;> (try split) <;> omega
theorem n_inv {g : Nat → Int} (G : gOK g) {x y d : Int} (hd : 0 ≤ d ∧ d < 4) (hx : 0 ≤ x ∧ x < g 0) (hy : 0 ≤ y ∧ y < g 1) :
    nX g (nX g x y d) (nY g x y d) (rev d) = x ∧ nY g (nX g x y d) (nY g x y d) (rev d) = y ∧ sv g (nX g x y d) (nY g x y d) (rev d) = sv g x y d := by
  obtain ⟨a1, a2, a3, a4, a5, a6⟩ := G
  have e1 := ac_b (k := g 4) (s := g 5) (a := x) (b := g 0) (f := true) hx.1 hx.2 a6.1 a6.2
  have e2 := ac_b (k := g 4) (s := g 5) (a := x) (b := g 0) (f := false) hx.1 hx.2 a6.1 a6.2
  have e3 := ac_b (k := g 2) (s := g 3) (a := y) (b := g 1) (f := true) hy.1 hy.2 a4.1 a4.2
  have e4 := ac_b (k := g 2) (s := g 3) (a := y) (b := g 1) (f := false) hy.1 hy.2 a4.1 a4.2
  have i1 := ac_inv (k := g 4) (s := g 5) (a := x) (b := g 0) (f := true) hx.1 hx.2 a6.1 a6.2
  have i2 := ac_inv (k := g 4) (s := g 5) (a := x) (b := g 0) (f := false) hx.1 hx.2 a6.1 a6.2
  have i3 := ac_inv (k := g 2) (s := g 3) (a := y) (b := g 1) (f := true) hy.1 hy.2 a4.1 a4.2
  have i4 := ac_inv (k := g 2) (s := g 3) (a := y) (b := g 1) (f := false) hy.1 hy.2 a4.1 a4.2
  rcases (by omega : d = 0 ∨ d = 1 ∨ d = 2 ∨ d = 3) with rfl | rfl | rfl | rfl
  · by_cases q : x < g 0 - 1
    · simp [nX, nY, sv, rev, q]; omega
    · simp [nX, nY, sv, rev, q] at i3 ⊢; omega
  · by_cases q : y < g 1 - 1
    · simp [nX, nY, sv, rev, q]; omega
    · simp [nX, nY, sv, rev, q] at i1 ⊢; omega
  · by_cases q : 0 < x
    · simp [nX, nY, sv, rev, q]; omega
    · simp [nX, nY, sv, rev, q] at i4 ⊢; omega
  · by_cases q : 0 < y
    · simp [nX, nY, sv, rev, q]; omega
    · simp [nX, nY, sv, rev, q] at i2 ⊢; omega
theorem nx_b {g : Nat → Int} (G : gOK g) {t d : Int} (h0 : 0 ≤ t) (h1 : t < g 0 * g 1) : nx g t d = -5 ∨ (0 ≤ nx g t d ∧ nx g t d < g 0 * g 1) := by
  obtain ⟨hx, hy, -⟩ := idx_t (by have := G.1; omega) h0 h1
  obtain ⟨b1, b2⟩ := n_b G (d := d) hx hy
  unfold nx
  split
  · exact Or.inr (idx_b b1.1 b1.2 b2.1 b2.2)
  · exact Or.inl rfl
theorem rev_b {d : Int} (hd : 0 ≤ d ∧ d < 4) : 0 ≤ rev d ∧ rev d < 4 ∧ rev (rev d) = d := by
  unfold rev
  split <;> split <;> omega
/-- a step back leads the same way -/
theorem nx_inv {g : Nat → Int} (G : gOK g) {t d : Int} (h0 : 0 ≤ t) (h1 : t < g 0 * g 1) (hd : 0 ≤ d ∧ d < 4) (hn : 0 ≤ nx g t d) : nx g (nx g t d) (rev d) = t ∧ sm g (nx g t d) (rev d) = sm g t d := by
  obtain ⟨hx, hy, ht⟩ := idx_t (by have := G.1; omega) h0 h1
  obtain ⟨b1, b2⟩ := n_b G (d := d) hx hy
  obtain ⟨i1, i2, i3⟩ := n_inv G hd hx hy
  have ho : opn g (t % g 0) (t / g 0) d := by
    unfold nx at hn
    split at hn
    · assumption
    · omega
  have e : nx g t d = g 0 * nY g (t % g 0) (t / g 0) d + nX g (t % g 0) (t / g 0) d := by unfold nx; rw [if_pos ho]
  rw [e]
  unfold nx sm
  rw [idx_x b1.1 b1.2, idx_y b1.1 b1.2, i1, i2]
  refine ⟨?_, i3⟩
  rw [if_pos]
  · omega
  · unfold opn at ho ⊢
    rw [i3]; exact ho
theorem sm_b {g : Nat → Int} {t d : Int} : sm g t d = 0 ∨ sm g t d = 1 ∨ sm g t d = 2 := by
  unfold sm sv
  split
  · exact Or.inr (Or.inl rfl)
  · split
    · exact Or.inr (Or.inr rfl)
    · exact Or.inl rfl
