/-! ===== the tables of neighbours and of what a step crosses; sums over a count ===== -/
def sumF (f : Nat → Int) : Nat → Int
  | 0 => 0
  | n + 1 => sumF f n + f n
/-- the map's size and seams in the class's memory -/
def gX (M : Mem) : Nat → Int := fun i => match i with
  | 0 => M 1 4
  | 1 => M 1 5
  | 2 => M 2 0
  | 3 => M 2 1
  | 4 => M 3 0
  | _ => M 3 1
theorem gX_congr {M M' : Mem} (h1 : M' 1 = M 1) (h2 : M' 2 = M 2) (h3 : M' 3 = M 3) : gX M' = gX M := by
  funext i
  unfold gX
  rw [h1, h2, h3]
def cxb (g : Nat → Int) (s : Int) : Int := if s = 1 then (if g 2 = 2 then 5 else 1) else if s = 2 then (if g 4 = 2 then 6 else 2) else 0
/-- what a step crosses, with the bit of a flip -/
def cx (g : Nat → Int) (t d : Int) : Int := if nx g t d < 0 then 0 else cxb g (sm g t d)
def tab (g : Nat → Int) (M : Mem) : Prop := ∀ t d : Int, 0 ≤ t → t < g 0 * g 1 → 0 ≤ d → d < 4 → M 4 (t * 4 + d).toNat = nx g t d ∧ M 5 (t * 4 + d).toNat = cx g t d
def ent (g : Nat → Int) (S : Int → Int → Bool) (t d : Int) : Bool := if d < 2 then S t d else S (nx g t d) (rev d)
/-- the tables while they are laid: S tells which steps to the right and down have been joined -/
def tabS (g : Nat → Int) (S : Int → Int → Bool) (M : Mem) : Prop := ∀ t d : Int, 0 ≤ t → t < g 0 * g 1 → 0 ≤ d → d < 4 →
  M 4 (t * 4 + d).toNat = (if ent g S t d = true ∧ 0 ≤ nx g t d then nx g t d else -5) ∧ M 5 (t * 4 + d).toNat = (if ent g S t d = true ∧ 0 ≤ nx g t d then cxb g (sm g t d) else 0)
def Sin (g : Nat → Int) : Int → Int → Bool := fun t d => decide (sm g t d = 0)
def Ssd (g : Nat → Int) : Int → Int → Bool := fun t d => decide (sm g t d = 0 ∨ sm g t d = 1)
def addS (S : Int → Int → Bool) (t a : Int) : Int → Int → Bool := fun t' a' => S t' a' || decide (t' = t ∧ a' = a)
theorem tabS_congr {g : Nat → Int} (G : gOK g) {S S' : Int → Int → Bool} {M : Mem} (h : tabS g S M) (e : ∀ t a : Int, 0 ≤ t → t < g 0 * g 1 → (a = 0 ∨ a = 1) → 0 ≤ nx g t a → S' t a = S t a) : tabS g S' M := by
  intro t d h0 h1 h2 h3
  have key : (ent g S' t d = true ∧ 0 ≤ nx g t d) ↔ (ent g S t d = true ∧ 0 ≤ nx g t d) := by
    refine ⟨fun ⟨q1, q2⟩ => ⟨?_, q2⟩, fun ⟨q1, q2⟩ => ⟨?_, q2⟩⟩
    all_goals
      unfold ent at q1 ⊢
      split at q1
      next hd => rw [if_pos hd]; first | rw [← e t d h0 h1 (by omega) q2]; exact q1 | rw [e t d h0 h1 (by omega) q2]; exact q1
      next hd =>
        rw [if_neg hd]
        have hb := (nx_b G (d := d) h0 h1).resolve_left (by omega)
        have hi := (nx_inv G h0 h1 ⟨h2, h3⟩ q2).1
        have hr : rev d = 0 ∨ rev d = 1 := by unfold rev; rw [if_neg hd]; omega
        first | rw [← e _ _ hb.1 hb.2 hr (by rw [hi]; exact h0)]; exact q1 | rw [e _ _ hb.1 hb.2 hr (by rw [hi]; exact h0)]; exact q1
  have := h t d h0 h1 h2 h3
  simp only [key]
  exact this
theorem gN {g : Nat → Int} (G : gOK g) : 9 ≤ g 0 * g 1 ∧ g 0 * g 1 ≤ 144 := by
  obtain ⟨a1, a2, -⟩ := G
  have h1 := mul_b (a := g 0) (b := g 1) (A := 12) (B := 12) (by omega) (by omega) (by omega) (by omega)
  have h2 : 3 * g 1 ≤ g 0 * g 1 := Int.mul_le_mul_of_nonneg_right (by omega) (by omega)
  omega
theorem join_S {g : Nat → Int} (G : gOK g) {S : Int → Int → Bool} {M : Mem} (h : tabS g S M) {t a u c : Int} (h0 : 0 ≤ t) (h1 : t < g 0 * g 1) (ha : a = 0 ∨ a = 1) (hu : nx g t a = u) (hu0 : 0 ≤ u) (hc : c = cxb g (sm g t a)) :
    tabS g (addS S t a) (up (up (up (up M 4 (t * 4 + a).toNat u) 4 (u * 4 + (a + 2)).toNat t) 5 (t * 4 + a).toNat c) 5 (u * 4 + (a + 2)).toNat c) := by
  have hub := (nx_b G (d := a) h0 h1).resolve_left (by omega)
  rw [hu] at hub
  obtain ⟨i1, i2⟩ := nx_inv G h0 h1 (d := a) (by omega) (by omega)
  have hra : rev a = a + 2 := by unfold rev; rw [if_pos (by omega)]
  rw [hu, hra] at i1 i2
  intro t' d' q0 q1 q2 q3
  have e4 : up (up (up (up M 4 (t * 4 + a).toNat u) 4 (u * 4 + (a + 2)).toNat t) 5 (t * 4 + a).toNat c) 5 (u * 4 + (a + 2)).toNat c 4 (t' * 4 + d').toNat = if (t' * 4 + d').toNat = (u * 4 + (a + 2)).toNat then t else if (t' * 4 + d').toNat = (t * 4 + a).toNat then u else M 4 (t' * 4 + d').toNat := by
    rw [up_n (by decide), up_n (by decide), up_s]
    unfold upR
    rw [up_s]
    unfold upR
    rfl
  have e5 : up (up (up (up M 4 (t * 4 + a).toNat u) 4 (u * 4 + (a + 2)).toNat t) 5 (t * 4 + a).toNat c) 5 (u * 4 + (a + 2)).toNat c 5 (t' * 4 + d').toNat = if (t' * 4 + d').toNat = (u * 4 + (a + 2)).toNat then c else if (t' * 4 + d').toNat = (t * 4 + a).toNat then c else M 5 (t' * 4 + d').toNat := by
    rw [up_s]
    unfold upR
    rw [up_s]
    unfold upR
    rw [up_n (by decide), up_n (by decide)]
  rw [e4, e5]
  by_cases k1 : t' = u ∧ d' = a + 2
  · obtain ⟨rfl, rfl⟩ := k1
    have hh : ent g (addS S t a) t' (a + 2) = true := by
      unfold ent addS
      rw [if_neg (by omega), i1]
      have : rev (a + 2) = a := by unfold rev; rw [if_neg (by omega)]; omega
      rw [this]
      simp
    rw [if_pos rfl, if_pos rfl, if_pos ⟨hh, by rw [i1]; exact h0⟩, if_pos ⟨hh, by rw [i1]; exact h0⟩, i1, i2]
    exact ⟨rfl, hc⟩
  · have n1 : ¬ (t' * 4 + d').toNat = (u * 4 + (a + 2)).toNat := by omega
    rw [if_neg n1, if_neg n1]
    by_cases k2 : t' = t ∧ d' = a
    · obtain ⟨rfl, rfl⟩ := k2
      have hh : ent g (addS S t' d') t' d' = true := by
        unfold ent addS
        rw [if_pos (by omega)]
        simp
      rw [if_pos rfl, if_pos rfl, if_pos ⟨hh, by omega⟩, if_pos ⟨hh, by omega⟩]
      exact ⟨hu.symm, hc⟩
    · have n2 : ¬ (t' * 4 + d').toNat = (t * 4 + a).toNat := by omega
      rw [if_neg n2, if_neg n2]
      have key : (ent g (addS S t a) t' d' = true ∧ 0 ≤ nx g t' d') ↔ (ent g S t' d' = true ∧ 0 ≤ nx g t' d') := by
        refine and_congr_left fun q => ?_
        unfold ent addS
        by_cases hd : d' < 2
        · rw [if_pos hd, if_pos hd]
          simp only [Bool.or_eq_true, decide_eq_true_eq]
          exact ⟨fun z => z.resolve_right k2, Or.inl⟩
        · rw [if_neg hd, if_neg hd]
          simp only [Bool.or_eq_true, decide_eq_true_eq]
          refine ⟨fun z => z.resolve_right fun ⟨z1, z2⟩ => k1 ?_, Or.inl⟩
          have z3 := (nx_inv G q0 q1 ⟨q2, q3⟩ q).1
          rw [z1, z2, hu] at z3
          refine ⟨z3.symm, ?_⟩
          unfold rev at z2
          rw [if_neg hd] at z2
          omega
      simp only [key]
      exact h t' d' q0 q1 q2 q3
