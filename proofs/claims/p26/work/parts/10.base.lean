/-! ===== small rows on the layout and on memories ===== -/
theorem kd_lt {a : Nat} (h : kdX a ≠ 99) : a < 46 := jWX.1 a h
theorem kd5 {p : Nat} (h : kdX p = 5) : p = 10 ∨ p = 36 ∨ p = 44 := (by decide : ∀ p, p < 46 → kdX p = 5 → p = 10 ∨ p = 36 ∨ p = 44) p (kd_lt (by rw [h]; decide)) h
theorem kd5a {p : Nat} (h : kdX p = 5) : kdX (p + 1) = 21 ∧ lnX (p + 1) = 144 := by
  rcases kd5 h with rfl | rfl | rfl <;> decide
theorem kd1 {p : Nat} (h : kdX p = 1) : p = 30 ∨ p = 38 := (by decide : ∀ p, p < 46 → kdX p = 1 → p = 30 ∨ p = 38) p (kd_lt (by rw [h]; decide)) h
theorem kd2 {p : Nat} (h : kdX p = 2) : p = 2 ∨ p = 3 := (by decide : ∀ p, p < 46 → kdX p = 2 → p = 2 ∨ p = 3) p (kd_lt (by rw [h]; decide)) h
theorem up_s {M : Mem} {a k : Nat} {v : Int} : up M a k v a = upR (M a) k v := upA_s
theorem up_n {M : Mem} {a b k : Nat} {v : Int} (h : b ≠ a) : up M a k v b = M b := upA_n h
theorem up_sk {M : Mem} {a k : Nat} {v : Int} : up M a k v a k = v := by rw [up_s, upR_s]
theorem up_nk {M : Mem} {a b k j : Nat} {v : Int} (h : b ≠ a ∨ j ≠ k) : up M a k v b j = M b j := by
  by_cases e : b = a
  · subst e
    rw [up_s, upR_n (h.resolve_left (fun z => z rfl))]
  · rw [up_n e]
/-- the map's size -/
abbrev gB (M : Mem) : Prop := (3 ≤ M 1 4 ∧ M 1 4 ≤ 12) ∧ 3 ≤ M 1 5 ∧ M 1 5 ≤ 12
theorem mul_b {a b A B : Int} (h0 : 0 ≤ a) (h1 : a ≤ A) (h2 : 0 ≤ b) (h3 : b ≤ B) : 0 ≤ a * b ∧ a * b ≤ A * B :=
  ⟨Int.mul_nonneg h0 h2, Int.le_trans (Int.mul_le_mul_of_nonneg_right h1 h2) (Int.mul_le_mul_of_nonneg_left h3 (by omega))⟩
