/-! the tables are laid -/
section JOIN
variable {l : Launch} {D : va_G} {cy : Nat → ClassId} {ad : Nat → Nat}
theorem gX_0 (M : Mem) : gX M 0 = M 1 4 := rfl
theorem gX_1 (M : Mem) : gX M 1 = M 1 5 := rfl
theorem join_fr {M : Mem} {b i1 i2 i3 i4 : Nat} {u t c c2 : Int} (h4 : b ≠ 4) (h5 : b ≠ 5) : up (up (up (up M 4 i1 u) 4 i2 t) 5 i3 c) 5 i4 c2 b = M b := by
  rw [up_n h5, up_n h5, up_n h4, up_n h4]
theorem sm_inner {g : Nat → Int} (G : gOK g) {r c : Int} (hr : 0 ≤ r ∧ r < g 1) (hc : 0 ≤ c ∧ c < g 0) :
    (sm g (g 0 * r + c) 0 = (if c < g 0 - 1 then 0 else 1)) ∧ (sm g (g 0 * r + c) 1 = (if r < g 1 - 1 then 0 else 2)) ∧
    (c < g 0 - 1 → nx g (g 0 * r + c) 0 = g 0 * r + c + 1) ∧ (r < g 1 - 1 → nx g (g 0 * r + c) 1 = g 0 * r + c + g 0) ∧
    (¬ c < g 0 - 1 → nx g (g 0 * r + c) 0 = if g 2 = 0 then -5 else g 0 * ac (g 2) (g 3) r (g 1) true) ∧
    (¬ r < g 1 - 1 → nx g (g 0 * r + c) 1 = if g 4 = 0 then -5 else ac (g 4) (g 5) c (g 0) true) := by
  have ex := idx_x (w := g 0) (x := c) (y := r) hc.1 hc.2
  have ey := idx_y (w := g 0) (x := c) (y := r) hc.1 hc.2
  unfold nx sm opn
  rw [ex, ey]
  refine ⟨?_, ?_, fun h => ?_, fun h => ?_, fun h => ?_, fun h => ?_⟩
  · unfold sv
    by_cases q : c < g 0 - 1
    · rw [if_neg (by omega), if_neg (by omega), if_pos q]
    · rw [if_pos (by omega), if_neg q]
  · unfold sv
    by_cases q : r < g 1 - 1
    · rw [if_neg (by omega), if_neg (by omega), if_pos q]
    · rw [if_neg (by omega), if_pos (by omega), if_neg q]
  · have e : sv g c r 0 = 0 := by unfold sv; rw [if_neg (by omega), if_neg (by omega)]
    rw [if_pos (by rw [e]; omega)]
    simp only [nX, nY, h, if_true]
    omega
  · have e : sv g c r 1 = 0 := by unfold sv; rw [if_neg (by omega), if_neg (by omega)]
    rw [if_pos (by rw [e]; omega)]
    have e1 : nX g c r 1 = c := by unfold nX; rw [if_neg (by decide), if_neg (by decide), if_pos rfl, if_pos h]
    have e2 : nY g c r 1 = r + 1 := by unfold nY; rw [if_neg (by decide), if_neg (by decide), if_pos rfl, if_pos h]
    rw [e1, e2, Int.mul_add, Int.mul_one]
    omega
  · have e : sv g c r 0 = 1 := by unfold sv; rw [if_pos (by omega)]
    have e1 : nX g c r 0 = 0 := by unfold nX; rw [if_pos rfl, if_neg h]
    have e2 : nY g c r 0 = ac (g 2) (g 3) r (g 1) true := by unfold nY; rw [if_pos rfl, if_neg h]
    rw [e, e1, e2]
    by_cases q : g 2 = 0
    · rw [if_neg (by omega), if_pos q]
    · rw [if_pos (by omega), if_neg q]; omega
  · have e : sv g c r 1 = 2 := by unfold sv; rw [if_neg (by omega), if_pos (by omega)]
    have e1 : nX g c r 1 = ac (g 4) (g 5) c (g 0) true := by unfold nX; rw [if_neg (by decide), if_neg (by decide), if_pos rfl, if_neg h]
    have e2 : nY g c r 1 = 0 := by unfold nY; rw [if_neg (by decide), if_neg (by decide), if_pos rfl, if_neg h]
    rw [e, e1, e2]
    by_cases q : g 4 = 0
    · rw [if_neg (by omega), if_pos q]
    · rw [if_pos (by omega), if_neg q, Int.mul_zero]; omega
/-- the inner steps whose tile lies ahead of k -/
def Sk (g : Nat → Int) (k : Int) : Int → Int → Bool := fun t a => decide (sm g t a = 0 ∧ t < k)
theorem ok_X3_joinInside (hA : jA ad 46) : OK_X3_joinInside l D cy ad := met_X3_joinInside hA (ok_X3_join hA)
  (fun p M0 r M μ => tabS (gX M0) (Sk (gX M0) (gX M0 0 * r)) M ∧ (∀ b, b ≠ 4 → b ≠ 5 → M b = M0 b) ∧ (0 ≤ r ∧ r ≤ gX M0 1) ∧ μ = ((13 - r) * 20).toNat)
  (fun p M0 r c M μ => tabS (gX M0) (Sk (gX M0) (gX M0 0 * r + c)) M ∧ (∀ b, b ≠ 4 → b ≠ 5 → M b = M0 b) ∧ (0 ≤ r ∧ r < gX M0 1) ∧ (0 ≤ c ∧ c ≤ gX M0 0) ∧ μ = ((13 - r) * 20 - 1 - c).toNat)
  (by
    rintro p M0 ⟨hp, h1, G, hT⟩ hM
    refine ⟨_, rfl, tabS_congr G hT (fun t a h0 h1 ha hn => ?_), fun b _ _ => rfl, by have := G.2.1; omega, rfl⟩
    unfold Sk
    rw [decide_eq_false_iff_not]
    omega)
  (by
    rintro p M0 ⟨hp, h1, G, hT⟩ hM r M n ⟨hS, hf, hr, hn⟩ -
    subst h1
    have e5 : M 1 5 = gX M0 1 := by rw [hf 1 (by decide) (by decide)]; rfl
    refine ⟨hp, fun h => ⟨rfl, ?_, hf⟩, fun h => ⟨_, ?_, rfl, ?_, hf, by omega, by have := G.1; omega, rfl⟩⟩
    · refine tabS_congr G hS (fun t a h0 h1 ha hn => ?_)
      unfold Sk Sin
      have : r = gX M0 1 := by omega
      rw [this]
      simp [h1]
    · omega
    · rw [Int.add_zero]; exact hS)
  (by
    rintro p M0 ⟨hp, h1, G, hT⟩ hM r c M n ⟨hS, hf, hr, hc, hn⟩ -
    subst h1
    have e4 : M 1 4 = gX M0 0 := by rw [hf 1 (by decide) (by decide)]; rfl
    have e5 : M 1 5 = gX M0 1 := by rw [hf 1 (by decide) (by decide)]; rfl
    obtain ⟨G1, G2, -⟩ := id G
    rw [e4, e5]
    have em : r * gX M0 0 = gX M0 0 * r := Int.mul_comm _ _
    rw [em]
    refine ⟨hp, fun h => ⟨by omega, _, ?_, rfl, ?_, hf, by omega, rfl⟩, fun h => ?_⟩
    · omega
    · rw [Int.mul_add, Int.mul_one]
      rw [show c = gX M0 0 by omega] at hS
      exact hS
    · have hcl : c < gX M0 0 := by omega
      obtain ⟨b1, b2⟩ := idx_b (w := gX M0 0) (h := gX M0 1) (x := c) (y := r) hc.1 hcl hr.1 hr.2
      have hN := gN G
      obtain ⟨s0, s1, n0, n1, -, -⟩ := sm_inner G hr ⟨hc.1, hcl⟩
      -- what the next place asks
      have key : ∀ (S : Int → Int → Bool) (M' : Mem), tabS (gX M0) S M' → (∀ t a : Int, 0 ≤ t → t < gX M0 0 * gX M0 1 → (a = 0 ∨ a = 1) → (S t a = true ↔ (sm (gX M0) t a = 0 ∧ t < gX M0 0 * r + c) ∨ (sm (gX M0) t a = 0 ∧ t = gX M0 0 * r + c))) → tabS (gX M0) (Sk (gX M0) (gX M0 0 * r + (c + 1))) M' := by
        intro S M' h1 h2
        refine tabS_congr G h1 (fun t a q0 q1 qa _ => ?_)
        have := h2 t a q0 q1 qa
        unfold Sk
        by_cases z : S t a = true
        · rw [z, decide_eq_true_eq]; have := this.mp z; omega
        · rw [Bool.not_eq_true] at z
          rw [z, decide_eq_false_iff_not]
          have := mt this.mpr (by rw [z]; decide)
          omega
      have hSk : ∀ t a : Int, (Sk (gX M0) (gX M0 0 * r + c) t a = true ↔ sm (gX M0) t a = 0 ∧ t < gX M0 0 * r + c) := fun t a => by unfold Sk; rw [decide_eq_true_eq]
      -- behind the step to the right: one state for both ways
      have down : ∀ (M1 : Mem) (S : Int → Int → Bool), tabS (gX M0) S M1 → (∀ b, b ≠ 4 → b ≠ 5 → M1 b = M0 b) →
          (∀ t a : Int, 0 ≤ t → t < gX M0 0 * gX M0 1 → (a = 0 ∨ a = 1) → (S t a = true ↔ (sm (gX M0) t a = 0 ∧ t < gX M0 0 * r + c) ∨ (a = 0 ∧ sm (gX M0) t a = 0 ∧ t = gX M0 0 * r + c))) →
          (r < gX M0 1 - 1 → tabS (gX M0) (Sk (gX M0) (gX M0 0 * r + (c + 1))) (up (up (up (up M1 4 ((gX M0 0 * r + c) * 4 + 1).toNat (gX M0 0 * r + c + gX M0 0)) 4 ((gX M0 0 * r + c + gX M0 0) * 4 + (1 + 2)).toNat (gX M0 0 * r + c)) 5 ((gX M0 0 * r + c) * 4 + 1).toNat 0) 5 ((gX M0 0 * r + c + gX M0 0) * 4 + (1 + 2)).toNat 0)) ∧
          (¬ r < gX M0 1 - 1 → tabS (gX M0) (Sk (gX M0) (gX M0 0 * r + (c + 1))) M1) := by
        intro M1 S h1 hf1 h2
        refine ⟨fun hlt => ?_, fun hge => ?_⟩
        · rw [if_pos hlt] at s1
          refine key _ _ (join_S G h1 b1 b2 (Or.inr rfl) (n1 hlt) (by omega) (by rw [s1]; rfl)) (fun t a q0 q1 qa => ?_)
          unfold addS
          rw [Bool.or_eq_true, decide_eq_true_eq, h2 t a q0 q1 qa]
          constructor
          · rintro (q | ⟨rfl, rfl⟩)
            · omega
            · exact Or.inr ⟨s1, rfl⟩
          · rintro (q | ⟨q, rfl⟩)
            · exact Or.inl (Or.inl q)
            · rcases qa with rfl | rfl
              · exact Or.inl (Or.inr ⟨rfl, q, rfl⟩)
              · exact Or.inr ⟨rfl, rfl⟩
        · rw [if_neg hge] at s1
          refine key _ _ h1 (fun t a q0 q1 qa => ?_)
          rw [h2 t a q0 q1 qa]
          constructor
          · omega
          · rintro (q | ⟨q, rfl⟩)
            · exact Or.inl q
            · rcases qa with rfl | rfl
              · exact Or.inr ⟨rfl, q, rfl⟩
              · omega
      have nxt : ∀ M1 : Mem, tabS (gX M0) (Sk (gX M0) (gX M0 0 * r + (c + 1))) M1 → (∀ b, b ≠ 4 → b ≠ 5 → M1 b = M0 b) → ∃ μ : Nat, μ < n ∧ (1 : Nat) = 1 ∧ tabS (gX M0) (Sk (gX M0) (gX M0 0 * r + (c + 1))) M1 ∧ (∀ b, b ≠ 4 → b ≠ 5 → M1 b = M0 b) ∧ (0 ≤ r ∧ r < gX M0 1) ∧ (0 ≤ c + 1 ∧ c + 1 ≤ gX M0 0) ∧ μ = ((13 - r) * 20 - 1 - (c + 1)).toNat :=
        fun M1 z1 z2 => ⟨_, by omega, rfl, z1, z2, hr, by omega, rfl⟩
      refine ⟨hp, by omega, by omega, hp, by omega, fun h2 => ?_, fun h2 => ?_⟩
      · obtain ⟨d1, d2⟩ := down M _ hS hf (fun t a q0 q1 qa => by
          rw [hSk]
          rw [if_neg (by omega)] at s0
          constructor
          · exact Or.inl
          · rintro (q | ⟨rfl, q, rfl⟩)
            · exact q
            · omega)
        refine ⟨hp, by omega, fun h3 => ⟨by omega, nxt M (d2 (by omega)) hf⟩, fun h3 => ⟨hp, by omega, ⟨hp, rfl, by omega, Or.inr rfl, ?_⟩, ?_⟩⟩
        · have q := (nx_b G (d := 1) b1 b2).resolve_left (by rw [n1 (by omega)]; omega)
          rw [n1 (by omega)] at q
          omega
        · rintro x2 M1 - - rfl
          exact ⟨by omega, nxt _ (d1 (by omega)) (fun b q4 q5 => by rw [join_fr q4 q5]; exact hf b q4 q5)⟩
      · refine ⟨by omega, ⟨hp, rfl, by omega, Or.inl rfl, ?_⟩, ?_⟩
        · have q := (nx_b G (d := 0) b1 b2).resolve_left (by rw [n0 (by omega)]; omega)
          rw [n0 (by omega)] at q
          omega
        · rintro x4 M3 - - rfl
          rw [if_pos (by omega)] at s0
          have hj := join_S G hS b1 b2 (Or.inl rfl) (n0 (by omega)) (by omega) (c := 0) (by rw [s0]; rfl)
          have hf3 : ∀ b, b ≠ 4 → b ≠ 5 → up (up (up (up M 4 ((gX M0 0 * r + c) * 4 + 0).toNat (gX M0 0 * r + c + 1)) 4 ((gX M0 0 * r + c + 1) * 4 + (0 + 2)).toNat (gX M0 0 * r + c)) 5 ((gX M0 0 * r + c) * 4 + 0).toNat 0) 5 ((gX M0 0 * r + c + 1) * 4 + (0 + 2)).toNat 0 b = M0 b := fun b q4 q5 => by rw [join_fr q4 q5]; exact hf b q4 q5
          have e45 := hf3 1 (by decide) (by decide)
          obtain ⟨d1, d2⟩ := down _ _ hj hf3 (fun t a q0 q1 qa => by
            unfold addS
            rw [Bool.or_eq_true, decide_eq_true_eq, hSk]
            constructor
            · rintro (q | ⟨rfl, rfl⟩)
              · exact Or.inl q
              · exact Or.inr ⟨rfl, s0, rfl⟩
            · rintro (q | ⟨rfl, q, rfl⟩)
              · exact Or.inl q
              · exact Or.inr ⟨rfl, rfl⟩)
          rw [e45, show M0 1 5 = gX M0 1 from rfl, show M0 1 4 = gX M0 0 from rfl]
          refine ⟨hp, by omega, fun h3 => ⟨by omega, nxt _ (d2 (by omega)) hf3⟩, fun h3 => ⟨hp, by omega, ⟨hp, rfl, by omega, Or.inr rfl, ?_⟩, ?_⟩⟩
          · have q := (nx_b G (d := 1) b1 b2).resolve_left (by rw [n1 (by omega)]; omega)
            rw [n1 (by omega)] at q
            omega
          · rintro x6 M5 - - rfl
            exact ⟨by omega, nxt _ (d1 (by omega)) (fun b q4 q5 => by rw [join_fr q4 q5]; exact hf3 b q4 q5)⟩)
end JOIN
