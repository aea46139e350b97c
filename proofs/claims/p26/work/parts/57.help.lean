/-! ===== the class's helpers ===== -/
theorem ptr_1 {M : Mem} (h : (M 0 6 = 30 ∧ M 0 7 = 38) ∨ (M 0 6 = 38 ∧ M 0 7 = 30)) : (kdX (M 0 6).toNat = 1 ∧ (M 0 6).toNat < 100) ∧ (kdX (M 0 7).toNat = 1 ∧ (M 0 7).toNat < 100) := by
  rcases h with ⟨h1, h2⟩ | ⟨h1, h2⟩ <;> rw [h1, h2] <;> decide
section HE
variable {l : Launch} {D : va_G} {cy : Nat → ClassId} {ad : Nat → Nat}
theorem ok_X8_isSize (hA : jA ad 46) : OK_X8_isSize l D cy ad := met_X8_isSize hA (by
  rintro a M0 - hM ra
  exact ⟨fun h => ⟨Or.inl rfl, (if_neg (by omega)).symm, rfl⟩, fun h => ⟨fun h2 => ⟨Or.inl rfl, (if_neg (by omega)).symm, rfl⟩, fun h2 => ⟨Or.inr rfl, (if_pos (by omega)).symm, rfl⟩⟩⟩)
theorem ok_X8_isKind (hA : jA ad 46) : OK_X8_isKind l D cy ad := met_X8_isKind hA (by
  rintro a M0 - hM ra
  exact ⟨fun h => ⟨Or.inl rfl, (if_neg (by omega)).symm, rfl⟩, fun h => ⟨fun h2 => ⟨Or.inl rfl, (if_neg (by omega)).symm, rfl⟩, fun h2 => ⟨Or.inr rfl, (if_pos (by omega)).symm, rfl⟩⟩⟩)
theorem ok_X8_isDirection (hA : jA ad 46) : OK_X8_isDirection l D cy ad := met_X8_isDirection hA (by
  rintro a M0 - hM ra
  exact ⟨fun h => ⟨Or.inl rfl, (if_neg (by omega)).symm, rfl⟩, fun h => ⟨fun h2 => ⟨Or.inl rfl, (if_neg (by omega)).symm, rfl⟩, fun h2 => ⟨Or.inr rfl, (if_pos (by omega)).symm, rfl⟩⟩⟩)
theorem ok_X8_beginAnew (hA : jA ad 46) : OK_X8_beginAnew l D cy ad := met_X8_beginAnew hA (ok_X0_forget hA) (ok_X1_find hA) (ok_X3_begin hA) (ok_X7_levelWeights hA)
  (fun p a b M0 k M μ => (∀ j : Nat, (j : Int) < k → M 6 j = 0) ∧ (∀ b, b ≠ 6 → M b = M0 b) ∧ (0 ≤ k ∧ k ≤ 144) ∧ μ = (500 - k).toNat)
  (by
    rintro p a b M0 ⟨hp, h0, ha, hb, hq⟩ hM ra rb
    exact ⟨_, rfl, rfl, rfl, fun j hj => by omega, fun _ _ => rfl, by omega, rfl⟩)
  (by
    rintro p a b M0 ⟨hp, h0, ha, hb, hq⟩ hM ra rb k M n ⟨hI, hf, hk, hμ⟩ -
    subst h0
    refine ⟨fun h => ⟨hp, ⟨rfl, rfl, ha, hb⟩, ?_⟩, fun h => ⟨hp, rfl, by omega, by omega, (500 - (k + 1)).toNat, by omega, rfl, rfl, rfl, fun j hj => ?_, fun b q => by rw [up_n q]; exact hf b q, by omega, rfl⟩⟩
    · rintro x2 M1 - - ⟨t1, t2, t3, t4⟩
      refine ⟨hp, ⟨rfl, rfl⟩, ?_⟩
      rintro x4 M3 - - ⟨w1, w2⟩
      refine ⟨hp, ⟨rfl, rfl⟩, ?_⟩
      rintro x6 M5 - - rfl
      have e5 : ∀ b, b ≠ 1 → b ≠ 2 → b ≠ 3 → b ≠ 4 → b ≠ 5 → b ≠ 6 → b ≠ 8 → b ≠ 16 → up (up M3 16 1 0) 16 2 0 b = M0 b := fun b b1 b2 b3 b4 b5 b6 b8 b16 => by rw [up_n b16, up_n b16, w2 b b8, t4 b b1 b2 b3 b4 b5, hf b b6]
      have e6 : ∀ j : Nat, j < 144 → up (up M3 16 1 0) 16 2 0 6 j = 0 := fun j hj => by rw [up_n (by decide), up_n (by decide), w2 6 (by decide), t4 6 (by decide) (by decide) (by decide) (by decide) (by decide)]; exact hI j (by omega)
      have e8 : up (up M3 16 1 0) 16 2 0 8 = M3 8 := by rw [up_n (by decide), up_n (by decide)]
      have e161 : up (up M3 16 1 0) 16 2 0 16 1 = 0 := by rw [up_nk (Or.inr (by decide)), up_sk]
      have e162 : up (up M3 16 1 0) 16 2 0 16 2 = 0 := up_sk
      obtain ⟨s1, s2⟩ := surf_congr (M' := up (up M3 16 1 0) 16 2 0) ⟨t2, t1⟩ (fun b q1 q2 => by rw [up_n (by omega), up_n (by omega), w2 b (by omega)])
      generalize up (up M3 16 1 0) 16 2 0 = M5 at e5 e6 e8 e161 e162 s1 s2 ⊢
      have e0 := e5 0 (by decide) (by decide) (by decide) (by decide) (by decide) (by decide) (by decide) (by decide)
      rw [e0]
      have hpt := ptr_1 hq
      refine ⟨hp, ⟨hpt.1.1, s1⟩, ?_⟩
      rintro x8 M7 - - hc
      obtain ⟨f1, f2⟩ := hc (fun _ => 0) (fun t ht => e6 t ht)
      have fr : ∀ b, b < 30 → M7 b = M5 b := fun b hb => f2 b (by omega) (by omega) (by omega) (by omega) (by omega) (by omega) (by omega)
      obtain ⟨s3, s4⟩ := surf_congr (M' := M7) s1 (fun b q1 q2 => fr b (by omega))
      refine ⟨rfl, fun t ht => by rw [fr 6 (by decide)]; exact e6 t ht, s3, by rw [s4, s2]; exact t3, fun k hk => by rw [fr 8 (by decide), e8]; exact w1 k hk, by rw [fr 16 (by decide)]; exact ⟨e161, e162⟩, by rw [s4]; exact f1, by rw [fr 0 (by decide), e0], ?_, ?_⟩
      · rw [fr 12 (by decide)]; exact e5 12 (by decide) (by decide) (by decide) (by decide) (by decide) (by decide) (by decide) (by decide)
      · rw [fr 13 (by decide)]; exact e5 13 (by decide) (by decide) (by decide) (by decide) (by decide) (by decide) (by decide) (by decide)
    · by_cases q : j = k.toNat
      · subst q; rw [up_sk]
      · rw [up_nk (Or.inr q)]; exact hI j (by omega))
theorem ok_X8_repairParts (hA : jA ad 46) : OK_X8_repairParts l D cy ad := met_X8_repairParts hA (ok_X1_find hA) (by
  rintro p M0 ⟨hp, h0, hS, hq⟩ hM
  subst h0
  have hpt := ptr_1 hq
  have e6 : up (up M0 0 6 (((M0 0 7).toNat : Nat) : Int)) 0 7 (((M0 0 6).toNat : Nat) : Int) 0 6 = M0 0 7 := by rw [up_nk (Or.inr (by decide)), up_sk]; omega
  have e7 : up (up M0 0 6 (((M0 0 7).toNat : Nat) : Int)) 0 7 (((M0 0 6).toNat : Nat) : Int) 0 7 = M0 0 6 := by rw [up_sk]; omega
  have ef : ∀ b, b ≠ 0 → up (up M0 0 6 (((M0 0 7).toNat : Nat) : Int)) 0 7 (((M0 0 6).toNat : Nat) : Int) b = M0 b := fun b q => by rw [up_n q, up_n q]
  generalize up (up M0 0 6 (((M0 0 7).toNat : Nat) : Int)) 0 7 (((M0 0 6).toNat : Nat) : Int) = M1 at e6 e7 ef ⊢
  obtain ⟨s1, s2⟩ := surf_congr (M' := M1) hS (fun b q1 q2 => ef b (by omega))
  rw [e6]
  refine ⟨hp, hp, hp, hpt.2.1, hpt.2.2, hp, hpt.1.1, hpt.1.2, hp, ⟨hpt.2.1, s1⟩, ?_⟩
  rintro x2 M2 - - hc
  have fr : ∀ b, (b < (M0 0 7).toNat ∨ (M0 0 7).toNat + 7 < b) → M2 b = M1 b := fun b hb => (hc (M1 6) (fun _ _ => rfl)).2 b (by omega) (by omega) (by omega) (by omega) (by omega) (by omega) (by omega)
  refine ⟨rfl, fun κ hκ => ?_, by rw [fr 0 (by omega)]; exact e6, by rw [fr 0 (by omega)]; exact e7, fun b b0 hb => by rw [fr b hb]; exact ef b b0⟩
  have := (hc κ (fun t ht => by rw [ef 6 (by decide)]; exact hκ t ht)).1
  rw [s2] at this
  exact this)
theorem ok_X8_takeKindsFromText (hA : jA ad 46) : OK_X8_takeKindsFromText l D cy ad := met_X8_takeKindsFromText hA (ok_X3_columns hA) (ok_X3_rows hA) (ok_X4_kindAt hA)
  (fun p M0 c t r M μ => t = gX M0 0 * r ∧ (∀ j : Nat, M 6 j = if (j : Int) < t then M0 13 (tix (gX M0 0) j) - 48 else M0 6 j) ∧ c = sumF (fun j => if M0 13 (tix (gX M0 0) j) - 48 = M0 6 j then 0 else 1) t.toNat ∧ (∀ b, b ≠ 6 → M b = M0 b) ∧ (0 ≤ r ∧ r ≤ gX M0 1) ∧ μ = ((12 - r) * 50).toNat)
  (fun p M0 c t r y M μ => t = gX M0 0 * r + y ∧ (∀ j : Nat, M 6 j = if (j : Int) < t then M0 13 (tix (gX M0 0) j) - 48 else M0 6 j) ∧ c = sumF (fun j => if M0 13 (tix (gX M0 0) j) - 48 = M0 6 j then 0 else 1) t.toNat ∧ (∀ b, b ≠ 6 → M b = M0 b) ∧ (0 ≤ r ∧ r < gX M0 1) ∧ (0 ≤ y ∧ y ≤ gX M0 0) ∧ μ = ((12 - r) * 50 - 1 - y).toNat)
  (by
    rintro p M0 ⟨hp, h0, hS, hT⟩ hM
    refine ⟨_, rfl, (Int.mul_zero _).symm, fun j => by rw [if_neg (by omega)], rfl, fun _ _ => rfl, ?_, rfl⟩
    have := hS.1.2.1
    omega)
  (by
    rintro p M0 ⟨hp, h0, hS, hT⟩ hM c t r M n ⟨ht, hI, hc, hf, hr, hμ⟩ -
    subst h0
    obtain ⟨nE, n9, n144⟩ := nT_b hS.1
    have g0 := hS.1.1
    have g1 := hS.1.2.1
    obtain ⟨hS1, eg⟩ := surf_congr (M' := M) hS (fun b q1 q2 => hf b (by omega))
    refine ⟨hp, ⟨rfl, rfl⟩, ?_⟩
    rintro x2 M1 - - ⟨rfl, rfl⟩
    have e15 : M1 1 5 = gX M0 1 := by rw [← eg]; rfl
    rw [e15]
    refine ⟨fun h => ⟨trivial, fun j => ?_, ?_, hf⟩, fun h => ⟨((12 - r) * 50 - 1 - 0).toNat, by omega, rfl, by omega, hI, hc, hf, by omega, by omega, rfl⟩⟩
    · have hr2 : r = gX M0 1 := by omega
      rw [hr2] at ht
      rw [hI j]
      by_cases q : j < nT (gX M0)
      · rw [if_pos (by omega), if_pos q]
      · rw [if_neg (by omega), if_neg q]
    · have hr2 : r = gX M0 1 := by omega
      rw [hr2] at ht
      rw [hc, show t.toNat = nT (gX M0) by omega])
  (by
    rintro p M0 ⟨hp, h0, hS, hT⟩ hM c t r y M n ⟨ht, hI, hc, hf, hr, hy, hμ⟩ -
    subst h0
    obtain ⟨nE, n9, n144⟩ := nT_b hS.1
    have g0 := hS.1.1
    have g1 := hS.1.2.1
    obtain ⟨hS1, eg⟩ := surf_congr (M' := M) hS (fun b q1 q2 => hf b (by omega))
    refine ⟨hp, ⟨rfl, rfl⟩, ?_⟩
    rintro x2 M1 - - ⟨rfl, rfl⟩
    have e14 : M1 1 4 = gX M0 0 := by rw [← eg]; rfl
    rw [e14]
    have er : gX M0 0 * (r + 1) = gX M0 0 * r + gX M0 0 := by rw [Int.mul_add, Int.mul_one]
    refine ⟨fun h => ⟨by omega, ((12 - (r + 1)) * 50).toNat, by omega, rfl, by omega, hI, hc, hf, by omega, rfl⟩, fun h => ⟨hp, hp, ⟨rfl, rfl⟩, ?_⟩⟩
    rintro x4 M3 - - ⟨rfl, rfl⟩
    rw [e14]
    obtain ⟨b1, b2⟩ := idx_b (w := gX M0 0) (h := gX M0 1) (x := y) (y := r) (by omega) (by omega) (by omega) (by omega)
    have bx := idx_x (w := gX M0 0) (x := y) (y := r) (by omega) (by omega)
    have by_ := idx_y (w := gX M0 0) (x := y) (y := r) (by omega) (by omega)
    have m1 := mul_b (a := r) (b := gX M0 0 + 1) (A := gX M0 1 - 1) (B := gX M0 0 + 1) (by omega) (by omega) (by omega) (by omega)
    have m2 := mul_b (a := gX M0 1 - 1) (b := gX M0 0 + 1) (A := 11) (B := 13) (by omega) (by omega) (by omega) (by omega)
    have m3 : gX M0 1 * (gX M0 0 + 1) = (gX M0 1 - 1) * (gX M0 0 + 1) + (gX M0 0 + 1) := by rw [Int.sub_mul, Int.one_mul]; omega
    have e13 : M3 13 = M0 13 := hf 13 (by decide)
    have hix : tix (gX M0 0) t.toNat = (r * (gX M0 0 + 1) + y).toNat := by
      unfold tix
      rw [show ((t.toNat : Nat) : Int) = gX M0 0 * r + y by omega, bx, by_]
    refine ⟨⟨rfl, rfl, by omega, by omega, g0, by omega, by rw [e13]; exact hT _ (by omega)⟩, ?_⟩
    rintro x6 M5 - - ⟨rfl, rfl⟩
    have hrow := hI t.toNat
    rw [if_neg (by omega)] at hrow
    rw [e13, ← hix, hrow]
    have cb : 0 ≤ c ∧ c ≤ 144 := by
      have := sumF_b (f := fun j => if M0 13 (tix (gX M0 0) j) - 48 = M0 6 j then (0 : Int) else 1) (n := t.toNat) (fun j _ => by split <;> omega)
      omega
    have nxt : sumF (fun j => if M0 13 (tix (gX M0 0) j) - 48 = M0 6 j then (0 : Int) else 1) (t + 1).toNat = c + if M0 13 (tix (gX M0 0) t.toNat) - 48 = M0 6 t.toNat then 0 else 1 := by
      rw [show (t + 1).toNat = t.toNat + 1 by omega, hc]; rfl
    refine ⟨hp, rfl, by omega, fun h2 => ⟨by omega, by omega, ((12 - r) * 50 - 1 - (y + 1)).toNat, by omega, rfl, by omega, fun j => ?_, ?_, hf, hr, by omega, rfl⟩, fun h2 => ⟨hp, rfl, by omega, by omega, by omega, by omega, ((12 - r) * 50 - 1 - (y + 1)).toNat, by omega, rfl, by omega, fun j => ?_, ?_, fun b q => by rw [up_n q]; exact hf b q, hr, by omega, rfl⟩⟩
    · rw [hI j]
      by_cases q : j = t.toNat
      · rw [if_neg (by omega), if_pos (by omega), q, h2]
      · by_cases q2 : (j : Int) < t
        · rw [if_pos q2, if_pos (by omega)]
        · rw [if_neg q2, if_neg (by omega)]
    · rw [nxt, if_pos h2.symm]; omega
    · by_cases q : j = t.toNat
      · rw [q, up_sk, if_pos (by omega)]
      · rw [up_nk (Or.inr q), hI j]
        by_cases q2 : (j : Int) < t
        · rw [if_pos q2, if_pos (by omega)]
        · rw [if_neg q2, if_neg (by omega)]
    · rw [nxt, if_neg (fun z => h2 z.symm)])
theorem ok_X8_giveKindToPart (hA : jA ad 46) : OK_X8_giveKindToPart l D cy ad := met_X8_giveKindToPart hA (ok_X1_labelOf hA) (ok_X3_tiles hA)
  (fun p f k M0 t M μ => (∀ L, labR (M0 0 6).toNat M0 L → ∀ j : Nat, M 6 j = if (j : Int) < t ∧ L j = f then k else M0 6 j) ∧ (∀ b, b ≠ 6 → M b = M0 b) ∧ (0 ≤ t ∧ t ≤ nT (gX M0)) ∧ μ = (500 - t).toNat)
  (by
    rintro p f k M0 ⟨hp, h0, hS, hq⟩ hM rf rk
    exact ⟨_, rfl, rfl, rfl, fun L hL j => by rw [if_neg (by omega)], fun _ _ => rfl, by omega, rfl⟩)
  (by
    rintro p f k M0 ⟨hp, h0, hS, hq⟩ hM rf rk t M n ⟨hI, hf, ht, hμ⟩ -
    subst h0
    obtain ⟨nE, n9, n144⟩ := nT_b hS.1
    have hpt := ptr_1 hq
    obtain ⟨hS1, eg⟩ := surf_congr (M' := M) hS (fun b q1 q2 => hf b (by omega))
    have e0 : M 0 = M0 0 := hf 0 (by decide)
    refine ⟨hp, ⟨rfl, rfl, hS1.1.1, hS1.1.2.1⟩, ?_⟩
    rintro x2 M1 - - ⟨rfl, rfl⟩
    have hn : M1 1 4 * M1 1 5 = nT (gX M0) := by rw [← eg]; exact (nT_b hS1.1).1.symm
    rw [hn, e0]
    refine ⟨fun h => ⟨rfl, fun L hL j => ?_, hf⟩, fun h => ⟨hp, ⟨hpt.1.1, by omega, by omega⟩, ?_⟩⟩
    · rw [hI L hL j]
      by_cases q : j < nT (gX M0) ∧ L j = f
      · rw [if_pos ⟨by omega, q.2⟩, if_pos q]
      · rw [if_neg (fun z => q ⟨by omega, z.2⟩), if_neg q]
    · rintro x4 M3 - - ⟨rfl, rfl⟩
      have hlb : M3 ((M0 0 6).toNat + 1) = M0 ((M0 0 6).toNat + 1) := hf _ (by omega)
      rw [hlb]
      refine ⟨fun h2 => ⟨by omega, (500 - (t + 1)).toNat, by omega, rfl, rfl, rfl, fun L hL j => ?_, hf, by omega, rfl⟩, fun h2 => ⟨hp, rfl, by omega, by omega, (500 - (t + 1)).toNat, by omega, rfl, rfl, rfl, fun L hL j => ?_, fun b q => by rw [up_n q]; exact hf b q, by omega, rfl⟩⟩
      · rw [hL _ (by omega)] at h2
        rw [hI L hL j]
        by_cases q : j = t.toNat
        · rw [q, if_neg (fun z => h2 z.2), if_neg (fun z => h2 z.2)]
        · by_cases q2 : (j : Int) < t ∧ L j = f
          · rw [if_pos q2, if_pos ⟨by omega, q2.2⟩]
          · rw [if_neg q2, if_neg (fun z => q2 ⟨by omega, z.2⟩)]
      · rw [hL _ (by omega)] at h2
        by_cases q : j = t.toNat
        · rw [q, up_sk, if_pos ⟨by omega, Classical.byContradiction h2⟩]
        · rw [up_nk (Or.inr q), hI L hL j]
          by_cases q2 : (j : Int) < t ∧ L j = f
          · rw [if_pos q2, if_pos ⟨by omega, q2.2⟩]
          · rw [if_neg q2, if_neg (fun z => q2 ⟨by omega, z.2⟩)])
end HE
