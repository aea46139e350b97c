section FIND2
variable {l : Launch} {D : va_G} {cy : Nat → ClassId} {ad : Nat → Nat}
theorem RXs_congr {p : Nat} {M M' B : Mem} {g : Nat → Int} (h : RXs p M g B) (h1 : M' (p + 1) = M (p + 1)) (h3 : M' (p + 3) = M (p + 3)) (h4 : M' (p + 4) = M (p + 4)) : RXs p M' g B := fun t tl => by
  rw [h1, h3, h4]; exact h t tl
theorem ok_X1_find (hA : jA ad 46) : OK_X1_find l D cy ad := met_X1_find hA (ok_X1_flood hA) (ok_X3_tiles hA)
  (fun p M0 i M μ => (∀ t : Nat, (t : Int) < i → M (p + 1) t = -5) ∧ (∀ b, b ≠ p → b ≠ p + 2 → b ≠ p + 1 → b ≠ p + 3 → b ≠ p + 4 → b ≠ p + 6 → b ≠ p + 7 → M b = M0 b) ∧ (0 ≤ i ∧ i ≤ nT (gX M0)) ∧ μ = (1000 - i).toNat)
  (fun p M0 i M μ => (∀ κ, kin M0 κ → RXs p M (gX M0) (bly (gX M0) κ i.toNat) ∧ M p 8 = cntS (bly (gX M0) κ i.toNat 0) (nT (gX M0)) ∧ ∀ f : Nat, f < nT (gX M0) → bly (gX M0) κ i.toNat 0 f = f → M (p + 2) f = cntL (bly (gX M0) κ i.toNat 0) f (nT (gX M0))) ∧
    (∀ b, b ≠ p → b ≠ p + 2 → b ≠ p + 1 → b ≠ p + 3 → b ≠ p + 4 → b ≠ p + 6 → b ≠ p + 7 → M b = M0 b) ∧ (0 ≤ i ∧ i ≤ nT (gX M0)) ∧ μ = (500 - i).toNat)
  (by
    rintro p M0 ⟨hp, hS⟩ hM
    exact ⟨_, rfl, fun t ht => by omega, fun _ _ _ _ _ _ _ _ => rfl, by omega, rfl⟩)
  (by
    rintro p M0 ⟨hp, hS⟩ hM i M n ⟨hI, hf, hi, hn⟩ -
    obtain ⟨⟨a1, b1⟩, -⟩ := kd1a hp
    have hpg := kd1g hp
    have G := hS.1
    obtain ⟨nE, n9, n144⟩ := nT_b G
    have hfr : ∀ b, b ≤ 6 → M b = M0 b := fun b hb => hf b (by omega) (by omega) (by omega) (by omega) (by omega) (by omega) (by omega)
    obtain ⟨hS1, eg⟩ := surf_congr (M' := M) hS (fun b q1 q2 => hfr b (by omega))
    have e45 : M 1 4 * M 1 5 = nT (gX M0) := by rw [hfr 1 (by decide), nE]; rfl
    refine ⟨hp, ⟨rfl, rfl, surf_gB hS1⟩, ?_⟩
    rintro x2 M1 - - ⟨rfl, rfl⟩
    rw [e45]
    refine ⟨fun h => ⟨hp, _, ?_, rfl, fun κ hκ => ⟨fun t tl => ?_, ?_, fun f fl hff => ?_⟩, fun b q0 q2 q1 q3 q4 q6 q7 => by rw [up_n q0]; exact hf b q0 q2 q1 q3 q4 q6 q7, by omega, rfl⟩, fun h => ⟨hp, a1, ⟨by omega, by rw [b1]; omega⟩, by omega, (1000 - (i + 1)).toNat, by omega, rfl, fun t tl => ?_, fun b q0 q2 q1 q3 q4 q6 q7 => by rw [up_n q1]; exact hf b q0 q2 q1 q3 q4 q6 q7, by omega, rfl⟩⟩
    · omega
    · rw [up_n (by omega), up_n (by omega), up_n (by omega)]
      refine ⟨?_, fun z => ?_⟩
      · rw [hI t (by omega)]
        show (-5 : Int) = if (-1 : Int) < 0 then -5 else -1
        rw [if_pos (by decide)]
      · exact absurd z (by show ¬ (0 : Int) ≤ -1; decide)
    · rw [up_sk]
      exact (cntS_0 _).symm
    · exact absurd hff (by show ¬ (-1 : Int) = f; omega)
    · by_cases q : t = i.toNat
      · subst q; rw [up_sk]
      · rw [up_nk (Or.inr q)]; exact hI t (by omega))
  (by
    rintro p M0 ⟨hp, hS⟩ hM i M n ⟨hI, hf, hi, hn⟩ -
    obtain ⟨⟨a1, b1⟩, -⟩ := kd1a hp
    have hpg := kd1g hp
    have G := hS.1
    obtain ⟨nE, n9, n144⟩ := nT_b G
    have hfr : ∀ b, b ≤ 6 → M b = M0 b := fun b hb => hf b (by omega) (by omega) (by omega) (by omega) (by omega) (by omega) (by omega)
    obtain ⟨hS1, eg⟩ := surf_congr (M' := M) hS (fun b q1 q2 => hfr b (by omega))
    have e45 : M 1 4 * M 1 5 = nT (gX M0) := by rw [hfr 1 (by decide), nE]; rfl
    have hκ0 : kin M0 (M0 6) := fun t _ => rfl
    refine ⟨hp, ⟨rfl, rfl, surf_gB hS1⟩, ?_⟩
    rintro x2 M1 - - ⟨rfl, rfl⟩
    rw [e45]
    refine ⟨fun h => ⟨rfl, fun κ hκ => ⟨?_, hf⟩⟩, fun h => ⟨hp, a1, ⟨by omega, by rw [b1]; omega⟩, fun h2 => ⟨by omega, (500 - (i + 1)).toNat, by omega, rfl, fun κ hκ => ?_, hf, by omega, rfl⟩, fun h2 => ?_⟩⟩
    · obtain ⟨r1, r2, r3⟩ := hI κ hκ
      rw [show i.toNat = nT (gX M0) by omega] at r1 r2 r3
      refine ⟨fun t tl => ?_, r2⟩
      obtain ⟨z1, z2⟩ := r1 t tl
      have lf := lab_facts (κ := κ) G tl
      have z0 : ¬ bly (gX M0) κ (nT (gX M0)) 0 t < 0 := by have := lf.1.1; unfold lab at this; omega
      rw [if_neg z0] at z1
      obtain ⟨z3, z4⟩ := z2 (by omega)
      exact ⟨z1, z3, z4, fun q => r3 t tl q⟩
    · obtain ⟨r1, r2, r3⟩ := hI κ hκ
      have z := (r1 i.toNat (by omega)).1
      have : ¬ bly (gX M0) κ i.toNat 0 i.toNat < 0 := fun q => h2 (by rw [z, if_pos q])
      rw [show (i + 1).toNat = i.toNat + 1 by omega]
      unfold bly
      rw [if_neg this]
      exact ⟨r1, r2, r3⟩
    · have h2 := Classical.byContradiction h2
      have neg : ∀ κ, kin M0 κ → bly (gX M0) κ i.toNat 0 i.toNat < 0 := by
        intro κ hκ
        have z := ((hI κ hκ).1 i.toNat (by omega)).1
        rw [h2] at z
        by_cases q : bly (gX M0) κ i.toNat 0 i.toNat < 0
        · exact q
        · rw [if_neg q] at z; omega
      have hi2 : ((i.toNat : Nat) : Int) = i := by omega
      have pre : ∀ κ, kin M0 κ → preFl p i M1 κ (bly (gX M0) κ i.toNat) := by
        intro κ hκ
        exact ⟨kin_congr hκ (hfr 6 (by decide)), by rw [eg]; exact (hI κ hκ).1, by rw [eg]; exact (BG_ly G i.toNat (by omega)).1, by rw [eg]; omega, neg κ hκ⟩
      refine ⟨⟨hp, hS1, _, _, pre _ hκ0⟩, ?_⟩
      rintro x4 M3 - - hC
      have hF := (hC _ _ (pre _ hκ0)).2.2
      have e8 : M3 p = M1 p := hF p (by omega) (by omega) (by omega) (by omega) (by omega) (by omega)
      have cb : 0 ≤ M1 p 8 ∧ M1 p 8 ≤ nT (gX M0) := by
        rw [(hI _ hκ0).2.1]
        exact sumF_b (fun j _ => if01 _)
      rw [e8]
      refine ⟨hp, by omega, hp, by omega, (500 - (i + 1)).toNat, by omega, rfl, fun κ hκ => ?_, ?_, by omega, rfl⟩
      · obtain ⟨r1, r2, r3⟩ := hI κ hκ
        obtain ⟨c1, c2, -⟩ := hC _ _ (pre κ hκ)
        rw [eg] at c1 c2
        have hBG := (BG_ly (κ := κ) G i.toNat (by omega)).1
        obtain ⟨d1, d2⟩ := cntS_fl (i := i.toNat) G hBG (by omega) (neg κ hκ)
        obtain ⟨e1, e2, e3, e4, e5⟩ := BG_fl (f := ((i.toNat : Nat) : Int)) G hBG (by omega) (by rw [Int.toNat_natCast]; exact neg κ hκ)
        rw [show (i + 1).toNat = i.toNat + 1 by omega]
        unfold bly
        rw [if_pos (neg κ hκ)]
        rw [← hi2] at c1 c2
        simp only [Int.toNat_natCast] at c2 e2
        refine ⟨RXs_congr c1 (up_n (by omega)) (up_n (by omega)) (up_n (by omega)), ?_, fun f fl hff => ?_⟩
        · rw [up_sk, r2, d1]
        · rw [up_n (by omega), c2]
          by_cases q : f = i.toNat
          · subst q
            rw [upR_s]
            exact e3
          · rw [upR_n q, d2 f (by omega) (by omega)]
            have hb : 0 ≤ bly (gX M0) κ i.toNat 0 f := by
              rcases Int.lt_or_le (bly (gX M0) κ i.toNat 0 f) 0 with y | y
              · rcases e5 f fl y with z | z <;> omega
              · exact y
            refine r3 f fl ?_
            rw [← e4 f fl hb]; exact hff
      · intro b q0 q2 q1 q3 q4 q6 q7
        rw [up_n q0, hF b q2 q1 q3 q4 q6 q7]
        exact hf b q0 q2 q1 q3 q4 q6 q7)
end FIND2
