/-! ===== one-sided parts, the next tile of a route ===== -/
theorem sl_x {M M' : Mem} {t d x : Int} (hG : gyB M) (hw : woY M) (ht : 0 ≤ t ∧ t < nT (gY M)) (hc : c_X9_stepLength 0 t (nx (gY M) t d) M x M') : M' = M ∧ x = (if stl (gY M) (M 1) (M 2) t d = 0 then 1000000 else stl (gY M) (M 1) (M 2) t d) := by
  obtain ⟨hx, hM⟩ := hc
  refine ⟨hM, ?_⟩
  obtain ⟨n2, n9, n144⟩ := gY_n hG
  have nE := (nT_b hG.1).1
  have hu := nx_b hG.1 (t := t) (d := d) ht.1 (by omega)
  have k1 := hw.1 t.toNat (by omega)
  have v1 := hw.2 (M 1 t.toNat).toNat (by omega)
  rw [hx]
  unfold stl
  by_cases q : nx (gY M) t d < 0
  · rw [if_pos q, if_pos q, if_pos rfl]
  · have k2 := hw.1 (nx (gY M) t d).toNat (by omega)
    have v2 := hw.2 (M 1 (nx (gY M) t d).toNat).toNat (by omega)
    rw [if_neg q, if_neg q]
    by_cases q2 : M 2 (M 1 t.toNat).toNat = 0 ∨ M 2 (M 1 (nx (gY M) t d).toNat).toNat = 0
    · rw [if_pos q2, if_pos q2, if_pos rfl]
    · rw [if_neg q2, if_neg q2, if_neg (by omega)]
theorem bif_if : ∀ z : Bool, (if z = true then (1 : Int) else 0) = bif z then 1 else 0 := by decide
section Y4
variable {l : Launch} {D : va_G} {cy : Nat → ClassId} {ad : Nat → Nat}
theorem ok_X9_onward (hA : jA ad 12) : OK_X9_onward l D cy ad := met_X9_onward hA (ok_X9_next hA) (ok_X9_stepLength hA)
  (fun p t M0 d M μ => M = M0 ∧ (∀ L, lnY_ M0 L → onw (gY M0) (M0 1) (M0 2) L t 4 = onw (gY M0) (M0 1) (M0 2) L t (4 - d).toNat) ∧ (0 ≤ d ∧ d ≤ 4) ∧ μ = (4 - d).toNat)
  (by
    rintro p t M0 ⟨hp, h0, hG, hw, ht, hr, hl, hs⟩ hM rt
    exact ⟨_, rfl, rfl, rfl, fun L hL => rfl, by omega, rfl⟩)
  (by
    rintro p t M0 ⟨hp, h0, hG, hw, ht, hr, hl, hs⟩ hM rt d M n ⟨rfl, hI, hd, hμ⟩ -
    subst h0
    obtain ⟨n2, n9, n144⟩ := gY_n hG
    have nE := (nT_b hG.1).1
    refine ⟨fun h => ⟨trivial, fun L hL => ?_, rfl⟩, fun h => ⟨⟨hp, rfl, hG, ht, by omega⟩, ?_⟩⟩
    · rw [hI L hL, show (4 - d).toNat = 0 by omega]; rfl
    rintro x2 M1 - - ⟨rfl, rfl⟩
    have hu := nx_b hG.1 (t := t) (d := d) ht.1 (by omega)
    have e1 : (4 - d).toNat = (3 - d).toNat + 1 := by omega
    have e2 : (3 : Int) - ((3 - d).toNat : Nat) = d := by omega
    have e3 : (4 - (d + 1)).toNat = (3 - d).toNat := by omega
    obtain ⟨s1, s2, s3⟩ := stl_b hw.1 hw.2 hG.1 (t := t) (d := d) ht.1 ht.2
    have dt : dY M1 t.toNat = M1 11 t.toNat := by unfold dY; rw [if_neg (by omega)]
    have du : 0 < stl (gY M1) (M1 1) (M1 2) t d → dY M1 (nx (gY M1) t d).toNat = M1 11 (nx (gY M1) t d).toNat := fun z => by unfold dY; rw [if_neg (hs d hd.1 (by omega) z)]
    have no : ¬ (0 < stl (gY M1) (M1 1) (M1 2) t d ∧ M1 11 (nx (gY M1) t d).toNat + stl (gY M1) (M1 1) (M1 2) t d = M1 11 t.toNat) → ∀ L, lnY_ M1 L → onw (gY M1) (M1 1) (M1 2) L t 4 = onw (gY M1) (M1 1) (M1 2) L t (4 - (d + 1)).toNat := fun z L hL => by
      rw [hI L hL, e3, e1]
      show (if 0 < stl (gY M1) (M1 1) (M1 2) t (3 - ((3 - d).toNat : Nat)) ∧ L (nx (gY M1) t (3 - ((3 - d).toNat : Nat))).toNat + stl (gY M1) (M1 1) (M1 2) t (3 - ((3 - d).toNat : Nat)) = L t.toNat then _ else _) = _
      rw [e2, if_neg]
      rintro ⟨z1, z2⟩
      have := s3 z1
      rw [← hL t.toNat (by omega), ← hL _ (by omega), dt, du z1] at z2
      exact z ⟨z1, z2⟩
    refine ⟨⟨hp, rfl, hG, hw, ht, by omega⟩, ?_⟩
    rintro x4 M3 - - hc4
    obtain ⟨rfl, hx4⟩ := sl_x hG hw ht hc4
    have hst : ¬ (1000000 : Int) ≤ x4 → 0 < stl (gY M3) (M3 1) (M3 2) t d ∧ x4 = stl (gY M3) (M3 1) (M3 2) t d := fun z => by
      by_cases q : stl (gY M3) (M3 1) (M3 2) t d = 0
      · rw [if_pos q] at hx4; omega
      · rw [if_neg q] at hx4; omega
    refine ⟨fun h2 => ⟨by omega, (4 - (d + 1)).toNat, by omega, rfl, rfl, rfl, no (fun z => ?_), by omega, rfl⟩, fun h2 => ?_⟩
    · rw [if_neg (by omega)] at hx4; omega
    obtain ⟨p1, p2⟩ := hst h2
    have hn := s3 p1
    have hb := hl (nx (gY M3) t d).toNat (by omega)
    refine ⟨hp, rfl, by omega, ⟨hp, rfl, hG, hw, ht, by omega⟩, ?_⟩
    rintro x6 M5 - - hc6
    obtain ⟨rfl, hx6⟩ := sl_x hG hw ht hc6
    rw [if_neg (by omega)] at hx6
    refine ⟨by omega, hp, rfl, by omega, fun h3 => ⟨by omega, (4 - (d + 1)).toNat, by omega, rfl, rfl, rfl, no (fun z => h3 (by rw [hx6]; exact z.2)), by omega, rfl⟩, fun h3 => ⟨trivial, fun L hL => ?_, rfl⟩⟩
    have h4 := Classical.byContradiction h3
    rw [hI L hL, e1]
    show _ = (if 0 < stl (gY M5) (M5 1) (M5 2) t (3 - ((3 - d).toNat : Nat)) ∧ L (nx (gY M5) t (3 - ((3 - d).toNat : Nat))).toNat + stl (gY M5) (M5 1) (M5 2) t (3 - ((3 - d).toNat : Nat)) = L t.toNat then _ else _)
    rw [e2, if_pos]
    rw [← hL t.toNat (by omega), ← hL _ (by omega), dt, du p1]
    exact ⟨p1, by rw [← hx6]; exact h4⟩)
theorem ok_X9_isOneSided (hA : jA ad 12) : OK_X9_isOneSided l D cy ad := met_X9_isOneSided hA (ok_X9_loops hA)
  (fun p f M0 s b c M μ => M = M0 ∧ (∀ κ, kiY M0 κ → layY M0 (gY M0) κ → s = lpF (lab (gY M0) κ) (crs (gY M0) κ) (gY M0) f (nT (gY M0) * 4)) ∧ b = (if anyO (decide (gY M0 2 = 2)) (decide (gY M0 4 = 2)) s c.toNat = true then 1 else 0) ∧ (1 ≤ c ∧ c ≤ 4) ∧ μ = (10 - c).toNat)
  (by
    rintro p f M0 ⟨hp, h0, hG, κ0, hκ0, hl0⟩ hM rf
    subst h0
    refine ⟨⟨hp, rfl, hG, κ0, hκ0, hl0⟩, ?_⟩
    rintro x2 M1 - - ⟨hx, rfl⟩
    refine ⟨_, rfl, rfl, rfl, hx, (if_neg ?_).symm, by omega, rfl⟩
    show ¬ ((false || (bitB x2 0 && oddB _ _ 0)) = true)
    rw [show oddB (decide (gY M1 2 = 2)) (decide (gY M1 4 = 2)) 0 = false by cases decide (gY M1 2 = 2) <;> cases decide (gY M1 4 = 2) <;> decide, Bool.and_false]
    decide)
  (by
    rintro p f M0 ⟨hp, h0, hG, κ0, hκ0, hl0⟩ hM rf s b c M n ⟨rfl, hI, hb, hc, hμ⟩ -
    subst h0
    have b01 : b = 0 ∨ b = 1 := by rw [hb]; split <;> omega
    refine ⟨fun h => ⟨b01, fun κ hκ hl => ?_, rfl⟩, fun h => ?_⟩
    · have := (lp_odd (κ := κ) (f := f) hG.1 (nT (gY M) * 4) (Nat.le_refl _)).2.2
      rw [← hI κ hκ hl] at this
      rw [hb, show c.toNat = 4 by omega, this]
      exact bif_if _
    · have ec : ((c.toNat : Nat) : Int) = c := by omega
      have f1 : inR (c + 1) := by omega
      have f2 : (10 - (c + 1)).toNat < n := by omega
      have f3 : 1 ≤ c + 1 ∧ c + 1 ≤ 4 := by omega
      have a12 := and12 c.toNat (by omega)
      rw [ec] at a12
      have ob := oddB_p (decide (gY M 2 = 2)) (decide (gY M 4 = 2)) c.toNat (by omega)
      rw [decide_eq_true_iff, decide_eq_true_iff] at ob
      have ob' : oddB (decide (gY M 2 = 2)) (decide (gY M 4 = 2)) ((c.toNat : Nat) : Int) = true ↔ ¬ ((bAnd c 1 = 1 ∧ M 0 5 = 2) ↔ (bAnd c 2 = 2 ∧ M 0 7 = 2)) := by
        rw [a12.1, a12.2]; exact ob
      have stp : anyO (decide (gY M 2 = 2)) (decide (gY M 4 = 2)) s (c + 1).toNat = true ↔ (b ≠ 0 ∨ (bAnd (bShr s c) 1 = 1 ∧ ¬ ((bAnd c 1 = 1 ∧ M 0 5 = 2) ↔ (bAnd c 2 = 2 ∧ M 0 7 = 2)))) := by
        rw [show (c + 1).toNat = c.toNat + 1 by omega]
        show (anyO _ _ s c.toNat || (bitB s c.toNat && oddB _ _ ((c.toNat : Nat) : Int))) = true ↔ _
        rw [Bool.or_eq_true, Bool.and_eq_true, ob']
        unfold bitB
        rw [decide_eq_true_iff, ec]
        refine or_congr_left ?_
        rw [hb]
        split
        next z => exact ⟨fun _ => by decide, fun _ => z⟩
        next z => exact ⟨fun y => absurd y z, fun y => absurd rfl y⟩
      have key : ∀ v : Int, (v = if (b ≠ 0 ∨ (bAnd (bShr s c) 1 = 1 ∧ ¬ ((bAnd c 1 = 1 ∧ M 0 5 = 2) ↔ (bAnd c 2 = 2 ∧ M 0 7 = 2)))) then 1 else 0) → inR (c + 1) ∧ ∃ μ : Nat, μ < n ∧ (0 : Nat) = 0 ∧ f = f ∧ (M = M ∧ (∀ κ, kiY M κ → layY M (gY M) κ → s = lpF (lab (gY M) κ) (crs (gY M) κ) (gY M) f (nT (gY M) * 4)) ∧ v = (if anyO (decide (gY M 2 = 2)) (decide (gY M 4 = 2)) s (c + 1).toNat = true then 1 else 0) ∧ (1 ≤ c + 1 ∧ c + 1 ≤ 4) ∧ μ = (10 - (c + 1)).toNat) := fun v hv =>
        ⟨f1, (10 - (c + 1)).toNat, f2, rfl, rfl, rfl, hI, by
          rw [hv]
          by_cases q : anyO (decide (gY M 2 = 2)) (decide (gY M 4 = 2)) s (c + 1).toNat = true
          · rw [if_pos q, if_pos (stp.mp q)]
          · rw [if_neg q, if_neg (fun y => q (stp.mpr y))], f3, rfl⟩
      clear stp ob ob' a12 hI hb hG hκ0 hl0 hM rf hc hμ ec f1 f2 f3 b01 h
      generalize bAnd (bShr s c) 1 = u3 at *
      generalize bAnd c 1 = u1 at *
      generalize bAnd c 2 = u2 at *
      repeat' (first | exact hp | refine key _ ?_ | refine And.intro ?_ ?_ | intro _)
      all_goals first | omega | (split <;> omega))
end Y4
