/-! ===== the model's members on distances ===== -/
def YD (M0 M : Mem) (t : Int) : Prop := (∀ σ, absY M0 σ → absY M σ ∧ lnY_ M (dstS σ t) ∧ isDist (gS σ) (σ 1) (σ 2) t.toNat (dstS σ t)) ∧ (∀ j : Nat, j < nT (gY M0) → M 11 j = 1000000 ∨ (0 ≤ M 11 j ∧ M 11 j ≤ 10000)) ∧ (M 0 = M0 0 ∧ M 1 = M0 1 ∧ M 2 = M0 2) ∧ (0 ≤ t ∧ t < nT (gY M0))
theorem YD_of {M0 M σ0 : Mem} {t x : Int} (ht : 0 ≤ t ∧ t < nT (gY M0)) (h : absY M0 σ0) (hc : c_X9_layDistances 0 t M0 x M) : YD M0 M t := by
  refine ⟨fun σ hσ => ?_, (ld_x h hc).2.2.2.2.1, ?_, ht⟩
  · obtain ⟨k1, k2, k3, k4, k5, k6⟩ := ld_x hσ hc
    exact ⟨k1, k3, k4⟩
  · have f := (ld_x h hc).2.2.2.2.2
    exact ⟨f 0 (by decide) (by decide), f 1 (by decide) (by decide), f 2 (by decide) (by decide)⟩
theorem YD_v {M0 M σ : Mem} {t : Int} (h : YD M0 M t) (hσ : absY M0 σ) {j : Nat} (hj : j < nT (gY M0)) : dstS σ t j = if M 11 j = 1000000 then -4 else M 11 j := by
  obtain ⟨a, b, -⟩ := h.1 σ hσ
  have := b j (by rw [a.2.1.1, ← hσ.2.1.1]; exact hj)
  rw [← this]; rfl
section Y12
variable {l : Launch} {D : va_G} {cy : Nat → ClassId} {ad : Nat → Nat}
theorem ok_X9_within (hA : jA ad 12) : OK_X9_within l D cy ad := met_X9_within hA (ok_X9_layDistances hA) (ok_X9_noTile hA)
  (fun p t v M0 c j M μ => YD M0 M t ∧ 0 ≤ v ∧ (∀ σ, absY M0 σ → c = sumF (fun i => if dstS σ t i ≠ -4 ∧ dstS σ t i ≤ v then 1 else 0) j.toNat) ∧ (0 ≤ c ∧ c ≤ j) ∧ (0 ≤ j ∧ j ≤ nT (gY M0)) ∧ μ = (500 - j).toNat)
  (by
    rintro p t v M0 ⟨hp, h0, σ0, h⟩ hM rt rv
    subst h0
    obtain ⟨hG, hw⟩ := absY_s h
    refine ⟨⟨hp, rfl, hG⟩, ?_⟩
    rintro x2 M1 - - ⟨hx, rfl⟩
    have hx2 := nt_x hx
    refine ⟨fun z => ⟨fun z3 => ⟨⟨hp, rfl, hG, hw, hx2.mp z⟩, ?_⟩, fun z3 => ⟨trivial, fun σ hσ => ⟨?_, hσ⟩⟩⟩, fun z => ⟨trivial, fun σ hσ => ⟨?_, hσ⟩⟩⟩
    · rintro x4 M3 - - hc
      exact ⟨_, rfl, rfl, rfl, YD_of (hx2.mp z) h hc, z3, fun _ _ => rfl, by omega, by omega, rfl⟩
    · unfold F_within
      rw [if_pos ((hsY hσ).mpr (hx2.mp z)), if_pos (by omega)]
    · unfold F_within
      rw [if_neg (fun y => z (hx2.mpr ((hsY hσ).mp y)))])
  (by
    rintro p t v M0 ⟨hp, h0, σ0, h⟩ hM rt rv c j M n ⟨hY, hv, hI, hcb, hj, hμ⟩ -
    subst h0
    obtain ⟨hG, hw⟩ := absY_s h
    obtain ⟨n2, n9, n144⟩ := gY_n hG
    have e0 := hY.2.2.1.1
    have ht := hY.2.2.2
    rw [e0, n2]
    have stp : ¬ (nT (gY M0) : Int) ≤ j → ∀ σ, absY M0 σ → sumF (fun i => if dstS σ t i ≠ -4 ∧ dstS σ t i ≤ v then (1 : Int) else 0) (j + 1).toNat = c + if (if M 11 j.toNat = 1000000 then -4 else M 11 j.toNat) ≠ -4 ∧ (if M 11 j.toNat = 1000000 then -4 else M 11 j.toNat) ≤ v then 1 else 0 := fun hj2 σ hσ => by
      rw [← YD_v hY hσ (j := j.toNat) (by omega), show (j + 1).toNat = j.toNat + 1 by omega, hI σ hσ]
      rfl
    refine ⟨hp, fun h1 => ⟨trivial, fun σ hσ => ⟨?_, (hY.1 σ hσ).1⟩⟩, fun h1 => ⟨hp, rfl, by omega, fun h2 => ⟨by omega, by omega, (500 - (j + 1)).toNat, by omega, rfl, rfl, rfl, hY, hv, fun σ hσ => ?_, by omega, by omega, rfl⟩, fun h2 => ⟨hp, rfl, by omega, fun h3 => ⟨by omega, by omega, (500 - (j + 1)).toNat, by omega, rfl, rfl, rfl, hY, hv, fun σ hσ => ?_, by omega, by omega, rfl⟩, fun h3 => ⟨by omega, by omega, (500 - (j + 1)).toNat, by omega, rfl, rfl, rfl, hY, hv, fun σ hσ => ?_, by omega, by omega, rfl⟩⟩⟩⟩
    · unfold F_within
      rw [if_pos ((hsY hσ).mpr ht), if_neg (by omega), hI σ hσ, ← hσ.2.1.1, show j.toNat = nT (gY M0) by omega]
    · have hb := hY.2.1 j.toNat (by omega)
      rw [stp h1 σ hσ, if_pos (show M 11 j.toNat = 1000000 by omega), if_neg (fun z => z.1 rfl)]
    · rw [stp h1 σ hσ, if_neg (show ¬ M 11 j.toNat = 1000000 by omega), if_neg (fun z => by omega)]
    · have hb := hY.2.1 j.toNat (by omega)
      rw [stp h1 σ hσ, if_neg (show ¬ M 11 j.toNat = 1000000 by omega), if_pos ⟨by omega, by omega⟩])
end Y12
