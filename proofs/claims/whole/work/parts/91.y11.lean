/-! ===== the model's members: ofPart, reset ===== -/
theorem bif01 : ∀ b : Bool, (bif b then (1 : Int) else 0) = 0 ∨ (bif b then (1 : Int) else 0) = 1 := by decide
section Y11
variable {l : Launch} {D : va_G} {cy : Nat → ClassId} {ad : Nat → Nat}
theorem ok_X9_ofPart (hA : jA ad 12) : OK_X9_ofPart l D cy ad := met_X9_ofPart hA (ok_X9_besides hA) (ok_X9_border hA) (ok_X9_isOneSided hA) (ok_X9_layLabels hA) (ok_X9_loops hA) (ok_X9_noTile hA) (ok_X9_reach hA) (ok_X9_sizeOf hA) (by
  rintro p f w M0 ⟨hp, h0, σ0, h⟩ hM rf rw_
  subst h0
  obtain ⟨hG, hw⟩ := absY_s h
  refine ⟨⟨hp, rfl, hG⟩, ?_⟩
  rintro x2 M1 - - hc2
  have hX : ∀ σ, absY M0 σ → absY M1 σ ∧ layY M1 (gY M1) (σ 1) ∧ kiY M1 (σ 1) := fun σ hσ => by
    obtain ⟨c1, c2⟩ := hc2 _ hσ.2.2.1
    have a := absY_congr hσ (fun b hb => c2 b (by omega) (by omega) (by omega) (by omega))
    refine ⟨a, ?_, a.2.2.1⟩
    rw [a.2.1.1, ← hσ.2.1.1]; exact c1
  obtain ⟨hX0, hL0, hK0⟩ := hX σ0 h
  obtain ⟨hG1, hw1⟩ := absY_s hX0
  obtain ⟨n2, n9, n144⟩ := gY_n hG1
  have ex : ∃ κ, kiY M1 κ ∧ layY M1 (gY M1) κ := ⟨_, hK0, hL0⟩
  refine ⟨⟨hp, rfl, hG1⟩, ?_⟩
  rintro x4 M3 - - ⟨hx4, rfl⟩
  have hx := nt_x hx4
  refine ⟨fun z => ⟨trivial, fun σ hσ => ⟨?_, (hX σ hσ).1⟩⟩, fun z => ?_⟩
  · unfold F_ofPart
    rw [if_neg (fun y => z (hx.mpr ((hsY (hX σ hσ).1).mp y.1)))]
  have hf := hx.mp (Classical.byContradiction z)
  have hl : ∀ σ, absY M0 σ → M3 5 f.toNat = labS σ f.toNat := fun σ hσ => by
    have := ((hX σ hσ).2.1 f.toNat (by omega)).1
    rw [(hX σ hσ).1.2.1.1] at this; exact this
  refine ⟨hp, rfl, by omega, fun z4 => ?_, fun z4 => ⟨trivial, fun σ hσ => ⟨?_, (hX σ hσ).1⟩⟩⟩
  · have good : ∀ v, 0 ≤ w ∧ w ≤ 7 → ∀ M', (∀ σ, absY M0 σ → v = propF (gS σ) (σ 1) f w) → (∀ σ, absY M0 σ → absY M' σ) → c_X9_ofPart 0 f w M0 v M' := fun v hw7 M' hv hM' σ hσ => by
      refine ⟨?_, hM' σ hσ⟩
      unfold F_ofPart
      rw [if_pos ⟨(hsY (hX σ hσ).1).mpr hf, (hl σ hσ).symm.trans z4⟩, if_pos hw7]
      exact hv σ hσ
    have st : ∀ σ, absY M0 σ → absY M3 σ := fun σ hσ => (hX σ hσ).1
    refine ⟨fun y => ⟨trivial, fun σ hσ => ⟨?_, (hX σ hσ).1⟩⟩, fun y => ⟨hp, rfl, by omega, trivial, good _ (by omega) _ (fun σ hσ => ?_) st⟩, fun y => ⟨⟨hp, rfl, hG1⟩, ?_⟩, fun y => ⟨⟨hp, rfl, hG1, ex⟩, ?_⟩, fun y => ⟨⟨hp, rfl, hG1, ex⟩, ?_⟩, fun y => ⟨⟨hp, rfl, hG1, ex⟩, ?_⟩, fun y => ⟨⟨hp, rfl, hG1, ex⟩, ?_⟩, fun y => ⟨⟨hp, rfl, hG1, ex⟩, ?_⟩, fun y => ⟨⟨hp, rfl, hG1⟩, ?_⟩, trivial⟩
    · unfold F_ofPart
      rw [if_pos ⟨(hsY (hX σ hσ).1).mpr hf, (hl σ hσ).symm.trans z4⟩, if_neg (by omega)]
    · subst y
      exact (hX σ hσ).2.2 _ (by omega)
    · rintro x6 M5 - - ⟨hx6, rfl⟩
      refine ⟨trivial, good _ (by omega) _ (fun σ hσ => ?_) st⟩
      have hw' : w = 1 := by omega
      subst hw'
      rw [hx6 _ (fun t ht => ((hX σ hσ).2.1 t ht).1), (hX σ hσ).1.2.1.1]
      rfl
    · rintro x6 M5 - - ⟨hx6, rfl⟩
      refine ⟨trivial, good _ (by omega) _ (fun σ hσ => ?_) st⟩
      have hw' : w = 2 := by omega
      subst hw'
      rw [hx6 _ (hX σ hσ).2.2 (hX σ hσ).2.1, (hX σ hσ).1.2.1.1]
      rfl
    · rintro x6 M5 - - ⟨hx6, rfl⟩
      refine ⟨trivial, good _ (by omega) _ (fun σ hσ => ?_) st⟩
      have hw' : w = 3 := by omega
      subst hw'
      rw [hx6 _ (hX σ hσ).2.2 (hX σ hσ).2.1, (hX σ hσ).1.2.1.1]
      rfl
    · rintro x6 M5 - - ⟨hx6, rfl⟩
      refine ⟨trivial, good _ (by omega) _ (fun σ hσ => ?_) st⟩
      have hw' : w = 4 := by omega
      subst hw'
      rw [hx6 _ (hX σ hσ).2.2 (hX σ hσ).2.1, (hX σ hσ).1.2.1.1]
      rfl
    · rintro x6 M5 - - ⟨hx6, rfl⟩
      have hw' : w = 5 := by omega
      subst hw'
      have h01 : x6 = 0 ∨ x6 = 1 := by
        rw [hx6 _ hK0 hL0]
        exact bif01 _
      refine ⟨fun y0 => ⟨trivial, good _ (by omega) _ (fun σ hσ => ?_) st⟩, fun y0 => ⟨trivial, good _ (by omega) _ (fun σ hσ => ?_) st⟩⟩
      · rw [← y0, hx6 _ (hX σ hσ).2.2 (hX σ hσ).2.1, (hX σ hσ).1.2.1.1]
      · rw [← h01.resolve_left y0, hx6 _ (hX σ hσ).2.2 (hX σ hσ).2.1, (hX σ hσ).1.2.1.1]
    · rintro x6 M5 - - ⟨hx6, hf6⟩
      refine ⟨trivial, good _ (by omega) _ (fun σ hσ => ?_) (fun σ hσ => absY_congr (hX σ hσ).1 (fun b hb => hf6 b (by omega)))⟩
      have hw' : w = 6 := by omega
      subst hw'
      rw [hx6 _ (hX σ hσ).2.2 (hX σ hσ).2.1, (hX σ hσ).1.2.1.1]
      rfl
    · rintro x6 M5 - - ⟨hx6, rfl⟩
      refine ⟨trivial, good _ (by omega) _ (fun σ hσ => ?_) st⟩
      have hw' : w = 7 := by omega
      subst hw'
      rw [hx6 _ _ (fun t ht => ((hX σ hσ).2.1 t ht).1) (fun t ht => ((hX σ hσ).2.1 t ht).2.2), (hX σ hσ).1.2.1.1]
      rfl
  · unfold F_ofPart
    rw [if_neg (fun y => z4 ((hl σ hσ).trans y.2))])
end Y11
