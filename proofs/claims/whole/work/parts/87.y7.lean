/-! ===== the model's members: values, texts, weights ===== -/
theorem ld_x {M M' σ : Mem} {s x : Int} (h : absY M σ) (hc : c_X9_layDistances 0 s M x M') : absY M' σ ∧ gY M' = gY M ∧ lnY_ M' (dstS σ s) ∧ isDist (gS σ) (σ 1) (σ 2) s.toNat (dstS σ s) ∧ (∀ j : Nat, j < nT (gY M) → M' 11 j = 1000000 ∨ (0 ≤ M' 11 j ∧ M' 11 j ≤ 10000)) ∧ (∀ b, b ≠ 4 → b ≠ 11 → M' b = M b) := by
  obtain ⟨d, b, f⟩ := hc
  have hX := absY_congr h (fun b hb => f b (by omega) (by omega))
  have eg : gY M' = gY M := by rw [hX.2.1.1, h.2.1.1]
  have d2 := isDist_cg (κ := σ 1) (wt := σ 2) h.1.2.1 (fun t ht => h.2.2.1 t ht) (fun k hk => h.2.2.2.1 k hk) (absY_s h).1.1 d
  rw [h.2.1.1] at d2
  exact ⟨hX, eg, fun t tl => dst_eq d2 (by rw [← hX.2.1.1]; exact tl), dst_is d2, b, f⟩
section Y7
variable {l : Launch} {D : va_G} {cy : Nat → ClassId} {ad : Nat → Nat}
theorem ok_X9_distance (hA : jA ad 12) : OK_X9_distance l D cy ad := met_X9_distance hA (ok_X9_layDistances hA) (ok_X9_noTile hA) (by
  rintro p t o M0 ⟨hp, h0, σ0, h⟩ hM rt ro
  subst h0
  obtain ⟨hG, hw⟩ := absY_s h
  obtain ⟨n2, n9, n144⟩ := gY_n hG
  refine ⟨⟨hp, rfl, hG⟩, ?_⟩
  rintro x2 M1 - - ⟨hx, rfl⟩
  have hx2 := nt_x hx
  refine ⟨fun z => ⟨trivial, fun σ hσ => ⟨?_, hσ⟩⟩, fun z => ⟨⟨hp, rfl, hG⟩, ?_⟩⟩
  · unfold F_distance
    rw [if_neg (fun y => z (hx2.mpr ((hsY hσ).mp y.1)))]
  · have ht := hx2.mp (Classical.byContradiction z)
    rintro x4 M3 - - ⟨hx4, rfl⟩
    have hx4' := nt_x hx4
    refine ⟨fun z4 => ⟨⟨hp, rfl, hG, hw, ht⟩, ?_⟩, fun z4 => ⟨trivial, fun σ hσ => ⟨?_, hσ⟩⟩⟩
    · have ho := hx4'.mp z4
      rintro x6 M5 - - hc6
      obtain ⟨-, -, -, -, m5, -⟩ := ld_x h hc6
      have hb := m5 o.toNat (by omega)
      refine ⟨hp, rfl, by omega, fun z6 => ⟨trivial, fun σ hσ => ?_⟩, fun z6 => ⟨hp, rfl, by omega, trivial, fun σ hσ => ?_⟩⟩
      · obtain ⟨k1, k2, k3, k4, k5, k6⟩ := ld_x hσ hc6
        have := k3 o.toNat (by rw [k2]; omega)
        unfold dY at this
        rw [if_pos (by omega)] at this
        refine ⟨?_, k1⟩
        unfold F_distance
        rw [if_pos ⟨(hsY hσ).mpr ht, (hsY hσ).mpr ho⟩]; exact this
      · obtain ⟨k1, k2, k3, k4, k5, k6⟩ := ld_x hσ hc6
        have := k3 o.toNat (by rw [k2]; omega)
        unfold dY at this
        rw [if_neg (by omega)] at this
        refine ⟨?_, k1⟩
        unfold F_distance
        rw [if_pos ⟨(hsY hσ).mpr ht, (hsY hσ).mpr ho⟩]; exact this
    · unfold F_distance
      rw [if_neg (fun y => z4 (hx4'.mpr ((hsY hσ).mp y.2)))])
theorem ok_X9_setWeight (hA : jA ad 12) : OK_X9_setWeight l D cy ad := met_X9_setWeight hA (ok_X9_in hA) (ok_X9_isKind hA) (by
  rintro p k v M0 ⟨hp, h0, σ0, h⟩ hM rk rv
  subst h0
  refine ⟨trivial, ?_⟩
  rintro x2 M1 - - ⟨hc2, rfl⟩
  have hx2 := if_x hc2
  have bad : ¬ (kdO k ∧ 0 ≤ v ∧ v ≤ 9) → c_X9_setWeight 0 k v M1 (-2) M1 := fun q σ hσ => ⟨by unfold F_setWeight; rw [if_neg q], by unfold G_setWeight; rw [if_neg q]; exact hσ⟩
  refine ⟨fun z => ⟨trivial, bad (fun q => hx2.mp z q.1)⟩, fun z => ⟨trivial, ?_⟩⟩
  have hk := Classical.byContradiction (fun y => z (hx2.mpr y))
  rintro x4 M3 - - ⟨hc4, rfl⟩
  have hx4 := if_x hc4
  refine ⟨fun z4 => ?_, fun z4 => ⟨trivial, bad (fun q => hx4.mp (Classical.byContradiction z4) q.2)⟩⟩
  have hv := Classical.byContradiction (fun y => z4 (hx4.mpr y))
  refine ⟨hp, rfl, by omega, hp, rfl, by omega, trivial, fun σ hσ => ?_⟩
  obtain ⟨⟨o1, o2, o3, o4, o5, o6, o7⟩, ⟨h2, h3⟩, h4, h5, h6, h7⟩ := id hσ
  have eg : gS (up σ 2 k.toNat v) = gS σ := gS_cg (fun i hi => by rw [up_n (by decide)])
  have er : ∀ r, r ≠ 2 → up σ 2 k.toNat v r = σ r := fun r hr => up_n hr
  have eM : ∀ r, r ≠ 2 → up M3 2 k.toNat v r = M3 r := fun r hr => up_n hr
  have egY : gY (up M3 2 k.toNat v) = gY M3 := by funext i; unfold gY; rw [eM 0 (by decide)]
  unfold F_setWeight G_setWeight
  rw [if_pos ⟨hk, hv⟩, if_pos ⟨hk, hv⟩]
  refine ⟨h5 _ (by omega), ⟨by rw [eg]; exact o1, by rw [er 1 (by decide)]; exact o2, fun j hj => ?_, by rw [er 0 (by decide)]; exact o4, by rw [er 0 (by decide), er 3 (by decide)]; exact o5, by rw [er 0 (by decide)]; exact o6, by rw [er 0 (by decide), er 4 (by decide)]; exact o7⟩, ⟨by rw [egY, eg]; exact h2, by rw [eM 0 (by decide)]; exact h3⟩, by rw [er 1 (by decide)]; unfold kiY; rw [eM 1 (by decide)]; exact h4, fun j hj => ?_, by rw [er 0 (by decide), er 3 (by decide), eM 0 (by decide), eM 3 (by decide)]; exact h6, by rw [er 0 (by decide), er 4 (by decide), eM 0 (by decide), eM 9 (by decide)]; exact h7⟩
  · rw [up_s]
    by_cases q : j = k.toNat
    · rw [q, upR_s]; omega
    · rw [upR_n q]; exact o3 j hj
  · rw [up_s, up_s]
    by_cases q : j = k.toNat
    · rw [q, upR_s, upR_s]
    · rw [upR_n q, upR_n q]; exact h5 j hj)
end Y7
