/-! ===== the model's members, the short ones ===== -/
theorem absY_s {M σ : Mem} (h : absY M σ) : gyB M ∧ woY M := by
  obtain ⟨h1, ⟨h2, h3⟩, h4, h5, -⟩ := h
  refine ⟨⟨by rw [h2]; exact h1.1, h3⟩, fun t ht => ?_, fun k hk => ?_⟩
  · rw [h4 t ht]; exact h1.2.1 t ht
  · rw [h5 k hk]; exact h1.2.2.1 k hk
theorem hsY {M σ : Mem} {t : Int} (h : absY M σ) : hasS σ t ↔ (0 ≤ t ∧ t < nT (gY M)) := by rw [h.2.1.1]
theorem nt_x {P : Prop} [Decidable P] {x : Int} (h : x = if P then 0 else 1) : x = 0 ↔ P := if2_x h
/-- rows that the state doesn't speak of -/
theorem absY_congr {M M' σ : Mem} (h : absY M σ) (e : ∀ b, (b = 0 ∨ b = 1 ∨ b = 2 ∨ b = 3 ∨ b = 9) → M' b = M b) : absY M' σ := by
  obtain ⟨h1, ⟨h2, h3⟩, h4, h5, h6, h7⟩ := h
  have e0 := e 0 (by omega)
  have eg : gY M' = gY M := by funext i; unfold gY; rw [e0]
  exact ⟨h1, ⟨by rw [eg]; exact h2, by rw [e0]; exact h3⟩, by unfold kiY; rw [e 1 (by omega)]; exact h4, by rw [e 2 (by omega)]; exact h5, by rw [e0, e 3 (by omega)]; exact h6, by rw [e0, e 9 (by omega)]; exact h7⟩
section Y6
variable {l : Launch} {D : va_G} {cy : Nat → ClassId} {ad : Nat → Nat}
theorem ok_X9_kind (hA : jA ad 12) : OK_X9_kind l D cy ad := met_X9_kind hA (ok_X9_noTile hA) (by
  rintro p t M0 ⟨hp, h0, σ0, h⟩ hM rt
  subst h0
  obtain ⟨hG, hw⟩ := absY_s h
  obtain ⟨n2, n9, n144⟩ := gY_n hG
  refine ⟨⟨hp, rfl, hG⟩, ?_⟩
  rintro x2 M1 - - ⟨hx, rfl⟩
  have hx2 := nt_x hx
  refine ⟨fun z => ?_, fun z => ?_⟩
  · have ht := hx2.mp z
    refine ⟨hp, rfl, by omega, trivial, fun σ hσ => ⟨?_, hσ⟩⟩
    unfold F_kind
    rw [if_pos ((hsY hσ).mpr ht)]
    exact hσ.2.2.1 _ (by omega)
  · refine ⟨trivial, fun σ hσ => ⟨?_, hσ⟩⟩
    unfold F_kind
    rw [if_neg (fun y => z (hx2.mpr ((hsY hσ).mp y)))])
theorem ok_X9_neighbour (hA : jA ad 12) : OK_X9_neighbour l D cy ad := met_X9_neighbour hA (ok_X9_in hA) (ok_X9_next hA) (ok_X9_noTile hA) (by
  rintro p t d M0 ⟨hp, h0, σ0, h⟩ hM rt rd
  subst h0
  obtain ⟨hG, hw⟩ := absY_s h
  refine ⟨⟨hp, rfl, hG⟩, ?_⟩
  rintro x2 M1 - - ⟨hx, rfl⟩
  have hx2 := nt_x hx
  refine ⟨fun z => ⟨trivial, ?_⟩, fun z => ⟨trivial, fun σ hσ => ⟨?_, hσ⟩⟩⟩
  · have ht := hx2.mp z
    rintro x4 M3 - - ⟨hc4, rfl⟩
    have hx4 := if_x hc4
    refine ⟨fun z4 => ⟨trivial, fun σ hσ => ⟨?_, hσ⟩⟩, fun z4 => ?_⟩
    · have := hx4.mp z4
      unfold F_neighbour
      rw [if_pos ((hsY hσ).mpr ht), if_neg (by omega)]
    · have hd := Classical.byContradiction (fun y => z4 (hx4.mpr y))
      refine ⟨⟨hp, rfl, hG, ht, by omega⟩, ?_⟩
      rintro x6 M5 - - ⟨rfl, rfl⟩
      refine ⟨trivial, fun σ hσ => ⟨?_, hσ⟩⟩
      unfold F_neighbour
      rw [if_pos ((hsY hσ).mpr ht), if_pos (by omega), hσ.2.1.1]
  · unfold F_neighbour
    rw [if_neg (fun y => z (hx2.mpr ((hsY hσ).mp y)))])
theorem ok_X9_label (hA : jA ad 12) : OK_X9_label l D cy ad := met_X9_label hA (ok_X9_layLabels hA) (ok_X9_noTile hA) (by
  rintro p t M0 ⟨hp, h0, σ0, h⟩ hM rt
  subst h0
  obtain ⟨hG, hw⟩ := absY_s h
  obtain ⟨n2, n9, n144⟩ := gY_n hG
  refine ⟨⟨hp, rfl, hG⟩, ?_⟩
  rintro x2 M1 - - ⟨hx, rfl⟩
  have hx2 := nt_x hx
  refine ⟨fun z => ⟨⟨hp, rfl, hG⟩, ?_⟩, fun z => ⟨trivial, fun σ hσ => ⟨?_, hσ⟩⟩⟩
  · have ht := hx2.mp z
    rintro x4 M3 - - hc4
    refine ⟨hp, rfl, by omega, trivial, fun σ hσ => ?_⟩
    obtain ⟨c1, c2⟩ := hc4 _ hσ.2.2.1
    refine ⟨?_, absY_congr hσ (fun b hb => c2 b (by omega) (by omega) (by omega) (by omega))⟩
    unfold F_label
    rw [if_pos ((hsY hσ).mpr ht), (c1 t.toNat (by omega)).1, hσ.2.1.1]
  · unfold F_label
    rw [if_neg (fun y => z (hx2.mpr ((hsY hσ).mp y)))])
end Y6
