/-! ===== what the class answers where it changes nothing ===== -/
theorem if_x {P : Prop} [Decidable P] {x : Int} (h : x = if P then 1 else 0) : x = 0 ↔ ¬ P := by
  by_cases q : P
  · rw [h, if_pos q]; exact ⟨fun z => absurd z (by decide), fun z => absurd q z⟩
  · rw [h, if_neg q]; exact ⟨fun _ => q, fun _ => rfl⟩
theorem hasX {M M' : Mem} {t x : Int} (hS : surf M) (hc : c_X3_has 1 t M x M') : M' = M ∧ (x = 0 ↔ ¬ (0 ≤ t ∧ t < nT (gX M))) := by
  refine ⟨hc.2, ?_⟩
  have e : M 1 4 * M 1 5 = nT (gX M) := (nT_b hS.1).1.symm
  have := if_x hc.1
  rw [e] at this
  exact this
theorem abs_sw {M σ : Mem} (h : absX M σ) : surf M ∧ wok M := by
  obtain ⟨⟨h1, ⟨h2, h3⟩, h4, h5, -⟩, -⟩ := h
  refine ⟨⟨by rw [h2]; exact h1.1, h3⟩, fun t ht => ?_, fun k hk => ?_⟩
  · rw [h4 t ht]; exact h1.2.1 t ht
  · rw [h5 k hk]; exact h1.2.2.1 k hk
theorem hsS {M σ : Mem} {t : Int} (h : absX M σ) : hasS σ t ↔ (0 ≤ t ∧ t < nT (gX M)) := by rw [h.1.2.1.1]
theorem abs_pt {M σ : Mem} (h : absX M σ) : (M 0 6 = 30 ∧ M 0 7 = 38) ∨ (M 0 6 = 38 ∧ M 0 7 = 30) := h.1.2.2.2.2.2.2
theorem abs_lab {M σ : Mem} (h : absX M σ) : labR (M 0 6).toNat M (labS σ) := fun t ht => (h.2.1 t (by rw [← h.1.2.1.1]; exact ht)).1
theorem ms_x {M M' σ : Mem} {s x : Int} (h : absX M σ) (hc : c_X7_measureFrom 7 s M x M') : absX M' σ ∧ gX M' = gX M ∧ lenR M' (dstS σ s) ∧ (∀ j : Nat, j < nT (gX M') → M' 9 j = -4 ∨ (0 ≤ M' 9 j ∧ M' 9 j ≤ 10000)) ∧ (∀ b, b ≠ 9 → b ≠ 10 → b ≠ 11 → M' b = M b) := by
  obtain ⟨d, b, f⟩ := hc
  have hX := absX_congr h (fun b b1 b2 b3 _ _ _ _ => f b b1 b2 b3)
  have eg : gX M' = gX M := by rw [hX.1.2.1.1, h.1.2.1.1]
  have d2 := isDist_cg (κ := σ 1) (wt := σ 2) h.1.1.2.1 (fun t ht => h.1.2.2.1 t ht) (fun k hk => h.1.2.2.2.1 k hk) (abs_sw h).1.1 d
  rw [h.1.2.1.1] at d2
  exact ⟨hX, eg, fun t tl => dst_eq d2 (by rw [← hX.1.2.1.1]; exact tl), fun j hj => b j (by rw [← eg]; exact hj), f⟩
section P1
variable {l : Launch} {D : va_G} {cy : Nat → ClassId} {ad : Nat → Nat}
theorem ok_X8_kind (hA : jA ad 46) : OK_X8_kind l D cy ad := met_X8_kind hA (ok_X3_has hA) (by
  rintro p t M0 ⟨hp, h0, σ0, h⟩ hM rt
  subst h0
  obtain ⟨hS, hw⟩ := abs_sw h
  obtain ⟨nE, n9, n144⟩ := nT_b hS.1
  refine ⟨hp, ⟨rfl, rfl, hS.1.1, hS.1.2.1⟩, ?_⟩
  rintro x2 M1 - - hc
  obtain ⟨rfl, hx⟩ := hasX hS hc
  refine ⟨fun z => ⟨trivial, fun σ hσ => ⟨?_, hσ⟩⟩, fun z => ?_⟩
  · unfold F_kind
    rw [if_neg (fun y => hx.mp z ((hsS hσ).mp y))]
  · have ht := Classical.byContradiction (fun y => z (hx.mpr y))
    refine ⟨hp, rfl, by omega, trivial, fun σ hσ => ⟨?_, hσ⟩⟩
    unfold F_kind
    rw [if_pos ((hsS hσ).mpr ht)]
    exact hσ.1.2.2.1 _ (by omega))
theorem ok_X8_neighbour (hA : jA ad 46) : OK_X8_neighbour l D cy ad := met_X8_neighbour hA (ok_X3_has hA) (ok_X3_next hA) (ok_X8_isDirection hA) (by
  rintro p t d M0 ⟨hp, h0, σ0, h⟩ hM rt rd
  subst h0
  obtain ⟨hS, hw⟩ := abs_sw h
  obtain ⟨nE, n9, n144⟩ := nT_b hS.1
  refine ⟨hp, ⟨rfl, rfl, hS.1.1, hS.1.2.1⟩, ?_⟩
  rintro x2 M1 - - hc
  obtain ⟨rfl, hx⟩ := hasX hS hc
  refine ⟨fun z => ⟨trivial, ?_⟩, fun z => ⟨trivial, fun σ hσ => ⟨?_, hσ⟩⟩⟩
  · have ht := Classical.byContradiction (fun y => z (hx.mpr y))
    rintro x4 M3 - - ⟨hc4, rfl⟩
    have hx4 := if_x hc4
    refine ⟨fun z2 => ?_, fun z2 => ⟨trivial, fun σ hσ => ⟨?_, hσ⟩⟩⟩
    · have hd := Classical.byContradiction (fun y => z2 (hx4.mpr y))
      refine ⟨hp, ⟨rfl, rfl, by omega, hd⟩, ?_⟩
      rintro x6 M5 - - ⟨rfl, rfl⟩
      refine ⟨trivial, fun σ hσ => ⟨?_, hσ⟩⟩
      unfold F_neighbour
      rw [if_pos ((hsS hσ).mpr ht), if_pos hd, (hS.2 t d ht.1 (by omega) hd.1 hd.2).1, hσ.1.2.1.1]
    · unfold F_neighbour
      rw [if_pos ((hsS hσ).mpr ht), if_neg (hx4.mp (Classical.byContradiction z2))]
  · unfold F_neighbour
    rw [if_neg (fun y => hx.mp (Classical.byContradiction z) ((hsS hσ).mp y))])
theorem ok_X8_label (hA : jA ad 46) : OK_X8_label l D cy ad := met_X8_label hA (ok_X1_labelOf hA) (ok_X3_has hA) (by
  rintro p t M0 ⟨hp, h0, σ0, h⟩ hM rt
  subst h0
  obtain ⟨hS, hw⟩ := abs_sw h
  obtain ⟨nE, n9, n144⟩ := nT_b hS.1
  have hpt := ptr_1 (abs_pt h)
  refine ⟨hp, ⟨rfl, rfl, hS.1.1, hS.1.2.1⟩, ?_⟩
  rintro x2 M1 - - hc
  obtain ⟨rfl, hx⟩ := hasX hS hc
  refine ⟨fun z => ⟨trivial, fun σ hσ => ⟨?_, hσ⟩⟩, fun z => ?_⟩
  · unfold F_label
    rw [if_neg (fun y => hx.mp z ((hsS hσ).mp y))]
  · have ht := Classical.byContradiction (fun y => z (hx.mpr y))
    refine ⟨hp, ⟨hpt.1.1, by omega, by omega⟩, ?_⟩
    rintro x4 M3 - - ⟨rfl, rfl⟩
    refine ⟨trivial, fun σ hσ => ⟨?_, hσ⟩⟩
    unfold F_label
    rw [if_pos ((hsS hσ).mpr ht)]
    exact abs_lab hσ _ (by omega))
theorem ok_X8_part (hA : jA ad 46) : OK_X8_part l D cy ad := met_X8_part hA (ok_X1_labelNumber hA) (by
  rintro p k M0 ⟨hp, h0, σ0, h⟩ hM rk
  subst h0
  obtain ⟨hS, hw⟩ := abs_sw h
  have hpt := ptr_1 (abs_pt h)
  refine ⟨fun z => ⟨hp, ⟨hpt.1.1, hS⟩, ?_⟩, fun z => ⟨trivial, fun σ hσ => ⟨?_, hσ⟩⟩⟩
  · rintro x2 M1 - - ⟨hx, rfl⟩
    refine ⟨trivial, fun σ hσ => ⟨?_, hσ⟩⟩
    unfold F_part
    rw [if_neg (by omega), hx _ (abs_lab hσ), hσ.1.2.1.1]
  · unfold F_part
    rw [if_pos (by omega)])
theorem ok_X8_greatestPart (hA : jA ad 46) : OK_X8_greatestPart l D cy ad := met_X8_greatestPart hA (ok_X1_greatestOf hA) (ok_X8_isKind hA) (by
  rintro p k M0 ⟨hp, h0, σ0, h⟩ hM rk
  subst h0
  obtain ⟨hS, hw⟩ := abs_sw h
  have hpt := ptr_1 (abs_pt h)
  refine ⟨trivial, ?_⟩
  rintro x2 M1 - - ⟨hc2, rfl⟩
  have hx2 := if_x hc2
  refine ⟨fun z => ⟨trivial, fun σ hσ => ⟨?_, hσ⟩⟩, fun z => ⟨hp, ⟨hpt.1.1, hS⟩, ?_⟩⟩
  · unfold F_greatestPart
    rw [if_neg (hx2.mp z)]
  · rintro x4 M3 - - ⟨hx, rfl⟩
    refine ⟨trivial, fun σ hσ => ⟨?_, hσ⟩⟩
    unfold F_greatestPart
    rw [if_pos (Classical.byContradiction (fun y => z (hx2.mpr y))), hx _ _ (fun t => cntL (labS σ) t (nT (gS σ))) (abs_lab hσ) hσ.1.2.2.1 (fun t tl ht => (hσ.2.1 t (by rw [← hσ.1.2.1.1]; exact tl)).2.2.2 ht), hσ.1.2.1.1])
theorem ok_X8_ofPart (hA : jA ad 46) : OK_X8_ofPart l D cy ad := met_X8_ofPart hA (ok_X1_labelOf hA) (ok_X1_property hA) (ok_X3_has hA) (by
  rintro p f w M0 ⟨hp, h0, σ0, h⟩ hM rf rw_
  subst h0
  obtain ⟨hS, hw⟩ := abs_sw h
  obtain ⟨nE, n9, n144⟩ := nT_b hS.1
  have hpt := ptr_1 (abs_pt h)
  refine ⟨hp, ⟨rfl, rfl, hS.1.1, hS.1.2.1⟩, ?_⟩
  rintro x2 M1 - - hc
  obtain ⟨rfl, hx⟩ := hasX hS hc
  refine ⟨fun z => ⟨trivial, fun σ hσ => ⟨?_, hσ⟩⟩, fun z => ?_⟩
  · unfold F_ofPart
    rw [if_neg (fun y => hx.mp z ((hsS hσ).mp y.1))]
  · have ht := Classical.byContradiction (fun y => z (hx.mpr y))
    refine ⟨hp, ⟨hpt.1.1, by omega, by omega⟩, ?_⟩
    rintro x4 M3 - - ⟨hx4, rfl⟩
    have hl : ∀ σ, absX M3 σ → x4 = labS σ f.toNat := fun σ hσ => by rw [hx4]; exact abs_lab hσ _ (by omega)
    refine ⟨fun z4 => ⟨fun z5 => ⟨trivial, fun σ hσ => ⟨?_, hσ⟩⟩, fun z5 => ⟨fun z6 => ⟨hp, ⟨hpt.1.1, hS, ⟨σ0 1, h.1.2.2.1, by rw [h.1.2.1.1]; exact h.2, by rw [h.1.2.1.1]; exact (hl σ0 h).symm.trans z4⟩, ht, by omega, z6⟩, ?_⟩, fun z6 => ⟨trivial, fun σ hσ => ⟨?_, hσ⟩⟩⟩⟩, fun z4 => ⟨trivial, fun σ hσ => ⟨?_, hσ⟩⟩⟩
    · unfold F_ofPart
      rw [if_pos ⟨(hsS hσ).mpr ht, (hl σ hσ).symm.trans z4⟩, if_neg (by omega)]
    · rintro x6 M5 - - ⟨hx6, hf⟩
      refine ⟨trivial, fun σ hσ => ⟨?_, absX_congr hσ (fun b _ _ _ _ _ _ b7 => hf b b7)⟩⟩
      unfold F_ofPart
      rw [if_pos ⟨(hsS hσ).mpr ht, (hl σ hσ).symm.trans z4⟩, if_pos ⟨by omega, z6⟩, hx6 _ hσ.1.2.2.1 (by rw [hσ.1.2.1.1]; exact hσ.2), hσ.1.2.1.1]
    · unfold F_ofPart
      rw [if_pos ⟨(hsS hσ).mpr ht, (hl σ hσ).symm.trans z4⟩, if_neg (by omega)]
    · unfold F_ofPart
      rw [if_neg (fun y => z4 ((hl σ hσ).trans y.2))])
theorem ok_X8_value (hA : jA ad 46) : OK_X8_value l D cy ad := met_X8_value hA (ok_X0_size hA) (ok_X1_number hA) (ok_X2_offset hA) (ok_X2_style hA) (ok_X3_columns hA) (ok_X3_endSeam hA) (ok_X3_openBorders hA) (ok_X3_rows hA) (ok_X3_sideSeam hA) (by
  rintro p w M0 ⟨hp, h0, σ0, h⟩ hM rw_
  subst h0
  obtain ⟨hS, hw⟩ := abs_sw h
  have hpt := ptr_1 (abs_pt h)
  refine ⟨fun z => ⟨trivial, fun σ hσ => ⟨?_, hσ⟩⟩, fun z => ⟨hp, ⟨rfl, rfl⟩, ?_⟩, fun z => ⟨hp, ⟨rfl, rfl⟩, ?_⟩, fun z => ⟨hp, ⟨rfl, rfl⟩, ?_⟩, fun z => ⟨hp, ⟨rfl, rfl⟩, ?_⟩, fun z => ⟨hp, ⟨rfl, rfl⟩, ?_⟩, fun z => ⟨hp, ⟨rfl, rfl⟩, ?_⟩, fun z => ⟨hp, hpt.1.1, ?_⟩, fun z => ⟨hp, ⟨rfl, rfl, hS.1.1, hS.1.2.1⟩, ?_⟩, fun z => ⟨hp, ⟨rfl, rfl⟩, ?_⟩, trivial⟩
  · unfold F_value
    rw [if_neg (by omega), if_neg (by omega), if_neg (by omega), if_neg (by omega), if_neg (by omega), if_neg (by omega), if_neg (by omega), if_neg (by omega), if_neg (by omega)]
  · rintro x2 M1 - - ⟨rfl, rfl⟩
    refine ⟨trivial, fun σ hσ => ⟨?_, hσ⟩⟩
    unfold F_value
    rw [if_pos (by omega)]
    exact congrFun hσ.1.2.1.1 0
  · rintro x2 M1 - - ⟨rfl, rfl⟩
    refine ⟨trivial, fun σ hσ => ⟨?_, hσ⟩⟩
    unfold F_value
    rw [if_neg (by omega), if_pos (by omega)]
    exact congrFun hσ.1.2.1.1 1
  · rintro x2 M1 - - ⟨rfl, rfl⟩
    refine ⟨(rfl : kdX (Int.toNat 2) = 2), ?_⟩
    rintro x4 M3 - - ⟨rfl, rfl⟩
    refine ⟨trivial, fun σ hσ => ⟨?_, hσ⟩⟩
    unfold F_value
    rw [if_neg (by omega), if_neg (by omega), if_pos (by omega)]
    exact congrFun hσ.1.2.1.1 2
  · rintro x2 M1 - - ⟨rfl, rfl⟩
    refine ⟨(rfl : kdX (Int.toNat 2) = 2), ?_⟩
    rintro x4 M3 - - ⟨rfl, rfl⟩
    refine ⟨trivial, fun σ hσ => ⟨?_, hσ⟩⟩
    unfold F_value
    rw [if_neg (by omega), if_neg (by omega), if_neg (by omega), if_pos (by omega)]
    exact congrFun hσ.1.2.1.1 3
  · rintro x2 M1 - - ⟨rfl, rfl⟩
    refine ⟨(rfl : kdX (Int.toNat 3) = 2), ?_⟩
    rintro x4 M3 - - ⟨rfl, rfl⟩
    refine ⟨trivial, fun σ hσ => ⟨?_, hσ⟩⟩
    unfold F_value
    rw [if_neg (by omega), if_neg (by omega), if_neg (by omega), if_neg (by omega), if_pos (by omega)]
    exact congrFun hσ.1.2.1.1 4
  · rintro x2 M1 - - ⟨rfl, rfl⟩
    refine ⟨(rfl : kdX (Int.toNat 3) = 2), ?_⟩
    rintro x4 M3 - - ⟨rfl, rfl⟩
    refine ⟨trivial, fun σ hσ => ⟨?_, hσ⟩⟩
    unfold F_value
    rw [if_neg (by omega), if_neg (by omega), if_neg (by omega), if_neg (by omega), if_neg (by omega), if_pos (by omega)]
    exact congrFun hσ.1.2.1.1 5
  · rintro x2 M1 - - ⟨rfl, rfl⟩
    refine ⟨trivial, fun σ hσ => ⟨?_, hσ⟩⟩
    unfold F_value
    rw [if_neg (by omega), if_neg (by omega), if_neg (by omega), if_neg (by omega), if_neg (by omega), if_neg (by omega), if_pos (by omega)]
    exact hσ.2.2
  · rintro x2 M1 - - ⟨rfl, rfl⟩
    refine ⟨trivial, fun σ hσ => ⟨?_, hσ⟩⟩
    unfold F_value
    rw [if_neg (by omega), if_neg (by omega), if_neg (by omega), if_neg (by omega), if_neg (by omega), if_neg (by omega), if_neg (by omega), if_pos (by omega)]
    have nE : ((nT (gX M1) : Nat) : Int) = M1 1 4 * M1 1 5 := (nT_b hS.1).1
    rw [← nE, ← hσ.1.2.1.1, show (((nT (gX M1) : Nat) : Int) * 4).toNat = nT (gX M1) * 4 by omega]
    refine sumF_congr fun k hk => ?_
    have := (hS.2 ((k / 4 : Nat) : Int) ((k % 4 : Nat) : Int) (by omega) (by have := (nT_b hS.1).1; omega) (by omega) (by omega)).1
    rw [show (((k / 4 : Nat) : Int) * 4 + ((k % 4 : Nat) : Int)).toNat = k by omega] at this
    rw [this]
  · rintro x2 M1 - - ⟨rfl, rfl⟩
    refine ⟨trivial, fun σ hσ => ⟨?_, hσ⟩⟩
    unfold F_value
    rw [if_neg (by omega), if_neg (by omega), if_neg (by omega), if_neg (by omega), if_neg (by omega), if_neg (by omega), if_neg (by omega), if_neg (by omega), if_pos (by omega)]
    exact hσ.1.2.2.2.2.2.1.1)
theorem ok_X8_distance (hA : jA ad 46) : OK_X8_distance l D cy ad := met_X8_distance hA (ok_X3_has hA) (ok_X7_lengthTo hA) (ok_X7_measureFrom hA) (by
  rintro p t o M0 ⟨hp, h0, σ0, h⟩ hM rt ro
  subst h0
  obtain ⟨hS, hw⟩ := abs_sw h
  obtain ⟨nE, n9, n144⟩ := nT_b hS.1
  refine ⟨hp, ⟨rfl, rfl, hS.1.1, hS.1.2.1⟩, ?_⟩
  rintro x2 M1 - - hc
  obtain ⟨rfl, hx⟩ := hasX hS hc
  refine ⟨fun z => ⟨trivial, fun σ hσ => ⟨?_, hσ⟩⟩, fun z => ⟨hp, ⟨rfl, rfl, hS.1.1, hS.1.2.1⟩, ?_⟩⟩
  · unfold F_distance
    rw [if_neg (fun y => hx.mp z ((hsS hσ).mp y.1))]
  · have ht := Classical.byContradiction (fun y => z (hx.mpr y))
    rintro x4 M3 - - hc4
    obtain ⟨rfl, hx4⟩ := hasX hS hc4
    refine ⟨fun z4 => ?_, fun z4 => ⟨trivial, fun σ hσ => ⟨?_, hσ⟩⟩⟩
    · have ho := Classical.byContradiction (fun y => z4 (hx4.mpr y))
      refine ⟨hp, ⟨rfl, rfl, hS, hw, ht⟩, ?_⟩
      rintro x6 M5 - - hc6
      refine ⟨hp, ⟨rfl, rfl, by omega, by omega⟩, ?_⟩
      rintro x8 M7 - - ⟨rfl, rfl⟩
      refine ⟨trivial, fun σ hσ => ?_⟩
      obtain ⟨m1, m2, m3, m4, m5⟩ := ms_x hσ hc6
      refine ⟨?_, m1⟩
      unfold F_distance
      rw [if_pos ⟨(hsS hσ).mpr ht, (hsS hσ).mpr ho⟩]
      exact m3 _ (by rw [m2]; omega)
    · unfold F_distance
      rw [if_neg (fun y => hx4.mp (Classical.byContradiction z4) ((hsS hσ).mp y.2))])
theorem ok_X8_route (hA : jA ad 46) : OK_X8_route l D cy ad := met_X8_route hA (ok_X3_has hA) (ok_X7_lengthTo hA) (ok_X7_measureFrom hA) (ok_X7_routeTile hA) (by
  rintro p t o k M0 ⟨hp, h0, σ0, h⟩ hM rt ro rk
  subst h0
  obtain ⟨hS, hw⟩ := abs_sw h
  obtain ⟨nE, n9, n144⟩ := nT_b hS.1
  refine ⟨hp, ⟨rfl, rfl, hS.1.1, hS.1.2.1⟩, ?_⟩
  rintro x2 M1 - - hc
  obtain ⟨rfl, hx⟩ := hasX hS hc
  refine ⟨fun z => ⟨trivial, fun σ hσ => ⟨?_, hσ⟩⟩, fun z => ⟨hp, ⟨rfl, rfl, hS.1.1, hS.1.2.1⟩, ?_⟩⟩
  · unfold F_route
    rw [if_neg (fun y => hx.mp z ((hsS hσ).mp y.1))]
  · have ht := Classical.byContradiction (fun y => z (hx.mpr y))
    rintro x4 M3 - - hc4
    obtain ⟨rfl, hx4⟩ := hasX hS hc4
    refine ⟨fun z4 => ?_, fun z4 => ⟨trivial, fun σ hσ => ⟨?_, hσ⟩⟩⟩
    · have ho := Classical.byContradiction (fun y => z4 (hx4.mpr y))
      refine ⟨fun z5 => ⟨hp, ⟨rfl, rfl, hS, hw, ho⟩, ?_⟩, fun z5 => ⟨trivial, fun σ hσ => ⟨?_, hσ⟩⟩⟩
      · rintro x6 M5 - - hc6
        refine ⟨hp, ⟨rfl, rfl, by omega, by omega⟩, ?_⟩
        rintro x8 M7 - - ⟨hx8, rfl⟩
        obtain ⟨m1, m2, m3, m4, m5⟩ := ms_x h hc6
        obtain ⟨hS7, hw7⟩ := abs_sw m1
        refine ⟨fun z8 => ⟨hp, ⟨rfl, rfl, hS7, hw7, by rw [m2]; exact ht, m4⟩, ?_⟩, fun z8 => ⟨trivial, fun σ hσ => ?_⟩⟩
        · rintro x10 M9 - - ⟨hx10, rfl⟩
          refine ⟨trivial, fun σ hσ => ?_⟩
          obtain ⟨k1, k2, k3, k4, k5⟩ := ms_x hσ hc6
          refine ⟨?_, k1⟩
          have e8 := k3 t.toNat (by rw [k2]; omega)
          unfold F_route
          rw [if_pos ⟨(hsS hσ).mpr ht, (hsS hσ).mpr ho⟩, if_neg (by omega), if_neg (by rw [← e8, ← hx8]; exact z8), hx10 _ k3]
          rw [k1.1.2.1.1]
          exact rgo_cg k1.1.1.2.1 k1.1.1.2.2.1 k1.1.2.2.1 k1.1.2.2.2.1 k1.1.1.1 144 t 0 ht.1 (by rw [← k1.1.2.1.1, m2]; exact ht.2)
        · obtain ⟨k1, k2, k3, k4, k5⟩ := ms_x hσ hc6
          refine ⟨?_, k1⟩
          have e8 := k3 t.toNat (by rw [k2]; omega)
          unfold F_route
          rw [if_pos ⟨(hsS hσ).mpr ht, (hsS hσ).mpr ho⟩, if_neg (by omega), if_pos (by rw [← e8, ← hx8]; exact Classical.byContradiction z8)]
      · unfold F_route
        rw [if_pos ⟨(hsS hσ).mpr ht, (hsS hσ).mpr ho⟩, if_pos (by omega)]
    · unfold F_route
      rw [if_neg (fun y => hx4.mp (Classical.byContradiction z4) ((hsS hσ).mp y.2))])
theorem ok_X8_farthest (hA : jA ad 46) : OK_X8_farthest l D cy ad := met_X8_farthest hA (ok_X3_has hA) (ok_X7_farthestTile hA) (ok_X7_measureFrom hA) (by
  rintro p t M0 ⟨hp, h0, σ0, h⟩ hM rt
  subst h0
  obtain ⟨hS, hw⟩ := abs_sw h
  obtain ⟨nE, n9, n144⟩ := nT_b hS.1
  refine ⟨hp, ⟨rfl, rfl, hS.1.1, hS.1.2.1⟩, ?_⟩
  rintro x2 M1 - - hc
  obtain ⟨rfl, hx⟩ := hasX hS hc
  refine ⟨fun z => ?_, fun z => ⟨trivial, fun σ hσ => ⟨?_, hσ⟩⟩⟩
  · have ht := Classical.byContradiction (fun y => z (hx.mpr y))
    refine ⟨hp, ⟨rfl, rfl, hS, hw, ht⟩, ?_⟩
    rintro x4 M3 - - hc4
    obtain ⟨m1, m2, m3, m4, m5⟩ := ms_x h hc4
    refine ⟨hp, ⟨rfl, rfl, (abs_sw m1).1, by rw [m2]; exact ht⟩, ?_⟩
    rintro x6 M5 - - ⟨hx6, rfl⟩
    refine ⟨trivial, fun σ hσ => ?_⟩
    obtain ⟨k1, k2, k3, k4, k5⟩ := ms_x hσ hc4
    refine ⟨?_, k1⟩
    unfold F_farthest
    rw [if_pos ((hsS hσ).mpr ht), hx6 _ k3, k1.1.2.1.1]
  · unfold F_farthest
    rw [if_neg (fun y => hx.mp (Classical.byContradiction z) ((hsS hσ).mp y))])
theorem ok_X8_within (hA : jA ad 46) : OK_X8_within l D cy ad := met_X8_within hA (ok_X3_has hA) (ok_X7_measureFrom hA) (ok_X7_tilesUpTo hA) (by
  rintro p t v M0 ⟨hp, h0, σ0, h⟩ hM rt rv
  subst h0
  obtain ⟨hS, hw⟩ := abs_sw h
  obtain ⟨nE, n9, n144⟩ := nT_b hS.1
  refine ⟨hp, ⟨rfl, rfl, hS.1.1, hS.1.2.1⟩, ?_⟩
  rintro x2 M1 - - hc
  obtain ⟨rfl, hx⟩ := hasX hS hc
  refine ⟨fun z => ?_, fun z => ⟨trivial, fun σ hσ => ⟨?_, hσ⟩⟩⟩
  · have ht := Classical.byContradiction (fun y => z (hx.mpr y))
    refine ⟨fun z3 => ⟨hp, ⟨rfl, rfl, hS, hw, ht⟩, ?_⟩, fun z3 => ⟨trivial, fun σ hσ => ⟨?_, hσ⟩⟩⟩
    · rintro x4 M3 - - hc4
      obtain ⟨m1, m2, m3, m4, m5⟩ := ms_x h hc4
      refine ⟨hp, ⟨rfl, rfl, (abs_sw m1).1⟩, ?_⟩
      rintro x6 M5 - - ⟨hx6, rfl⟩
      refine ⟨trivial, fun σ hσ => ?_⟩
      obtain ⟨k1, k2, k3, k4, k5⟩ := ms_x hσ hc4
      refine ⟨?_, k1⟩
      unfold F_within
      rw [if_pos ((hsS hσ).mpr ht), if_neg (by omega), hx6 _ k3, k1.1.2.1.1]
    · unfold F_within
      rw [if_pos ((hsS hσ).mpr ht), if_pos (by omega)]
  · unfold F_within
    rw [if_neg (fun y => hx.mp (Classical.byContradiction z) ((hsS hσ).mp y))])
theorem ok_X8_nearest (hA : jA ad 46) : OK_X8_nearest l D cy ad := met_X8_nearest hA (ok_X3_has hA) (ok_X7_measureFrom hA) (ok_X7_nearestOf hA) (ok_X8_isKind hA) (by
  rintro p t k M0 ⟨hp, h0, σ0, h⟩ hM rt rk
  subst h0
  obtain ⟨hS, hw⟩ := abs_sw h
  obtain ⟨nE, n9, n144⟩ := nT_b hS.1
  refine ⟨hp, ⟨rfl, rfl, hS.1.1, hS.1.2.1⟩, ?_⟩
  rintro x2 M1 - - hc
  obtain ⟨rfl, hx⟩ := hasX hS hc
  refine ⟨fun z => ⟨trivial, ?_⟩, fun z => ⟨trivial, fun σ hσ => ⟨?_, hσ⟩⟩⟩
  · have ht := Classical.byContradiction (fun y => z (hx.mpr y))
    rintro x4 M3 - - ⟨hc4, rfl⟩
    have hx4 := if_x hc4
    refine ⟨fun z4 => ⟨hp, ⟨rfl, rfl, hS, hw, ht⟩, ?_⟩, fun z4 => ⟨trivial, fun σ hσ => ⟨?_, hσ⟩⟩⟩
    · rintro x6 M5 - - hc6
      obtain ⟨m1, m2, m3, m4, m5⟩ := ms_x h hc6
      refine ⟨hp, ⟨rfl, rfl, (abs_sw m1).1⟩, ?_⟩
      rintro x8 M7 - - ⟨hx8, rfl⟩
      refine ⟨trivial, fun σ hσ => ?_⟩
      obtain ⟨k1, k2, k3, k4, k5⟩ := ms_x hσ hc6
      refine ⟨?_, k1⟩
      unfold F_nearest
      rw [if_pos ((hsS hσ).mpr ht), if_pos (Classical.byContradiction (fun y => z4 (hx4.mpr y))), hx8 _ _ k3 k1.1.2.2.1, k1.1.2.1.1]
    · unfold F_nearest
      rw [if_pos ((hsS hσ).mpr ht), if_neg (hx4.mp (Classical.byContradiction z4))]
  · unfold F_nearest
    rw [if_neg (fun y => hx.mp (Classical.byContradiction z) ((hsS hσ).mp y))])
end P1
