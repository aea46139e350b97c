/-! ===== edits ===== -/
theorem upR_id {f : Nat → Int} {k : Nat} {v : Int} : upR (upR f k v) k (f k) = f := by
  funext j
  unfold upR
  split
  next h => rw [h]
  next => rfl
theorem kin_up {M : Mem} {κ : Nat → Int} {t : Nat} {k : Int} (h : kin M κ) : kin (up M 6 t k) (upR κ t k) := by
  intro j hj
  rw [up_s]
  by_cases q : j = t
  · rw [q, upR_s, upR_s]
  · rw [upR_n q, upR_n q]; exact h j hj
theorem upK_b {κ : Nat → Int} {t : Nat} {k : Int} (h : ∀ t : Nat, t < 144 → 0 ≤ κ t ∧ κ t ≤ 5) (hk : kdO k) : ∀ j : Nat, j < 144 → 0 ≤ upR κ t k j ∧ upR κ t k j ≤ 5 := by
  intro j hj
  by_cases q : j = t
  · rw [q, upR_s]; exact hk
  · rw [upR_n q]; exact h j hj
section P3
variable {l : Launch} {D : va_G} {cy : Nat → ClassId} {ad : Nat → Nat}
theorem ok_X8_partsIf (hA : jA ad 46) : OK_X8_partsIf l D cy ad := met_X8_partsIf hA (ok_X1_find hA) (ok_X1_number hA) (ok_X3_has hA) (ok_X8_isKind hA) (by
  rintro p t k M0 ⟨hp, h0, σ0, h⟩ hM rt rk
  subst h0
  obtain ⟨hS, hw⟩ := abs_sw h
  obtain ⟨nE, n9, n144⟩ := nT_b hS.1
  have hpt := ptr_1 (abs_pt h)
  have hq := abs_pt h
  refine ⟨hp, ⟨rfl, rfl, hS.1.1, hS.1.2.1⟩, ?_⟩
  rintro x2 M1 - - hc
  obtain ⟨rfl, hx⟩ := hasX hS hc
  refine ⟨fun z => ⟨trivial, ?_⟩, fun z => ⟨trivial, fun σ hσ => ⟨?_, hσ⟩⟩⟩
  · have ht := Classical.byContradiction (fun y => z (hx.mpr y))
    rintro x4 M3 - - ⟨hc4, rfl⟩
    have hx4 := if_x hc4
    refine ⟨fun z4 => ?_, fun z4 => ⟨trivial, fun σ hσ => ⟨?_, hσ⟩⟩⟩
    · have hk := Classical.byContradiction (fun y => z4 (hx4.mpr y))
      have e0 : up M3 6 t.toNat k 0 = M3 0 := up_n (by decide)
      obtain ⟨s1, s2⟩ := surf_congr (M' := up M3 6 t.toNat k) hS (fun b q1 q2 => up_n (by omega))
      refine ⟨hp, rfl, by omega, hp, rfl, by omega, hp, ⟨by rw [e0]; exact hpt.2.1, s1⟩, ?_⟩
      rintro x6 M5 - - hc6
      rw [e0] at hc6
      have fr : ∀ b, (b < (M3 0 7).toNat ∨ (M3 0 7).toNat + 7 < b) → M5 b = up M3 6 t.toNat k b := fun b hb => (hc6 (up M3 6 t.toNat k 6) (fun _ _ => rfl)).2 b (by omega) (by omega) (by omega) (by omega) (by omega) (by omega) (by omega)
      have e50 : up M5 6 t.toNat (M3 6 t.toNat) 0 = M3 0 := by rw [up_n (by decide), fr 0 (by omega), e0]
      refine ⟨hp, rfl, by omega, hp, ?_⟩
      rw [e50]
      refine ⟨hpt.2.1, ?_⟩
      rintro x8 M7 - - ⟨hx8, rfl⟩
      refine ⟨trivial, fun σ hσ => ⟨?_, absX_congr hσ (fun b _ _ _ _ _ b6 _ => ?_)⟩⟩
      · unfold F_partsIf
        rw [if_pos ((hsS hσ).mpr ht), if_pos hk, hx8, up_n (by omega)]
        have := (hc6 (upR (σ 1) t.toNat k) (kin_up hσ.1.2.2.1)).1.2
        rw [this, s2, hσ.1.2.1.1]
      · by_cases q : b = 6
        · rw [q, up_s, fr 6 (by omega), up_s, upR_id]
        · rw [up_n q, fr b b6, up_n q]
    · unfold F_partsIf
      rw [if_pos ((hsS hσ).mpr ht), if_neg (hx4.mp (Classical.byContradiction z4))]
  · unfold F_partsIf
    rw [if_neg (fun y => hx.mp (Classical.byContradiction z) ((hsS hσ).mp y))])
theorem ok_X8_setTile (hA : jA ad 46) : OK_X8_setTile l D cy ad := met_X8_setTile hA (ok_X0_record hA) (ok_X1_changesSince hA) (ok_X3_has hA) (ok_X8_isKind hA) (ok_X8_repairParts hA) (by
  rintro p t k M0 ⟨hp, h0, σ0, h⟩ hM rt rk
  subst h0
  obtain ⟨hS, hw⟩ := abs_sw h
  obtain ⟨nE, n9, n144⟩ := nT_b hS.1
  have hpt := ptr_1 (abs_pt h)
  have hq := abs_pt h
  refine ⟨hp, ⟨rfl, rfl, hS.1.1, hS.1.2.1⟩, ?_⟩
  rintro x2 M1 - - hc
  obtain ⟨rfl, hx⟩ := hasX hS hc
  refine ⟨fun z => ⟨trivial, ?_⟩, fun z => ⟨trivial, fun σ hσ => ⟨?_, ?_⟩⟩⟩
  · have ht := Classical.byContradiction (fun y => z (hx.mpr y))
    rintro x4 M3 - - ⟨hc4, rfl⟩
    have hx4 := if_x hc4
    refine ⟨fun z4 => ?_, fun z4 => ⟨trivial, fun σ hσ => ⟨?_, ?_⟩⟩⟩
    · have hk := Classical.byContradiction (fun y => z4 (hx4.mpr y))
      refine ⟨hp, hp, ⟨rfl, rfl, rfl, _, _, h.1.2.2.2.2.2.1⟩, ?_⟩
      rintro x6 M5 - - hc6
      have e56 : M5 6 = M3 6 := hc6.2 6 (by decide) (by decide)
      have hB : ∀ σ, absX M3 σ → absB (up M5 6 t.toNat k) (upA (kpS σ) 1 (upR (σ 1) t.toNat k)) := fun σ hσ => ed_B hσ hc6 (fun b b1 => up_n b1) (kin_up (by unfold kin; rw [e56]; exact hσ.1.2.2.1)) (upK_b hσ.1.1.2.1 hk)
      have e0 : up M5 6 t.toNat k 0 = M3 0 := by rw [up_n (by decide)]; exact hc6.2 0 (by decide) (by decide)
      refine ⟨hp, rfl, by omega, ⟨hp, rfl, absB_s (hB σ0 h), by rw [e0]; exact hq⟩, ?_⟩
      rintro x8 M7 - - hc8
      obtain ⟨r1, r2, r3, r4⟩ := rep_x (hB σ0 h) hc8
      rw [e0] at r2 r3
      have e7 : M7 0 7 = M3 0 6 := r2.2
      have hpt7 := ptr_1 (abs_pt r1)
      refine ⟨hp, hp, ⟨hpt7.1.1, hpt7.2.1, (abs_sw r1).1⟩, ?_⟩
      rintro x10 M9 - - ⟨hx10, rfl⟩
      refine ⟨trivial, fun σ hσ => ?_⟩
      obtain ⟨k1, -, -, -⟩ := rep_x (hB σ hσ) hc8
      unfold F_setTile G_setTile
      rw [if_pos ((hsS hσ).mpr ht), if_pos hk, if_pos ⟨(hsS hσ).mpr ht, hk⟩]
      refine ⟨?_, k1⟩
      have egσ := (ed_ok (κ := upR (σ 1) t.toNat k) hσ.1.1 (upK_b hσ.1.1.2.1 hk)).2
      have hL := abs_lab k1
      unfold labS at hL
      rw [egσ, upA_s] at hL
      have hL2 : labR (M9 0 7).toNat M9 (labS σ) := fun j hj => by
        rw [e7, r3 _ (by omega) (by omega), up_n (by omega), hc6.2 _ (by omega) (by omega)]
        refine abs_lab hσ j ?_
        rw [hσ.1.2.1.1, ← egσ, ← k1.1.2.1.1]; exact hj
      rw [hx10 _ _ hL hL2, k1.1.2.1.1, egσ]
    · unfold F_setTile
      rw [if_pos ((hsS hσ).mpr ht), if_neg (hx4.mp (Classical.byContradiction z4))]
    · unfold G_setTile
      rw [if_neg (fun y => hx4.mp (Classical.byContradiction z4) y.2)]
      exact hσ
  · unfold F_setTile
    rw [if_neg (fun y => hx.mp (Classical.byContradiction z) ((hsS hσ).mp y))]
  · unfold G_setTile
    rw [if_neg (fun y => hx.mp (Classical.byContradiction z) ((hsS hσ).mp y.1))]
    exact hσ)
theorem fiK_b {σ : Mem} {t k : Int} (h : ∀ t : Nat, t < 144 → 0 ≤ σ 1 t ∧ σ 1 t ≤ 5) (hk : kdO k) : ∀ j : Nat, j < 144 → 0 ≤ fiK σ t k j ∧ fiK σ t k j ≤ 5 := by
  intro j hj
  unfold fiK
  split
  · exact hk
  · exact h j hj
theorem ok_X8_fill (hA : jA ad 46) : OK_X8_fill l D cy ad := met_X8_fill hA (ok_X0_record hA) (ok_X1_labelOf hA) (ok_X1_sizeOf hA) (ok_X3_has hA) (ok_X8_giveKindToPart hA) (ok_X8_isKind hA) (ok_X8_repairParts hA) (by
  rintro p t k M0 ⟨hp, h0, σ0, h⟩ hM rt rk
  subst h0
  obtain ⟨hS, hw⟩ := abs_sw h
  obtain ⟨nE, n9, n144⟩ := nT_b hS.1
  have hpt := ptr_1 (abs_pt h)
  have hq := abs_pt h
  refine ⟨hp, ⟨rfl, rfl, hS.1.1, hS.1.2.1⟩, ?_⟩
  rintro x2 M1 - - hc
  obtain ⟨rfl, hx⟩ := hasX hS hc
  refine ⟨fun z => ⟨trivial, ?_⟩, fun z => ⟨trivial, fun σ hσ => ⟨?_, ?_⟩⟩⟩
  · have ht := Classical.byContradiction (fun y => z (hx.mpr y))
    rintro x4 M3 - - ⟨hc4, rfl⟩
    have hx4 := if_x hc4
    refine ⟨fun z4 => ?_, fun z4 => ⟨trivial, fun σ hσ => ⟨?_, ?_⟩⟩⟩
    · have hk := Classical.byContradiction (fun y => z4 (hx4.mpr y))
      refine ⟨hp, hp, ⟨rfl, rfl, rfl, _, _, h.1.2.2.2.2.2.1⟩, ?_⟩
      rintro x6 M5 - - hc6
      have e50 : M5 0 = M3 0 := hc6.2 0 (by decide) (by decide)
      have e56 : M5 6 = M3 6 := hc6.2 6 (by decide) (by decide)
      obtain ⟨hS5, eg5⟩ := surf_congr (M' := M5) hS (fun b q1 q2 => hc6.2 b (by omega) (by omega))
      rw [e50]
      refine ⟨hp, ⟨hpt.1.1, by omega, by omega⟩, ?_⟩
      rintro x8 M7 - - ⟨hx8, rfl⟩
      have hl5 : ∀ σ, absX M3 σ → labR (M7 0 6).toNat M7 (labS σ) := fun σ hσ j hj => by
        rw [e50, hc6.2 _ (by omega) (by omega)]
        exact abs_lab hσ j (by rw [← eg5]; exact hj)
      have ex8 : ∀ σ, absX M3 σ → x8 = labS σ t.toNat := fun σ hσ => by rw [hx8, ← e50]; exact hl5 σ hσ _ (by rw [eg5]; omega)
      refine ⟨⟨hp, rfl, hS5, by rw [e50]; exact hq⟩, ?_⟩
      rintro x10 M9 - - ⟨g1, g2⟩
      have hB : ∀ σ, absX M3 σ → absB M9 (upA (kpS σ) 1 (fiK σ t k)) := fun σ hσ => ed_B hσ hc6 g2 (fun j hj => by
        rw [g1 _ (hl5 σ hσ) j, ex8 σ hσ, eg5, hσ.1.2.1.1, e56]
        unfold fiK
        by_cases q : j < nT (gS σ) ∧ labS σ j = labS σ t.toNat
        · rw [if_pos q, if_pos q]
        · rw [if_neg q, if_neg q]; exact hσ.1.2.2.1 j hj) (fiK_b hσ.1.1.2.1 hk)
      have e90 : M9 0 = M3 0 := by rw [g2 0 (by decide), e50]
      refine ⟨⟨hp, rfl, absB_s (hB σ0 h), by rw [e90]; exact hq⟩, ?_⟩
      rintro x12 M11 - - hc12
      obtain ⟨r1, r2, r3, r4⟩ := rep_x (hB σ0 h) hc12
      have hpt7 := ptr_1 (abs_pt r1)
      have egσ : ∀ σ, absX M3 σ → gS (upA (kpS σ) 1 (fiK σ t k)) = gS σ := fun σ hσ => (ed_ok (κ := fiK σ t k) hσ.1.1 (fiK_b hσ.1.1.2.1 hk)).2
      have eg11 : gX M11 = gX M3 := by rw [r1.1.2.1.1, egσ σ0 h, h.1.2.1.1]
      refine ⟨hp, hp, ⟨hpt7.1.1, by omega, by omega⟩, ?_⟩
      rintro x14 M13 - - ⟨hx14, rfl⟩
      have hlab : ∀ σ, absX M3 σ → x14 = lab (gS σ) (fiK σ t k) t.toNat := fun σ hσ => by
        obtain ⟨k1, -, -, -⟩ := rep_x (hB σ hσ) hc12
        have hL := abs_lab k1 t.toNat (by rw [eg11]; omega)
        unfold labS at hL
        rw [egσ σ hσ, upA_s] at hL
        rw [hx14]; exact hL
      have hlf : ∀ σ, absX M3 σ → _ := fun σ hσ => lab_facts (g := gS σ) (κ := fiK σ t k) hσ.1.1.1 (t := t.toNat) (by rw [← hσ.1.2.1.1]; omega)
      have hb14 : 0 ≤ x14 ∧ x14 < nT (gX M3) := by
        rw [hlab σ0 h, h.1.2.1.1]; exact (hlf σ0 h).1
      refine ⟨⟨hpt7.1.1, by omega, by omega⟩, ?_⟩
      rintro x16 M15 - - ⟨hx16, rfl⟩
      refine ⟨trivial, fun σ hσ => ?_⟩
      obtain ⟨k1, -, -, -⟩ := rep_x (hB σ hσ) hc12
      unfold F_fill G_fill
      rw [if_pos ((hsS hσ).mpr ht), if_pos hk, if_pos ⟨(hsS hσ).mpr ht, hk⟩]
      refine ⟨?_, k1⟩
      have hP := (k1.2.1 x14.toNat (by rw [egσ σ hσ, ← hσ.1.2.1.1]; omega)).2.2.2
      rw [egσ σ hσ, upA_s, show ((x14.toNat : Nat) : Int) = x14 by omega] at hP
      have hf4 : lab (gS σ) (fiK σ t k) x14.toNat = x14 := by
        have := (hlf σ hσ).2.2.2.1
        rw [← hlab σ hσ] at this
        exact this
      rw [hx16, hP hf4, hlab σ hσ]
    · unfold F_fill
      rw [if_pos ((hsS hσ).mpr ht), if_neg (hx4.mp (Classical.byContradiction z4))]
    · unfold G_fill
      rw [if_neg (fun y => hx4.mp (Classical.byContradiction z4) y.2)]
      exact hσ
  · unfold F_fill
    rw [if_neg (fun y => hx.mp (Classical.byContradiction z) ((hsS hσ).mp y))]
  · unfold G_fill
    rw [if_neg (fun y => hx.mp (Classical.byContradiction z) ((hsS hσ).mp y.1))]
    exact hσ)
theorem ok_X8_undo (hA : jA ad 46) : OK_X8_undo l D cy ad := met_X8_undo hA (ok_X0_restore hA) (ok_X0_size hA) (ok_X8_repairParts hA) (by
  rintro p M0 ⟨hp, h0, σ0, h⟩ hM
  subst h0
  obtain ⟨hS, hw⟩ := abs_sw h
  have hq := abs_pt h
  refine ⟨hp, ⟨rfl, rfl⟩, ?_⟩
  rintro x2 M1 - - ⟨rfl, rfl⟩
  have hn := h.1.2.2.2.2.2.1.1
  have hn2 := h.1.1.2.2.2.2.2.1
  refine ⟨fun z => ⟨hp, hp, ⟨rfl, rfl, rfl, _, _, h.1.2.2.2.2.2.1, by omega⟩, ?_⟩, fun z => ⟨trivial, fun σ hσ => ⟨?_, ?_⟩⟩⟩
  · rintro x4 M3 - - ⟨c1, c2⟩
    obtain ⟨hS3, eg3⟩ := surf_congr (M' := M3) hS (fun b q1 q2 => c2 b (by omega) (by omega))
    have hB : ∀ σ, absX M1 σ → absB M3 (upA (up σ 0 7 (σ 0 7 - 1)) 1 (fun t => σ 4 ((144 * (σ 0 7 - 1)).toNat + t))) ∧ σ 0 7 = M1 16 2 := fun σ hσ => by
      obtain ⟨⟨⟨o1, o2, o3, o4, o5, o6, o7⟩, ⟨h2, h3⟩, h4, h5, e12, h8, h9⟩, hP⟩ := id hσ
      have en : σ 0 7 = M1 16 2 := h8.1.symm
      obtain ⟨d1, d2⟩ := c1 _ _ h8
      have eg : gS (upA (up σ 0 7 (σ 0 7 - 1)) 1 (fun t => σ 4 ((144 * (σ 0 7 - 1)).toNat + t))) = gS σ := gS_cg (fun i hi => by rw [upA_n (by decide), up_nk (Or.inr (by omega))])
      have er : ∀ r, r ≠ 0 → r ≠ 1 → upA (up σ 0 7 (σ 0 7 - 1)) 1 (fun t => σ 4 ((144 * (σ 0 7 - 1)).toNat + t)) r = σ r := fun r r0 r1 => by rw [upA_n r1, up_n r0]
      have e06 : upA (up σ 0 7 (σ 0 7 - 1)) 1 (fun t => σ 4 ((144 * (σ 0 7 - 1)).toNat + t)) 0 6 = σ 0 6 := by rw [upA_n (by decide), up_nk (Or.inr (by decide))]
      have e07 : upA (up σ 0 7 (σ 0 7 - 1)) 1 (fun t => σ 4 ((144 * (σ 0 7 - 1)).toNat + t)) 0 7 = σ 0 7 - 1 := by rw [upA_n (by decide), up_sk]
      refine ⟨⟨⟨by rw [eg]; exact o1, by rw [upA_s]; exact fun t ht => o7 _ (by omega), by rw [er 2 (by decide) (by decide)]; exact o3, by rw [e06]; exact o4, by rw [e06, er 3 (by decide) (by decide)]; exact o5, by rw [e07]; omega, by rw [e07, er 4 (by decide) (by decide)]; exact fun i hi => o7 i (by omega)⟩, ⟨by rw [eg3, eg]; exact h2, hS3.2⟩, by rw [upA_s]; exact d2, by rw [er 2 (by decide) (by decide), c2 8 (by decide) (by decide)]; exact h5, by rw [e06, er 3 (by decide) (by decide), c2 12 (by decide) (by decide), c2 13 (by decide) (by decide)]; exact e12, by rw [er 4 (by decide) (by decide), e07]; exact d1, by rw [c2 0 (by decide) (by decide)]; exact h9⟩, en⟩
    refine ⟨⟨hp, rfl, hS3, by rw [c2 0 (by decide) (by decide)]; exact hq⟩, ?_⟩
    rintro x6 M5 - - hc6
    refine ⟨hp, ⟨rfl, rfl⟩, ?_⟩
    rintro x8 M7 - - ⟨rfl, rfl⟩
    refine ⟨trivial, fun σ hσ => ?_⟩
    obtain ⟨b1, b2⟩ := hB σ hσ
    obtain ⟨k1, -, -, -⟩ := rep_x b1 hc6
    unfold F_undo G_undo
    rw [if_neg (by omega), if_neg (by omega)]
    refine ⟨?_, k1⟩
    have := k1.1.2.2.2.2.2.1.1
    rw [upA_n (by decide), up_sk] at this
    exact this
  · have := hσ.1.2.2.2.2.2.1.1
    unfold F_undo
    rw [if_pos (by omega)]
  · have := hσ.1.2.2.2.2.2.1.1
    unfold G_undo
    rw [if_pos (by omega)]
    exact hσ)
end P3
