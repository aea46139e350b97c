/-! ===== the model's members: setTile, fill ===== -/
theorem kp_g {M M1 : Mem} {x : Int} (hG : gyB M) (hc : c_X9_keep 0 M x M1) : gyB M1 ∧ gY M1 = gY M := by
  obtain ⟨-, -, c3, -⟩ := hc
  have eg : gY M1 = gY M := by
    funext i; unfold gY
    rw [c3 0 (by decide), c3 1 (by decide), c3 5 (by decide), c3 6 (by decide), c3 7 (by decide), c3 8 (by decide)]
  exact ⟨⟨by rw [eg]; exact hG.1, by rw [c3 0 (by decide), c3 1 (by decide), c3 2 (by decide)]; exact hG.2⟩, eg⟩
/-- a kept map, then other kinds -/
theorem kp_x {M M1 M2 σ : Mem} {κ : Nat → Int} {x : Int} (h : absY M σ) (hc : c_X9_keep 0 M x M1) (hf : ∀ b, (b = 0 ∨ b = 2 ∨ b = 3 ∨ b = 9) → M2 b = M1 b) (hk : kiY M2 κ) (hb : ∀ t : Nat, t < 144 → 0 ≤ κ t ∧ κ t ≤ 5) : absY M2 (upA (kpS σ) 1 κ) := by
  obtain ⟨h1, ⟨h2, h3⟩, h4, h5, h6, h7⟩ := id h
  obtain ⟨c1, c2, c3, c4⟩ := id hc
  obtain ⟨o1, o2⟩ := ed_ok (κ := κ) h1 hb
  have f0 := hf 0 (by omega)
  have eg : gY M2 = gY M := by
    rw [← (kp_g (absY_s h).1 hc).2]
    funext i; unfold gY
    rw [f0]
  refine ⟨o1, ⟨by rw [eg, o2]; exact h2, by rw [f0, c3 0 (by decide), c3 1 (by decide), c3 2 (by decide)]; exact h3⟩, by rw [upA_s]; exact hk, ?_, ?_, ?_, fun i hi => ?_⟩
  · rw [ed_r (Or.inl rfl), hf 2 (by omega), c4 2 (by decide) (by decide)]; exact h5
  · rw [ed_r (Or.inr rfl), ed_0 (by decide), f0, c3 9 (by decide), hf 3 (by omega), c4 3 (by decide) (by decide)]; exact h6
  · rw [ed_07, f0, c2, h7.1]
  · rw [ed_07] at hi
    rw [ed_4, hf 9 (by omega), c1 i (by rw [h7.1]; exact hi), h7.1]
    have : σ 0 7 ≤ 12 := h1.2.2.2.2.2.1.2
    unfold kpH
    by_cases q : σ 0 7 = 12
    · rw [if_pos q] at hi
      rw [if_pos q, if_pos q]
      by_cases q2 : i < 1584
      · rw [if_pos q2, if_pos q2]; exact h7.2 _ (by omega)
      · rw [if_neg q2, if_neg q2]; exact h4 _ (by omega)
    · rw [if_neg q] at hi
      rw [if_neg q, if_neg q]
      by_cases q2 : (i : Int) < 144 * σ 0 7
      · rw [if_pos q2, if_pos q2]; exact h7.2 _ (by omega)
      · rw [if_neg q2, if_neg q2]; exact h4 _ (by omega)
section Y16
variable {l : Launch} {D : va_G} {cy : Nat → ClassId} {ad : Nat → Nat}
theorem ok_X9_setTile (hA : jA ad 12) : OK_X9_setTile l D cy ad := met_X9_setTile hA (ok_X9_isKind hA) (ok_X9_keep hA) (ok_X9_layLabels hA) (ok_X9_noTile hA)
  (fun p t k M0 j M μ => (kdO k ∧ 0 ≤ t ∧ t < nT (gY M0)) ∧ (∃ M5 x, c_X9_keep 0 M0 x M5 ∧ ∀ b, (b ≤ 4 ∨ b = 9) → M b = M5 b) ∧ (∀ κ, kiY M0 κ → ∀ i : Nat, i < nT (gY M0) → M 5 i = lab (gY M0) κ i) ∧ (∀ i : Nat, (i : Int) < j → M 10 i = M 5 i) ∧ (0 ≤ j ∧ j ≤ nT (gY M0)) ∧ μ = (5000 - j).toNat)
  (fun p t k M0 c j M μ => (kdO k ∧ 0 ≤ t ∧ t < nT (gY M0)) ∧ (∃ M5 x, c_X9_keep 0 M0 x M5 ∧ ∀ b, (b = 0 ∨ b = 2 ∨ b = 3 ∨ b = 9) → M b = M5 b) ∧ M 1 = upR (M0 1) t.toNat k ∧ (∀ κ, kiY M0 κ → (∀ i : Nat, i < nT (gY M0) → M 10 i = lab (gY M0) κ i ∧ M 5 i = lab (gY M0) (upR κ t.toNat k) i) ∧ c = sumF (fun i => if (i : Int) ≠ t ∧ lab (gY M0) (upR κ t.toNat k) i ≠ lab (gY M0) κ i then 1 else 0) j.toNat) ∧ (0 ≤ j ∧ j ≤ nT (gY M0)) ∧ μ = (500 - j).toNat)
  (by
    rintro p t k M0 ⟨hp, h0, σ0, h⟩ hM rt rk
    subst h0
    obtain ⟨hG, hw⟩ := absY_s h
    refine ⟨⟨hp, rfl, hG⟩, ?_⟩
    rintro x2 M1 - - ⟨hx, rfl⟩
    have hx2 := nt_x hx
    refine ⟨fun z => ⟨trivial, ?_⟩, fun z => ⟨trivial, fun σ hσ => ⟨?_, ?_⟩⟩⟩
    · have ht := hx2.mp z
      rintro x4 M3 - - ⟨hc4, rfl⟩
      have hx4 := if_x hc4
      refine ⟨fun z4 => ?_, fun z4 => ⟨trivial, fun σ hσ => ⟨?_, ?_⟩⟩⟩
      · have hk := Classical.byContradiction (fun y => z4 (hx4.mpr y))
        have h7 := h.2.2.2.2.2.1
        have hr := h.1.2.2.2.2.2.1
        refine ⟨⟨hp, rfl, by omega, by omega⟩, ?_⟩
        rintro x6 M5 - - hc6
        obtain ⟨hG5, eg5⟩ := kp_g hG hc6
        have e51 : M5 1 = M3 1 := hc6.2.2.2 1 (by decide) (by decide)
        refine ⟨⟨hp, rfl, hG5⟩, ?_⟩
        rintro x8 M7 - - hc8
        refine ⟨_, rfl, rfl, rfl, ⟨hk, ht⟩, ⟨M5, x6, hc6, fun b hb => (hc8 _ (fun _ _ => rfl)).2 b (by omega) (by omega) (by omega) (by omega)⟩, fun κ hκ i hi => ?_, fun i hi => by omega, by omega, rfl⟩
        have := ((hc8 κ (fun j hj => by rw [e51]; exact hκ j hj)).1 i (by rw [eg5]; exact hi)).1
        rw [eg5] at this
        exact this
      · unfold F_setTile
        rw [if_pos ((hsY hσ).mpr ht), if_neg (hx4.mp (Classical.byContradiction z4))]
      · unfold G_setTile
        rw [if_neg (fun y => hx4.mp (Classical.byContradiction z4) y.2)]
        exact hσ
    · unfold F_setTile
      rw [if_neg (fun y => z (hx2.mpr ((hsY hσ).mp y)))]
    · unfold G_setTile
      rw [if_neg (fun y => z (hx2.mpr ((hsY hσ).mp y.1)))]
      exact hσ)
  (by
    rintro p t k M0 ⟨hp, h0, σ0, h⟩ hM rt rk j M n ⟨⟨hk, ht⟩, ⟨M5, x5, hc5, hf5⟩, hL, hB, hj, hμ⟩ -
    subst h0
    obtain ⟨hG, hw⟩ := absY_s h
    obtain ⟨n2, n9, n144⟩ := gY_n hG
    obtain ⟨hG5, eg5⟩ := kp_g hG hc5
    have e0 : M 0 = M5 0 := hf5 0 (by omega)
    have e1 : M 1 = M0 1 := by rw [hf5 1 (by omega)]; exact hc5.2.2.2 1 (by decide) (by decide)
    have e02 : M 0 2 = nT (gY M0) := by rw [e0, hc5.2.2.1 2 (by decide)]; exact n2
    rw [e02]
    refine ⟨hp, fun h1 => ⟨hp, rfl, by omega, ⟨hp, rfl, ?_⟩, ?_⟩, fun h1 => ⟨hp, hp, rfl, by omega, rfl, by omega, by omega, (5000 - (j + 1)).toNat, by omega, rfl, rfl, rfl, ⟨hk, ht⟩, ⟨M5, x5, hc5, fun b hb => by rw [up_n (by omega)]; exact hf5 b hb⟩, fun κ hκ i hi => by rw [up_n (by decide)]; exact hL κ hκ i hi, fun i hi => ?_, by omega, rfl⟩⟩
    · exact (gY_congr (M' := up M 1 t.toNat k) hG5 (by rw [up_n (by decide)]; exact e0)).1
    · rintro x2 M1 - - hc2
      have eg1 : gY (up M 1 t.toNat k) = gY M0 := by
        rw [← eg5]
        exact (gY_congr (M' := up M 1 t.toNat k) hG5 (by rw [up_n (by decide)]; exact e0)).2
      have fr : ∀ b, b ≠ 5 → b ≠ 6 → b ≠ 7 → b ≠ 8 → M1 b = up M 1 t.toNat k b := (hc2 _ (fun _ _ => rfl)).2
      refine ⟨(500 - 0 : Int).toNat, by omega, rfl, rfl, rfl, ⟨hk, ht⟩, ⟨M5, x5, hc5, fun b hb => by rw [fr b (by omega) (by omega) (by omega) (by omega), up_n (by omega)]; exact hf5 b (by omega)⟩, by rw [fr 1 (by decide) (by decide) (by decide) (by decide), up_s, e1], fun κ hκ => ⟨fun i hi => ⟨?_, ?_⟩, rfl⟩, by omega, rfl⟩
      · rw [fr 10 (by decide) (by decide) (by decide) (by decide), up_n (by decide), hB i (by omega)]
        exact hL κ hκ i hi
      · have := ((hc2 (upR κ t.toNat k) (fun s hs => by
          rw [up_s]
          by_cases q : s = t.toNat
          · rw [q, upR_s, upR_s]
          · rw [upR_n q, upR_n q, e1]; exact hκ s hs)).1 i (by rw [eg1]; exact hi)).1
        rw [eg1] at this
        exact this
    · rw [up_n (show (5 : Nat) ≠ 10 by decide)]
      by_cases q : i = j.toNat
      · rw [q, up_sk]
      · rw [up_nk (Or.inr q)]; exact hB i (by omega))
  (by
    rintro p t k M0 ⟨hp, h0, σ0, h⟩ hM rt rk c j M n ⟨⟨hk, ht⟩, ⟨M5, x5, hc5, hf5⟩, e1, hL, hj, hμ⟩ -
    subst h0
    obtain ⟨hG, hw⟩ := absY_s h
    obtain ⟨n2, n9, n144⟩ := gY_n hG
    have e02 : M 0 2 = nT (gY M0) := by rw [hf5 0 (by omega), hc5.2.2.1 2 (by decide)]; exact n2
    rw [e02]
    have cb : 0 ≤ c ∧ c ≤ j.toNat := by
      rw [(hL _ (fun _ _ => rfl)).2]
      exact sumF_b (fun j _ => if01 _)
    have ej : ((j.toNat : Nat) : Int) = j := by omega
    have nxt : ∀ _ : Nat, ¬ (nT (gY M0) : Int) ≤ j → ∀ c' : Int, (∀ κ, kiY M0 κ → c' = c + (if (j : Int) ≠ t ∧ lab (gY M0) (upR κ t.toNat k) j.toNat ≠ lab (gY M0) κ j.toNat then 1 else 0)) → inR c' ∧ inR (j + 1) ∧ ∃ μ : Nat, μ < n ∧ (0 : Nat) = 0 ∧ t = t ∧ k = k ∧ ((kdO k ∧ 0 ≤ t ∧ t < nT (gY M0)) ∧ (∃ M5 x, c_X9_keep 0 M0 x M5 ∧ ∀ b, (b = 0 ∨ b = 2 ∨ b = 3 ∨ b = 9) → M b = M5 b) ∧ M 1 = upR (M0 1) t.toNat k ∧ (∀ κ, kiY M0 κ → (∀ i : Nat, i < nT (gY M0) → M 10 i = lab (gY M0) κ i ∧ M 5 i = lab (gY M0) (upR κ t.toNat k) i) ∧ c' = sumF (fun i => if (i : Int) ≠ t ∧ lab (gY M0) (upR κ t.toNat k) i ≠ lab (gY M0) κ i then 1 else 0) (j + 1).toNat) ∧ (0 ≤ j + 1 ∧ j + 1 ≤ nT (gY M0)) ∧ μ = (500 - (j + 1)).toNat) := fun _ h1 c' hc' => by
      have b1 := hc' _ (fun _ _ => rfl)
      have b2 := if01 ((j : Int) ≠ t ∧ lab (gY M0) (upR (M0 1) t.toNat k) j.toNat ≠ lab (gY M0) (M0 1) j.toNat)
      refine ⟨by omega, by omega, (500 - (j + 1)).toNat, by omega, rfl, rfl, rfl, ⟨hk, ht⟩, ⟨M5, x5, hc5, hf5⟩, e1, fun κ hκ => ⟨(hL κ hκ).1, ?_⟩, by omega, rfl⟩
      rw [hc' κ hκ, (hL κ hκ).2, show (j + 1).toNat = j.toNat + 1 by omega]
      show _ = sumF _ j.toNat + (if ((j.toNat : Nat) : Int) ≠ t ∧ lab (gY M0) (upR κ t.toNat k) j.toNat ≠ lab (gY M0) κ j.toNat then (1 : Int) else 0)
      rw [ej]
    have val : ∀ κ, kiY M0 κ → ¬ (nT (gY M0) : Int) ≤ j → M 10 j.toNat = lab (gY M0) κ j.toNat ∧ M 5 j.toNat = lab (gY M0) (upR κ t.toNat k) j.toNat := fun κ hκ h1 => (hL κ hκ).1 j.toNat (by omega)
    refine ⟨hp, fun h1 => ⟨trivial, fun σ hσ => ⟨?_, ?_⟩⟩, fun h1 => ⟨fun h2 => nxt 0 h1 _ (fun κ hκ => ?_), fun h2 => ⟨hp, rfl, by omega, hp, rfl, by omega, fun h3 => nxt 0 h1 _ (fun κ hκ => ?_), fun h3 => nxt 0 h1 _ (fun κ hκ => ?_)⟩⟩⟩
    · unfold F_setTile
      rw [if_pos ((hsY hσ).mpr ht), if_pos hk]
      show c = sumF (fun i => if (i : Int) ≠ t ∧ lab (gS σ) (upR (σ 1) t.toNat k) i ≠ lab (gS σ) (σ 1) i then 1 else 0) (nT (gS σ))
      rw [← hσ.2.1.1, (hL _ hσ.2.2.1).2, show j.toNat = nT (gY M0) by omega]
    · unfold G_setTile
      rw [if_pos ⟨(hsY hσ).mpr ht, hk⟩]
      refine kp_x hσ hc5 hf5 (fun s hs => ?_) (upK_b hσ.1.2.1 hk)
      rw [e1]
      by_cases q : s = t.toNat
      · rw [q, upR_s, upR_s]
      · rw [upR_n q, upR_n q]; exact hσ.2.2.1 s hs
    · rw [if_neg (fun y => y.1 h2)]
    · obtain ⟨v1, v2⟩ := val κ hκ h1
      rw [if_neg (fun y => y.2 (by rw [← v1, ← v2]; exact h3))]
    · obtain ⟨v1, v2⟩ := val κ hκ h1
      rw [if_pos ⟨h2, fun y => h3 (by rw [v1, v2]; exact y)⟩])
theorem ok_X9_fill (hA : jA ad 12) : OK_X9_fill l D cy ad := met_X9_fill hA (ok_X9_isKind hA) (ok_X9_keep hA) (ok_X9_layLabels hA) (ok_X9_noTile hA) (ok_X9_sizeOf hA)
  (fun p t k M0 i j M μ => (kdO k ∧ 0 ≤ t ∧ t < nT (gY M0)) ∧ (∃ M5 x, c_X9_keep 0 M0 x M5 ∧ ∀ b, (b = 0 ∨ b = 2 ∨ b = 3 ∨ b = 9) → M b = M5 b) ∧ (∀ κ, kiY M0 κ → (∀ s : Nat, s < nT (gY M0) → M 5 s = lab (gY M0) κ s) ∧ i = lab (gY M0) κ t.toNat) ∧ (∀ s : Nat, M 1 s = if (s : Int) < j ∧ M 5 s = i then k else M0 1 s) ∧ (0 ≤ j ∧ j ≤ nT (gY M0)) ∧ μ = (500 - j).toNat)
  (by
    rintro p t k M0 ⟨hp, h0, σ0, h⟩ hM rt rk
    subst h0
    obtain ⟨hG, hw⟩ := absY_s h
    obtain ⟨n2, n9, n144⟩ := gY_n hG
    refine ⟨⟨hp, rfl, hG⟩, ?_⟩
    rintro x2 M1 - - ⟨hx, rfl⟩
    have hx2 := nt_x hx
    refine ⟨fun z => ⟨trivial, ?_⟩, fun z => ⟨trivial, fun σ hσ => ⟨?_, ?_⟩⟩⟩
    · have ht := hx2.mp z
      rintro x4 M3 - - ⟨hc4, rfl⟩
      have hx4 := if_x hc4
      refine ⟨fun z4 => ?_, fun z4 => ⟨trivial, fun σ hσ => ⟨?_, ?_⟩⟩⟩
      · have hk := Classical.byContradiction (fun y => z4 (hx4.mpr y))
        have h7 := h.2.2.2.2.2.1
        have hr := h.1.2.2.2.2.2.1
        refine ⟨⟨hp, rfl, by omega, by omega⟩, ?_⟩
        rintro x6 M5 - - hc6
        obtain ⟨hG5, eg5⟩ := kp_g hG hc6
        have e51 : M5 1 = M3 1 := hc6.2.2.2 1 (by decide) (by decide)
        refine ⟨⟨hp, rfl, hG5⟩, ?_⟩
        rintro x8 M7 - - hc8
        have fr : ∀ b, b ≠ 5 → b ≠ 6 → b ≠ 7 → b ≠ 8 → M7 b = M5 b := (hc8 _ (fun _ _ => rfl)).2
        have hl : ∀ κ, kiY M3 κ → ∀ s : Nat, s < nT (gY M3) → M7 5 s = lab (gY M3) κ s := fun κ hκ s hs => by
          have := ((hc8 κ (fun j hj => by rw [e51]; exact hκ j hj)).1 s (by rw [eg5]; exact hs)).1
          rw [eg5] at this
          exact this
        refine ⟨hp, rfl, by omega, _, rfl, rfl, rfl, ⟨hk, ht⟩, ⟨M5, x6, hc6, fun b hb => fr b (by omega) (by omega) (by omega) (by omega)⟩, fun κ hκ => ⟨hl κ hκ, hl κ hκ _ (by omega)⟩, fun s => ?_, by omega, rfl⟩
        rw [if_neg (by omega), fr 1 (by decide) (by decide) (by decide) (by decide), e51]
      · unfold F_fill
        rw [if_pos ((hsY hσ).mpr ht), if_neg (hx4.mp (Classical.byContradiction z4))]
      · unfold G_fill
        rw [if_neg (fun y => hx4.mp (Classical.byContradiction z4) y.2)]
        exact hσ
    · unfold F_fill
      rw [if_neg (fun y => z (hx2.mpr ((hsY hσ).mp y)))]
    · unfold G_fill
      rw [if_neg (fun y => z (hx2.mpr ((hsY hσ).mp y.1)))]
      exact hσ)
  (by
    rintro p t k M0 ⟨hp, h0, σ0, h⟩ hM rt rk i j M n ⟨⟨hk, ht⟩, ⟨M5, x5, hc5, hf5⟩, hL, hK, hj, hμ⟩ -
    subst h0
    obtain ⟨hG, hw⟩ := absY_s h
    obtain ⟨n2, n9, n144⟩ := gY_n hG
    obtain ⟨hG5, eg5⟩ := kp_g hG hc5
    have e0 : M 0 = M5 0 := hf5 0 (by omega)
    have e02 : M 0 2 = nT (gY M0) := by rw [e0, hc5.2.2.1 2 (by decide)]; exact n2
    obtain ⟨hGM, egM⟩ := gY_congr (M' := M) hG5 e0
    rw [eg5] at egM
    rw [e02]
    have kf : ¬ j < nT (gY M0) → ∀ σ, absY M0 σ → kiY M (fiK σ t k) := fun h1 σ hσ s hs => by
      obtain ⟨l1, l2⟩ := hL _ hσ.2.2.1
      rw [hK s]
      unfold fiK labS
      rw [← hσ.2.1.1]
      by_cases q : s < nT (gY M0)
      · rw [l1 s q, l2]
        by_cases q2 : lab (gY M0) (σ 1) s = lab (gY M0) (σ 1) t.toNat
        · rw [if_pos ⟨by omega, q2⟩, if_pos ⟨q, q2⟩]
        · rw [if_neg (fun y => q2 y.2), if_neg (fun y => q2 y.2)]; exact hσ.2.2.1 s hs
      · rw [if_neg (fun y => by omega), if_neg (fun y => q y.1)]; exact hσ.2.2.1 s hs
    refine ⟨hp, fun h1 => ⟨⟨hp, rfl, hGM⟩, ?_⟩, fun h1 => ⟨hp, hp, rfl, by omega, fun h2 => ⟨hp, rfl, by omega, rfl, by omega, by omega, (500 - (j + 1)).toNat, by omega, rfl, rfl, rfl, ⟨hk, ht⟩, ⟨M5, x5, hc5, fun b hb => by rw [up_n (by omega)]; exact hf5 b hb⟩, ?_, fun s => ?_, by omega, rfl⟩, fun h2 => ⟨rfl, by omega, by omega, (500 - (j + 1)).toNat, by omega, rfl, rfl, rfl, ⟨hk, ht⟩, ⟨M5, x5, hc5, fun b hb => by rw [up_n (by omega)]; exact hf5 b hb⟩, ?_, fun s => ?_, by omega, rfl⟩⟩⟩
    · rintro x2 M1 - - hc2
      have fr : ∀ b, b ≠ 5 → b ≠ 6 → b ≠ 7 → b ≠ 8 → M1 b = M b := (hc2 _ (fun _ _ => rfl)).2
      obtain ⟨hG1, eg1⟩ := gY_congr (M' := M1) hGM (fr 0 (by decide) (by decide) (by decide) (by decide))
      rw [egM] at eg1
      have hl : ∀ σ, absY M0 σ → lbY M1 (lab (gY M0) (fiK σ t k)) := fun σ hσ s hs => by
        have := ((hc2 _ (kf (by omega) σ hσ)).1 s (by rw [egM, ← eg1]; exact hs)).1
        rw [egM] at this
        exact this
      refine ⟨hp, rfl, by omega, ⟨hp, rfl, hG1⟩, ?_⟩
      rintro x4 M3 - - ⟨hx4, rfl⟩
      refine ⟨trivial, fun σ hσ => ⟨?_, ?_⟩⟩
      · unfold F_fill
        rw [if_pos ((hsY hσ).mpr ht), if_pos hk, hx4 _ (hl σ hσ), eg1, hl σ hσ t.toNat (by rw [eg1]; omega), hσ.2.1.1]
      · unfold G_fill
        rw [if_pos ⟨(hsY hσ).mpr ht, hk⟩]
        refine kp_x hσ hc5 (fun b hb => by rw [fr b (by omega) (by omega) (by omega) (by omega)]; exact hf5 b hb) (fun s hs => ?_) (fiK_b hσ.1.2.1 hk)
        rw [fr 1 (by decide) (by decide) (by decide) (by decide)]
        exact kf (by omega) σ hσ s hs
    · rw [up_n (by decide)]; exact hL
    · rw [up_n (show (5 : Nat) ≠ 1 by decide)]
      have hKs := hK s
      by_cases q : s = j.toNat
      · rw [q, up_sk, if_neg (fun y => h2 y.2), hK j.toNat, if_neg (fun y => h2 y.2)]
      · rw [up_nk (Or.inr q), hKs]
        by_cases q2 : (s : Int) < j ∧ M 5 s = i
        · rw [if_pos q2, if_pos ⟨by omega, q2.2⟩]
        · rw [if_neg q2, if_neg (fun y => q2 ⟨by omega, y.2⟩)]
    · rw [up_n (by decide)]; exact hL
    · rw [up_n (show (5 : Nat) ≠ 1 by decide)]
      have hKs := hK s
      by_cases q : s = j.toNat
      · rw [q, up_sk, if_pos ⟨by omega, Classical.byContradiction h2⟩]
      · rw [up_nk (Or.inr q), hKs]
        by_cases q2 : (s : Int) < j ∧ M 5 s = i
        · rw [if_pos q2, if_pos ⟨by omega, q2.2⟩]
        · rw [if_neg q2, if_neg (fun y => q2 ⟨by omega, y.2⟩)])
end Y16
