/-! ===== the model's members on distances: farthest, nearest ===== -/
theorem dist_pos {g κ wt : Nat → Int} {s : Nat} {L : Nat → Int} (h : isDist g κ wt s L) {t : Nat} (tl : t < nT g) (ts : t ≠ s) (t0 : 0 ≤ L t) : 0 < L t := by
  obtain ⟨u, ul, u0, e, e0, e4, hs, en, eL⟩ := h.2.2.2 t tl ts t0
  omega
section Y13
variable {l : Launch} {D : va_G} {cy : Nat → ClassId} {ad : Nat → Nat}
theorem ok_X9_farthest (hA : jA ad 12) : OK_X9_farthest l D cy ad := met_X9_farthest hA (ok_X9_layDistances hA) (ok_X9_noTile hA)
  (fun p t M0 b j M μ => YD M0 M t ∧ (∀ σ, absY M0 σ → b = faF (dstS σ t) t j.toNat) ∧ (0 ≤ b ∧ b < nT (gY M0)) ∧ M 11 b.toNat ≠ 1000000 ∧ (0 ≤ j ∧ j ≤ nT (gY M0)) ∧ (b = t ∨ b < j) ∧ μ = (500 - j).toNat)
  (by
    rintro p t M0 ⟨hp, h0, σ0, h⟩ hM rt
    subst h0
    obtain ⟨hG, hw⟩ := absY_s h
    refine ⟨⟨hp, rfl, hG⟩, ?_⟩
    rintro x2 M1 - - ⟨hx, rfl⟩
    have hx2 := nt_x hx
    refine ⟨fun z => ⟨⟨hp, rfl, hG, hw, hx2.mp z⟩, ?_⟩, fun z => ⟨trivial, fun σ hσ => ⟨?_, hσ⟩⟩⟩
    · rintro x4 M3 - - hc
      have hY := YD_of (hx2.mp z) h hc
      have ht := hx2.mp z
      refine ⟨_, rfl, rfl, hY, fun _ _ => rfl, ht, fun y => ?_, by omega, Or.inl rfl, rfl⟩
      have e := YD_v hY h (j := t.toNat) (by omega)
      rw [if_pos y] at e
      have := (hY.1 σ0 h).2.2.1.2
      omega
    · unfold F_farthest
      rw [if_neg (fun y => z (hx2.mpr ((hsY hσ).mp y)))])
  (by
    rintro p t M0 ⟨hp, h0, σ0, h⟩ hM rt b j M n ⟨hY, hI, hb, hbr, hj, hbj, hμ⟩ -
    subst h0
    obtain ⟨hG, hw⟩ := absY_s h
    obtain ⟨n2, n9, n144⟩ := gY_n hG
    have e0 := hY.2.2.1.1
    have ht := hY.2.2.2
    rw [e0, n2]
    have ej : ¬ (nT (gY M0) : Int) ≤ j → ((j.toNat : Nat) : Int) = j := fun _ => by omega
    have keep : ∀ _ : Nat, ¬ (nT (gY M0) : Int) ≤ j → (M 11 j.toNat = 1000000 ∨ M 11 j.toNat ≤ M 11 b.toNat) → inR (j + 1) ∧ ∃ μ : Nat, μ < n ∧ (0 : Nat) = 0 ∧ t = t ∧ (YD M0 M t ∧ (∀ σ, absY M0 σ → b = faF (dstS σ t) t (j + 1).toNat) ∧ (0 ≤ b ∧ b < nT (gY M0)) ∧ M 11 b.toNat ≠ 1000000 ∧ (0 ≤ j + 1 ∧ j + 1 ≤ nT (gY M0)) ∧ (b = t ∨ b < j + 1) ∧ μ = (500 - (j + 1)).toNat) := fun _ h1 hk => by
      refine ⟨by omega, (500 - (j + 1)).toNat, by omega, rfl, rfl, hY, fun σ hσ => ?_, hb, hbr, by omega, by omega, rfl⟩
      have eb := YD_v hY hσ (j := b.toNat) (by omega)
      have eJ := YD_v hY hσ (j := j.toNat) (by omega)
      have vb := hY.2.1 b.toNat (by omega)
      rw [if_neg hbr] at eb
      rw [show (j + 1).toNat = j.toNat + 1 by omega]
      unfold faF
      rw [← hI σ hσ, if_neg]
      rw [eb, eJ]
      split
      · omega
      · omega
    have take : ∀ _ : Nat, ¬ (nT (gY M0) : Int) ≤ j → (M 11 j.toNat ≠ 1000000 ∧ M 11 b.toNat < M 11 j.toNat) → inR (j + 1) ∧ ∃ μ : Nat, μ < n ∧ (0 : Nat) = 0 ∧ t = t ∧ (YD M0 M t ∧ (∀ σ, absY M0 σ → j = faF (dstS σ t) t (j + 1).toNat) ∧ (0 ≤ j ∧ j < nT (gY M0)) ∧ M 11 j.toNat ≠ 1000000 ∧ (0 ≤ j + 1 ∧ j + 1 ≤ nT (gY M0)) ∧ (j = t ∨ j < j + 1) ∧ μ = (500 - (j + 1)).toNat) := fun _ h1 hk => by
      refine ⟨by omega, (500 - (j + 1)).toNat, by omega, rfl, rfl, hY, fun σ hσ => ?_, by omega, hk.1, by omega, by omega, rfl⟩
      have eb := YD_v hY hσ (j := b.toNat) (by omega)
      have eJ := YD_v hY hσ (j := j.toNat) (by omega)
      rw [if_neg hbr] at eb
      rw [if_neg hk.1] at eJ
      rw [show (j + 1).toNat = j.toNat + 1 by omega]
      unfold faF
      rw [← hI σ hσ, if_pos (by rw [eb, eJ]; exact hk.2), ej h1]
    have eqc : ¬ (nT (gY M0) : Int) ≤ j → M 11 j.toNat = M 11 b.toNat → ¬ b ≤ j → False := fun h1 he hbj2 => by
      have hbt : b = t := by omega
      subst hbt
      obtain ⟨-, -, hD⟩ := hY.1 σ0 h
      have eb := YD_v hY h (j := b.toNat) (by omega)
      have eJ := YD_v hY h (j := j.toNat) (by omega)
      rw [if_neg hbr] at eb
      rw [if_neg (by rw [he]; exact hbr)] at eJ
      have h0 := hD.1.2
      have vb := hY.2.1 b.toNat (by omega)
      have := dist_pos hD (t := j.toNat) (by rw [← h.2.1.1]; omega) (by omega) (by omega)
      omega
    refine ⟨hp, fun h1 => ⟨trivial, fun σ hσ => ⟨?_, (hY.1 σ hσ).1⟩⟩, fun h1 => ⟨hp, rfl, by omega, fun h2 => ⟨fun _ => keep 0 h1 (Or.inl ?_), fun y => absurd rfl y⟩, fun h2 => ⟨hp, rfl, by omega, hp, rfl, by omega, fun h3 => ⟨fun y => absurd y (by decide), fun _ => take 0 h1 ⟨by omega, h3⟩⟩, fun h3 => ⟨hp, rfl, by omega, hp, rfl, by omega, fun h4 => ⟨fun _ => keep 0 h1 (Or.inr (by omega)), fun y => absurd rfl y⟩, fun h4 => ⟨fun h5 => ⟨fun _ => keep 0 h1 (Or.inr (by omega)), fun y => absurd rfl y⟩, fun h5 => (eqc h1 (Classical.byContradiction h4) h5).elim⟩⟩⟩⟩⟩
    · unfold F_farthest
      rw [if_pos ((hsY hσ).mpr ht), hI σ hσ, ← hσ.2.1.1, show j.toNat = nT (gY M0) by omega]
    · have := hY.2.1 j.toNat (by omega)
      omega)
theorem ok_X9_nearest (hA : jA ad 12) : OK_X9_nearest l D cy ad := met_X9_nearest hA (ok_X9_isKind hA) (ok_X9_layDistances hA) (ok_X9_noTile hA)
  (fun p t k M0 b j M μ => YD M0 M t ∧ kdO k ∧ (∀ σ, absY M0 σ → b = neF (dstS σ t) (σ 1) k j.toNat) ∧ (b = -5 ∨ ((0 ≤ b ∧ b < nT (gY M0)) ∧ M 11 b.toNat ≠ 1000000)) ∧ (0 ≤ j ∧ j ≤ nT (gY M0)) ∧ μ = (500 - j).toNat)
  (by
    rintro p t k M0 ⟨hp, h0, σ0, h⟩ hM rt rk
    subst h0
    obtain ⟨hG, hw⟩ := absY_s h
    refine ⟨⟨hp, rfl, hG⟩, ?_⟩
    rintro x2 M1 - - ⟨hx, rfl⟩
    have hx2 := nt_x hx
    refine ⟨fun z => ⟨trivial, ?_⟩, fun z => ⟨trivial, fun σ hσ => ⟨?_, hσ⟩⟩⟩
    · have ht := hx2.mp z
      rintro x4 M3 - - ⟨hc4, rfl⟩
      have hx4 := if_x hc4
      refine ⟨fun z4 => ?_, fun z4 => ⟨trivial, fun σ hσ => ⟨?_, hσ⟩⟩⟩
      · have hk := Classical.byContradiction (fun y => z4 (hx4.mpr y))
        refine ⟨⟨hp, rfl, hG, hw, ht⟩, ?_⟩
        rintro x6 M5 - - hc6
        exact ⟨_, rfl, rfl, rfl, YD_of ht h hc6, hk, fun _ _ => rfl, Or.inl rfl, by omega, rfl⟩
      · unfold F_nearest
        rw [if_pos ((hsY hσ).mpr ht), if_neg (hx4.mp (Classical.byContradiction z4))]
    · unfold F_nearest
      rw [if_neg (fun y => z (hx2.mpr ((hsY hσ).mp y)))])
  (by
    rintro p t k M0 ⟨hp, h0, σ0, h⟩ hM rt rk b j M n ⟨hY, hk, hI, hb, hj, hμ⟩ -
    subst h0
    obtain ⟨hG, hw⟩ := absY_s h
    obtain ⟨n2, n9, n144⟩ := gY_n hG
    have e0 := hY.2.2.1.1
    have e1 := hY.2.2.1.2.1
    have ht := hY.2.2.2
    rw [e0, n2]
    have vJ := hY.2.1 j.toNat
    have keep : ∀ _ : Nat, ¬ (nT (gY M0) : Int) ≤ j → ¬ (M 1 j.toNat = k ∧ M 11 j.toNat ≠ 1000000 ∧ (b = -5 ∨ M 11 j.toNat < M 11 b.toNat)) → inR (j + 1) ∧ ∃ μ : Nat, μ < n ∧ (0 : Nat) = 0 ∧ t = t ∧ k = k ∧ (YD M0 M t ∧ kdO k ∧ (∀ σ, absY M0 σ → b = neF (dstS σ t) (σ 1) k (j + 1).toNat) ∧ (b = -5 ∨ ((0 ≤ b ∧ b < nT (gY M0)) ∧ M 11 b.toNat ≠ 1000000)) ∧ (0 ≤ j + 1 ∧ j + 1 ≤ nT (gY M0)) ∧ μ = (500 - (j + 1)).toNat) := fun _ h1 hn => by
      refine ⟨by omega, (500 - (j + 1)).toNat, by omega, rfl, rfl, rfl, hY, hk, fun σ hσ => ?_, hb, by omega, rfl⟩
      have eJ := YD_v hY hσ (j := j.toNat) (by omega)
      have ek : M 1 j.toNat = σ 1 j.toNat := by rw [e1]; exact hσ.2.2.1 _ (by omega)
      rw [show (j + 1).toNat = j.toNat + 1 by omega]
      unfold neF
      rw [← hI σ hσ, if_neg]
      rintro ⟨q1, q2, q3⟩
      by_cases q : M 11 j.toNat = 1000000
      · rw [if_pos q] at eJ; exact q2 eJ
      · rw [if_neg q] at eJ
        refine hn ⟨by omega, q, ?_⟩
        rcases hb with hb | hb
        · exact Or.inl hb
        · have eb := YD_v hY hσ (j := b.toNat) (by omega)
          rw [if_neg hb.2] at eb
          exact Or.inr (by omega)
    have take : ∀ _ : Nat, ¬ (nT (gY M0) : Int) ≤ j → (M 1 j.toNat = k ∧ M 11 j.toNat ≠ 1000000 ∧ (b = -5 ∨ M 11 j.toNat < M 11 b.toNat)) → inR (j + 1) ∧ ∃ μ : Nat, μ < n ∧ (0 : Nat) = 0 ∧ t = t ∧ k = k ∧ (YD M0 M t ∧ kdO k ∧ (∀ σ, absY M0 σ → j = neF (dstS σ t) (σ 1) k (j + 1).toNat) ∧ (j = -5 ∨ ((0 ≤ j ∧ j < nT (gY M0)) ∧ M 11 j.toNat ≠ 1000000)) ∧ (0 ≤ j + 1 ∧ j + 1 ≤ nT (gY M0)) ∧ μ = (500 - (j + 1)).toNat) := fun _ h1 hn => by
      refine ⟨by omega, (500 - (j + 1)).toNat, by omega, rfl, rfl, rfl, hY, hk, fun σ hσ => ?_, Or.inr ⟨by omega, hn.2.1⟩, by omega, rfl⟩
      have eJ := YD_v hY hσ (j := j.toNat) (by omega)
      have ek : M 1 j.toNat = σ 1 j.toNat := by rw [e1]; exact hσ.2.2.1 _ (by omega)
      rw [if_neg hn.2.1] at eJ
      rw [show (j + 1).toNat = j.toNat + 1 by omega]
      unfold neF
      rw [← hI σ hσ, if_pos]
      · omega
      · refine ⟨by rw [← ek]; exact hn.1, ?_, ?_⟩
        · have := vJ (by omega)
          have := hn.2.1
          omega
        · rcases hn.2.2 with q | q
          · exact Or.inl q
          · rcases hb with hb | hb
            · exact Or.inl hb
            · have eb := YD_v hY hσ (j := b.toNat) (by omega)
              rw [if_neg hb.2] at eb
              exact Or.inr (by omega)
    refine ⟨hp, fun h1 => ⟨trivial, fun σ hσ => ⟨?_, (hY.1 σ hσ).1⟩⟩, fun h1 => ⟨hp, rfl, by omega, fun h2 => ⟨fun _ => keep 0 h1 (fun y => h2 y.1), fun y => absurd rfl y⟩, fun h2 => ⟨hp, rfl, by omega, fun h3 => ⟨fun _ => keep 0 h1 (fun y => ?_), fun y => absurd rfl y⟩, fun h3 => ⟨fun y => absurd y (by decide), fun _ => ⟨fun h4 => take 0 h1 ⟨Classical.byContradiction h2, by omega, Or.inl (by omega)⟩, fun h4 => ⟨hp, rfl, by omega, hp, rfl, by omega, fun h5 => keep 0 h1 (fun y => ?_), fun h5 => take 0 h1 ⟨Classical.byContradiction h2, by omega, Or.inr (by omega)⟩⟩⟩⟩⟩⟩⟩
    · unfold F_nearest
      rw [if_pos ((hsY hσ).mpr ht), if_pos hk, hI σ hσ, ← hσ.2.1.1, show j.toNat = nT (gY M0) by omega]
    · have := vJ (by omega)
      omega
    · omega)
end Y13
