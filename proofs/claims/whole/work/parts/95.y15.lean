/-! ===== the model's members: greatestPart, undo ===== -/
theorem cnt_pos {L : Nat → Int} {t n : Nat} (ht : t < n) (hL : L t = (t : Int)) : 1 ≤ cntL L t n := by
  have e := sumF_upd (f := fun j => if L j = (t : Int) then (1 : Int) else 0) (h := upR (fun j => if L j = (t : Int) then (1 : Int) else 0) t 0) ht (fun j _ hj => by rw [upR_n hj])
  have b := sumF_b (f := upR (fun j => if L j = (t : Int) then (1 : Int) else 0) t 0) (n := n) (fun j hj => by
    by_cases q : j = t
    · rw [q, upR_s]; omega
    · rw [upR_n q]; exact if01 _)
  rw [upR_s] at e
  rw [if_pos hL] at e
  show 1 ≤ sumF (fun j => if L j = (t : Int) then (1 : Int) else 0) n
  omega
section Y15
variable {l : Launch} {D : va_G} {cy : Nat → ClassId} {ad : Nat → Nat}
theorem ok_X9_greatestPart (hA : jA ad 12) : OK_X9_greatestPart l D cy ad := met_X9_greatestPart hA (ok_X9_isKind hA) (ok_X9_layLabels hA) (ok_X9_sizeOf hA)
  (fun p k M0 b m t M μ => kdO k ∧ (∀ κ, kiY M0 κ → layY M (gY M0) κ ∧ b = grF (fun t => decide (lab (gY M0) κ t = t ∧ κ t = k)) (fun t => cntL (lab (gY M0) κ) t (nT (gY M0))) t.toNat ∧ ((b = -5 ∧ m = 0) ∨ ((0 ≤ b ∧ b < nT (gY M0)) ∧ m = cntL (lab (gY M0) κ) ((b.toNat : Nat) : Int) (nT (gY M0))))) ∧ (∀ b, b ≠ 5 → b ≠ 6 → b ≠ 7 → b ≠ 8 → M b = M0 b) ∧ (0 ≤ t ∧ t ≤ nT (gY M0)) ∧ μ = (500 - t).toNat)
  (by
    rintro p k M0 ⟨hp, h0, σ0, h⟩ hM rk
    subst h0
    obtain ⟨hG, hw⟩ := absY_s h
    refine ⟨trivial, ?_⟩
    rintro x2 M1 - - ⟨hc2, rfl⟩
    have hx2 := if_x hc2
    refine ⟨fun z => ⟨⟨hp, rfl, hG⟩, ?_⟩, fun z => ⟨trivial, fun σ hσ => ⟨?_, hσ⟩⟩⟩
    · rintro x4 M3 - - hc
      have hk := Classical.byContradiction (fun y => z (hx2.mpr y))
      exact ⟨_, rfl, rfl, hk, fun κ hκ => ⟨(hc κ hκ).1, rfl, Or.inl ⟨rfl, rfl⟩⟩, (hc _ (fun _ _ => rfl)).2, by omega, rfl⟩
    · unfold F_greatestPart
      rw [if_neg (hx2.mp (Classical.byContradiction z))])
  (by
    rintro p k M0 ⟨hp, h0, σ0, h⟩ hM rk b m t M n ⟨hk, hI, hf, ht, hμ⟩ -
    subst h0
    obtain ⟨hG, hw⟩ := absY_s h
    obtain ⟨n2, n9, n144⟩ := gY_n hG
    have e0 : M 0 = M0 0 := hf 0 (by decide) (by decide) (by decide) (by decide)
    have e1 : M 1 = M0 1 := hf 1 (by decide) (by decide) (by decide) (by decide)
    obtain ⟨hG1, eg⟩ := gY_congr hG e0
    rw [e0, n2]
    have hX : ∀ σ, absY M0 σ → absY M σ := fun σ hσ => absY_congr hσ (fun b hb => hf b (by omega) (by omega) (by omega) (by omega))
    have t1 : (t + 1).toNat = t.toNat + 1 := by omega
    have et : ((t.toNat : Nat) : Int) = t := by omega
    have hsz : ∀ x : Int, (∀ L, lbY M L → x = cntL L t (nT (gY M))) → ∀ κ, kiY M0 κ → x = cntL (lab (gY M0) κ) ((t.toNat : Nat) : Int) (nT (gY M0)) := fun x hx κ hκ => by
      have := hx (lab (gY M0) κ) (fun j hj => ((hI κ hκ).1 j (by rw [← eg]; exact hj)).1)
      rw [eg] at this
      rw [this, et]
    have keep : ∀ _ : Nat, ¬ (nT (gY M0) : Int) ≤ t → (∀ κ, kiY M0 κ → ¬ (lab (gY M0) κ t.toNat = ((t.toNat : Nat) : Int) ∧ κ t.toNat = k ∧ (b = -5 ∨ cntL (lab (gY M0) κ) ((b.toNat : Nat) : Int) (nT (gY M0)) < cntL (lab (gY M0) κ) ((t.toNat : Nat) : Int) (nT (gY M0))))) →
        inR (t + 1) ∧ ∃ μ : Nat, μ < n ∧ (0 : Nat) = 0 ∧ k = k ∧ (kdO k ∧ (∀ κ, kiY M0 κ → layY M (gY M0) κ ∧ b = grF (fun t => decide (lab (gY M0) κ t = t ∧ κ t = k)) (fun t => cntL (lab (gY M0) κ) t (nT (gY M0))) (t + 1).toNat ∧ ((b = -5 ∧ m = 0) ∨ ((0 ≤ b ∧ b < nT (gY M0)) ∧ m = cntL (lab (gY M0) κ) ((b.toNat : Nat) : Int) (nT (gY M0))))) ∧ (∀ b, b ≠ 5 → b ≠ 6 → b ≠ 7 → b ≠ 8 → M b = M0 b) ∧ (0 ≤ t + 1 ∧ t + 1 ≤ nT (gY M0)) ∧ μ = (500 - (t + 1)).toNat) := fun _ h1 hn => by
      refine ⟨by omega, (500 - (t + 1)).toNat, by omega, rfl, rfl, hk, fun κ hκ => ?_, hf, by omega, rfl⟩
      obtain ⟨c1, c2, c3⟩ := hI κ hκ
      refine ⟨c1, ?_, c3⟩
      rw [t1]
      unfold grF
      rw [← c2, if_neg]
      rintro ⟨q1, q2⟩
      have q3 := of_decide_eq_true q1
      exact hn κ hκ ⟨q3.1, q3.2, q2⟩
    have take : ∀ _ : Nat, ¬ (nT (gY M0) : Int) ≤ t → (∀ κ, kiY M0 κ → lab (gY M0) κ t.toNat = ((t.toNat : Nat) : Int) ∧ κ t.toNat = k ∧ (b = -5 ∨ cntL (lab (gY M0) κ) ((b.toNat : Nat) : Int) (nT (gY M0)) < cntL (lab (gY M0) κ) ((t.toNat : Nat) : Int) (nT (gY M0)))) → ∀ m' : Int, (∀ κ, kiY M0 κ → m' = cntL (lab (gY M0) κ) ((t.toNat : Nat) : Int) (nT (gY M0))) →
        inR (t + 1) ∧ ∃ μ : Nat, μ < n ∧ (0 : Nat) = 0 ∧ k = k ∧ (kdO k ∧ (∀ κ, kiY M0 κ → layY M (gY M0) κ ∧ t = grF (fun t => decide (lab (gY M0) κ t = t ∧ κ t = k)) (fun t => cntL (lab (gY M0) κ) t (nT (gY M0))) (t + 1).toNat ∧ ((t = -5 ∧ m' = 0) ∨ ((0 ≤ t ∧ t < nT (gY M0)) ∧ m' = cntL (lab (gY M0) κ) ((t.toNat : Nat) : Int) (nT (gY M0))))) ∧ (∀ b, b ≠ 5 → b ≠ 6 → b ≠ 7 → b ≠ 8 → M b = M0 b) ∧ (0 ≤ t + 1 ∧ t + 1 ≤ nT (gY M0)) ∧ μ = (500 - (t + 1)).toNat) := fun _ h1 hn m' hm' => by
      refine ⟨by omega, (500 - (t + 1)).toNat, by omega, rfl, rfl, hk, fun κ hκ => ?_, hf, by omega, rfl⟩
      obtain ⟨c1, c2, c3⟩ := hI κ hκ
      refine ⟨c1, ?_, Or.inr ⟨by omega, hm' κ hκ⟩⟩
      obtain ⟨q1, q2, q3⟩ := hn κ hκ
      rw [t1]
      unfold grF
      rw [← c2, if_pos ⟨decide_eq_true ⟨q1, q2⟩, q3⟩]
      omega
    have hlab : ∀ κ, kiY M0 κ → ¬ (nT (gY M0) : Int) ≤ t → M 5 t.toNat = lab (gY M0) κ t.toNat := fun κ hκ h1 => ((hI κ hκ).1 t.toNat (by omega)).1
    have hkd : ∀ κ, kiY M0 κ → ¬ (nT (gY M0) : Int) ≤ t → M 1 t.toNat = κ t.toNat := fun κ hκ h1 => by rw [e1]; exact hκ t.toNat (by omega)
    refine ⟨hp, fun h1 => ⟨trivial, fun σ hσ => ⟨?_, hX σ hσ⟩⟩, fun h1 => ⟨hp, rfl, by omega, fun h2 => keep 0 h1 (fun κ hκ y => h2 (by rw [hlab κ hκ h1, y.1]; exact et)), fun h2 => ⟨hp, rfl, by omega, fun h3 => keep 0 h1 (fun κ hκ y => h3 (by rw [hkd κ hκ h1]; exact y.2.1)), fun h3 => ⟨⟨hp, rfl, hG1⟩, ?_⟩⟩⟩⟩
    · unfold F_greatestPart
      rw [if_pos hk]
      show b = grF (fun t => decide (lab (gS σ) (σ 1) t = t ∧ σ 1 t = k)) (fun t => cntL (lab (gS σ) (σ 1)) t (nT (gS σ))) (nT (gS σ))
      rw [← hσ.2.1.1, (hI _ hσ.2.2.1).2.1, show t.toNat = nT (gY M0) by omega]
    · have h2' := Classical.byContradiction h2
      have h3' := Classical.byContradiction h3
      rintro x2 M1 - - ⟨hx, rfl⟩
      have hs2 := hsz x2 hx
      have l1 : ∀ κ, kiY M0 κ → lab (gY M0) κ t.toNat = ((t.toNat : Nat) : Int) := fun κ hκ => by rw [← hlab κ hκ h1, h2', et]
      refine ⟨fun h4 => keep 0 h1 (fun κ hκ y => ?_), fun h4 => ⟨⟨hp, rfl, hG1⟩, ?_⟩⟩
      · have a1 := hs2 κ hκ
        have a2 := cnt_pos (n := nT (gY M0)) (show t.toNat < nT (gY M0) by omega) (l1 κ hκ)
        rcases (hI κ hκ).2.2 with q | q
        · omega
        · have a3 := q.2
          have a4 := y.2.2
          omega
      · rintro x4 M3 - - ⟨hx4, rfl⟩
        refine take 0 h1 (fun κ hκ => ⟨l1 κ hκ, by rw [← hkd κ hκ h1]; exact h3', ?_⟩) x4 (hsz x4 hx4)
        have a1 := hs2 κ hκ
        rcases (hI κ hκ).2.2 with q | q
        · exact Or.inl q.1
        · have a3 := q.2
          exact Or.inr (by omega))
theorem ok_X9_undo (hA : jA ad 12) : OK_X9_undo l D cy ad := met_X9_undo hA
  (fun p M0 j M μ => (0 < M0 0 16 ∧ M0 0 16 ≤ 12) ∧ M 0 = upR (M0 0) 16 (M0 0 16 - 1) ∧ (∀ i : Nat, (i : Int) < j → M 1 i = M0 9 (144 * (M0 0 16 - 1) + i).toNat) ∧ (∀ b, b ≠ 0 → b ≠ 1 → M b = M0 b) ∧ (0 ≤ j ∧ j ≤ 144) ∧ μ = (500 - j).toNat)
  (by
    rintro p M0 ⟨hp, h0, σ0, h⟩ hM
    subst h0
    have h7 := h.2.2.2.2.2.1
    have hr := h.1.2.2.2.2.2.1
    refine ⟨hp, fun z => ⟨hp, by omega, hp, _, rfl, ⟨by omega, by omega⟩, up_s, fun i hi => by omega, fun b b0 b1 => up_n b0, by omega, rfl⟩, fun z => ⟨trivial, fun σ hσ => ⟨?_, ?_⟩⟩⟩
    · have := hσ.2.2.2.2.2.1
      unfold F_undo
      rw [if_pos (by omega)]
    · have := hσ.2.2.2.2.2.1
      unfold G_undo
      rw [if_pos (by omega)]
      exact hσ)
  (by
    rintro p M0 ⟨hp, h0, σ0, h⟩ hM j M n ⟨hn, hm0, hI, hf, hj, hμ⟩ -
    subst h0
    have e16 : M 0 16 = M0 0 16 - 1 := by rw [hm0, upR_s]
    have e9 : M 9 = M0 9 := hf 9 (by decide) (by decide)
    rw [e16, e9]
    refine ⟨fun h1 => ⟨hp, trivial, fun σ hσ => ?_⟩, fun h1 => ⟨hp, hp, hp, by omega, by omega, rfl, by omega, rfl, by omega, by omega, (500 - (j + 1)).toNat, by omega, rfl, hn, ?_, fun i hi => ?_, fun b b0 b1 => by rw [up_n b1]; exact hf b b0 b1, by omega, rfl⟩⟩
    · obtain ⟨⟨o1, o2, o3, o4, o5, o6, o7⟩, ⟨h2, h3⟩, h4, h5, h6, h7⟩ := id hσ
      have eg : gS (upA (up σ 0 7 (σ 0 7 - 1)) 1 (fun t => σ 4 ((144 * (σ 0 7 - 1)).toNat + t))) = gS σ := gS_cg (fun i hi => by rw [upA_n (by decide), up_nk (Or.inr (by omega))])
      have er : ∀ r, r ≠ 0 → r ≠ 1 → upA (up σ 0 7 (σ 0 7 - 1)) 1 (fun t => σ 4 ((144 * (σ 0 7 - 1)).toNat + t)) r = σ r := fun r r0 r1 => by rw [upA_n r1, up_n r0]
      have e06 : upA (up σ 0 7 (σ 0 7 - 1)) 1 (fun t => σ 4 ((144 * (σ 0 7 - 1)).toNat + t)) 0 6 = σ 0 6 := by rw [upA_n (by decide), up_nk (Or.inr (by decide))]
      have e07 : upA (up σ 0 7 (σ 0 7 - 1)) 1 (fun t => σ 4 ((144 * (σ 0 7 - 1)).toNat + t)) 0 7 = σ 0 7 - 1 := by rw [upA_n (by decide), up_sk]
      have en := h7.1
      have ek : ∀ k, k ≠ 16 → M 0 k = M0 0 k := fun k hk => by rw [hm0, upR_n hk]
      have egY : gY M = gY M0 := by
        funext i; unfold gY
        rw [ek 0 (by decide), ek 1 (by decide), ek 5 (by decide), ek 6 (by decide), ek 7 (by decide), ek 8 (by decide)]
      unfold F_undo G_undo
      rw [if_neg (by omega), if_neg (by omega)]
      refine ⟨by omega, ⟨by rw [eg]; exact o1, by rw [upA_s]; exact fun t ht => o7 _ (by omega), by rw [er 2 (by decide) (by decide)]; exact o3, by rw [e06]; exact o4, by rw [e06, er 3 (by decide) (by decide)]; exact o5, by rw [e07]; omega, by rw [e07, er 4 (by decide) (by decide)]; exact fun i hi => o7 i (by omega)⟩, ⟨by rw [egY, eg]; exact h2, by rw [ek 0 (by decide), ek 1 (by decide), ek 2 (by decide)]; exact h3⟩, ?_, by rw [er 2 (by decide) (by decide), hf 2 (by decide) (by decide)]; exact h5, by rw [e06, er 3 (by decide) (by decide), ek 9 (by decide), hf 3 (by decide) (by decide)]; exact h6, ?_⟩
      · rw [upA_s]
        intro i hi
        rw [hI i (by omega)]
        have q := h7.2 (144 * (M0 0 16 - 1) + i).toNat (by omega)
        rw [q, show (144 * (M0 0 16 - 1) + (i : Int)).toNat = (144 * (σ 0 7 - 1)).toNat + i by omega]
      · rw [e07, er 4 (by decide) (by decide), e16, e9]
        exact ⟨by omega, fun i hi => h7.2 i (by omega)⟩
    · rw [up_n (by decide)]; exact hm0
    · by_cases q : i = j.toNat
      · rw [q, up_sk, show ((j.toNat : Nat) : Int) = j by omega]
      · rw [up_nk (Or.inr q)]
        exact hI i (by omega))
end Y15
