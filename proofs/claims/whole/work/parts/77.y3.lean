/-! ===== the model's loops, parts beside, next tile of a route ===== -/
theorem nxk_i {g : Nat → Int} {k : Int} (h : 0 ≤ k) : nxk g k.toNat = nx g (k / 4) (k % 4) ∧ k.toNat / 4 = (k / 4).toNat := by
  refine ⟨?_, by omega⟩
  unfold nxk
  rw [show ((k.toNat / 4 : Nat) : Int) = k / 4 by omega, show ((k.toNat % 4 : Nat) : Int) = k % 4 by omega]
section Y3
variable {l : Launch} {D : va_G} {cy : Nat → ClassId} {ad : Nat → Nat}
theorem ok_X9_loops (hA : jA ad 12) : OK_X9_loops l D cy ad := met_X9_loops hA (ok_X9_next hA) (ok_X9_seamOf hA)
  (fun p f M0 s k M μ => M = M0 ∧ (∀ κ, kiY M0 κ → layY M0 (gY M0) κ → s = lpF (lab (gY M0) κ) (crs (gY M0) κ) (gY M0) f k.toNat) ∧ (0 ≤ k ∧ k ≤ 4 * (nT (gY M0) : Int)) ∧ μ = ((1000 - k) * 10).toNat)
  (fun p f M0 s k t u i m c M μ => M = M0 ∧ (∀ κ, kiY M0 κ → layY M0 (gY M0) κ → lpF (lab (gY M0) κ) (crs (gY M0) κ) (gY M0) f (k + 1).toNat = wlN s i 4) ∧ (0 ≤ s ∧ s < 16) ∧ (0 ≤ i ∧ i ≤ 3) ∧ m = moN s i c.toNat ∧ (0 ≤ k ∧ k < 4 * (nT (gY M0) : Int)) ∧ (0 ≤ c ∧ c ≤ 4) ∧ μ = ((1000 - k) * 10 - 1 - c).toNat)
  (by
    rintro p f M0 ⟨hp, h0, hG, κ0, hκ0, hl0⟩ hM rf
    exact ⟨_, rfl, rfl, rfl, fun _ _ _ => rfl, by omega, rfl⟩)
  (by
    rintro p f M0 ⟨hp, h0, hG, κ0, hκ0, hl0⟩ hM rf s k M n ⟨rfl, hI, hk, hμ⟩ -
    subst h0
    obtain ⟨n2, n9, n144⟩ := gY_n hG
    have hs : 0 ≤ s ∧ s < 16 := by rw [hI κ0 hκ0 hl0]; exact (lp_odd hG.1 k.toNat (by omega)).1
    have w0 : wlN s 0 4 = s := by have := wlN_0 s.toNat (by omega); rwa [Int.toNat_of_nonneg hs.1] at this
    rw [n2]
    refine ⟨hp, by omega, fun h => ⟨trivial, fun κ hκ hl => ?_, rfl⟩, fun h => ⟨⟨hk.1, by decide⟩, by decide, ⟨hp, rfl, hG, by omega, ?_⟩, ?_⟩⟩
    · rw [hI κ hκ hl, show k.toNat = nT (gY M) * 4 by omega]
    · rw [Int.tmod_eq_emod_of_nonneg hk.1]; omega
    rintro x2 M1 - - ⟨rfl, rfl⟩
    rw [Int.tmod_eq_emod_of_nonneg hk.1]
    obtain ⟨e, ek⟩ := nxk_i (g := gY M1) hk.1
    have ht : (k / 4).toNat < nT (gY M1) := by omega
    have hu := nx_b hG.1 (t := k / 4) (d := k % 4) (by omega) (by have := (nT_b hG.1).1; omega)
    have nE := (nT_b hG.1).1
    have k1 : (k + 1).toNat = k.toNat + 1 := by omega
    have same : (∀ κ, kiY M1 κ → layY M1 (gY M1) κ → lab (gY M1) κ (k / 4).toNat ≠ f ∨ lcl (lab (gY M1) κ) (crs (gY M1) κ) (gY M1) k.toNat = 0) → ∀ κ, kiY M1 κ → layY M1 (gY M1) κ → s = lpF (lab (gY M1) κ) (crs (gY M1) κ) (gY M1) f (k + 1).toNat := fun z κ hκ hl => by
      rw [k1, lpF_s rfl, ← hI κ hκ hl, ek]
      by_cases q : lab (gY M1) κ (k / 4).toNat = f
      · rw [if_pos q, (z κ hκ hl).resolve_left (fun y => y q), w0]
      · rw [if_neg q]
    have out : (∀ κ, kiY M1 κ → layY M1 (gY M1) κ → lab (gY M1) κ (k / 4).toNat ≠ f ∨ lcl (lab (gY M1) κ) (crs (gY M1) κ) (gY M1) k.toNat = 0) → inR (k + 1) ∧ ∃ μ : Nat, μ < n ∧ (0 : Nat) = 0 ∧ f = f ∧ (M1 = M1 ∧ (∀ κ, kiY M1 κ → layY M1 (gY M1) κ → s = lpF (lab (gY M1) κ) (crs (gY M1) κ) (gY M1) f (k + 1).toNat) ∧ (0 ≤ k + 1 ∧ k + 1 ≤ 4 * (nT (gY M1) : Int)) ∧ μ = ((1000 - (k + 1)) * 10).toNat) := fun z =>
      ⟨by omega, ((1000 - (k + 1)) * 10).toNat, by omega, rfl, rfl, rfl, same z, by omega, rfl⟩
    refine ⟨hp, rfl, by omega, fun h2 => out (fun κ hκ hl => Or.inl (by rw [← (hl _ ht).1]; exact h2)), fun h2 => ⟨fun h3 => out (fun κ hκ hl => Or.inr ?_), fun h3 => ⟨hp, rfl, by omega, fun h4 => out (fun κ hκ hl => Or.inr ?_), fun h4 => ⟨hp, rfl, by omega, hp, rfl, by omega, by decide, ⟨hp, rfl, hG, by omega, by omega⟩, ?_⟩⟩⟩⟩
    · unfold lcl
      rw [e, if_neg (fun z => by omega)]
    · have h2' := Classical.byContradiction h2
      rw [(hl _ ht).1] at h2'
      rw [(hl _ (by omega)).1] at h4
      unfold lcl
      rw [e, ek, if_neg (fun z => h4 (z.2.trans h2'))]
    · rintro x4 M3 - - ⟨rfl, rfl⟩
      have h2' := Classical.byContradiction h2
      have h4' := Classical.byContradiction h4
      have cc : ∀ κ, layY M3 (gY M3) κ → bXor (bXor (M3 6 (k / 4).toNat) (M3 6 (nx (gY M3) (k / 4) (k % 4)).toNat)) (sm (gY M3) (k / 4) (k % 4)) = lcl (lab (gY M3) κ) (crs (gY M3) κ) (gY M3) k.toNat ∧ 0 ≤ lcl (lab (gY M3) κ) (crs (gY M3) κ) (gY M3) k.toNat ∧ lcl (lab (gY M3) κ) (crs (gY M3) κ) (gY M3) k.toNat ≤ 3 := fun κ hl => by
        have hul : (nx (gY M3) (k / 4) (k % 4)).toNat < nT (gY M3) := by omega
        have c1 := (lab_facts (κ := κ) hG.1 ht).2.1
        have c2 := (lab_facts (κ := κ) hG.1 hul).2.1
        have c3 := sm_b (g := gY M3) (t := k / 4) (d := k % 4)
        have l1 := (hl _ ht).1
        have l2 := (hl _ hul).1
        have es : sm (gY M3) ((k.toNat / 4 : Nat) : Int) ((k.toNat % 4 : Nat) : Int) = sm (gY M3) (k / 4) (k % 4) := by rw [show ((k.toNat / 4 : Nat) : Int) = k / 4 by omega, show ((k.toNat % 4 : Nat) : Int) = k % 4 by omega]
        have el : lcl (lab (gY M3) κ) (crs (gY M3) κ) (gY M3) k.toNat = bXor (bXor (crs (gY M3) κ (k / 4).toNat) (sm (gY M3) (k / 4) (k % 4))) (crs (gY M3) κ (nx (gY M3) (k / 4) (k % 4)).toNat) := by
          unfold lcl
          rw [e, if_pos ⟨by omega, by rw [ek, ← l1, ← l2, h2', h4']⟩, es, ek]
        rw [el, (hl _ ht).2.1, (hl _ hul).2.1]
        refine ⟨?_, bX_b (bX3 c1 c3) c2⟩
        have := xor3 (crs (gY M3) κ (k / 4).toNat).toNat (by omega) (crs (gY M3) κ (nx (gY M3) (k / 4) (k % 4)).toNat).toNat (by omega) (sm (gY M3) (k / 4) (k % 4)).toNat (by omega)
        rw [Int.toNat_of_nonneg c1.1, Int.toNat_of_nonneg c2.1, Int.toNat_of_nonneg (by omega)] at this
        exact this
      obtain ⟨d1, d2⟩ := cc κ0 hl0
      refine ⟨((1000 - k) * 10 - 1 - 0).toNat, by omega, rfl, rfl, rfl, fun κ hκ hl => ?_, hs, by rw [d1]; exact d2, rfl, by omega, by omega, rfl⟩
      rw [k1, lpF_s rfl, ← hI κ hκ hl, ek, (hl _ ht).1.symm.trans h2', if_pos rfl, (cc κ hl).1])
  (by
    rintro p f M0 ⟨hp, h0, hG, κ0, hκ0, hl0⟩ hM rf s k t u i m c M n ⟨rfl, hI, hs, hi, hm, hk, hc, hμ⟩ -
    subst h0
    obtain ⟨n2, n9, n144⟩ := gY_n hG
    have ec : ((c.toNat : Nat) : Int) = c := by omega
    have c1 : (c + 1).toNat = c.toNat + 1 := by omega
    refine ⟨fun h => ⟨by omega, ((1000 - (k + 1)) * 10).toNat, by omega, rfl, rfl, rfl, fun κ hκ hl => ?_, by omega, rfl⟩, fun h => ⟨fun h2 => ⟨by omega, ((1000 - k) * 10 - 1 - (c + 1)).toNat, by omega, rfl, rfl, rfl, hI, hs, hi, ?_, hk, by omega, rfl⟩, fun h2 => ⟨by omega, ((1000 - k) * 10 - 1 - (c + 1)).toNat, by omega, rfl, rfl, rfl, hI, hs, hi, ?_, hk, by omega, rfl⟩⟩⟩
    · rw [hI κ hκ hl, hm, show c.toNat = 4 by omega]
      have := moN_w s.toNat (by omega) i.toNat (by omega)
      rwa [Int.toNat_of_nonneg hs.1, Int.toNat_of_nonneg hi.1] at this
    · rw [c1]
      unfold moN
      rw [ec, if_neg h2, hm]
    · rw [c1]
      unfold moN
      rw [ec, if_pos (Classical.byContradiction h2), hm])
theorem oddB_p : ∀ x y : Bool, ∀ c : Nat, c < 4 → (oddB x y c = true ↔ ¬ (((c = 1 ∨ c = 3) ∧ x = true) ↔ ((c = 2 ∨ c = 3) ∧ y = true))) := by decide +kernel
theorem and12 : ∀ c : Nat, c < 4 → (bAnd (c : Int) 1 = 1 ↔ (c = 1 ∨ c = 3)) ∧ (bAnd (c : Int) 2 = 2 ↔ (c = 2 ∨ c = 3)) := by decide +kernel
theorem ok_X9_besides (hA : jA ad 12) : OK_X9_besides l D cy ad := met_X9_besides hA (ok_X9_next hA)
  (fun p f M0 t M μ => (∀ j : Nat, (j : Int) < t → M 4 j = 0) ∧ (∀ b, b ≠ 4 → M b = M0 b) ∧ (0 ≤ t ∧ t ≤ nT (gY M0)) ∧ μ = (3000 - t).toNat)
  (fun p f M0 c k M μ => (∀ κ, kiY M0 κ → layY M0 (gY M0) κ → c = bsF (lab (gY M0) κ) (gY M0) f k.toNat 0 0 ∧ ∀ j : Nat, j < nT (gY M0) → M 4 j = bsF (lab (gY M0) κ) (gY M0) f k.toNat 1 j) ∧ (∀ b, b ≠ 4 → M b = M0 b) ∧ (0 ≤ k ∧ k ≤ 4 * (nT (gY M0) : Int)) ∧ μ = (1000 - k).toNat)
  (by
    rintro p f M0 ⟨hp, h0, hG, κ0, hκ0, hl0⟩ hM rf
    exact ⟨_, rfl, rfl, fun j hj => by omega, fun _ _ => rfl, by omega, rfl⟩)
  (by
    rintro p f M0 ⟨hp, h0, hG, κ0, hκ0, hl0⟩ hM rf t M n ⟨hI, hf, ht, hμ⟩ -
    subst h0
    obtain ⟨n2, n9, n144⟩ := gY_n hG
    rw [hf 0 (by decide), n2]
    refine ⟨hp, fun h => ⟨(1000 - 0 : Int).toNat, by omega, rfl, rfl, fun κ _ _ => ⟨rfl, fun j hj => hI j (by omega)⟩, hf, by omega, rfl⟩, fun h => ⟨hp, rfl, by omega, Or.inl rfl, by omega, (3000 - (t + 1)).toNat, by omega, rfl, rfl, fun j hj => ?_, fun b q => by rw [up_n q]; exact hf b q, by omega, rfl⟩⟩
    by_cases q : j = t.toNat
    · rw [q, up_sk]
    · rw [up_nk (Or.inr q)]; exact hI j (by omega))
  (by
    rintro p f M0 ⟨hp, h0, hG, κ0, hκ0, hl0⟩ hM rf c k M n ⟨hI, hf, hk, hμ⟩ -
    subst h0
    obtain ⟨n2, n9, n144⟩ := gY_n hG
    have e0 : M 0 = M0 0 := hf 0 (by decide)
    have e5 : M 5 = M0 5 := hf 5 (by decide)
    obtain ⟨hG1, eg⟩ := gY_congr hG e0
    have cb : 0 ≤ c ∧ c ≤ k.toNat := by
      rw [(hI κ0 hκ0 hl0).1]
      exact (bsF_01 k.toNat).2
    rw [e0, n2]
    refine ⟨hp, by omega, fun h => ⟨trivial, fun κ hκ hl => ?_, hf⟩, fun h => ⟨⟨hk.1, by decide⟩, by decide, ⟨hp, rfl, hG1, by rw [eg]; omega, ?_⟩, ?_⟩⟩
    · rw [(hI κ hκ hl).1, show k.toNat = nT (gY M0) * 4 by omega]
    · rw [Int.tmod_eq_emod_of_nonneg hk.1]; omega
    rintro x2 M1 - - ⟨rfl, rfl⟩
    rw [Int.tmod_eq_emod_of_nonneg hk.1, eg, e5]
    obtain ⟨e, ek⟩ := nxk_i (g := gY M0) hk.1
    have ht : (k / 4).toNat < nT (gY M0) := by omega
    have nE := (nT_b hG.1).1
    have hu := nx_b hG.1 (t := k / 4) (d := k % 4) (by omega) (by omega)
    have k1 : (k + 1).toNat = k.toNat + 1 := by omega
    have out : (∀ κ, kiY M0 κ → layY M0 (gY M0) κ → bsF (lab (gY M0) κ) (gY M0) f (k.toNat + 1) = bsF (lab (gY M0) κ) (gY M0) f k.toNat) → inR (k + 1) ∧ ∃ μ : Nat, μ < n ∧ (0 : Nat) = 0 ∧ f = f ∧ ((∀ κ, kiY M0 κ → layY M0 (gY M0) κ → c = bsF (lab (gY M0) κ) (gY M0) f (k + 1).toNat 0 0 ∧ ∀ j : Nat, j < nT (gY M0) → M1 4 j = bsF (lab (gY M0) κ) (gY M0) f (k + 1).toNat 1 j) ∧ (∀ b, b ≠ 4 → M1 b = M0 b) ∧ (0 ≤ k + 1 ∧ k + 1 ≤ 4 * (nT (gY M0) : Int)) ∧ μ = (1000 - (k + 1)).toNat) := fun z =>
      ⟨by omega, (1000 - (k + 1)).toNat, by omega, rfl, rfl, fun κ hκ hl => by rw [k1, z κ hκ hl]; exact hI κ hκ hl, hf, by omega, rfl⟩
    refine ⟨hp, ⟨hk.1, by decide⟩, rfl, by omega, fun h2 => out (fun κ hκ hl => ?_), fun h2 => ⟨fun h3 => out (fun κ hκ hl => ?_), fun h3 => ⟨hp, rfl, by omega, fun h4 => out (fun κ hκ hl => ?_), fun h4 => ?_⟩⟩⟩
    · rw [(hl _ ht).1] at h2
      rw [bsF_s rfl, ek, if_neg (fun z => h2 z.1)]
    · rw [bsF_s rfl, e, if_neg (fun z => by omega)]
    · rw [(hl _ (by omega)).1] at h4
      rw [bsF_s rfl, e, if_neg (fun z => z.2.2 h4)]
    have h2' := Classical.byContradiction h2
    have hul : (nx (gY M0) (k / 4) (k % 4)).toNat < nT (gY M0) := by omega
    have cond : ∀ κ, layY M0 (gY M0) κ → lab (gY M0) κ (k.toNat / 4) = f ∧ 0 ≤ nxk (gY M0) k.toNat ∧ lab (gY M0) κ (nxk (gY M0) k.toNat).toNat ≠ f := fun κ hl => ⟨by rw [ek, ← (hl _ ht).1]; exact h2', by rw [e]; omega, by rw [e, ← (hl _ hul).1]; exact h4⟩
    have lu : 0 ≤ M0 5 (nx (gY M0) (k / 4) (k % 4)).toNat ∧ M0 5 (nx (gY M0) (k / 4) (k % 4)).toNat < nT (gY M0) := by
      rw [(hl0 _ hul).1]; exact (lab_facts (κ := κ0) hG.1 hul).1
    refine ⟨hp, hp, rfl, by omega, rfl, by omega, fun h5 => out (fun κ hκ hl => ?_), fun h5 => ⟨hp, hp, rfl, by omega, rfl, by omega, Or.inr rfl, by omega, by omega, (1000 - (k + 1)).toNat, by omega, rfl, rfl, fun κ hκ hl => ?_, fun b q => by rw [up_n q]; exact hf b q, by omega, rfl⟩⟩
    · have hs := (hI κ hκ hl).2 (M0 5 (nx (gY M0) (k / 4) (k % 4)).toNat).toNat (by omega)
      rw [hs, (hl _ hul).1] at h5
      rw [bsF_s rfl, if_pos (cond κ hl), e, if_neg h5]
    · have h5' := Classical.byContradiction h5
      obtain ⟨r1, r2⟩ := hI κ hκ hl
      have hs := r2 (M0 5 (nx (gY M0) (k / 4) (k % 4)).toNat).toNat (by omega)
      rw [hs] at h5'
      have ll := (hl _ hul).1
      rw [k1, bsF_s rfl, if_pos (cond κ hl), e, ← ll, if_pos h5']
      refine ⟨?_, fun j hj => ?_⟩
      · rw [up_n (by decide), up_sk, r1]
      · rw [up_s, up_s, up_n (by decide)]
        by_cases q : j = (M0 5 (nx (gY M0) (k / 4) (k % 4)).toNat).toNat
        · rw [q, upR_s, upR_s]
        · rw [upR_n q, upR_n q]; exact r2 j hj)
end Y3
