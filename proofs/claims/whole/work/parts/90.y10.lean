/-! ===== the model's members: part, reset ===== -/
section Y10
variable {l : Launch} {D : va_G} {cy : Nat → ClassId} {ad : Nat → Nat}
theorem ok_X9_part (hA : jA ad 12) : OK_X9_part l D cy ad := met_X9_part hA (ok_X9_layLabels hA)
  (fun p k M0 c t M μ => 0 ≤ k ∧ (∀ κ, kiY M0 κ → layY M (gY M0) κ ∧ c = cntS (lab (gY M0) κ) t.toNat ∧ kthF (lab (gY M0) κ) k t.toNat = -5) ∧ (∀ b, b ≠ 5 → b ≠ 6 → b ≠ 7 → b ≠ 8 → M b = M0 b) ∧ (0 ≤ t ∧ t ≤ nT (gY M0)) ∧ μ = (500 - t).toNat)
  (by
    rintro p k M0 ⟨hp, h0, σ0, h⟩ hM rk
    subst h0
    obtain ⟨hG, hw⟩ := absY_s h
    refine ⟨fun z => ⟨⟨hp, rfl, hG⟩, ?_⟩, fun z => ⟨trivial, fun σ hσ => ⟨?_, hσ⟩⟩⟩
    · rintro x2 M1 - - hc
      exact ⟨_, rfl, rfl, z, fun κ hκ => ⟨(hc κ hκ).1, rfl, rfl⟩, (hc _ (fun _ _ => rfl)).2, by omega, rfl⟩
    · unfold F_part
      rw [if_pos (by omega)])
  (by
    rintro p k M0 ⟨hp, h0, σ0, h⟩ hM rk c t M n ⟨hk, hI, hf, ht, hμ⟩ -
    subst h0
    obtain ⟨hG, hw⟩ := absY_s h
    obtain ⟨n2, n9, n144⟩ := gY_n hG
    have e0 : M 0 = M0 0 := hf 0 (by decide) (by decide) (by decide) (by decide)
    have cb : 0 ≤ c ∧ c ≤ t.toNat := by
      rw [(hI _ (fun _ _ => rfl)).2.1]
      exact sumF_b (fun j _ => if01 _)
    rw [e0, n2]
    have hX : ∀ σ, absY M0 σ → absY M σ := fun σ hσ => absY_congr hσ (fun b hb => hf b (by omega) (by omega) (by omega) (by omega))
    have t1 : (t + 1).toNat = t.toNat + 1 := by omega
    have et : ((t.toNat : Nat) : Int) = t := by omega
    refine ⟨hp, fun h1 => ⟨trivial, fun σ hσ => ⟨?_, hX σ hσ⟩⟩, fun h1 => ⟨hp, rfl, by omega, fun h2 => ⟨by omega, (500 - (t + 1)).toNat, by omega, rfl, rfl, hk, fun κ hκ => ?_, hf, by omega, rfl⟩, fun h2 => ⟨fun h3 => ⟨by omega, by omega, (500 - (t + 1)).toNat, by omega, rfl, rfl, hk, fun κ hκ => ?_, hf, by omega, rfl⟩, fun h3 => ⟨trivial, fun σ hσ => ⟨?_, hX σ hσ⟩⟩⟩⟩⟩
    · obtain ⟨c1, c2, c3⟩ := hI _ hσ.2.2.1
      unfold F_part
      rw [if_neg (by omega), ← hσ.2.1.1]
      show (-5 : Int) = kthF (lab (gS σ) (σ 1)) k (nT (gY M0))
      rw [← hσ.2.1.1, ← c3, show t.toNat = nT (gY M0) by omega]
    · obtain ⟨c1, c2, c3⟩ := hI κ hκ
      rw [(c1 t.toNat (by omega)).1] at h2
      refine ⟨c1, ?_, ?_⟩
      · rw [t1, c2]
        show _ = sumF _ t.toNat + (if lab (gY M0) κ t.toNat = ((t.toNat : Nat) : Int) then (1 : Int) else 0)
        rw [et, if_neg h2]; exact (Int.add_zero _).symm
      · rw [t1]
        unfold kthF
        rw [if_pos c3, et, if_neg (fun z => h2 z.1)]
    · obtain ⟨c1, c2, c3⟩ := hI κ hκ
      have h2' := Classical.byContradiction h2
      rw [(c1 t.toNat (by omega)).1] at h2'
      refine ⟨c1, ?_, ?_⟩
      · rw [t1, c2]
        show _ = sumF _ t.toNat + (if lab (gY M0) κ t.toNat = ((t.toNat : Nat) : Int) then (1 : Int) else 0)
        rw [et, if_pos h2']
      · rw [t1]
        unfold kthF
        rw [if_pos c3, if_neg (fun z => h3 (by rw [c2]; exact z.2))]
    · obtain ⟨c1, c2, c3⟩ := hI _ hσ.2.2.1
      have h2' := Classical.byContradiction h2
      rw [(c1 t.toNat (by omega)).1] at h2'
      have := kth_at c3 (by rw [et]; exact h2') (by rw [← c2]; exact Classical.byContradiction h3) (nT (gY M0) - t.toNat - 1)
      rw [show t.toNat + 1 + (nT (gY M0) - t.toNat - 1) = nT (gY M0) by omega, et] at this
      unfold F_part
      rw [if_neg (by omega)]
      show t = kthF (lab (gS σ) (σ 1)) k (nT (gS σ))
      rw [← hσ.2.1.1, this])
end Y10
