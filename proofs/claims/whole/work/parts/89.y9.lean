/-! ===== the model's members: type, part ===== -/
section Y9
variable {l : Launch} {D : va_G} {cy : Nat → ClassId} {ad : Nat → Nat}
theorem ok_X9_type (hA : jA ad 12) : OK_X9_type l D cy ad := met_X9_type hA (by
  rintro p c M0 ⟨hp, h0, ⟨σ0, h⟩, hc⟩ hM rc
  subst h0
  have h6 := h.2.2.2.2.1
  have hlen := h.1.2.2.2.1
  refine ⟨hp, fun z => ⟨hp, hp, rfl, by omega, hc, hp, ?_, hp, hp, trivial, fun σ hσ => ?_⟩, fun z => ⟨trivial, fun σ hσ => ?_⟩⟩
  · rw [up_n (by decide)]; omega
  · obtain ⟨⟨o1, o2, o3, o4, o5, o6, o7⟩, ⟨h2, h3⟩, h4, h5, e6, h7⟩ := id hσ
    rw [up_n (show (0 : Nat) ≠ 3 by decide), up_sk]
    unfold F_type G_type
    rw [if_neg (by omega), if_neg (by omega)]
    have eg : gS (up (up σ 3 (σ 0 6).toNat c) 0 6 (σ 0 6 + 1)) = gS σ := gS_cg (fun i hi => by rw [up_nk (Or.inr (by omega)), up_n (by decide)])
    have e1 : up (up σ 3 (σ 0 6).toNat c) 0 6 (σ 0 6 + 1) 1 = σ 1 := by rw [up_n (by decide), up_n (by decide)]
    have e2 : up (up σ 3 (σ 0 6).toNat c) 0 6 (σ 0 6 + 1) 2 = σ 2 := by rw [up_n (by decide), up_n (by decide)]
    have e3 : up (up σ 3 (σ 0 6).toNat c) 0 6 (σ 0 6 + 1) 3 = upR (σ 3) (σ 0 6).toNat c := by rw [up_n (by decide), up_s]
    have e4 : up (up σ 3 (σ 0 6).toNat c) 0 6 (σ 0 6 + 1) 4 = σ 4 := by rw [up_n (by decide), up_n (by decide)]
    have e06 : up (up σ 3 (σ 0 6).toNat c) 0 6 (σ 0 6 + 1) 0 6 = σ 0 6 + 1 := up_sk
    have e07 : up (up σ 3 (σ 0 6).toNat c) 0 6 (σ 0 6 + 1) 0 7 = σ 0 7 := by rw [up_nk (Or.inr (by decide)), up_n (by decide)]
    have eM : ∀ r, r ≠ 0 → r ≠ 3 → up (up M0 3 (M0 0 9).toNat c) 0 9 (M0 0 9 + 1) r = M0 r := fun r hr hr3 => by rw [up_n hr, up_n hr3]
    have ek : ∀ k, k ≠ 9 → up (up M0 3 (M0 0 9).toNat c) 0 9 (M0 0 9 + 1) 0 k = M0 0 k := fun k hk => by rw [up_nk (Or.inr hk), up_n (by decide)]
    have egY : gY (up (up M0 3 (M0 0 9).toNat c) 0 9 (M0 0 9 + 1)) = gY M0 := by
      funext i; unfold gY
      rw [ek 0 (by decide), ek 1 (by decide), ek 5 (by decide), ek 6 (by decide), ek 7 (by decide), ek 8 (by decide)]
    refine ⟨by rw [e6.1], ⟨by rw [eg]; exact o1, by rw [e1]; exact o2, by rw [e2]; exact o3, by rw [e06]; omega, ?_, by rw [e07]; exact o6, by rw [e07, e4]; exact o7⟩, ⟨by rw [egY, eg]; exact h2, by rw [ek 0 (by decide), ek 1 (by decide), ek 2 (by decide)]; exact h3⟩, by rw [e1]; unfold kiY; rw [eM 1 (by decide) (by decide)]; exact h4, by rw [e2, eM 2 (by decide) (by decide)]; exact h5, ?_, by rw [e07, e4, ek 16 (by decide), eM 9 (by decide) (by decide)]; exact h7⟩
    · rw [e06, e3]
      intro j hj
      by_cases q2 : j = (σ 0 6).toNat
      · rw [q2, upR_s]; exact hc
      · rw [upR_n q2]; exact o5 j (by omega)
    · rw [e06, e3, up_sk, e6.1]
      refine ⟨rfl, fun j hj => ?_⟩
      rw [up_n (by decide), up_s]
      by_cases q2 : j = (σ 0 6).toNat
      · rw [q2, upR_s, upR_s]
      · rw [upR_n q2, upR_n q2]; exact e6.2 j (by omega)
  · have := hσ.2.2.2.2.1.1
    unfold F_type G_type
    rw [if_pos (by omega), if_pos (by omega)]
    exact ⟨rfl, hσ⟩)
end Y9
