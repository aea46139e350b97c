/-! ===== the class's kept maps ===== -/
theorem plc_b {o a : Int} (h0 : 0 ≤ o ∧ o < 12) (h1 : 0 ≤ a ∧ a < 12) : 0 ≤ plc o a ∧ plc o a < 12 := by unfold plc; split <;> omega
theorem plc_i {o a b : Int} (h0 : 0 ≤ o ∧ o < 12) (h1 : 0 ≤ a ∧ a < 12) (h2 : 0 ≤ b ∧ b < 12) (h : plc o a = plc o b) : a = b := by
  unfold plc at h
  split at h <;> split at h <;> omega
theorem plc_s {o a : Int} (h0 : 0 ≤ o ∧ o < 12) (h1 : 0 ≤ a ∧ a < 11) : plc (plc o 1) a = plc o (a + 1) := by
  unfold plc
  split <;> split <;> split <;> omega
theorem kd_row {c : Int} (h : 0 ≤ c ∧ c < 12) : kdX (17 + 1 + c.toNat) = 21 ∧ lnX (17 + 1 + c.toNat) = 144 := by
  have := (by decide : ∀ n, n < 12 → kdX (17 + 1 + n) = 21 ∧ lnX (17 + 1 + n) = 144) c.toNat (by omega)
  exact this
section HI
variable {l : Launch} {D : va_G} {cy : Nat → ClassId} {ad : Nat → Nat}
theorem ok_X0_size (hA : jA ad 46) : OK_X0_size l D cy ad := met_X0_size hA (by
  rintro p M0 ⟨hp, h16⟩ hM
  subst h16
  exact ⟨hp, trivial, rfl, rfl⟩)
theorem ok_X0_forget (hA : jA ad 46) : OK_X0_forget l D cy ad := met_X0_forget hA (by
  rintro p M0 ⟨hp, h16⟩ hM
  subst h16
  exact ⟨hp, hp, rfl, rfl⟩)
theorem ok_X0_place (hA : jA ad 46) : OK_X0_place l D cy ad := met_X0_place hA (by
  rintro p a M0 ⟨hp, h16, ho, ha⟩ hM ra
  subst h16
  refine ⟨hp, by omega, fun h => ⟨by omega, trivial, ?_, rfl⟩, fun h => ⟨trivial, ?_, rfl⟩⟩
  · unfold plc; rw [if_neg (by omega)]
  · unfold plc; rw [if_pos (by omega)])
/-- a map laid at the end of the ring -/
theorem HR_add {M : Mem} {H K : Nat → Int} {n : Int} (h : HR M H n) (hn : n < 12) : HR (up (upA M (18 + (plc (M 16 1) n).toNat) (cpF K (M (18 + (plc (M 16 1) n).toNat)) 0 0 144)) 16 2 (n + 1)) (fun i => if (i : Int) < 144 * n then H i else K (i - (144 * n).toNat)) (n + 1) := by
  obtain ⟨h1, h2, h3, h4⟩ := h
  have pb := plc_b h3 (a := n) ⟨h2.1, hn⟩
  have e16 : up (upA M (18 + (plc (M 16 1) n).toNat) (cpF K (M (18 + (plc (M 16 1) n).toNat)) 0 0 144)) 16 2 (n + 1) 16 1 = M 16 1 := by
    rw [up_nk (Or.inr (by decide)), upA_n (by omega)]
  refine ⟨up_sk, by omega, by rw [e16]; exact h3, fun j t hj ht => ?_⟩
  rw [e16]
  by_cases q : (j : Int) = n
  · rw [q, up_n (by omega), upA_s]
    unfold cpF
    rw [if_pos (by omega)]
    show _ = if ((144 * j + t : Nat) : Int) < 144 * n then H (144 * j + t) else K (144 * j + t - (144 * n).toNat)
    rw [if_neg (by omega), show 144 * j + t - (144 * n).toNat = 0 + (t - 0) by omega]
  · have jb := plc_b h3 (a := (j : Int)) (by omega)
    have ne : plc (M 16 1) j ≠ plc (M 16 1) n := fun z => q (plc_i h3 (by omega) ⟨h2.1, hn⟩ z)
    rw [up_n (by omega), upA_n (by omega)]
    show _ = if ((144 * j + t : Nat) : Int) < 144 * n then H (144 * j + t) else K (144 * j + t - (144 * n).toNat)
    rw [if_pos (by omega)]
    exact h4 j t (by omega) ht
theorem HR_congr {M M' : Mem} {H H' : Nat → Int} {n : Int} (h : HR M H n) (e : ∀ b, b = 16 ∨ (18 ≤ b ∧ b ≤ 29) → M' b = M b) (eH : ∀ i : Nat, (i : Int) < 144 * n → H' i = H i) : HR M' H' n := by
  obtain ⟨h1, h2, h3, h4⟩ := h
  have e16 := e 16 (Or.inl rfl)
  refine ⟨by rw [e16]; exact h1, h2, by rw [e16]; exact h3, fun j t hj ht => ?_⟩
  have jb := plc_b h3 (a := (j : Int)) (by omega)
  rw [e16, e _ (Or.inr (by omega)), eH _ (by omega)]
  exact h4 j t hj ht
theorem ok_X0_record (hA : jA ad 46) : OK_X0_record l D cy ad := met_X0_record hA (ok_X0_place hA) (by
  rintro p q M0 ⟨hp, h16, h6, H0, n0, hH0⟩ hM
  subst h16 h6
  obtain ⟨g1, g2, g3, g4⟩ := id hH0
  refine ⟨hp, fun h => ⟨hp, hp, ⟨hp, rfl, g3, by omega⟩, ?_⟩, fun h => ⟨⟨hp, rfl, g3, by omega⟩, ?_⟩⟩
  · rintro x2 M1 - - ⟨rfl, rfl⟩
    have pb := plc_b g3 (a := M1 16 2) (by omega)
    have kr := kd_row pb
    refine ⟨rfl, pb, ⟨⟨rfl, kr.1⟩, by omega, by decide, by rw [kr.2]; decide⟩, ?_⟩
    rintro x4 M3 - - hc
    have hc' : M3 = upA M1 (18 + (plc (M1 16 1) (M1 16 2)).toNat) (cpF (M1 6) (M1 (18 + (plc (M1 16 1) (M1 16 2)).toNat)) 0 0 144) := hc
    have e162 : M3 16 2 = M1 16 2 := by rw [hc', upA_n (by omega)]
    refine ⟨hp, by omega, hp, rfl, fun H n hH => ?_, fun b b1 b2 => by rw [up_n b1, hc', upA_n (by omega)]⟩
    have hn : M1 16 2 = n := hH.1
    have ha := HR_add (K := M1 6) hH (by have := hH.2.1; omega)
    rw [if_neg (by omega), e162, hc', hn]
    exact HR_congr ha (fun _ _ => rfl) (fun i hi => by unfold kpH; rw [if_neg (by omega)])
  · rintro x6 M5 - - ⟨rfl, rfl⟩
    have h12 : M5 16 2 = 12 := Classical.byContradiction h
    have p1 := plc_b g3 (a := 1) (by omega)
    have e1 : up (up M5 16 1 (plc (M5 16 1) 1)) 16 2 (up M5 16 1 (plc (M5 16 1) 1) 16 2 - 1) 16 2 = 11 := by
      rw [up_sk, up_nk (Or.inr (by decide)), h12]; rfl
    have e2 : up (up M5 16 1 (plc (M5 16 1) 1)) 16 2 (up M5 16 1 (plc (M5 16 1) 1) 16 2 - 1) 16 1 = plc (M5 16 1) 1 := by
      rw [up_nk (Or.inr (by decide)), up_sk]
    refine ⟨hp, hp, ?_, hp, hp, hp, ⟨hp, rfl, by rw [e2]; exact p1, by rw [e1]; decide⟩, ?_⟩
    · rw [up_nk (Or.inr (by decide))]; omega
    have e3 : ∀ b, b ≠ 16 → up (up M5 16 1 (plc (M5 16 1) 1)) 16 2 (up M5 16 1 (plc (M5 16 1) 1) 16 2 - 1) b = M5 b := fun b q => by rw [up_n q, up_n q]
    generalize up (up M5 16 1 (plc (M5 16 1) 1)) 16 2 (up M5 16 1 (plc (M5 16 1) 1) 16 2 - 1) = M6 at e1 e2 e3 ⊢
    rintro x8 M7 - - ⟨rfl, rfl⟩
    have g3' : 0 ≤ M7 16 1 ∧ M7 16 1 < 12 := by rw [e2]; exact p1
    have pb := plc_b g3' (a := M7 16 2) (by omega)
    have kr := kd_row pb
    refine ⟨rfl, pb, ⟨⟨rfl, kr.1⟩, by omega, by decide, by rw [kr.2]; decide⟩, ?_⟩
    rintro x10 M9 - - hc
    have hc' : M9 = upA M7 (18 + (plc (M7 16 1) (M7 16 2)).toNat) (cpF (M7 6) (M7 (18 + (plc (M7 16 1) (M7 16 2)).toNat)) 0 0 144) := hc
    have e162 : M9 16 2 = M7 16 2 := by rw [hc', upA_n (by omega)]
    refine ⟨hp, by omega, hp, rfl, fun H n hH => ?_, fun b b1 b2 => by rw [up_n b1, hc', upA_n (by omega)]; exact e3 b b1⟩
    obtain ⟨k1, k2, k3, k4⟩ := hH
    have hn : n = 12 := by omega
    have h11 : HR M7 (fun i => H (i + 144)) 11 := by
      refine ⟨e1, by decide, g3', fun j t hj ht => ?_⟩
      have jb := plc_b g3' (a := (j : Int)) (by omega)
      rw [e3 _ (by omega), e2, plc_s g3 (by omega)]
      have := k4 (j + 1) t (by omega) ht
      rw [show (((j + 1 : Nat)) : Int) = (j : Int) + 1 by omega] at this
      rw [this, show 144 * (j + 1) + t = 144 * j + t + 144 by omega]
    have ha := HR_add (K := M7 6) h11 (by decide)
    rw [if_pos hn, e162, hc', e1]
    refine HR_congr ha (fun _ _ => rfl) (fun i hi => ?_)
    show kpH H n (M5 6) i = _
    unfold kpH
    rw [if_pos hn, e3 6 (by decide)]
    by_cases q : i < 1584
    · rw [if_pos q, if_pos (by omega)]
    · rw [if_neg q, if_neg (by omega)]; rfl)
theorem ok_X0_restore (hA : jA ad 46) : OK_X0_restore l D cy ad := met_X0_restore hA (ok_X0_place hA) (by
  rintro p q M0 ⟨hp, h16, h6, H0, n0, hH0, hn0⟩ hM
  subst h16 h6
  obtain ⟨g1, g2, g3, g4⟩ := id hH0
  refine ⟨hp, fun h => by omega, fun h => ⟨hp, by omega, hp, hp, hp, ?_⟩⟩
  have e1 : up M0 16 2 (M0 16 2 - 1) 16 2 = M0 16 2 - 1 := up_sk
  have e2 : up M0 16 2 (M0 16 2 - 1) 16 1 = M0 16 1 := up_nk (Or.inr (by decide))
  have e3 : ∀ b, b ≠ 16 → up M0 16 2 (M0 16 2 - 1) b = M0 b := fun b q => up_n q
  generalize up M0 16 2 (M0 16 2 - 1) = M1 at e1 e2 e3 ⊢
  refine ⟨⟨hp, rfl, by rw [e2]; exact g3, by omega⟩, ?_⟩
  rintro x2 M2 - - ⟨rfl, rfl⟩
  have pb := plc_b (o := M2 16 1) (by rw [e2]; exact g3) (a := M2 16 2) (by omega)
  have kr := kd_row pb
  refine ⟨rfl, pb, ⟨⟨kr.1, rfl⟩, by omega, by rw [kr.2]; decide, by decide⟩, ?_⟩
  rintro x4 M3 - - hc
  have hc' : M3 = upA M2 6 (cpF (M2 (18 + (plc (M2 16 1) (M2 16 2)).toNat)) (M2 6) 0 0 144) := hc
  refine ⟨rfl, fun H n hH => ⟨?_, fun t ht => ?_⟩, fun b b1 b2 => by rw [hc', upA_n b2]; exact e3 b b1⟩
  · obtain ⟨k1, k2, k3, k4⟩ := hH
    have h2 : HR M2 H (n - 1) := by
      refine ⟨by omega, by omega, by rw [e2]; exact k3, fun j t hj ht => ?_⟩
      have jb := plc_b k3 (a := (j : Int)) (by omega)
      rw [e2, e3 _ (by omega)]
      exact k4 j t (by omega) ht
    exact HR_congr h2 (fun b hb => by rw [hc', upA_n (by omega)]) (fun _ _ => rfl)
  · obtain ⟨k1, k2, k3, k4⟩ := hH
    rw [hc', upA_s]
    unfold cpF
    rw [if_pos (by omega), e3 _ (by omega), e1, e2, k1]
    have := k4 (n - 1).toNat t (by omega) ht
    rw [show (((n - 1).toNat : Nat) : Int) = n - 1 by omega] at this
    rw [show 0 + (t - 0) = t by omega, this]
    congr 1
    omega)
end HI
