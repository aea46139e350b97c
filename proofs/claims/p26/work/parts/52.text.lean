/-! ===== the class's text ===== -/
theorem ff_at {bad : Nat → Bool} {t : Nat} (h : ffF bad t = -1) (h1 : bad t = true) : ∀ j : Nat, ffF bad (t + 1 + j) = t := by
  intro j
  induction j with
  | zero =>
    show (if ffF bad t = -1 then (if bad t = true then (t : Int) else -1) else ffF bad t) = t
    rw [if_pos h, if_pos h1]
  | succ j ih =>
    show (if ffF bad (t + 1 + j) = -1 then (if bad (t + 1 + j) = true then ((t + 1 + j : Nat) : Int) else -1) else ffF bad (t + 1 + j)) = t
    rw [ih, if_neg (by omega)]
theorem ff_ok {bad : Nat → Bool} {t : Nat} (h : ffF bad t = -1) (h1 : bad t = false) : ffF bad (t + 1) = -1 := by
  show (if ffF bad t = -1 then (if bad t = true then (t : Int) else -1) else ffF bad t) = -1
  rw [if_pos h, h1]; rfl
theorem badT_i {a b : Int} {T : Nat → Int} {k : Int} (h : 0 ≤ k) : badT a b T k.toNat = decide (¬ (k < b * (a + 1) - 1 ∧ (if k % (a + 1) = a then T k.toNat = 47 else 48 ≤ T k.toNat ∧ T k.toNat ≤ 53))) := by
  unfold badT
  rw [Int.toNat_of_nonneg h]
theorem ft_bad {a b n k : Int} {T : Nat → Int} (h : ffF (badT a b T) k.toNat = -1) (h1 : badT a b T k.toNat = true) (h0 : 0 ≤ k) (hk : k < n) : ftF a b T n = k := by
  have e := ff_at h h1 (n - k - 1).toNat
  rw [show k.toNat + 1 + (n - k - 1).toNat = n.toNat by omega] at e
  unfold ftF
  rw [e, if_neg (by omega)]
  omega
theorem md_s {k a : Int} (ha : 0 < a) (h0 : 0 ≤ k) : (k + 1) % (a + 1) = if k % (a + 1) = a then 0 else k % (a + 1) + 1 := by
  have e : (k + 1) % (a + 1) = (k % (a + 1) + 1) % (a + 1) := by rw [Int.emod_add_emod]
  have b1 := Int.emod_nonneg k (b := a + 1) (by omega)
  have b2 := Int.emod_lt_of_pos k (b := a + 1) (by omega)
  rw [e]
  split
  next h => rw [h, Int.emod_self]
  next h => exact Int.emod_eq_of_lt (by omega) (by omega)
section TX
variable {l : Launch} {D : va_G} {cy : Nat → ClassId} {ad : Nat → Nat}
theorem ok_X4_length (hA : jA ad 46) : OK_X4_length l D cy ad := met_X4_length hA (by
  rintro p M0 ⟨hp, h12⟩ hM
  subst h12
  exact ⟨hp, trivial, rfl, rfl⟩)
theorem ok_X4_at (hA : jA ad 46) : OK_X4_at l D cy ad := met_X4_at hA (by
  rintro p k M0 ⟨hp, h12, hk, hc⟩ hM rk
  subst h12
  exact ⟨hp, rfl, hk, hc, rfl, rfl⟩)
theorem ok_X4_append (hA : jA ad 46) : OK_X4_append l D cy ad := met_X4_append hA (by
  rintro p c M0 ⟨hp, h12, hl, hc⟩ hM rc
  subst h12
  refine ⟨hp, fun h => ⟨hp, hp, rfl, ⟨hl.1, h⟩, hc, hp, ?_, hp, hp, trivial, ?_⟩, fun h => ⟨trivial, ?_⟩⟩
  · rw [up_n (by decide)]; omega
  · unfold c_X4_append
    rw [if_neg (by omega), up_sk, up_n (by decide)]
    exact ⟨rfl, rfl⟩
  · unfold c_X4_append
    rw [if_pos (by omega)]
    exact ⟨rfl, rfl⟩)
theorem ok_X4_empty (hA : jA ad 46) : OK_X4_empty l D cy ad := met_X4_empty hA (by
  rintro p M0 ⟨hp, h12⟩ hM
  subst h12
  exact ⟨hp, hp, trivial, rfl, rfl⟩)
theorem ok_X4_isFitting (hA : jA ad 46) : OK_X4_isFitting l D cy ad := met_X4_isFitting hA (by
  rintro c b M0 - hM rc rb
  refine ⟨fun h => ⟨fun h2 => ⟨Or.inl rfl, (if_neg ?_).symm, rfl⟩, fun h2 => ⟨fun h3 => ⟨Or.inl rfl, (if_neg ?_).symm, rfl⟩, fun h3 => ⟨Or.inr rfl, (if_pos ?_).symm, rfl⟩⟩⟩, fun h => ⟨fun h2 => ⟨Or.inl rfl, (if_neg ?_).symm, rfl⟩, fun h2 => ⟨Or.inr rfl, (if_pos ?_).symm, rfl⟩⟩⟩
  · rw [if_pos h]; omega
  · rw [if_pos h]; omega
  · rw [if_pos h]; omega
  · rw [if_neg h]; exact h2
  · rw [if_neg h]; exact Classical.byContradiction h2)
theorem ok_X4_faultAsTiles (hA : jA ad 46) : OK_X4_faultAsTiles l D cy ad := met_X4_faultAsTiles hA (ok_X4_isFitting hA)
  (fun p a b M0 u c k M μ => M = M0 ∧ u = b * (a + 1) - 1 ∧ c = k % (a + 1) ∧ ffF (badT a b (M0 13)) k.toNat = -1 ∧ (0 ≤ k ∧ k ≤ M0 12 1) ∧ μ = (500 - k).toNat)
  (by
    rintro p a b M0 ⟨hp, h12, hl, ha, hb⟩ hM ra rb
    have := mul_b (a := b) (b := a + 1) (A := 12) (B := 13) (by omega) (by omega) (by omega) (by omega)
    exact ⟨by omega, by omega, by omega, _, rfl, rfl, rfl, rfl, rfl, (Int.zero_emod _).symm, rfl, by omega, rfl⟩)
  (by
    rintro p a b M0 ⟨hp, h12, hl, ha, hb⟩ hM ra rb u c k M n ⟨rfl, rfl, rfl, hI, hk, hμ⟩ -
    subst h12
    have hmul := mul_b (a := b) (b := a + 1) (A := 12) (B := 13) (by omega) (by omega) (by omega) (by omega)
    have b1 := Int.emod_nonneg k (b := a + 1) (by omega)
    have b2 := Int.emod_lt_of_pos k (b := a + 1) (by omega)
    have hs := md_s (k := k) (a := a) (by omega) hk.1
    have ok : badT a b (M 13) k.toNat = false → ffF (badT a b (M 13)) (k + 1).toNat = -1 := fun z => by
      rw [show (k + 1).toNat = k.toNat + 1 by omega]
      exact ff_ok hI z
    refine ⟨hp, fun h => ⟨hp, fun h2 => ⟨trivial, ?_, rfl⟩, fun h2 => ⟨hp, trivial, ?_, rfl⟩⟩, fun h => ⟨fun h2 => ⟨trivial, ?_, rfl⟩, fun h2 => ⟨hp, rfl, by omega, fun h3 => ⟨trivial, ?_⟩, fun h3 => ⟨trivial, ?_⟩⟩⟩⟩
    · unfold ftF
      rw [show (M 12 1).toNat = k.toNat by omega, if_pos hI, if_neg (by omega)]
    · unfold ftF
      rw [show (M 12 1).toNat = k.toNat by omega, if_pos hI, if_pos (by omega)]
    · refine (ft_bad hI ?_ hk.1 (by omega)).symm
      rw [badT_i hk.1]
      exact decide_eq_true (fun z => by have := z.1; omega)
    · rintro x2 M1 - - ⟨hx, rfl⟩
      have hbad : badT a b (M1 13) k.toNat = decide (¬ (48 ≤ M1 13 k.toNat ∧ M1 13 k.toNat ≤ 53)) := by
        rw [badT_i hk.1]
        exact decide_eq_decide.mpr (by rw [if_neg h3]; exact ⟨fun z y => z ⟨by omega, y⟩, fun z y => z y.2⟩)
      by_cases q : 48 ≤ M1 13 k.toNat ∧ M1 13 k.toNat ≤ 53
      · have hx1 : x2 = 1 := by rw [hx]; exact if_pos (by rw [if_pos rfl]; exact q)
        have hgo := ok (by rw [hbad]; exact decide_eq_false (fun z => z q))
        refine ⟨fun _ => ⟨fun _ => ⟨by omega, by omega, (500 - (k + 1)).toNat, by omega, rfl, rfl, rfl, rfl, rfl, by rw [hs, if_neg h3], hgo, by omega, rfl⟩, fun y => absurd h3 y⟩, fun y => absurd (by omega) y⟩
      · have hx1 : x2 = 0 := by rw [hx]; exact if_neg (by rw [if_pos rfl]; exact q)
        refine ⟨fun y => absurd hx1 y, fun _ => ⟨trivial, ?_, rfl⟩⟩
        exact (ft_bad hI (by rw [hbad]; exact decide_eq_true q) hk.1 (by omega)).symm
    · rintro x4 M3 - - ⟨hx, rfl⟩
      have h3' := Classical.byContradiction h3
      have hbad : badT a b (M3 13) k.toNat = decide (¬ (M3 13 k.toNat = 47)) := by
        rw [badT_i hk.1]
        exact decide_eq_decide.mpr (by rw [if_pos h3']; exact ⟨fun z y => z ⟨by omega, y⟩, fun z y => z y.2⟩)
      by_cases q : M3 13 k.toNat = 47
      · have hx1 : x4 = 1 := by rw [hx]; exact if_pos (by rw [if_neg (by decide)]; exact q)
        have hgo := ok (by rw [hbad]; exact decide_eq_false (fun z => z q))
        refine ⟨fun _ => ⟨fun y => absurd h3' y, fun _ => ⟨by omega, (500 - (k + 1)).toNat, by omega, rfl, rfl, rfl, rfl, rfl, by rw [hs, if_pos h3'], hgo, by omega, rfl⟩⟩, fun y => absurd (by omega) y⟩
      · have hx1 : x4 = 0 := by rw [hx]; exact if_neg (by rw [if_neg (by decide)]; exact q)
        refine ⟨fun y => absurd hx1 y, fun _ => ⟨trivial, ?_, rfl⟩⟩
        exact (ft_bad hI (by rw [hbad]; exact decide_eq_true q) hk.1 (by omega)).symm)
theorem ok_X4_kindAt (hA : jA ad 46) : OK_X4_kindAt l D cy ad := met_X4_kindAt hA (by
  rintro p c r a M0 ⟨hp, h12, hc, hr, ha, hi, h0⟩ hM rc rr ra
  subst h12
  have hmul := mul_b (a := r) (b := a + 1) (A := 12) (B := 13) (by omega) (by omega) (by omega) (by omega)
  have hv := hM 13 (r * (a + 1) + c).toNat
  exact ⟨hp, by omega, by omega, by omega, rfl, by omega, by omega, trivial, rfl, rfl⟩)
theorem ok_X4_faultAsWalk (hA : jA ad 46) : OK_X4_faultAsWalk l D cy ad := met_X4_faultAsWalk hA
  (fun p M0 k M μ => M = M0 ∧ ffF (badW (M0 13)) k.toNat = -1 ∧ (0 ≤ k ∧ k ≤ M0 12 1) ∧ μ = (500 - k).toNat)
  (by
    rintro p M0 ⟨hp, h12, hl⟩ hM
    exact ⟨_, rfl, rfl, rfl, by omega, rfl⟩)
  (by
    rintro p M0 ⟨hp, h12, hl⟩ hM k M n ⟨rfl, hI, hk, hμ⟩ -
    subst h12
    have ok : (M 13 k.toNat = 102 ∨ M 13 k.toNat = 114 ∨ M 13 k.toNat = 108) → ffF (badW (M 13)) (k + 1).toNat = -1 := fun z => by
      rw [show (k + 1).toNat = k.toNat + 1 by omega]
      exact ff_ok hI (decide_eq_false (by omega))
    refine ⟨hp, fun h => ⟨trivial, ?_, rfl⟩, fun h => ⟨hp, rfl, by omega, fun h2 => ⟨by omega, (500 - (k + 1)).toNat, by omega, rfl, rfl, ok (Or.inl h2), by omega, rfl⟩, fun h2 => ⟨fun h3 => ⟨by omega, (500 - (k + 1)).toNat, by omega, rfl, rfl, ok (Or.inr (Or.inl h3)), by omega, rfl⟩, fun h3 => ⟨fun h4 => ⟨by omega, (500 - (k + 1)).toNat, by omega, rfl, rfl, ok (Or.inr (Or.inr h4)), by omega, rfl⟩, fun h4 => ⟨trivial, ?_, rfl⟩⟩⟩⟩⟩
    · rw [show (M 12 1).toNat = k.toNat by omega]; exact hI.symm
    · have e := ff_at hI (decide_eq_true ⟨h2, h3, h4⟩) (M 12 1 - k - 1).toNat
      rw [show k.toNat + 1 + (M 12 1 - k - 1).toNat = (M 12 1).toNat by omega] at e
      rw [e]; omega)
end TX
