/-! ===== the law's small methods: a number, the steps, the greatest part ===== -/
theorem bAnd_nn (v : Int) : 0 ≤ bAnd v 2147483647 := by
  unfold bAnd
  show 0 ≤ (I32 v &&& I32 2147483647).toBitVec.toInt
  rw [Int32.toBitVec_and]
  have : (I32 2147483647).toBitVec = 2147483647#32 := by decide
  rw [this, BitVec.toInt_eq_msb_cond, BitVec.msb_and]
  have h2 : (2147483647#32).msb = false := by decide
  rw [h2, Bool.and_false, if_neg (by decide)]
  exact Int.natCast_nonneg _
theorem lowF_b {v b : Int} (h : 0 < b) : 0 ≤ lowF v b ∧ lowF v b < b := by
  unfold lowF
  exact ⟨Int.tmod_nonneg _ (bAnd_nn v), Int.tmod_lt_of_pos _ h⟩
/-- what the map was it still is -/
abbrev TT (M0 M : Mem) : Prop := ∀ σ, absX M0 σ → absX M σ
theorem tt_call {M0 M M1 σ : Mem} {x : Int} {F : Mem → Int} (T : TT M0 M) (hσ : absX M0 σ) (hc : ∀ σ, absX M σ → x = F σ ∧ absX M1 σ) : x = F σ ∧ TT M0 M1 := ⟨(hc σ (T σ hσ)).1, fun τ hτ => (hc τ (T τ hτ)).2⟩
theorem absX_g {M σ τ : Mem} (h : absX M σ) (h2 : absX M τ) : gS σ = gS τ := h.1.2.1.1.symm.trans h2.1.2.1.1
theorem nT_s {σ : Mem} (h : okS σ) : ((nT (gS σ) : Nat) : Int) = gS σ 0 * gS σ 1 ∧ 9 ≤ nT (gS σ) ∧ nT (gS σ) ≤ 144 := nT_b h.1
theorem nxk_td {g : Nat → Int} {t d : Int} (h0 : 0 ≤ t) (d0 : 0 ≤ d) (d4 : d < 4) : nxk g (t * 4 + d).toNat = nx g t d := by
  show nx g (((t * 4 + d).toNat / 4 : Nat) : Int) (((t * 4 + d).toNat % 4 : Nat) : Int) = _
  congr 1 <;> omega
theorem rev_t {d : Int} (d0 : 0 ≤ d) (d4 : d < 4) : Int.tmod (d + 2) 4 = rev d := by
  rcases (by omega : d = 0 ∨ d = 1 ∨ d = 2 ∨ d = 3) with rfl | rfl | rfl | rfl <;> decide
theorem F_nb {σ : Mem} {t d : Int} (h : hasS σ t) (d0 : 0 ≤ d) (d4 : d < 4) : F_neighbour σ t d = nx (gS σ) t d := by
  unfold F_neighbour
  rw [if_pos h, if_pos ⟨d0, d4⟩]
abbrev opF (g : Nat → Int) (k : Nat) : Int := if nxk g k = -5 then 0 else 1
theorem opF_b (g : Nat → Int) (n : Nat) : 0 ≤ sumF (opF g) n ∧ sumF (opF g) n ≤ n := sumF_b (fun j _ => by unfold opF; split <;> omega)
theorem F_op {σ : Mem} {t : Nat} {w : Int} (ht : t < nT (gS σ)) (hl : labS σ t = t) (w0 : 0 ≤ w) (w7 : w ≤ 7) : F_ofPart σ t w = propF (gS σ) (σ 1) t w := by
  unfold F_ofPart
  rw [if_pos ⟨⟨by omega, by omega⟩, by rw [Int.toNat_natCast]; exact hl⟩, if_pos ⟨w0, w7⟩]
theorem F_op0 {σ : Mem} {t : Nat} (ht : t < nT (gS σ)) (hl : labS σ t = t) : F_ofPart σ t 0 = σ 1 t := by
  rw [F_op ht hl (by decide) (by decide)]
  unfold propF
  rw [if_pos rfl, Int.toNat_natCast]
theorem F_op1 {σ : Mem} {t : Nat} (ht : t < nT (gS σ)) (hl : labS σ t = t) : F_ofPart σ t 1 = cntL (labS σ) t (nT (gS σ)) := by
  rw [F_op ht hl (by decide) (by decide)]
  rfl
theorem F_pt {σ : Mem} {k : Int} (h : 0 ≤ k) : F_part σ k = kthF (labS σ) k (nT (gS σ)) := if_neg (by omega)
abbrev grP (σ : Mem) (k : Int) : Nat → Bool := fun t => decide (labS σ t = t ∧ σ 1 t = k)
abbrev grS (σ : Mem) : Nat → Int := fun t => cntL (labS σ) t (nT (gS σ))
theorem gr_s {P : Nat → Bool} {S : Nat → Int} (n : Nat) : grF P S (n + 1) = if P n = true ∧ (grF P S n = -5 ∨ S (grF P S n).toNat < S n) then (n : Int) else grF P S n := rfl
theorem cntS_n (L : Nat → Int) (n : Nat) : 0 ≤ cntS L n ∧ cntS L n ≤ n := sumF_b (fun j _ => if01 _)
section L1
variable {l : Launch} {D : va_G} {cy : Nat → ClassId} {ad : Nat → Nat}
theorem ok_L_low (hA : jA ad 46) : OK_L_low l D cy ad := met_L_low hA (by
  intro v b M0 h hM rv rb
  exact ⟨h, trivial, rfl, rfl⟩)
theorem ok_L_steps (hA : jA ad 46) : OK_L_steps l D cy ad := met_L_steps hA (ok_X8_neighbour hA) (ok_X8_value hA)
  (fun p M0 a c t M μ => TT M0 M ∧ ∃ σ, absX M0 σ ∧ a = nT (gS σ) ∧ c = sumF (opF (gS σ)) (t * 4).toNat ∧ (0 ≤ t ∧ t ≤ a) ∧ μ = ((200 - t) * 10).toNat)
  (fun p M0 a c t d M μ => TT M0 M ∧ ∃ σ, absX M0 σ ∧ a = nT (gS σ) ∧ c = sumF (opF (gS σ)) (t * 4 + d).toNat ∧ (0 ≤ t ∧ t < a) ∧ (0 ≤ d ∧ d ≤ 4) ∧ μ = ((200 - t) * 10 - d - 1).toNat)
  (by
    rintro p M0 ⟨rfl, σ, hσ⟩ hM
    have hn := nT_s hσ.1.1
    refine ⟨⟨rfl, rfl, σ, hσ⟩, fun x1 M1 _ _ hc => ?_⟩
    obtain ⟨e1, T⟩ := tt_call (fun _ h => h) hσ hc
    refine ⟨⟨rfl, rfl, σ, T σ hσ⟩, fun x2 M2 _ _ hc => ?_⟩
    obtain ⟨e2, T⟩ := tt_call T hσ hc
    have e3 : x1 * x2 = nT (gS σ) := by rw [e1, e2]; exact hn.1.symm
    rw [e3]
    exact ⟨⟨by omega, by omega⟩, _, rfl, T, σ, hσ, rfl, rfl, by omega, rfl⟩)
  (by
    rintro p M0 ⟨rfl, -⟩ hM a c t M n ⟨T, σ, hσ, rfl, rfl, ht, hμ⟩ -
    have hn := nT_s hσ.1.1
    refine ⟨fun h => ⟨⟨rfl, rfl, σ, T σ hσ⟩, fun x1 M1 _ _ hc => ?_⟩, fun h => ⟨_, by omega, rfl, T, σ, hσ, rfl, by rw [Int.add_zero], by omega, by omega, rfl⟩⟩
    obtain ⟨e1, T⟩ := tt_call T hσ hc
    refine ⟨fun z => absurd ?_ z, fun _ => ⟨Or.inr rfl, rfl, T⟩⟩
    rw [e1, show (t * 4).toNat = nT (gS σ) * 4 by omega]
    rfl)
  (by
    rintro p M0 ⟨rfl, -⟩ hM a c t d M n ⟨T, σ, hσ, rfl, rfl, ht, hd, hμ⟩ -
    have hn := nT_s hσ.1.1
    have G : gOK (gS σ) := hσ.1.1.1
    have hb := opF_b (gS σ) (t * 4 + d).toNat
    refine ⟨fun h => ⟨⟨by omega, by omega⟩, _, by omega, rfl, T, σ, hσ, rfl, by rw [show t * 4 + d = (t + 1) * 4 by omega], by omega, rfl⟩, fun h => ⟨⟨rfl, rfl, σ, T σ hσ⟩, fun x1 M1 _ _ hc => ?_⟩⟩
    obtain ⟨e1, T⟩ := tt_call T hσ hc
    rw [F_nb ⟨ht.1, by omega⟩ hd.1 (by omega)] at e1
    have hs : sumF (opF (gS σ)) (t * 4 + (d + 1)).toNat = sumF (opF (gS σ)) (t * 4 + d).toNat + (if x1 = -5 then 0 else 1) := by
      rw [sumF_s (show (t * 4 + (d + 1)).toNat = (t * 4 + d).toNat + 1 by omega)]
      unfold opF
      rw [nxk_td ht.1 hd.1 (by omega), e1]
    have hx := nx_b G (t := t) (d := d) ht.1 (by omega)
    rw [← e1] at hx
    refine ⟨fun h1 => ⟨⟨by omega, by omega⟩, fun h2 => ⟨fun h3 => ⟨⟨by omega, by omega⟩, _, by omega, rfl, T, σ, hσ, rfl, by rw [hs, if_pos h3], ht, by omega, rfl⟩, fun h3 => absurd (by omega) h3⟩, fun h2 => absurd h1 h2⟩, fun h1 => ⟨⟨by omega, by omega⟩, fun h2 => absurd h2 h1, fun h2 => ⟨fun h3 => absurd h3 (by omega), fun h3 => ⟨⟨by omega, by omega⟩, by decide, ⟨rfl, rfl, σ, T σ hσ⟩, fun x2 M2 _ _ hc => ?_⟩⟩⟩⟩
    obtain ⟨e2, T⟩ := tt_call T hσ hc
    have hx1 := hx.resolve_left (by omega)
    obtain ⟨i1, -⟩ := nx_inv G ht.1 (by omega) (d := d) ⟨hd.1, by omega⟩ (by omega)
    obtain ⟨r0, r1, -⟩ := rev_b (d := d) ⟨hd.1, by omega⟩
    rw [rev_t hd.1 (by omega), F_nb ⟨hx1.1, by omega⟩ r0 r1, e1, i1] at e2
    exact ⟨fun _ => ⟨⟨by omega, by omega⟩, _, by omega, rfl, T, σ, hσ, rfl, by rw [hs, if_neg (by omega)], ht, by omega, rfl⟩, fun z => absurd e2 z⟩)
theorem ok_L_greatest (hA : jA ad 46) : OK_L_greatest l D cy ad := met_L_greatest hA (ok_X8_greatestPart hA) (ok_X8_ofPart hA) (ok_X8_part hA) (ok_X8_value hA)
  (fun p k M0 b j M μ => TT M0 M ∧ ∃ σ, absX M0 σ ∧ ∃ lim : Nat, lim ≤ nT (gS σ) ∧ cntS (labS σ) lim = j ∧ b = grF (grP σ k) (grS σ) lim ∧ μ = (200 - j).toNat)
  (by
    rintro p k M0 ⟨rfl, hk, σ, hσ⟩ hM rk
    exact ⟨_, rfl, rfl, fun _ h => h, σ, hσ, 0, by omega, rfl, rfl, rfl⟩)
  (by
    rintro p k M0 ⟨rfl, hk, -⟩ hM rk b j M n ⟨T, σ, hσ, lim, hlim, hj, rfl, hμ⟩ -
    have hn := nT_s hσ.1.1
    have hcl := cntS_n (labS σ) lim
    have hgb := grF_b (P := grP σ k) (S := grS σ) lim
    refine ⟨⟨rfl, rfl, σ, T σ hσ⟩, fun x1 M1 _ _ hc => ?_⟩
    obtain ⟨e1, T⟩ := tt_call T hσ hc
    have e1 : x1 = cntS (labS σ) (nT (gS σ)) := e1
    refine ⟨fun h => ⟨⟨rfl, rfl, σ, T σ hσ⟩, fun x2 M2 _ _ hc => ?_⟩, fun h => ⟨⟨rfl, rfl, σ, T σ hσ⟩, fun x2 M2 _ _ hc => ?_⟩⟩
    · obtain ⟨e2, T⟩ := tt_call T hσ hc
      refine ⟨fun z => absurd ?_ z, fun _ => ⟨Or.inr rfl, rfl, T⟩⟩
      have e3 : cntS (labS σ) (nT (gS σ)) = cntS (labS σ) lim := by
        have := cntS_mono (L := labS σ) hlim
        omega
      have hno := cntS_none hlim e3
      rw [e2, show F_greatestPart σ k = grF (grP σ k) (grS σ) (nT (gS σ)) from if_pos hk]
      exact grF_none hlim (fun j h1 h2 => decide_eq_false (fun z => hno j h1 h2 z.1))
    · obtain ⟨e2, T⟩ := tt_call T hσ hc
      obtain ⟨t, t1, t2, t3, t4, t5, t6⟩ := kth_next (L := labS σ) (k := j) (n := nT (gS σ)) (by omega) hj
      rw [F_pt (by omega), t2] at e2
      subst e2
      have hno := cntS_none t4 t5
      have ht : grF (grP σ k) (grS σ) t = grF (grP σ k) (grS σ) lim := grF_none t4 (fun j h1 h2 => decide_eq_false (fun z => hno j h1 h2 z.1))
      have hgs := gr_s (P := grP σ k) (S := grS σ) t
      rw [ht] at hgs
      refine ⟨⟨rfl, rfl, σ, T σ hσ⟩, fun x3 M3 _ _ hc => ?_⟩
      obtain ⟨e3, T⟩ := tt_call T hσ hc
      rw [F_op0 t1 t3] at e3
      have ct := cntS_n (labS σ) (nT (gS σ))
      refine ⟨fun h3 => ⟨⟨by omega, by omega⟩, _, by omega, rfl, rfl, T, σ, hσ, t + 1, by omega, t6, ?_, rfl⟩, fun h3 => ⟨fun h4 => ⟨⟨by omega, by omega⟩, _, by omega, rfl, rfl, T, σ, hσ, t + 1, by omega, t6, ?_, rfl⟩, fun h4 => ⟨⟨rfl, rfl, σ, T σ hσ⟩, fun x4 M4 _ _ hc => ?_⟩⟩⟩
      · rw [hgs, if_neg (fun z => h3 (by rw [e3]; exact (of_decide_eq_true z.1).2))]
      · rw [hgs, if_pos ⟨decide_eq_true ⟨t3, by rw [← e3]; exact Classical.byContradiction h3⟩, Or.inl (hgb.resolve_right (by omega))⟩]
      · obtain ⟨e4, T⟩ := tt_call T hσ hc
        rw [F_op1 t1 t3] at e4
        refine ⟨⟨rfl, rfl, σ, T σ hσ⟩, fun x5 M5 _ _ hc => ?_⟩
        obtain ⟨e5, T⟩ := tt_call T hσ hc
        have hb := hgb.resolve_left (by omega)
        have hbl := (of_decide_eq_true hb.2.2).1
        have hcast : (((grF (grP σ k) (grS σ) lim).toNat : Nat) : Int) = grF (grP σ k) (grS σ) lim := by omega
        have e6 := F_op1 (σ := σ) (t := (grF (grP σ k) (grS σ) lim).toNat) (by omega) hbl
        rw [hcast] at e6
        rw [e6] at e5
        have e7 : x5 = grS σ (grF (grP σ k) (grS σ) lim).toNat := by
          rw [e5]
          show _ = cntL (labS σ) (((grF (grP σ k) (grS σ) lim).toNat : Nat) : Int) (nT (gS σ))
          rw [hcast]
        have e8 : x4 = grS σ t := e4
        refine ⟨fun h5 => ⟨⟨by omega, by omega⟩, _, by omega, rfl, rfl, T, σ, hσ, t + 1, by omega, t6, ?_, rfl⟩, fun h5 => ⟨⟨by omega, by omega⟩, _, by omega, rfl, rfl, T, σ, hσ, t + 1, by omega, t6, ?_, rfl⟩⟩
        · rw [hgs, if_neg (fun z => by rcases z.2 with y | y <;> omega)]
        · rw [hgs, if_pos ⟨decide_eq_true ⟨t3, by rw [← e3]; exact Classical.byContradiction h3⟩, Or.inr (by omega)⟩])
end L1
