/-! ===== the law's parts ===== -/
theorem sumR_b {L w : Nat → Int} {n : Nat} (h : ∀ f, f < n → 0 ≤ w f ∧ w f ≤ 576) : 0 ≤ sumR L w n ∧ sumR L w n ≤ 576 * (n : Int) := by
  induction n with
  | zero => exact ⟨Int.le_refl _, Int.le_refl _⟩
  | succ n ih =>
    have h1 := ih (fun f hf => h f (by omega))
    have h2 := h n (by omega)
    have e : sumR L w (n + 1) = sumR L w n + (if L n = (n : Int) then w n else 0) := rfl
    rw [e]
    split <;> omega
/-- the sums over the parts that begin below lim -/
def PA (σ : Mem) (a m s o u : Int) (lim : Nat) : Prop := a = nT (gS σ) ∧ m = cntS (labS σ) (nT (gS σ)) ∧ s = sumR (labS σ) (fun f => cntL (labS σ) f (nT (gS σ))) lim ∧ o = sumR (labS σ) (fun f => sumF (qO (labS σ) (gS σ) f) (nT (gS σ) * 4)) lim ∧ u = sumR (labS σ) (fun f => sumF (qN (labS σ) (gS σ) f) (nT (gS σ) * 4)) lim
def PB (σ : Mem) (a m s o u z k f y v c : Int) : Prop := ∃ t : Nat, t < nT (gS σ) ∧ labS σ t = t ∧ f = t ∧ z = t ∧ cntS (labS σ) (t + 1) = k + 1 ∧ PA σ a m s o u (t + 1) ∧ y = lpN (gS σ) (σ 1) t (nT (gS σ) * 4) ∧ v = (bif flB (decide (gS σ 2 = 2)) (decide (gS σ 4 = 2)) y then 1 else 0) ∧ c = 1 ∧ (0 ≤ k ∧ k ≤ 144)
theorem cntL_b (L : Nat → Int) (f : Int) (n : Nat) : 0 ≤ cntL L f n ∧ cntL L f n ≤ n := sumF_b (fun j _ => if01 _)
theorem qO_b {L g : Nat → Int} {f : Int} (n : Nat) : 0 ≤ sumF (qO L g f) n ∧ sumF (qO L g f) n ≤ n := sumF_b (fun j _ => if01 _)
theorem qN_b {L g : Nat → Int} {f : Int} (n : Nat) : 0 ≤ sumF (qN L g f) n ∧ sumF (qN L g f) n ≤ n := sumF_b (fun j _ => if01 _)
theorem qK_b {g κ : Nat → Int} (n : Nat) : 0 ≤ sumF (qK g κ) n ∧ sumF (qK g κ) n ≤ n := sumF_b (fun j _ => if01 _)
abbrev qZ (g : Nat → Int) (k : Nat) : Int := if nxk g k < 0 then 1 else 0
theorem qZ_b {g : Nat → Int} (n : Nat) : 0 ≤ sumF (qZ g) n ∧ sumF (qZ g) n ≤ n := sumF_b (fun j _ => if01 _)
theorem F_lb {σ : Mem} {t : Int} (h : hasS σ t) : F_label σ t = labS σ t.toNat := if_pos h
theorem F_kd {σ : Mem} {t : Int} (h : hasS σ t) : F_kind σ t = σ 1 t.toNat := if_pos h
theorem PA_in {σ : Mem} {a m s o u : Int} {lim : Nat} (hσ : okS σ) (hl : lim ≤ nT (gS σ)) (h : PA σ a m s o u lim) : (0 ≤ s ∧ s ≤ 82944) ∧ (0 ≤ o ∧ o ≤ 82944) ∧ 0 ≤ u ∧ u ≤ 82944 := by
  obtain ⟨-, -, h1, h2, h3⟩ := h
  have hn := nT_b hσ.1
  have b1 := sumR_b (L := labS σ) (w := fun f => cntL (labS σ) f (nT (gS σ))) (n := lim) (fun f _ => by
    have := cntL_b (labS σ) (f : Int) (nT (gS σ))
    omega)
  have b2 := sumR_b (L := labS σ) (w := fun f => sumF (qO (labS σ) (gS σ) f) (nT (gS σ) * 4)) (n := lim) (fun f _ => by
    have := qO_b (L := labS σ) (g := gS σ) (f := (f : Int)) (nT (gS σ) * 4)
    omega)
  have b3 := sumR_b (L := labS σ) (w := fun f => sumF (qN (labS σ) (gS σ) f) (nT (gS σ) * 4)) (n := lim) (fun f _ => by
    have := qN_b (L := labS σ) (g := gS σ) (f := (f : Int)) (nT (gS σ) * 4)
    omega)
  omega
theorem flB_2 {x y : Bool} {s : Int} (h : 0 < bAnd s 2) (hx : x = true) : flB x y s = true := by
  unfold flB
  simp [h, hx]
theorem flB_4 {x y : Bool} {s : Int} (h : 0 < bAnd s 4) (hy : y = true) : flB x y s = true := by
  unfold flB
  simp [h, hy]
theorem flB_r {x y : Bool} {s : Int} (h2 : ¬ 0 < bAnd s 2 ∨ x = false) (h4 : ¬ 0 < bAnd s 4 ∨ y = false) : flB x y s = (decide (0 < bAnd s 8) && (x != y)) := by
  unfold flB
  have e2 : (decide (0 < bAnd s 2) && x) = false := by
    rcases h2 with h | h
    · rw [decide_eq_false h]; rfl
    · rw [h, Bool.and_false]
  have e4 : (decide (0 < bAnd s 4) && y) = false := by
    rcases h4 with h | h
    · rw [decide_eq_false h]; rfl
    · rw [h, Bool.and_false]
  rw [e2, e4, Bool.false_or, Bool.false_or]
section L2
variable {l : Launch} {D : va_G} {cy : Nat → ClassId} {ad : Nat → Nat}
set_option maxHeartbeats 2000000 in
theorem ok_L_parts (hA : jA ad 46) : OK_L_parts l D cy ad := met_L_parts hA (ok_X8_kind hA) (ok_X8_label hA) (ok_X8_neighbour hA) (ok_X8_ofPart hA) (ok_X8_part hA) (ok_X8_value hA)
  (fun p M0 a m s o u z k M μ => TT M0 M ∧ ∃ σ, absX M0 σ ∧ ∃ lim : Nat, lim ≤ nT (gS σ) ∧ cntS (labS σ) lim = k ∧ z < lim ∧ PA σ a m s o u lim ∧ μ = ((200 - k) * 10 + 2000).toNat)
  (fun p M0 a m s o u z k f y v c M μ => TT M0 M ∧ ∃ σ, absX M0 σ ∧ PB σ a m s o u z k f y v c ∧ μ = ((200 - k) * 10 + 1999).toNat)
  (fun p M0 a m s o u z k f y v c M μ => TT M0 M ∧ ∃ σ, absX M0 σ ∧ PB σ a m s o u z k f y v c ∧ (¬ 0 < bAnd y 2 ∨ gS σ 2 ≠ 2) ∧ μ = ((200 - k) * 10 + 1998).toNat)
  (fun p M0 a m s o u z k f y v c M μ => TT M0 M ∧ ∃ σ, absX M0 σ ∧ PB σ a m s o u z k f y v c ∧ (¬ 0 < bAnd y 2 ∨ gS σ 2 ≠ 2) ∧ (¬ 0 < bAnd y 4 ∨ gS σ 4 ≠ 2) ∧ μ = ((200 - k) * 10 + 1997).toNat)
  (fun p M0 a m s o u z k f y v c d M μ => TT M0 M ∧ ∃ σ, absX M0 σ ∧ PB σ a m s o u z k f y v c ∧ d = (bif flB (decide (gS σ 2 = 2)) (decide (gS σ 4 = 2)) y then 1 else 0) ∧ μ = ((200 - k) * 10 + 1996).toNat)
  (fun p M0 a m s o u z k f y v c d M μ => TT M0 M ∧ ∃ σ, absX M0 σ ∧ PB σ a m s o u z k f y v c ∧ d = (bif flB (decide (gS σ 2 = 2)) (decide (gS σ 4 = 2)) y then 1 else 0) ∧ μ = ((200 - k) * 10 + 1995).toNat)
  (fun p M0 a m s o u z k f y v c d e M μ => TT M0 M ∧ ∃ σ, absX M0 σ ∧ PB σ a m s o u z k f y v c ∧ d = (bif flB (decide (gS σ 2 = 2)) (decide (gS σ 4 = 2)) y then 1 else 0) ∧ e = 1 ∧ μ = ((200 - k) * 10 + 1994).toNat)
  (fun p M0 a m s o u r i t M μ => TT M0 M ∧ ∃ σ, absX M0 σ ∧ PA σ a m s o u (nT (gS σ)) ∧ r = sumF (qK (gS σ) (σ 1)) (t * 4).toNat ∧ i = sumF (qZ (gS σ)) (t * 4).toNat ∧ (0 ≤ t ∧ t ≤ a) ∧ μ = ((200 - t) * 10).toNat)
  (fun p M0 a m s o u r i t q d M μ => TT M0 M ∧ ∃ σ, absX M0 σ ∧ PA σ a m s o u (nT (gS σ)) ∧ r = sumF (qK (gS σ) (σ 1)) (t * 4 + d).toNat ∧ i = sumF (qZ (gS σ)) (t * 4 + d).toNat ∧ (0 ≤ t ∧ t < a) ∧ (0 ≤ d ∧ d ≤ 4) ∧ q = labS σ t.toNat ∧ μ = ((200 - t) * 10 - 2 * d - 1).toNat)
  (fun p M0 a m s o u r i t q d y M μ => TT M0 M ∧ ∃ σ, absX M0 σ ∧ PA σ a m s o u (nT (gS σ)) ∧ r = sumF (qK (gS σ) (σ 1)) (t * 4 + (d + 1)).toNat ∧ i = sumF (qZ (gS σ)) (t * 4 + (d + 1)).toNat ∧ (0 ≤ t ∧ t < a) ∧ (0 ≤ d ∧ d < 4) ∧ q = labS σ t.toNat ∧ y = nx (gS σ) t d ∧ μ = ((200 - t) * 10 - 2 * d - 2).toNat)
  (by
    rintro p M0 ⟨rfl, σ, hσ⟩ hM
    have hn := nT_s hσ.1.1
    refine ⟨⟨rfl, rfl, σ, hσ⟩, fun x1 M1 _ _ hc => ?_⟩
    obtain ⟨e1, T⟩ := tt_call (fun _ h => h) hσ hc
    refine ⟨⟨rfl, rfl, σ, T σ hσ⟩, fun x2 M2 _ _ hc => ?_⟩
    obtain ⟨e2, T⟩ := tt_call T hσ hc
    have e3 : x1 * x2 = nT (gS σ) := by rw [e1, e2]; exact hn.1.symm
    rw [e3]
    refine ⟨⟨by omega, by omega⟩, ⟨rfl, rfl, σ, T σ hσ⟩, fun x3 M3 _ _ hc => ?_⟩
    obtain ⟨e3, T⟩ := tt_call T hσ hc
    exact ⟨_, rfl, T, σ, hσ, 0, by omega, rfl, by decide, ⟨rfl, e3, rfl, rfl, rfl⟩, rfl⟩)
  (by
    rintro p M0 ⟨rfl, -⟩ hM a m s o u z k M n ⟨T, σ, hσ, lim, hlim, hk, hz, hPA, hμ⟩ -
    have hn := nT_s hσ.1.1
    have hcl := cntS_n (labS σ) lim
    obtain ⟨rfl, rfl, hs, ho, hu⟩ := id hPA
    have hin := PA_in hσ.1.1 hlim hPA
    refine ⟨fun h => ?_, fun h => ⟨⟨rfl, rfl, σ, T σ hσ⟩, fun x1 M1 _ _ hc => ?_⟩⟩
    · have e3 : cntS (labS σ) (nT (gS σ)) = cntS (labS σ) lim := by
        have := cntS_mono (L := labS σ) hlim
        omega
      exact ⟨_, by omega, rfl, T, σ, hσ, ⟨rfl, rfl, by rw [hs, sumR_none hlim e3], by rw [ho, sumR_none hlim e3], by rw [hu, sumR_none hlim e3]⟩, rfl, rfl, by omega, rfl⟩
    · obtain ⟨e1, T⟩ := tt_call T hσ hc
      obtain ⟨t, t1, t2, t3, t4, t5, t6⟩ := kth_next (L := labS σ) (k := k) (n := nT (gS σ)) (by omega) hk
      rw [F_pt (by omega), t2] at e1
      subst e1
      have ht : hasS σ (t : Int) := ⟨by omega, by omega⟩
      have ct := cntS_n (labS σ) (nT (gS σ))
      refine ⟨fun z => absurd z (by omega), fun _ => ⟨⟨rfl, rfl, σ, T σ hσ⟩, fun x2 M2 _ _ hc => ?_⟩⟩
      obtain ⟨e2, T⟩ := tt_call T hσ hc
      rw [F_lb ht, Int.toNat_natCast, t3] at e2
      refine ⟨fun z => absurd e2 z, fun _ => ⟨⟨rfl, rfl, σ, T σ hσ⟩, fun x3 M3 _ _ hc => ?_⟩⟩
      obtain ⟨e3, T⟩ := tt_call T hσ hc
      rw [F_kd ht, Int.toNat_natCast] at e3
      refine ⟨⟨rfl, rfl, σ, T σ hσ⟩, fun x4 M4 _ _ hc => ?_⟩
      obtain ⟨e4, T⟩ := tt_call T hσ hc
      rw [F_op0 t1 t3] at e4
      refine ⟨fun _ => ⟨⟨rfl, rfl, σ, T σ hσ⟩, fun x5 M5 _ _ hc => ?_⟩, fun z => absurd (e3.trans e4.symm) z⟩
      obtain ⟨e5, T⟩ := tt_call T hσ hc
      rw [F_op1 t1 t3] at e5
      have b5 := cntL_b (labS σ) (t : Int) (nT (gS σ))
      have b5 : 0 ≤ x5 ∧ x5 ≤ 144 := by rw [e5]; exact ⟨b5.1, by omega⟩
      refine ⟨⟨by omega, by omega⟩, ⟨rfl, rfl, σ, T σ hσ⟩, fun x6 M6 _ _ hc => ?_⟩
      obtain ⟨e6, T⟩ := tt_call T hσ hc
      rw [F_op t1 t3 (by decide) (by decide)] at e6
      have e6 : x6 = sumF (qO (labS σ) (gS σ) t) (nT (gS σ) * 4) := e6
      have b6 := qO_b (L := labS σ) (g := gS σ) (f := (t : Int)) (nT (gS σ) * 4)
      refine ⟨⟨by omega, by omega⟩, ⟨rfl, rfl, σ, T σ hσ⟩, fun x7 M7 _ _ hc => ?_⟩
      obtain ⟨e7, T⟩ := tt_call T hσ hc
      rw [F_op t1 t3 (by decide) (by decide)] at e7
      have e7 : x7 = sumF (qN (labS σ) (gS σ) t) (nT (gS σ) * 4) := e7
      have b7 := qN_b (L := labS σ) (g := gS σ) (f := (t : Int)) (nT (gS σ) * 4)
      refine ⟨⟨by omega, by omega⟩, ⟨rfl, rfl, σ, T σ hσ⟩, fun x8 M8 _ _ hc => ?_⟩
      obtain ⟨e8, T⟩ := tt_call T hσ hc
      rw [F_op t1 t3 (by decide) (by decide)] at e8
      have e8 : x8 = lpN (gS σ) (σ 1) t (nT (gS σ) * 4) := e8
      refine ⟨⟨rfl, rfl, σ, T σ hσ⟩, fun x9 M9 _ _ hc => ?_⟩
      obtain ⟨e9, T⟩ := tt_call T hσ hc
      rw [F_op t1 t3 (by decide) (by decide)] at e9
      obtain ⟨q1, q2, -, -⟩ := lp_inv (κ := σ 1) hσ.1.1.1 (f := (t : Int)) (nT (gS σ) * 4) (Nat.le_refl _)
      have e9 : x9 = (bif flB (decide (gS σ 2 = 2)) (decide (gS σ 4 = 2)) x8 then 1 else 0) := by
        rw [e8, q2]
        exact e9
      have hPB : PB σ (nT (gS σ)) (cntS (labS σ) (nT (gS σ))) (s + x5) (o + x6) (u + x7) t k t x8 x9 1 :=
        ⟨t, t1, t3, rfl, rfl, t6, ⟨rfl, rfl, by rw [sumR_s t3, sumR_none t4 t5, ← hs, e5], by rw [sumR_s t3, sumR_none t4 t5, ← ho, e6], by rw [sumR_s t3, sumR_none t4 t5, ← hu, e7]⟩, e8, e9, rfl, by omega⟩
      have done : ∃ μ : Nat, μ < n ∧ (0 : Nat) = 0 ∧ TT M0 M9 ∧ ∃ σ', absX M0 σ' ∧ PB σ' (nT (gS σ)) (cntS (labS σ) (nT (gS σ))) (s + x5) (o + x6) (u + x7) t k t x8 x9 1 ∧ μ = ((200 - k) * 10 + 1999).toNat :=
        ⟨_, by omega, rfl, T, σ, hσ, hPB, rfl⟩
      rw [← e8] at q1
      exact ⟨fun _ => done, fun z1 => ⟨fun _ => done, fun z2 => ⟨fun _ => done, fun z3 => ⟨fun _ => done, fun z4 => ⟨fun z5 => by rcases q1 with y | y | y | y | y <;> contradiction, fun _ => done⟩⟩⟩⟩⟩)
  (by
    rintro p M0 ⟨rfl, -⟩ hM a m s o u z k f y v c M n ⟨T, σ, hσ, hPB, hμ⟩ -
    obtain ⟨t, t1, t3, -, -, -, -, -, -, -, hk⟩ := id hPB
    refine ⟨fun h => ⟨_, by omega, rfl, T, σ, hσ, hPB, Or.inl (by omega), rfl⟩, fun h => ⟨⟨rfl, rfl, σ, T σ hσ⟩, fun x1 M1 _ _ hc => ?_⟩⟩
    obtain ⟨e1, T⟩ := tt_call T hσ hc
    have e1 : x1 = gS σ 2 := e1
    exact ⟨fun h1 => ⟨_, by omega, rfl, T, σ, hσ, hPB, by rw [flB_2 (by omega) (decide_eq_true (by omega))]; rfl, rfl⟩, fun h1 => ⟨_, by omega, rfl, T, σ, hσ, hPB, Or.inr (by omega), rfl⟩⟩)
  (by
    rintro p M0 ⟨rfl, -⟩ hM a m s o u z k f y v c M n ⟨T, σ, hσ, hPB, h2, hμ⟩ -
    obtain ⟨t, t1, t3, -, -, -, -, -, -, -, hk⟩ := id hPB
    refine ⟨fun h => ⟨_, by omega, rfl, T, σ, hσ, hPB, h2, Or.inl (by omega), rfl⟩, fun h => ⟨⟨rfl, rfl, σ, T σ hσ⟩, fun x1 M1 _ _ hc => ?_⟩⟩
    obtain ⟨e1, T⟩ := tt_call T hσ hc
    have e1 : x1 = gS σ 4 := e1
    exact ⟨fun h1 => ⟨_, by omega, rfl, T, σ, hσ, hPB, by rw [flB_4 (by omega) (decide_eq_true (by omega))]; rfl, rfl⟩, fun h1 => ⟨_, by omega, rfl, T, σ, hσ, hPB, h2, Or.inr (by omega), rfl⟩⟩)
  (by
    rintro p M0 ⟨rfl, -⟩ hM a m s o u z k f y v c M n ⟨T, σ, hσ, hPB, h2, h4, hμ⟩ -
    obtain ⟨t, t1, t3, -, -, -, -, -, -, -, hk⟩ := id hPB
    have hf := flB_r (x := decide (gS σ 2 = 2)) (y := decide (gS σ 4 = 2)) (s := y) (h2.imp id (fun z => decide_eq_false z)) (h4.imp id (fun z => decide_eq_false z))
    refine ⟨fun h => ⟨_, by omega, rfl, T, σ, hσ, hPB, by rw [hf, decide_eq_false (by omega)]; rfl, rfl⟩, fun h => ⟨⟨rfl, rfl, σ, T σ hσ⟩, fun x1 M1 _ _ hc => ?_⟩⟩
    obtain ⟨e1, T⟩ := tt_call T hσ hc
    have e1 : x1 = gS σ 2 := e1
    rw [decide_eq_true (show 0 < bAnd y 8 by omega), Bool.true_and] at hf
    refine ⟨fun h1 => ⟨⟨rfl, rfl, σ, T σ hσ⟩, fun x2 M2 _ _ hc => ?_⟩, fun h1 => ⟨⟨rfl, rfl, σ, T σ hσ⟩, fun x2 M2 _ _ hc => ?_⟩⟩
    · obtain ⟨e2, T⟩ := tt_call T hσ hc
      have e2 : x2 = gS σ 4 := e2
      rw [decide_eq_false (show ¬ gS σ 2 = 2 by omega)] at hf
      refine ⟨fun h3 => ⟨fun _ => ⟨_, by omega, rfl, T, σ, hσ, hPB, ?_, rfl⟩, fun z => absurd rfl z⟩, fun h3 => ⟨fun z => absurd z (by decide), fun _ => ⟨_, by omega, rfl, T, σ, hσ, hPB, ?_, rfl⟩⟩⟩
      · rw [decide_eq_false (show ¬ gS σ 2 = 2 by omega), hf, decide_eq_false (show ¬ gS σ 4 = 2 by omega)]; rfl
      · rw [decide_eq_false (show ¬ gS σ 2 = 2 by omega), hf, decide_eq_true (show gS σ 4 = 2 by omega)]; rfl
    · obtain ⟨e2, T⟩ := tt_call T hσ hc
      have e2 : x2 = gS σ 4 := e2
      rw [decide_eq_true (show gS σ 2 = 2 by omega)] at hf
      refine ⟨fun h3 => ⟨fun z => absurd z (by decide), fun _ => ⟨_, by omega, rfl, T, σ, hσ, hPB, ?_, rfl⟩⟩, fun h3 => ⟨fun _ => ⟨_, by omega, rfl, T, σ, hσ, hPB, ?_, rfl⟩, fun z => absurd rfl z⟩⟩
      · rw [decide_eq_true (show gS σ 2 = 2 by omega), hf, decide_eq_false (show ¬ gS σ 4 = 2 by omega)]; rfl
      · rw [decide_eq_true (show gS σ 2 = 2 by omega), hf, decide_eq_true (show gS σ 4 = 2 by omega)]; rfl)
  (by
    rintro p M0 ⟨rfl, -⟩ hM a m s o u z k f y v c d M n ⟨T, σ, hσ, hPB, hd, hμ⟩ -
    obtain ⟨t, t1, t3, -, -, -, -, hy, -, -, hk⟩ := id hPB
    have G : gOK (gS σ) := hσ.1.1.1
    obtain ⟨-, -, q3, -⟩ := lp_inv (κ := σ 1) G (f := (t : Int)) (nT (gS σ) * 4) (Nat.le_refl _)
    refine ⟨⟨rfl, rfl, σ, T σ hσ⟩, fun x1 M1 _ _ hc => ?_⟩
    obtain ⟨e1, T⟩ := tt_call T hσ hc
    have e1 : x1 = gS σ 2 := e1
    exact ⟨fun h1 => ⟨_, by omega, rfl, T, σ, hσ, hPB, hd, rfl⟩, fun h1 => ⟨fun z => absurd (by rw [hy]; exact q3 (by omega)) z, fun _ => ⟨_, by omega, rfl, T, σ, hσ, hPB, hd, rfl⟩⟩⟩)
  (by
    rintro p M0 ⟨rfl, -⟩ hM a m s o u z k f y v c d M n ⟨T, σ, hσ, hPB, hd, hμ⟩ -
    obtain ⟨t, t1, t3, -, -, -, -, hy, -, -, hk⟩ := id hPB
    have G : gOK (gS σ) := hσ.1.1.1
    obtain ⟨-, -, -, q4⟩ := lp_inv (κ := σ 1) G (f := (t : Int)) (nT (gS σ) * 4) (Nat.le_refl _)
    refine ⟨⟨rfl, rfl, σ, T σ hσ⟩, fun x1 M1 _ _ hc => ?_⟩
    obtain ⟨e1, T⟩ := tt_call T hσ hc
    have e1 : x1 = gS σ 4 := e1
    exact ⟨fun h1 => ⟨_, by omega, rfl, T, σ, hσ, hPB, hd, rfl, rfl⟩, fun h1 => ⟨fun z => absurd (by rw [hy]; exact q4 (by omega)) z, fun _ => ⟨_, by omega, rfl, T, σ, hσ, hPB, hd, rfl, rfl⟩⟩⟩)
  (by
    rintro p M0 ⟨rfl, -⟩ hM a m s o u z k f y v c d e M n ⟨T, σ, hσ, hPB, hd, rfl, hμ⟩ -
    obtain ⟨t, t1, t3, rfl, rfl, t6, hPA, hy, hv, rfl, hk⟩ := id hPB
    have G : gOK (gS σ) := hσ.1.1.1
    have hn := nT_s hσ.1.1
    have hvd : v = d := hv.trans hd.symm
    have hd01 : d = 0 ∨ d = 1 := by
      rw [hd]
      cases flB (decide (gS σ 2 = 2)) (decide (gS σ 4 = 2)) y
      · exact Or.inl rfl
      · exact Or.inr rfl
    obtain ⟨rfl, rfl, -⟩ := id hPA
    have ct := cntS_n (labS σ) (nT (gS σ))
    refine ⟨fun h => absurd h (by decide), fun _ => ⟨fun h0 => ⟨fun h1 => absurd (by omega) h1, fun _ => ⟨fun h2 => absurd h2 (by decide), fun _ => ?_⟩⟩, fun h0 => ⟨fun h1 => absurd (by omega) h1, fun _ => ⟨fun h2 => absurd h2 (by decide), fun _ => ?_⟩⟩⟩⟩
    all_goals
      refine ⟨⟨rfl, rfl, σ, T σ hσ⟩, fun x1 M1 _ _ hc => ?_⟩
      obtain ⟨e1, T⟩ := tt_call T hσ hc
      rw [F_op t1 t3 (by decide) (by decide)] at e1
      have e1 : x1 = bsF (labS σ) (gS σ) t (nT (gS σ) * 4) 0 0 := e1
      have b1 : x1 ≤ cntS (labS σ) (nT (gS σ)) - 1 := by rw [e1]; exact bs_le (κ := σ 1) G t1 t3
      refine ⟨⟨by omega, by omega⟩, fun z => absurd z (by omega), fun _ => ⟨⟨rfl, rfl, σ, T σ hσ⟩, fun x2 M2 _ _ hc => ?_⟩⟩
      obtain ⟨e2, T⟩ := tt_call T hσ hc
      rw [F_op t1 t3 (by decide) (by decide)] at e2
      have e2 : x2 = gdF (labS σ) (dep (gS σ) (σ 1)) t (nT (gS σ)) := e2
      refine ⟨⟨rfl, rfl, σ, T σ hσ⟩, fun x3 M3 _ _ hc => ?_⟩
      obtain ⟨e3, T⟩ := tt_call T hσ hc
      rw [F_op1 t1 t3] at e3
      have b2 := gd_lt (κ := σ 1) G t1 t3
      rw [← e2] at b2
      have b3 : x2 < x3 := by rw [e3]; exact b2
      refine ⟨fun z => absurd z (by omega), fun _ => ⟨⟨rfl, rfl, σ, T σ hσ⟩, fun x4 M4 _ _ hc => ?_⟩⟩
      obtain ⟨e4, T⟩ := tt_call T hσ hc
      have e5 : x4 = -2 := by
        rw [e4]
        unfold F_ofPart
        rw [if_pos ⟨⟨by omega, by omega⟩, by rw [Int.toNat_natCast]; exact t3⟩, if_neg (by decide)]
      exact ⟨fun _ => ⟨⟨by omega, by omega⟩, _, by omega, rfl, T, σ, hσ, t + 1, by omega, t6, by omega, hPA, rfl⟩, fun z => absurd e5 z⟩)
  (by
    rintro p M0 ⟨rfl, -⟩ hM a m s o u r i t M n ⟨T, σ, hσ, hPA, hr, hi, ht, hμ⟩ -
    have G : gOK (gS σ) := hσ.1.1.1
    have hn := nT_s hσ.1.1
    obtain ⟨rfl, rfl, hs, ho, hu⟩ := id hPA
    refine ⟨fun h => ?_, fun h => ?_⟩
    · have e4 : (t * 4).toNat = nT (gS σ) * 4 := by omega
      refine ⟨fun z => absurd (hs.trans (sum_sizes G)) z, fun _ => ⟨fun z => absurd (by rw [ho, hr, e4]; exact sum_borders G) z, fun _ => ⟨fun z => absurd (by rw [hu, hi, e4]; exact sum_open G) z, fun _ => ⟨⟨rfl, rfl, σ, T σ hσ⟩, fun x1 M1 _ _ hc => ?_⟩⟩⟩⟩
      obtain ⟨e1, T⟩ := tt_call T hσ hc
      have ct := cntS_n (labS σ) (nT (gS σ))
      rw [F_pt ct.1, kth_no (Int.le_refl _)] at e1
      refine ⟨fun z => absurd e1 z, fun _ => ⟨⟨rfl, rfl, σ, T σ hσ⟩, fun x2 M2 _ _ hc => ?_⟩⟩
      obtain ⟨e2, T⟩ := tt_call T hσ hc
      exact ⟨fun z => absurd e2 z, fun _ => ⟨Or.inr rfl, rfl, T⟩⟩
    · have hh : hasS σ t := ⟨ht.1, by omega⟩
      have tl : t.toNat < nT (gS σ) := by omega
      have hl := lab_facts (κ := σ 1) G tl
      have hle := lab_le1 (κ := σ 1) G tl
      refine ⟨⟨rfl, rfl, σ, T σ hσ⟩, fun x1 M1 _ _ hc => ?_⟩
      obtain ⟨e1, T⟩ := tt_call T hσ hc
      rw [F_lb hh] at e1
      have e1 : x1 = lab (gS σ) (σ 1) t.toNat := e1
      refine ⟨fun z => absurd z (by omega), fun _ => ⟨fun z => absurd z (by omega), fun _ => ⟨⟨rfl, rfl, σ, T σ hσ⟩, fun x2 M2 _ _ hc => ?_⟩⟩⟩
      obtain ⟨e2, T⟩ := tt_call T hσ hc
      rw [F_kd ⟨by omega, by omega⟩, e1, hl.2.2.2.2.1] at e2
      refine ⟨⟨rfl, rfl, σ, T σ hσ⟩, fun x3 M3 _ _ hc => ?_⟩
      obtain ⟨e3, T⟩ := tt_call T hσ hc
      rw [F_kd hh] at e3
      refine ⟨fun z => absurd (e2.trans e3.symm) z, fun _ => ⟨fun _ => ⟨_, by omega, rfl, T, σ, hσ, hPA, by rw [Int.add_zero]; exact hr, by rw [Int.add_zero]; exact hi, by omega, by omega, e1, rfl⟩, fun h4 => ⟨⟨rfl, rfl, σ, T σ hσ⟩, fun x4 M4 _ _ hc => ?_⟩⟩⟩
      obtain ⟨e4, T⟩ := tt_call T hσ hc
      have e5 : x4 = -1 := by
        rw [e4]
        exact if_neg (fun z => h4 (by rw [e1]; exact z.2))
      exact ⟨fun _ => ⟨_, by omega, rfl, T, σ, hσ, hPA, by rw [Int.add_zero]; exact hr, by rw [Int.add_zero]; exact hi, by omega, by omega, e1, rfl⟩, fun z => absurd e5 z⟩)
  (by
    rintro p M0 ⟨rfl, -⟩ hM a m s o u r i t q d M n ⟨T, σ, hσ, hPA, hr, hi, ht, hd, hq, hμ⟩ -
    have G : gOK (gS σ) := hσ.1.1.1
    have hn := nT_s hσ.1.1
    obtain ⟨rfl, rfl, -⟩ := id hPA
    have hh : hasS σ t := ⟨ht.1, by omega⟩
    have br := qK_b (g := gS σ) (κ := σ 1) (t * 4 + d).toNat
    have bi := qZ_b (g := gS σ) (t * 4 + d).toNat
    refine ⟨fun h => ⟨⟨by omega, by omega⟩, _, by omega, rfl, T, σ, hσ, hPA, by rw [hr, show t * 4 + d = (t + 1) * 4 by omega], by rw [hi, show t * 4 + d = (t + 1) * 4 by omega], by omega, rfl⟩, fun h => ⟨⟨rfl, rfl, σ, T σ hσ⟩, fun x1 M1 _ _ hc => ?_⟩⟩
    obtain ⟨e1, T⟩ := tt_call T hσ hc
    rw [F_nb hh hd.1 (by omega)] at e1
    have hx := nx_b G (t := t) (d := d) ht.1 (by omega)
    rw [← e1] at hx
    have hsr : sumF (qK (gS σ) (σ 1)) (t * 4 + (d + 1)).toNat = r + (if 0 ≤ x1 ∧ σ 1 x1.toNat ≠ σ 1 t.toNat then 1 else 0) := by
      rw [sumF_s (show (t * 4 + (d + 1)).toNat = (t * 4 + d).toNat + 1 by omega), ← hr]
      unfold qK
      rw [nxk_td ht.1 hd.1 (by omega), ← e1, show (t * 4 + d).toNat / 4 = t.toNat by omega]
    have hsi : sumF (qZ (gS σ)) (t * 4 + (d + 1)).toNat = i + (if x1 < 0 then 1 else 0) := by
      rw [sumF_s (show (t * 4 + (d + 1)).toNat = (t * 4 + d).toNat + 1 by omega), ← hi]
      unfold qZ
      rw [nxk_td ht.1 hd.1 (by omega), ← e1]
    refine ⟨fun h1 => ⟨⟨by omega, by omega⟩, fun h2 => absurd h1 (by omega), fun h2 => ⟨⟨rfl, rfl, σ, T σ hσ⟩, fun x2 M2 _ _ hc => ?_⟩⟩, fun h1 => ⟨⟨by omega, by omega⟩, fun h2 => ⟨⟨by omega, by omega⟩, _, by omega, rfl, T, σ, hσ, hPA, by rw [hsr, if_neg (fun z => h1 z.1)], by rw [hsi, if_pos h2], ht, ⟨hd.1, by omega⟩, hq, e1, rfl⟩, fun h2 => absurd h2 (by omega)⟩⟩
    obtain ⟨e2, T⟩ := tt_call T hσ hc
    rw [F_kd ⟨by omega, by omega⟩] at e2
    refine ⟨⟨rfl, rfl, σ, T σ hσ⟩, fun x3 M3 _ _ hc => ?_⟩
    obtain ⟨e3, T⟩ := tt_call T hσ hc
    rw [F_kd hh] at e3
    exact ⟨fun h3 => ⟨⟨by omega, by omega⟩, _, by omega, rfl, T, σ, hσ, hPA, by rw [hsr, if_neg (fun z => z.2 (by rw [← e2, ← e3]; exact h3))], by rw [hsi, if_neg h2], ht, ⟨hd.1, by omega⟩, hq, e1, rfl⟩, fun h3 => ⟨⟨by omega, by omega⟩, _, by omega, rfl, T, σ, hσ, hPA, by rw [hsr, if_pos ⟨h1, by rw [← e2, ← e3]; exact h3⟩], by rw [hsi, if_neg h2], ht, ⟨hd.1, by omega⟩, hq, e1, rfl⟩⟩)
  (by
    rintro p M0 ⟨rfl, -⟩ hM a m s o u r i t q d y M n ⟨T, σ, hσ, hPA, hr, hi, ht, hd, hq, rfl, hμ⟩ -
    have G : gOK (gS σ) := hσ.1.1.1
    have hn := nT_s hσ.1.1
    obtain ⟨rfl, rfl, -⟩ := id hPA
    have hh : hasS σ t := ⟨ht.1, by omega⟩
    have hx := nx_b G (t := t) (d := d) ht.1 (by omega)
    refine ⟨fun h => ⟨⟨by omega, by omega⟩, _, by omega, rfl, T, σ, hσ, hPA, hr, hi, ht, by omega, hq, rfl⟩, fun h => ⟨⟨rfl, rfl, σ, T σ hσ⟩, fun x1 M1 _ _ hc => ?_⟩⟩
    obtain ⟨e1, T⟩ := tt_call T hσ hc
    have hx1 := hx.resolve_left (by omega)
    have hhx : hasS σ (nx (gS σ) t d) := ⟨hx1.1, by omega⟩
    rw [F_kd hhx] at e1
    refine ⟨⟨rfl, rfl, σ, T σ hσ⟩, fun x2 M2 _ _ hc => ?_⟩
    obtain ⟨e2, T⟩ := tt_call T hσ hc
    rw [F_kd hh] at e2
    refine ⟨fun h1 => ⟨⟨by omega, by omega⟩, _, by omega, rfl, T, σ, hσ, hPA, hr, hi, ht, by omega, hq, rfl⟩, fun h1 => ⟨⟨rfl, rfl, σ, T σ hσ⟩, fun x3 M3 _ _ hc => ?_⟩⟩
    obtain ⟨e3, T⟩ := tt_call T hσ hc
    rw [F_lb hhx] at e3
    have h2 := lab_cl (κ := σ 1) G t.toNat (by omega) d hd.1 hd.2 (by rw [Int.toNat_of_nonneg ht.1]; exact hx1.1) (by rw [Int.toNat_of_nonneg ht.1, ← e1, ← e2]; exact Classical.byContradiction h1)
    rw [Int.toNat_of_nonneg ht.1] at h2
    exact ⟨fun _ => ⟨⟨by omega, by omega⟩, _, by omega, rfl, T, σ, hσ, hPA, hr, hi, ht, by omega, hq, rfl⟩, fun z => absurd (by rw [e3, hq]; exact h2) z⟩)
end L2
