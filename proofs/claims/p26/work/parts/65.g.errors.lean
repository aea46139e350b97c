/-! ===== the law's errors ===== -/
theorem tt_set {M0 M M1 σ : Mem} {x : Int} {F : Mem → Int} {G : Mem → Mem} (T : TT M0 M) (hσ : absX M0 σ) (hc : ∀ σ, absX M σ → x = F σ ∧ absX M1 (G σ)) (hG : ∀ τ, absX M0 τ → G τ = τ) : x = F σ ∧ TT M0 M1 := ⟨(hc σ (T σ hσ)).1, fun τ hτ => by
  have := (hc τ (T τ hτ)).2
  rwa [hG τ hτ] at this⟩
theorem no_n {σ : Mem} : ¬ hasS σ ((nT (gS σ) : Nat) : Int) := fun z => Int.lt_irrefl _ z.2
theorem no_m {σ : Mem} : ¬ hasS σ (-1) := fun z => absurd z.1 (by decide)
theorem yes_0 {σ : Mem} (h : okS σ) : hasS σ 0 := ⟨Int.le_refl _, by have := nT_b h.1; omega⟩
section L3
variable {l : Launch} {D : va_G} {cy : Nat → ClassId} {ad : Nat → Nat}
theorem ok_L_errors (hA : jA ad 46) : OK_L_errors l D cy ad := met_L_errors hA (ok_X8_distance hA) (ok_X8_farthest hA) (ok_X8_fill hA) (ok_X8_greatestPart hA) (ok_X8_kind hA) (ok_X8_label hA) (ok_X8_nearest hA) (ok_X8_neighbour hA) (ok_X8_ofPart hA) (ok_X8_partsIf hA) (ok_X8_reset hA) (ok_X8_route hA) (ok_X8_setSeam hA) (ok_X8_setTile hA) (ok_X8_setWeight hA) (ok_X8_value hA) (ok_X8_walk hA) (ok_X8_within hA)
  (fun p M0 a b q M μ => TT M0 M ∧ ∃ σ, absX M0 σ ∧ a = nT (gS σ) ∧ b = -2 ∧ q = 1 ∧ μ = 0)
  (by
    rintro p M0 ⟨rfl, σ, hσ⟩ hM
    have hn := nT_s hσ.1.1
    have G : gOK (gS σ) := hσ.1.1.1
    have h0 := yes_0 hσ.1.1
    have T : TT M0 M0 := fun _ h => h
    refine ⟨⟨rfl, rfl, σ, hσ⟩, fun x1 M1 _ _ hc => ?_⟩
    obtain ⟨e1, T⟩ := tt_call T hσ hc
    refine ⟨⟨rfl, rfl, σ, T σ hσ⟩, fun x2 M2 _ _ hc => ?_⟩
    obtain ⟨e2, T⟩ := tt_call T hσ hc
    have e3 : x1 * x2 = nT (gS σ) := by rw [e1, e2]; exact hn.1.symm
    rw [e3]
    refine ⟨⟨by omega, by omega⟩, ?_⟩
    refine ⟨⟨rfl, rfl, σ, T σ hσ⟩, fun x M _ _ hc => ?_⟩
    obtain ⟨e, T⟩ := tt_set T hσ hc (fun τ hτ => if_neg (fun z => by have := z.1.1; omega))
    have e : x = (-2) := e.trans (if_neg (fun z => by have := z.1.1; omega))
    clear hc
    refine ⟨fun z => absurd e z, fun _ => ?_⟩
    refine ⟨⟨rfl, rfl, σ, T σ hσ⟩, fun x M _ _ hc => ?_⟩
    obtain ⟨e, T⟩ := tt_set T hσ hc (fun τ hτ => if_neg (fun z => by have := z.2.2; omega))
    have e : x = (-2) := e.trans (if_neg (fun z => by have := z.2.2; omega))
    clear hc
    refine ⟨fun z => absurd e z, fun _ => ?_⟩
    refine ⟨⟨rfl, rfl, σ, T σ hσ⟩, fun x M _ _ hc => ?_⟩
    obtain ⟨e, T⟩ := tt_set T hσ hc (fun τ hτ => if_neg (fun z => by have := z.1.2; omega))
    have e : x = (-2) := e.trans (if_neg (fun z => by have := z.1.2; omega))
    clear hc
    refine ⟨fun z => absurd e z, fun _ => ?_⟩
    refine ⟨⟨rfl, rfl, σ, T σ hσ⟩, fun y M _ _ hc => ?_⟩
    obtain ⟨ey, T⟩ := tt_call T hσ hc
    have ey : y = gS σ 0 := ey
    clear hc
    refine ⟨⟨rfl, rfl, σ, T σ hσ⟩, fun x M _ _ hc => ?_⟩
    obtain ⟨e, T⟩ := tt_set T hσ hc (fun τ hτ => if_neg (fun z => by have h2 : y < gS τ 0 := z.2.2; rw [← absX_g hσ hτ] at h2; omega))
    have e : x = (-2) := e.trans (if_neg (fun z => by have h2 : y < gS σ 0 := z.2.2; omega))
    clear hc
    refine ⟨fun z => absurd e z, fun _ => ?_⟩
    refine ⟨⟨rfl, rfl, σ, T σ hσ⟩, fun y M _ _ hc => ?_⟩
    obtain ⟨ey, T⟩ := tt_call T hσ hc
    have ey : y = gS σ 1 := ey
    clear hc
    refine ⟨⟨rfl, rfl, σ, T σ hσ⟩, fun x M _ _ hc => ?_⟩
    obtain ⟨e, T⟩ := tt_set T hσ hc (fun τ hτ => if_neg (fun z => by have h2 : y < gS τ 1 := z.2.2; rw [← absX_g hσ hτ] at h2; omega))
    have e : x = (-2) := e.trans (if_neg (fun z => by have h2 : y < gS σ 1 := z.2.2; omega))
    clear hc
    refine ⟨fun z => absurd e z, fun _ => ?_⟩
    refine ⟨⟨rfl, rfl, σ, T σ hσ⟩, fun x M _ _ hc => ?_⟩
    obtain ⟨e, T⟩ := tt_set T hσ hc (fun τ hτ => if_neg (fun z => by have := z.2.1; omega))
    have e : x = (-2) := e.trans (if_neg (fun z => by have := z.2.1; omega))
    clear hc
    refine ⟨fun z => absurd e z, fun _ => ?_⟩
    refine ⟨⟨rfl, rfl, σ, T σ hσ⟩, fun x M _ _ hc => ?_⟩
    obtain ⟨e, T⟩ := tt_call T hσ hc
    have e : x = (-2) := e.trans (rfl)
    clear hc
    refine ⟨fun z => absurd e z, fun _ => ?_⟩
    refine ⟨⟨rfl, rfl, σ, T σ hσ⟩, fun x M _ _ hc => ?_⟩
    obtain ⟨e, T⟩ := tt_call T hσ hc
    have e : x = (-1) := e.trans (if_neg no_n)
    clear hc
    refine ⟨fun z => absurd e z, fun _ => ?_⟩
    refine ⟨⟨rfl, rfl, σ, T σ hσ⟩, fun x M _ _ hc => ?_⟩
    obtain ⟨e, T⟩ := tt_call T hσ hc
    have e : x = (-1) := e.trans (if_neg no_n)
    clear hc
    refine ⟨fun z => absurd e z, fun _ => ?_⟩
    refine ⟨⟨rfl, rfl, σ, T σ hσ⟩, fun x M _ _ hc => ?_⟩
    obtain ⟨e, T⟩ := tt_call T hσ hc
    have e : x = (-2) := e.trans ((if_pos h0).trans (if_neg (by decide)))
    clear hc
    refine ⟨fun z => absurd e z, fun _ => ?_⟩
    refine ⟨⟨rfl, rfl, σ, T σ hσ⟩, fun x M _ _ hc => ?_⟩
    obtain ⟨e, T⟩ := tt_set T hσ hc (fun τ hτ => if_neg (fun z => by have := z.2.2; omega))
    have e : x = (-1) := e.trans (if_neg no_n)
    clear hc
    refine ⟨fun z => absurd e z, fun _ => ?_⟩
    refine ⟨⟨rfl, rfl, σ, T σ hσ⟩, fun x M _ _ hc => ?_⟩
    obtain ⟨e, T⟩ := tt_set T hσ hc (fun τ hτ => if_neg (fun z => by have := z.2.2; omega))
    have e : x = (-2) := e.trans ((if_pos h0).trans (if_neg (by decide)))
    clear hc
    refine ⟨fun z => absurd e z, fun _ => ?_⟩
    refine ⟨⟨rfl, rfl, σ, T σ hσ⟩, fun x M _ _ hc => ?_⟩
    obtain ⟨e, T⟩ := tt_set T hσ hc (fun τ hτ => if_neg (fun z => by have := z.2.2; omega))
    have e : x = (-1) := e.trans (if_neg no_m)
    clear hc
    refine ⟨fun z => absurd e z, fun _ => ?_⟩
    refine ⟨⟨rfl, rfl, σ, T σ hσ⟩, fun x M _ _ hc => ?_⟩
    obtain ⟨e, T⟩ := tt_set T hσ hc (fun τ hτ => if_neg (fun z => by have := z.2.1; omega))
    have e : x = (-2) := e.trans ((if_pos h0).trans (if_neg (by decide)))
    clear hc
    exact ⟨fun z => absurd e z, fun _ => ⟨_, rfl, T, σ, hσ, rfl, rfl, rfl, rfl⟩⟩)
  (by
    rintro p M0 ⟨rfl, -⟩ hM a b q M n ⟨T, σ, hσ, rfl, rfl, rfl, hμ⟩ -
    have hn := nT_s hσ.1.1
    have h0 := yes_0 hσ.1.1
    refine ⟨fun z => absurd z (by decide), fun _ => ?_⟩
    refine ⟨⟨rfl, rfl, σ, T σ hσ⟩, fun x M _ _ hc => ?_⟩
    obtain ⟨e, T⟩ := tt_call T hσ hc
    have e : x = (-1) := e.trans (if_neg no_n)
    clear hc
    refine ⟨fun z => absurd e z, fun _ => ?_⟩
    refine ⟨⟨rfl, rfl, σ, T σ hσ⟩, fun x M _ _ hc => ?_⟩
    obtain ⟨e, T⟩ := tt_call T hσ hc
    have e : x = (-1) := e.trans (if_neg no_n)
    clear hc
    refine ⟨fun z => absurd e z, fun _ => ?_⟩
    refine ⟨⟨rfl, rfl, σ, T σ hσ⟩, fun x M _ _ hc => ?_⟩
    obtain ⟨e, T⟩ := tt_call T hσ hc
    have e : x = (-1) := e.trans (if_neg (fun z => no_n z.1))
    clear hc
    refine ⟨fun z => absurd e z, fun _ => ?_⟩
    refine ⟨⟨rfl, rfl, σ, T σ hσ⟩, fun x M _ _ hc => ?_⟩
    obtain ⟨e, T⟩ := tt_call T hσ hc
    have e : x = (-1) := e.trans (if_neg (fun z => no_m z.1))
    clear hc
    refine ⟨fun z => absurd e z, fun _ => ?_⟩
    refine ⟨⟨rfl, rfl, σ, T σ hσ⟩, fun x M _ _ hc => ?_⟩
    obtain ⟨e, T⟩ := tt_call T hσ hc
    have e : x = (-2) := e.trans (if_neg (by decide))
    clear hc
    refine ⟨fun z => absurd e z, fun _ => ?_⟩
    refine ⟨⟨rfl, rfl, σ, T σ hσ⟩, fun x M _ _ hc => ?_⟩
    obtain ⟨e, T⟩ := tt_call T hσ hc
    have e : x = (-1) := e.trans (if_neg no_n)
    clear hc
    refine ⟨fun z => absurd e z, fun _ => ?_⟩
    refine ⟨⟨rfl, rfl, σ, T σ hσ⟩, fun x M _ _ hc => ?_⟩
    obtain ⟨e, T⟩ := tt_call T hσ hc
    have e : x = (-2) := e.trans ((if_pos h0).trans (if_neg (by decide)))
    clear hc
    refine ⟨fun z => absurd e z, fun _ => ?_⟩
    refine ⟨⟨rfl, rfl, σ, T σ hσ⟩, fun x M _ _ hc => ?_⟩
    obtain ⟨e, T⟩ := tt_set T hσ hc (fun τ hτ => if_neg (by decide))
    have e : x = (-2) := e.trans (if_neg (by decide))
    clear hc
    refine ⟨fun z => absurd e z, fun _ => ?_⟩
    refine ⟨⟨rfl, rfl, σ, T σ hσ⟩, fun x M _ _ hc => ?_⟩
    obtain ⟨e, T⟩ := tt_set T hσ hc (fun τ hτ => if_neg (by decide))
    have e : x = (-2) := e.trans (if_neg (by decide))
    clear hc
    refine ⟨fun z => absurd e z, fun _ => ?_⟩
    refine ⟨⟨rfl, rfl, σ, T σ hσ⟩, fun x M _ _ hc => ?_⟩
    obtain ⟨e, T⟩ := tt_call T hσ hc
    have e : x = (-1) := e.trans (if_neg (fun z => no_n z.2))
    clear hc
    refine ⟨fun z => absurd e z, fun _ => ?_⟩
    refine ⟨⟨rfl, rfl, σ, T σ hσ⟩, fun x M _ _ hc => ?_⟩
    obtain ⟨e, T⟩ := tt_call T hσ hc
    have e : x = (-1) := e.trans (if_neg (fun z => no_n z.1))
    clear hc
    refine ⟨fun z => absurd e z, fun _ => ?_⟩
    refine ⟨⟨rfl, rfl, σ, T σ hσ⟩, fun x M _ _ hc => ?_⟩
    obtain ⟨e, T⟩ := tt_call T hσ hc
    have e : x = (-1) := e.trans (if_neg no_n)
    clear hc
    refine ⟨fun z => absurd e z, fun _ => ?_⟩
    refine ⟨⟨rfl, rfl, σ, T σ hσ⟩, fun x M _ _ hc => ?_⟩
    obtain ⟨e, T⟩ := tt_call T hσ hc
    have e : x = (-1) := e.trans (if_neg no_n)
    clear hc
    refine ⟨fun z => absurd e z, fun _ => ?_⟩
    refine ⟨⟨rfl, rfl, σ, T σ hσ⟩, fun x M _ _ hc => ?_⟩
    obtain ⟨e, T⟩ := tt_call T hσ hc
    have e : x = (-1) := e.trans (if_neg no_n)
    clear hc
    exact ⟨fun z => absurd e z, fun _ => ⟨Or.inr rfl, rfl, T⟩⟩)
end L3
