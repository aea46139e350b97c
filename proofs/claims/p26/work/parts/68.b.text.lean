/-! ===== calls that change the text alone ===== -/
def sameT (σ σ' : Mem) : Prop := (∀ i, i ≠ 6 → σ' 0 i = σ 0 i) ∧ σ' 1 = σ 1 ∧ σ' 2 = σ 2 ∧ σ' 4 = σ 4
theorem sameT_rf {σ : Mem} : sameT σ σ := ⟨fun _ _ => rfl, rfl, rfl, rfl⟩
theorem sameT_tr {σ σ' τ : Mem} (h : sameT σ σ') (h2 : sameT σ' τ) : sameT σ τ := ⟨fun i hi => (h2.1 i hi).trans (h.1 i hi), h2.2.1.trans h.2.1, h2.2.2.1.trans h.2.2.1, h2.2.2.2.trans h.2.2.2⟩
theorem sameT_g {σ σ' : Mem} (h : sameT σ σ') : gS σ' = gS σ := gS_cg (fun i hi => h.1 i (by omega))
theorem sameT_type {σ : Mem} {c : Int} : sameT σ (G_type σ c) := by
  unfold G_type
  split
  · exact sameT_rf
  · exact ⟨fun i hi => by rw [up_nk (Or.inr hi), up_n (by decide)], by rw [up_n (by decide), up_n (by decide)], by rw [up_n (by decide), up_n (by decide)], by rw [up_n (by decide), up_n (by decide)]⟩
theorem sameT_clear {σ : Mem} : sameT σ (G_clearText σ) := ⟨fun i hi => by unfold G_clearText; rw [up_nk (Or.inr hi)], by unfold G_clearText; rw [up_n (by decide)], by unfold G_clearText; rw [up_n (by decide)], by unfold G_clearText; rw [up_n (by decide)]⟩
abbrev RT (M0 M : Mem) : Prop := ∀ σ, absX M0 σ → ∃ σ', absX M σ' ∧ sameT σ σ'
theorem rt_q {M0 M M1 : Mem} (R : RT M0 M) (h : ∀ σ, absX M σ → absX M1 σ) : RT M0 M1 := fun σ hσ => by
  obtain ⟨σ', h1, h2⟩ := R σ hσ
  exact ⟨σ', h σ' h1, h2⟩
theorem rt_g {M0 M M1 : Mem} {G : Mem → Mem} (R : RT M0 M) (h : ∀ σ, absX M σ → absX M1 (G σ)) (hG : ∀ σ, sameT σ (G σ)) : RT M0 M1 := fun σ hσ => by
  obtain ⟨σ', h1, h2⟩ := R σ hσ
  exact ⟨G σ', h σ' h1, sameT_tr h2 (hG σ')⟩
theorem absX_46 {M σ : Mem} {k : Nat} {x : Int} (h : absX M σ) : absX (up M 46 k x) σ := absX_lo h (fun b hb => up_n (by omega))
/-- one character more -/
theorem type_3 {σ : Mem} {c : Int} (h : σ 0 6 < 160) : G_type σ c 3 = upR (σ 3) (σ 0 6).toNat c ∧ G_type σ c 0 6 = σ 0 6 + 1 ∧ F_type σ c = σ 0 6 + 1 := by
  unfold G_type F_type
  rw [if_neg (by omega), if_neg (by omega)]
  exact ⟨by rw [up_n (by decide), up_s], up_sk, rfl⟩
theorem clear_3 {σ : Mem} : G_clearText σ 3 = σ 3 ∧ G_clearText σ 0 6 = 0 := by
  unfold G_clearText
  exact ⟨up_n (by decide), up_sk⟩
