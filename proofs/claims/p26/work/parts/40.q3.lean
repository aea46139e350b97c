section Q3
variable {l : Launch} {D : va_G} {cy : Nat → ClassId} {ad : Nat → Nat}
theorem bsF_s {L g : Nat → Int} {f : Int} {n m : Nat} (h : m = n + 1) : bsF L g f m = if L (n / 4) = f ∧ 0 ≤ nxk g n ∧ L (nxk g n).toNat ≠ f then (if bsF L g f n 1 (L (nxk g n).toNat).toNat = 0 then up (up (bsF L g f n) 0 0 (bsF L g f n 0 0 + 1)) 1 (L (nxk g n).toNat).toNat 1 else bsF L g f n) else bsF L g f n := by subst h; rfl
theorem bsF_01 {L g : Nat → Int} {f : Int} (n : Nat) : (∀ j, bsF L g f n 1 j = 0 ∨ bsF L g f n 1 j = 1) ∧ 0 ≤ bsF L g f n 0 0 ∧ bsF L g f n 0 0 ≤ n := by
  induction n with
  | zero => exact ⟨fun _ => Or.inl rfl, Int.le_refl 0, Int.le_refl 0⟩
  | succ n ih =>
    obtain ⟨h1, h2, h3⟩ := ih
    rw [bsF_s rfl]
    split
    · split
      · refine ⟨fun j => ?_, ?_, ?_⟩
        · by_cases q : j = (L (nxk g n).toNat).toNat
          · subst q; rw [up_sk]; exact Or.inr rfl
          · rw [up_nk (Or.inr q), up_n (by decide)]; exact h1 j
        · rw [up_n (by decide), up_sk]; omega
        · rw [up_n (by decide), up_sk]; omega
      · exact ⟨h1, by omega, by omega⟩
    · exact ⟨h1, by omega, by omega⟩
theorem labR_congr {p : Nat} {M M' : Mem} {L : Nat → Int} (h : labR p M L) (hp : kdX p = 1) (e : ∀ b, b ≠ p + 5 → M' b = M b) : labR p M' L := by
  have := kd1g hp
  have eg : gX M' = gX M := gX_congr (e 1 (by omega)) (e 2 (by omega)) (e 3 (by omega))
  intro t tl
  rw [eg] at tl
  rw [e _ (by omega)]
  exact h t tl
theorem ok_X1_partsBeside (hA : jA ad 46) : OK_X1_partsBeside l D cy ad := met_X1_partsBeside hA (ok_X1_isFirstMeeting hA) (ok_X1_leadsOut hA) (ok_X3_next hA) (ok_X3_tiles hA)
  (fun p f M0 t M μ => (∀ b, b ≠ p + 5 → M b = M0 b) ∧ (∀ j : Nat, (j : Int) < t → M (p + 5) j = 0) ∧ (0 ≤ t ∧ t ≤ nT (gX M0)) ∧ μ = (5000 - t).toNat)
  (fun p f M0 o t M μ => (∀ b, b ≠ p + 5 → M b = M0 b) ∧ (∀ L, labR p M0 L → o = bsF L (gX M0) f (t * 4).toNat 0 0 ∧ ∀ j : Nat, j < nT (gX M0) → M (p + 5) j = bsF L (gX M0) f (t * 4).toNat 1 j) ∧ (0 ≤ t ∧ t ≤ nT (gX M0)) ∧ μ = ((200 - t) * 10).toNat)
  (fun p f M0 o t d M μ => (∀ b, b ≠ p + 5 → M b = M0 b) ∧ (∀ L, labR p M0 L → o = bsF L (gX M0) f (t * 4 + d).toNat 0 0 ∧ ∀ j : Nat, j < nT (gX M0) → M (p + 5) j = bsF L (gX M0) f (t * 4 + d).toNat 1 j) ∧ (0 ≤ t ∧ t < nT (gX M0)) ∧ (0 ≤ d ∧ d ≤ 4) ∧ μ = ((200 - t) * 10 - 1 - d).toNat)
  (by
    rintro p f M0 ⟨hp, hS, ⟨hf, hl⟩, hr⟩ hM rf
    exact ⟨_, rfl, rfl, fun _ _ => rfl, fun j hj => by omega, by omega, rfl⟩)
  (by
    rintro p f M0 ⟨hp, hS, ⟨hf, hl⟩, hr⟩ hM rf t M n ⟨hF, hz, ht, hn⟩ -
    obtain ⟨-, -, -, -, ⟨a5, b5⟩, -⟩ := kd1a hp
    have hpg := kd1g hp
    obtain ⟨nE, n9, n144⟩ := nT_b hS.1
    obtain ⟨hS1, eg⟩ := surf_congr (M' := M) hS (fun b q1 q2 => hF b (by omega))
    have eN := surf_N hS1
    rw [eg] at eN
    refine ⟨hp, ⟨rfl, rfl, surf_gB hS1⟩, ?_⟩
    rintro x2 M1 - - ⟨rfl, rfl⟩
    rw [eN]
    refine ⟨fun h => ⟨((200 - f) * 10).toNat, by omega, rfl, rfl, hF, fun L h1 => ?_, by omega, rfl⟩, fun h => ⟨hp, a5, ⟨by omega, by rw [b5]; omega⟩, Or.inl rfl, by omega, (5000 - (t + 1)).toNat, by omega, rfl, rfl, fun b q => by rw [up_n q]; exact hF b q, fun j hj => ?_, by omega, rfl⟩⟩
    · have : ∀ n : Nat, (n : Int) ≤ f * 4 → bsF L (gX M0) f n = fun _ _ => 0 := by
        intro n
        induction n with
        | zero => intro _; rfl
        | succ n ih =>
          intro hn
          have := hl (n / 4) (by omega)
          rw [h1 _ (by omega)] at this
          rw [bsF_s rfl, if_neg (fun z => this z.1)]
          exact ih (by omega)
      rw [this _ (by omega)]
      exact ⟨rfl, fun j hj => hz j (by omega)⟩
    · by_cases q : j = t.toNat
      · subst q; rw [up_sk]
      · rw [up_nk (Or.inr q)]; exact hz j (by omega))
  (by
    rintro p f M0 ⟨hp, hS, ⟨hf, hl⟩, hr⟩ hM rf o t M n ⟨hF, hI, ht, hn⟩ -
    have hpg := kd1g hp
    obtain ⟨nE, n9, n144⟩ := nT_b hS.1
    obtain ⟨hS1, eg⟩ := surf_congr (M' := M) hS (fun b q1 q2 => hF b (by omega))
    have eN := surf_N hS1
    rw [eg] at eN
    refine ⟨hp, ⟨rfl, rfl, surf_gB hS1⟩, ?_⟩
    rintro x2 M1 - - ⟨rfl, rfl⟩
    rw [eN]
    refine ⟨fun h => ⟨trivial, fun L h1 => ?_, hF⟩, fun h => ⟨((200 - t) * 10 - 1 - 0).toNat, by omega, rfl, rfl, hF, fun L h1 => ?_, by omega, by omega, rfl⟩⟩
    · rw [(hI L h1).1, show (t * 4).toNat = nT (gX M0) * 4 by omega]
    · rw [Int.add_zero]; exact hI L h1)
  (by
    rintro p f M0 ⟨hp, hS, ⟨hf, hl⟩, hr⟩ hM rf o t d M n ⟨hF, hI, ht, hd, hn⟩ -
    obtain ⟨⟨a1, b1⟩, -, -, -, ⟨a5, b5⟩, -⟩ := kd1a hp
    have hpg := kd1g hp
    obtain ⟨nE, n9, n144⟩ := nT_b hS.1
    obtain ⟨hS1, eg⟩ := surf_congr (M' := M) hS (fun b q1 q2 => hF b (by omega))
    have es : (t * 4 + (d + 1)).toNat = (t * 4 + d).toNat + 1 := by omega
    have e1 : M (p + 1) = M0 (p + 1) := hF _ (by omega)
    have ob : 0 ≤ o ∧ o ≤ (t * 4 + d).toNat := by
      rw [(hI (M0 (p + 1)) (fun _ _ => rfl)).1]
      exact (bsF_01 _).2
    -- nothing new at this step
    have stay : ∀ M1 : Mem, M1 = M → (∀ L, labR p M0 L → ¬ (L t.toNat = f ∧ 0 ≤ nx (gX M0) t d ∧ L (nx (gX M0) t d).toNat ≠ f)) → d < 4 → ∃ μ : Nat, μ < n ∧ p = p ∧ f = f ∧ (∀ b, b ≠ p + 5 → M1 b = M0 b) ∧ (∀ L, labR p M0 L → o = bsF L (gX M0) f (t * 4 + (d + 1)).toNat 0 0 ∧ ∀ j : Nat, j < nT (gX M0) → M1 (p + 5) j = bsF L (gX M0) f (t * 4 + (d + 1)).toNat 1 j) ∧ (0 ≤ t ∧ t < nT (gX M0)) ∧ (0 ≤ d + 1 ∧ d + 1 ≤ 4) ∧ μ = ((200 - t) * 10 - 1 - (d + 1)).toNat := by
      rintro M1 rfl hc hd4
      refine ⟨_, by omega, rfl, rfl, hF, fun L h1 => ?_, ht, by omega, rfl⟩
      have := hc L h1
      rw [bsF_s es, (k4 ht.1 ⟨hd.1, by omega⟩).1, nxk_of ht.1 ⟨hd.1, by omega⟩, if_neg this]
      exact hI L h1
    refine ⟨fun h => ⟨by omega, ((200 - (t + 1)) * 10).toNat, by omega, rfl, rfl, hF, fun L h1 => ?_, by omega, rfl⟩, fun h => ⟨hp, a1, ⟨by omega, by rw [b1]; omega⟩, fun h2 => ⟨by omega, stay M rfl (fun L h1 z => h2 ?_) (by omega)⟩, fun h2 => ⟨⟨hp, hS1, by rw [eg]; exact ht, by omega⟩, ?_⟩⟩⟩
    · rw [show ((t + 1) * 4).toNat = (t * 4 + d).toNat by omega]
      exact hI L h1
    · rw [e1, h1 _ (by omega)]; exact z.1
    · have h2e := Classical.byContradiction h2
      clear h2
      rintro x2 M1 - - ⟨hx, rfl⟩
      rw [eg, e1] at hx
      rw [e1] at h2e
      refine ⟨fun h3 => ⟨by omega, stay M1 rfl (fun L h1 z => ?_) (by omega)⟩, fun h3 => ?_⟩
      · rw [if_pos] at hx
        · omega
        · have q := (nx_b hS.1 (d := d) ht.1 (by omega)).resolve_left (by omega)
          refine ⟨z.2.1, ?_⟩
          rw [h2e, h1 _ (by omega)]
          exact z.2.2
      · have hc : 0 ≤ nx (gX M0) t d ∧ M0 (p + 1) (nx (gX M0) t d).toNat ≠ M0 (p + 1) t.toNat := Classical.byContradiction fun z => by rw [if_neg z] at hx; exact h3 hx
        have q := (nx_b hS.1 (d := d) ht.1 (by omega)).resolve_left (by omega)
        refine ⟨hp, ⟨rfl, rfl, by omega, by omega⟩, ?_⟩
        rintro x4 M3 - - ⟨rfl, rfl⟩
        have hT := (hS1.2 t d ht.1 (by rw [eg]; omega) hd.1 (by omega)).1
        rw [eg] at hT
        rw [hT]
        have hrb := hr (nx (gX M0) t d).toNat (by omega)
        refine ⟨⟨hp, by omega, by rw [e1]; exact hrb.1, by rw [e1]; omega⟩, ?_⟩
        rintro x6 M5 - - ⟨hx6, rfl⟩
        rw [e1] at hx6 ⊢
        have hF5 : ∀ b, b ≠ p + 5 → up M3 (p + 5) (M0 (p + 1) (nx (gX M0) t d).toNat).toNat 1 b = M0 b := fun b z => by rw [up_n z]; exact hF b z
        -- the function at this step
        have stp : ∀ L, labR p M0 L → bsF L (gX M0) f (t * 4 + (d + 1)).toNat = (if bsF L (gX M0) f (t * 4 + d).toNat 1 (L (nx (gX M0) t d).toNat).toNat = 0 then up (up (bsF L (gX M0) f (t * 4 + d).toNat) 0 0 (bsF L (gX M0) f (t * 4 + d).toNat 0 0 + 1)) 1 (L (nx (gX M0) t d).toNat).toNat 1 else bsF L (gX M0) f (t * 4 + d).toNat) := by
          intro L h1
          have hc2 := hc.2
          rw [h2e, h1 _ (by omega)] at hc2
          have h22 := h2e
          rw [h1 _ (by omega)] at h22
          rw [bsF_s es, (k4 ht.1 ⟨hd.1, by omega⟩).1, nxk_of ht.1 ⟨hd.1, by omega⟩, if_pos ⟨h22, hc.1, hc2⟩]
        refine ⟨fun h4 => ⟨by omega, ((200 - t) * 10 - 1 - (d + 1)).toNat, by omega, rfl, rfl, hF5, fun L h1 => ?_, ht, by omega, rfl⟩, fun h4 => ⟨by omega, by omega, ((200 - t) * 10 - 1 - (d + 1)).toNat, by omega, rfl, rfl, hF5, fun L h1 => ?_, ht, by omega, rfl⟩⟩
        · have hne : ¬ M3 (p + 5) (M0 (p + 1) (nx (gX M0) t d).toNat).toNat = 0 := fun z => by rw [if_pos z] at hx6; omega
          obtain ⟨i1, i2⟩ := hI L h1
          have el := h1 (nx (gX M0) t d).toNat (by omega)
          rw [i2 _ (by omega), el] at hne
          rw [stp L h1, if_neg hne]
          refine ⟨i1, fun j hj => ?_⟩
          by_cases z : j = (M0 (p + 1) (nx (gX M0) t d).toNat).toNat
          · subst z
            rw [up_sk, el]
            exact (((bsF_01 (L := L) (g := gX M0) (f := f) (t * 4 + d).toNat).1 (L (nx (gX M0) t d).toNat).toNat).resolve_left hne).symm
          · rw [up_nk (Or.inr z)]; exact i2 j hj
        · have hne : M3 (p + 5) (M0 (p + 1) (nx (gX M0) t d).toNat).toNat = 0 := Classical.byContradiction fun z => by rw [if_neg z] at hx6; exact h4 hx6
          obtain ⟨i1, i2⟩ := hI L h1
          have el := h1 (nx (gX M0) t d).toNat (by omega)
          rw [i2 _ (by omega), el] at hne
          rw [stp L h1, if_pos hne]
          refine ⟨by rw [up_n (by decide), up_sk, i1], fun j hj => ?_⟩
          by_cases z : j = (M0 (p + 1) (nx (gX M0) t d).toNat).toNat
          · subst z
            rw [up_sk, el, up_sk]
          · rw [up_nk (Or.inr z), up_nk (Or.inr (by rw [← el]; exact z)), up_n (by decide)]; exact i2 j hj)
theorem ok_X1_property (hA : jA ad 46) : OK_X1_property l D cy ad := met_X1_property hA (ok_X1_bordersToNothing hA) (ok_X1_bordersToOthers hA) (ok_X1_greatestDepth hA) (ok_X1_isOneSided hA) (ok_X1_loops hA) (ok_X1_partsBeside hA) (by
  rintro p f w M0 ⟨hp, hS, ⟨κ0, hκ0, hP0, hlf⟩, hf, hw⟩ hM rf rw_
  obtain ⟨⟨a1, b1⟩, ⟨a2, b2⟩, -⟩ := kd1a hp
  have hpg := kd1g hp
  have G := hS.1
  obtain ⟨nE, n9, n144⟩ := nT_b G
  have hL : ∀ κ, partsOK p M0 (gX M0) κ → labR p M0 (lab (gX M0) κ) := fun κ h t tl => (h.1 t tl).1
  have hC : ∀ κ, partsOK p M0 (gX M0) κ → crsR p M0 (crs (gX M0) κ) := fun κ h t tl => ⟨(h.1 t tl).2.1, (lab_facts G tl).2.1⟩
  have hlow : lowL p f M0 := by
    refine ⟨hf, fun t tf z => ?_⟩
    rw [(hP0.1 t (by omega)).1] at z
    have := lab_le (κ := κ0) G (nT (gX M0)) (Nat.le_refl _) t (by omega)
    unfold lab at z
    omega
  have hrng : ∀ t : Nat, t < nT (gX M0) → 0 ≤ M0 (p + 1) t ∧ M0 (p + 1) t < nT (gX M0) := fun t tl => by
    rw [(hP0.1 t tl).1]; exact (lab_facts G tl).1
  refine ⟨fun h => ⟨⟨hp, hS, hlow⟩, ?_⟩, fun h => ⟨hp, rfl, by omega, trivial, fun κ h1 h2 => ?_, fun _ _ => rfl⟩, fun h => ⟨hp, a2, ⟨by omega, by rw [b2]; omega⟩, trivial, fun κ h1 h2 => ?_, fun _ _ => rfl⟩, fun h => ⟨⟨hp, hS, hlow⟩, ?_⟩, fun h => ⟨⟨hp, hS, hlow⟩, ?_⟩, fun h => ⟨⟨hp, hS, hlow, _, hC κ0 hP0⟩, ?_⟩, fun h => ⟨⟨hp, hS, hlow, _, hC κ0 hP0⟩, ?_⟩, fun h => ⟨⟨hp, hS, hlow, hrng⟩, ?_⟩, trivial⟩
  · rintro x2 M1 - - ⟨hx, rfl⟩
    refine ⟨trivial, fun κ h1 h2 => ?_, fun _ _ => rfl⟩
    rw [hx _ _ (hL κ h2) (fun t tl => (h2.1 t tl).2.2.1)]
    unfold propF
    rw [if_neg (by omega), if_neg (by omega), if_neg (by omega), if_neg (by omega), if_neg (by omega), if_neg (by omega), if_neg (by omega)]
  · unfold propF
    rw [if_pos h]
    exact h1 _ (by omega)
  · unfold propF
    rw [if_neg (by omega), if_pos (by omega)]
    have e := (h2.1 f.toNat (by omega)).2.2.2
    have e0 := (h2.1 f.toNat (by omega)).1
    have e3 := (hP0.1 f.toNat (by omega)).1
    rw [hlf] at e3
    rw [e3] at e0
    have := e (by omega)
    rw [show ((f.toNat : Nat) : Int) = f by omega] at this
    exact this
  · rintro x2 M1 - - ⟨hx, rfl⟩
    refine ⟨trivial, fun κ h1 h2 => ?_, fun _ _ => rfl⟩
    rw [hx _ (hL κ h2)]
    unfold propF
    rw [if_neg (by omega), if_neg (by omega), if_pos (by omega)]
  · rintro x2 M1 - - ⟨hx, rfl⟩
    refine ⟨trivial, fun κ h1 h2 => ?_, fun _ _ => rfl⟩
    rw [hx _ (hL κ h2)]
    unfold propF
    rw [if_neg (by omega), if_neg (by omega), if_neg (by omega), if_pos (by omega)]
  · rintro x2 M1 - - ⟨hx, rfl⟩
    refine ⟨trivial, fun κ h1 h2 => ?_, fun _ _ => rfl⟩
    rw [hx _ _ (hL κ h2) (hC κ h2)]
    unfold propF
    rw [if_neg (by omega), if_neg (by omega), if_neg (by omega), if_neg (by omega), if_pos (by omega)]
  · rintro x2 M1 - - ⟨hx, hx01, rfl⟩
    have eq5 : ∀ κ, partsOK p M1 (gX M1) κ → propF (gX M1) κ f w = x2 := by
      intro κ h2
      have := hx _ _ (hL κ h2) (hC κ h2)
      unfold propF
      rw [if_neg (by omega), if_neg (by omega), if_neg (by omega), if_neg (by omega), if_neg (by omega), if_pos (by omega)]
      by_cases z : x2 = 1
      · obtain ⟨k, k1, k2, k3⟩ := this.mp z
        rw [show (List.range (nT (gX M1) * 4)).any (fun k => decide (lab (gX M1) κ (k / 4) = f) && odd (gX M1) (lcl (lab (gX M1) κ) (crs (gX M1) κ) (gX M1) k)) = true from List.any_eq_true.mpr ⟨k, List.mem_range.mpr k1, by rw [k3, Bool.and_true]; exact decide_eq_true k2⟩, z]
        rfl
      · rw [show (List.range (nT (gX M1) * 4)).any (fun k => decide (lab (gX M1) κ (k / 4) = f) && odd (gX M1) (lcl (lab (gX M1) κ) (crs (gX M1) κ) (gX M1) k)) = false from Bool.eq_false_iff.mpr fun y => z (this.mpr (by
          obtain ⟨k, k1, k2⟩ := List.any_eq_true.mp y
          rw [Bool.and_eq_true, decide_eq_true_eq] at k2
          exact ⟨k, List.mem_range.mp k1, k2⟩))]
        show (0 : Int) = x2
        omega
    refine ⟨fun h3 => ⟨trivial, fun κ h1 h2 => ?_, fun _ _ => rfl⟩, fun h3 => ⟨trivial, fun κ h1 h2 => ?_, fun _ _ => rfl⟩⟩
    · rw [eq5 κ h2, h3]
    · rw [eq5 κ h2]; omega
  · rintro x2 M1 - - ⟨hx, hfr⟩
    refine ⟨trivial, fun κ h1 h2 => ?_, hfr⟩
    rw [hx _ (hL κ h2)]
    unfold propF
    rw [if_neg (by omega), if_neg (by omega), if_neg (by omega), if_neg (by omega), if_neg (by omega), if_neg (by omega), if_pos (by omega)])
end Q3
