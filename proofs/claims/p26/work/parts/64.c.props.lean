/-! ===== a part's loops, its neighbours, its depth ===== -/
def okL (s : Int) : Prop := s = 1 ∨ s = 3 ∨ s = 5 ∨ s = 9 ∨ s = 15
def flB (x y : Bool) (s : Int) : Bool := (decide (0 < bAnd s 2) && x) || (decide (0 < bAnd s 4) && y) || (decide (0 < bAnd s 8) && (x != y))
theorem wl_all : ∀ x y : Bool, ∀ s ∈ ([1, 3, 5, 9, 15] : List Int), ∀ c ∈ ([0, 1, 2, 3] : List Int), wlN s c 4 ∈ ([1, 3, 5, 9, 15] : List Int) ∧ flB x y (wlN s c 4) = (flB x y s || oddB x y c) ∧
    (bAnd s 10 = 0 → (c = 0 ∨ c = 2) → bAnd (wlN s c 4) 10 = 0) ∧ (bAnd s 12 = 0 → (c = 0 ∨ c = 1) → bAnd (wlN s c 4) 12 = 0) := by decide +kernel
theorem okL_iff {s : Int} : okL s ↔ s ∈ ([1, 3, 5, 9, 15] : List Int) := by
  unfold okL
  simp
theorem wl_step {x y : Bool} {s c : Int} (hs : okL s) (hc : 0 ≤ c ∧ c ≤ 3) : okL (wlN s c 4) ∧ flB x y (wlN s c 4) = (flB x y s || oddB x y c) ∧
    (bAnd s 10 = 0 → (c = 0 ∨ c = 2) → bAnd (wlN s c 4) 10 = 0) ∧ (bAnd s 12 = 0 → (c = 0 ∨ c = 1) → bAnd (wlN s c 4) 12 = 0) := by
  have h := wl_all x y s (okL_iff.mp hs) c (by
    rcases (by omega : c = 0 ∨ c = 1 ∨ c = 2 ∨ c = 3) with rfl | rfl | rfl | rfl <;> decide)
  exact ⟨okL_iff.mpr h.1, h.2⟩
section PP
variable {g κ : Nat → Int}
theorem lcl_b (G : gOK g) {k : Nat} (hk : k < nT g * 4) : (0 ≤ lcl (lab g κ) (crs g κ) g k ∧ lcl (lab g κ) (crs g κ) g k ≤ 3) ∧ (g 2 = 0 → lcl (lab g κ) (crs g κ) g k = 0 ∨ lcl (lab g κ) (crs g κ) g k = 2) ∧ (g 4 = 0 → lcl (lab g κ) (crs g κ) g k = 0 ∨ lcl (lab g κ) (crs g κ) g k = 1) := by
  obtain ⟨h1, h2⟩ := nxk_b G hk
  unfold lcl
  split
  next h =>
    have h3 := (h2.resolve_left (by have := h.1; omega)).2
    have c1 := (lab_facts (κ := κ) G h1).2.1
    have c2 := (lab_facts (κ := κ) G h3).2.1
    have d1 := crs_1 (κ := κ) G h1
    have d2 := crs_1 (κ := κ) G h3
    have hs := sm_b (g := g) (t := ((k / 4 : Nat) : Int)) (d := ((k % 4 : Nat) : Int))
    refine ⟨?_, fun g2 => ?_, fun g4 => ?_⟩
    · have b1 := bX3 c1 hs
      generalize bXor (crs g κ (k / 4)) (sm g ((k / 4 : Nat) : Int) ((k % 4 : Nat) : Int)) = a at b1 ⊢
      generalize crs g κ (nxk g k).toNat = b at c2 ⊢
      rcases (by omega : a = 0 ∨ a = 1 ∨ a = 2 ∨ a = 3) with rfl | rfl | rfl | rfl <;> rcases (by omega : b = 0 ∨ b = 1 ∨ b = 2 ∨ b = 3) with rfl | rfl | rfl | rfl <;> decide
    · exact x02 (x02 (d1.1 g2) (by have := sm_n1 h.1 g2; omega)) (d2.1 g2)
    · exact x01 (x01 (d1.2 g4) (by have := sm_n2 h.1 g4; omega)) (d2.2 g4)
  next h => exact ⟨by omega, fun _ => Or.inl rfl, fun _ => Or.inl rfl⟩
abbrev lpN (g κ : Nat → Int) (f : Int) (n : Nat) : Int := lpF (lab g κ) (crs g κ) g f n
theorem lp_inv (G : gOK g) {f : Int} : ∀ n : Nat, n ≤ nT g * 4 → okL (lpN g κ f n) ∧ flB (decide (g 2 = 2)) (decide (g 4 = 2)) (lpN g κ f n) = (List.range n).any (fun k => decide (lab g κ (k / 4) = f) && odd g (lcl (lab g κ) (crs g κ) g k)) ∧
    (g 2 = 0 → bAnd (lpN g κ f n) 10 = 0) ∧ (g 4 = 0 → bAnd (lpN g κ f n) 12 = 0) := by
  intro n
  induction n with
  | zero =>
    intro _
    refine ⟨Or.inl rfl, ?_, fun _ => by show bAnd 1 10 = 0; decide, fun _ => by show bAnd 1 12 = 0; decide⟩
    show flB _ _ 1 = false
    cases decide (g 2 = 2) <;> cases decide (g 4 = 2) <;> decide
  | succ n ih =>
    intro hn
    obtain ⟨a1, a2, a3, a4⟩ := ih (by omega)
    obtain ⟨b1, b2, b3⟩ := lcl_b (κ := κ) G (k := n) (by omega)
    obtain ⟨s1, s2, s3, s4⟩ := wl_step (x := decide (g 2 = 2)) (y := decide (g 4 = 2)) a1 b1
    rw [List.range_succ, List.any_append]
    show okL (if lab g κ (n / 4) = f then wlN (lpN g κ f n) (lcl (lab g κ) (crs g κ) g n) 4 else lpN g κ f n) ∧ flB _ _ (if lab g κ (n / 4) = f then wlN (lpN g κ f n) (lcl (lab g κ) (crs g κ) g n) 4 else lpN g κ f n) = _ ∧ (_ → bAnd (if lab g κ (n / 4) = f then wlN (lpN g κ f n) (lcl (lab g κ) (crs g κ) g n) 4 else lpN g κ f n) 10 = 0) ∧ (_ → bAnd (if lab g κ (n / 4) = f then wlN (lpN g κ f n) (lcl (lab g κ) (crs g κ) g n) 4 else lpN g κ f n) 12 = 0)
    by_cases q : lab g κ (n / 4) = f
    · rw [if_pos q]
      refine ⟨s1, ?_, fun h => s3 (a3 h) (b2 h), fun h => s4 (a4 h) (b3 h)⟩
      rw [s2, a2]
      simp [q, odd]
    · rw [if_neg q]
      refine ⟨a1, ?_, a3, a4⟩
      rw [a2]
      simp [q]
/-- the labels that have been met -/
theorem bs_inv (G : gOK g) {f : Int} : ∀ k : Nat, k ≤ nT g * 4 → (∀ j : Nat, (bsF (lab g κ) g f k 1 j = 0 ∨ bsF (lab g κ) g f k 1 j = 1) ∧ (bsF (lab g κ) g f k 1 j = 1 → j < nT g ∧ lab g κ j = (j : Int) ∧ (j : Int) ≠ f)) ∧ bsF (lab g κ) g f k 0 0 = sumF (fun j => bsF (lab g κ) g f k 1 j) (nT g) := by
  intro k
  induction k with
  | zero =>
    intro _
    exact ⟨fun j => ⟨Or.inl rfl, fun h => absurd h (by show ¬ (0 : Int) = 1; decide)⟩, (sumF_0 (fun _ => rfl) (nT g)).symm⟩
  | succ k ih =>
    intro hk
    obtain ⟨a1, a2⟩ := ih (by omega)
    obtain ⟨h1, h2⟩ := nxk_b G (k := k) (by omega)
    unfold bsF
    split
    next h =>
      have h3 := (h2.resolve_left (by have := h.2.1; omega)).2
      have hb := labR_b (κ := κ) G _ h3
      have hr := labR_r (κ := κ) G _ h3
      have hc : (((lab g κ (nxk g k).toNat).toNat : Nat) : Int) = lab g κ (nxk g k).toNat := by omega
      split
      next h4 =>
        have e1 : ∀ v, up (up (bsF (lab g κ) g f k) 0 0 v) 1 (lab g κ (nxk g k).toNat).toNat 1 1 = upR (bsF (lab g κ) g f k 1) (lab g κ (nxk g k).toNat).toNat 1 := fun v => by rw [up_s, up_n (by decide)]
        rw [e1]
        refine ⟨fun j => ?_, ?_⟩
        · by_cases q : j = (lab g κ (nxk g k).toNat).toNat
          · rw [q, upR_s]
            exact ⟨Or.inr rfl, fun _ => ⟨by omega, by rw [hc]; exact hr, by rw [hc]; exact h.2.2⟩⟩
          · rw [upR_n q]
            exact a1 j
        · rw [up_n (by decide), up_sk, a2, sumF_upd (f := fun j => upR (bsF (lab g κ) g f k 1) (lab g κ (nxk g k).toNat).toNat 1 j) (h := fun j => bsF (lab g κ) g f k 1 j) (k := (lab g κ (nxk g k).toNat).toNat) (by omega) (fun j _ hj => upR_n hj)]
          rw [upR_s, h4]
          omega
      next h4 => exact ⟨a1, a2⟩
    next h => exact ⟨a1, a2⟩
theorem bs_le (G : gOK g) {f : Nat} (hf : f < nT g) (hl : lab g κ f = (f : Int)) : bsF (lab g κ) g f (nT g * 4) 0 0 ≤ cntS (lab g κ) (nT g) - 1 := by
  obtain ⟨a1, a2⟩ := bs_inv (κ := κ) G (f := (f : Int)) (nT g * 4) (Nat.le_refl _)
  have h1 : sumF (fun j => bsF (lab g κ) g f (nT g * 4) 1 j + (if j = f then 1 else 0)) (nT g) ≤ cntS (lab g κ) (nT g) := by
    refine sumF_mono fun j hj => ?_
    have b := a1 j
    by_cases q : j = f
    · subst q
      rw [if_pos rfl, if_pos hl]
      rcases b.1 with z | z
      · omega
      · exact absurd rfl (b.2 z).2.2
    · rw [if_neg q]
      rcases b.1 with z | z
      · have := if01 (lab g κ j = (j : Int)); omega
      · rw [if_pos (b.2 z).2.1]; omega
  rw [sumF_add, sumF_one (v := fun _ => 1) hf] at h1
  have h2 : bsF (lab g κ) g f (nT g * 4) 0 0 + 1 ≤ cntS (lab g κ) (nT g) := by
    rw [a2]
    exact h1
  omega
theorem gd_is {f : Int} (n : Nat) : gdF (lab g κ) (dep g κ) f n = 0 ∨ ∃ u : Nat, u < n ∧ lab g κ u = f ∧ dep g κ u = gdF (lab g κ) (dep g κ) f n := by
  induction n with
  | zero => exact Or.inl rfl
  | succ n ih =>
    unfold gdF
    split
    next h => exact Or.inr ⟨n, by omega, h.1, rfl⟩
    next h => exact ih.imp id (fun ⟨u, u1, u2⟩ => ⟨u, by omega, u2⟩)
theorem dep_chain (G : gOK g) {f : Int} : ∀ (d u : Nat), u < nT g → lab g κ u = f → dep g κ u = (d : Int) → ∀ e : Nat, e ≤ d → ∃ v : Nat, v < nT g ∧ lab g κ v = f ∧ dep g κ v = (e : Int) := by
  intro d
  induction d with
  | zero =>
    intro u ul uf ud e he
    rw [show e = 0 by omega]
    exact ⟨u, ul, uf, ud⟩
  | succ d ih =>
    intro u ul uf ud e he
    by_cases q : e = d + 1
    · rw [q]; exact ⟨u, ul, uf, ud⟩
    · rcases dep_1 (κ := κ) G ul with z | ⟨-, v, v1, v2, v3⟩
      · omega
      · exact ih v v1 (by rw [v2, uf]) (by rw [v3, ud]; omega) e (by omega)
theorem gd_lt (G : gOK g) {f : Nat} (hf : f < nT g) (hl : lab g κ f = (f : Int)) : gdF (lab g κ) (dep g κ) f (nT g) < cntL (lab g κ) f (nT g) := by
  have h0 : (1 : Int) ≤ cntL (lab g κ) f (nT g) := by
    have := sumF_ge (f := fun t => if lab g κ t = (f : Int) then (1 : Int) else 0) (n := nT g) (k := f) (fun j _ => (if01 _).1) hf
    rwa [if_pos hl] at this
  rcases gd_is (g := g) (κ := κ) (f := (f : Int)) (nT g) with h | ⟨u, u1, u2, u3⟩
  · omega
  · rw [← u3]
    have db := (lab_facts (κ := κ) G u1).2.2.1
    generalize hd : dep g κ u = d at db
    have ch := dep_chain (κ := κ) G d.toNat u u1 u2 (by omega)
    have one : ∀ n, sumF (fun _ => (1 : Int)) n = n := by
      intro n
      induction n with
      | zero => rfl
      | succ n ih => unfold sumF; rw [ih]; omega
    have h1 : sumF (fun _ => (1 : Int)) (d.toNat + 1) ≤ sumF (fun e => sumF (fun t => if lab g κ t = (f : Int) ∧ dep g κ t = (e : Int) then (1 : Int) else 0) (nT g)) (d.toNat + 1) := by
      refine sumF_mono fun e he => ?_
      obtain ⟨v, v1, v2, v3⟩ := ch e (by omega)
      have := sumF_ge (f := fun t => if lab g κ t = (f : Int) ∧ dep g κ t = (e : Int) then (1 : Int) else 0) (n := nT g) (k := v) (fun j _ => (if01 _).1) v1
      rwa [if_pos ⟨v2, v3⟩] at this
    rw [one, sumF_swap] at h1
    have h2 : sumF (fun t => sumF (fun e => if lab g κ t = (f : Int) ∧ dep g κ t = ((e : Nat) : Int) then (1 : Int) else 0) (d.toNat + 1)) (nT g) ≤ cntL (lab g κ) f (nT g) := by
      refine sumF_mono fun t ht => ?_
      have tb := (lab_facts (κ := κ) G ht).2.2.1
      by_cases q : lab g κ t = (f : Int)
      · rw [if_pos q]
        by_cases q2 : (dep g κ t).toNat < d.toNat + 1
        · rw [sumF_congr (h := fun e => if e = (dep g κ t).toNat then 1 else 0) (fun e _ => by
            by_cases q3 : e = (dep g κ t).toNat
            · rw [if_pos q3, if_pos ⟨q, by omega⟩]
            · rw [if_neg q3, if_neg (fun z => q3 (by have := z.2; omega))]), sumF_one (v := fun _ => 1) q2]
          exact Int.le_refl _
        · rw [sumF_low (fun e he => if_neg (fun z => by have := z.2; omega))]
          omega
      · rw [if_neg q, sumF_low (fun e _ => if_neg (fun z => q z.1))]
        exact Int.le_refl _
    omega
end PP
