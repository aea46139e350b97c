/-! ===== going through the parts once more: what each tile's part, class and depth come from ===== -/
theorem nx_opn {g : Nat → Int} {t d : Int} (h : 0 ≤ nx g t d) : opn g (t % g 0) (t / g 0) d := by
  unfold nx at h
  split at h
  · assumption
  · omega
theorem sm_n1 {g : Nat → Int} {t d : Int} (h : 0 ≤ nx g t d) (h2 : g 2 = 0) : sm g t d ≠ 1 := fun z => (nx_opn h).1 ⟨z, h2⟩
theorem sm_n2 {g : Nat → Int} {t d : Int} (h : 0 ≤ nx g t d) (h2 : g 4 = 0) : sm g t d ≠ 2 := fun z => (nx_opn h).2 ⟨z, h2⟩
/-- a row that steps within a kind do not change -/
def clR (g κ r : Nat → Int) : Prop := ∀ t : Nat, t < nT g → ∀ d : Int, 0 ≤ d → d < 4 → 0 ≤ nx g t d → κ (nx g t d).toNat = κ t → r (nx g t d).toNat = r t
def tileI (g r : Nat → Int) (B : Mem) (t : Nat) : Prop :=
  r t = r (B 0 t).toNat ∧ (g 2 = 0 → B 1 t = 0 ∨ B 1 t = 2) ∧ (g 4 = 0 → B 1 t = 0 ∨ B 1 t = 1) ∧ (B 2 t = 0 ∨ (0 < B 2 t ∧ ∃ u : Nat, u < nT g ∧ 0 ≤ B 0 u ∧ B 0 u = B 0 t ∧ B 2 u = B 2 t - 1))
def BI (g r : Nat → Int) (B : Mem) : Prop := ∀ t : Nat, t < nT g → 0 ≤ B 0 t → tileI g r B t
theorem tileI_keep {g r : Nat → Int} {B B' : Mem} (h : BI g r B) (e : ∀ t : Nat, t < nT g → 0 ≤ B 0 t → B' 0 t = B 0 t ∧ B' 1 t = B 1 t ∧ B' 2 t = B 2 t) {t : Nat} (ht : t < nT g) (h0 : 0 ≤ B 0 t) : tileI g r B' t := by
  obtain ⟨a1, a2, a3, a4⟩ := h t ht h0
  obtain ⟨e0, e1, e2⟩ := e t ht h0
  unfold tileI
  rw [e0, e1, e2]
  refine ⟨a1, a2, a3, a4.imp id (fun ⟨b0, u, u1, u2, u3, u4⟩ => ⟨b0, u, u1, ?_⟩)⟩
  obtain ⟨f0, f1, f2⟩ := e u u1 u2
  rw [f0, f2]
  exact ⟨u2, u3, u4⟩
theorem x02 {a s : Int} (ha : a = 0 ∨ a = 2) (hs : s = 0 ∨ s = 2) : bXor a s = 0 ∨ bXor a s = 2 := by
  rcases ha with rfl | rfl <;> rcases hs with rfl | rfl <;> decide
theorem x01 {a s : Int} (ha : a = 0 ∨ a = 1) (hs : s = 0 ∨ s = 1) : bXor a s = 0 ∨ bXor a s = 1 := by
  rcases ha with rfl | rfl <;> rcases hs with rfl | rfl <;> decide
theorem BI_vis {g κ r : Nat → Int} (G : gOK g) (hr : clR g κ r) {f : Int} {k d : Nat} {B : Mem} (hd : d < 4) (hk : (k : Int) < B 4 0) (h : BF g κ f k d B) (hI : BI g r B) : BI g r (bvis g κ f (B 3 k) d B) := by
  obtain ⟨-, -, -, keep⟩ := BF_vis G hd hk h
  obtain ⟨⟨hf, hff⟩, h1, ⟨h2, h3⟩, h4, h5, h6⟩ := id h
  obtain ⟨nE, n9, n144⟩ := nT_b G
  obtain ⟨ht, htl, htd⟩ := h4 k hk
  intro t tl t0
  by_cases q : 0 ≤ B 0 t
  · exact tileI_keep hI keep tl q
  · unfold bvis at t0 keep ⊢
    split at t0
    next hc =>
      rw [if_pos hc] at keep ⊢
      obtain ⟨c1, c2, c3⟩ := hc
      have hu := (nx_b G (d := (d : Int)) ht.1 (by omega)).resolve_left (by omega)
      have hT : B 3 k = ((B 3 k).toNat : Int) := by omega
      have hTl := hI (B 3 k).toNat (by omega) (by omega)
      have hTb := (h1 (B 3 k).toNat (by omega)).resolve_left (by omega)
      have e : t = (nx g (B 3 k) d).toNat := Classical.byContradiction fun z => by
        rw [badd_0, upR_n z] at t0
        exact q t0
      subst e
      have kp := keep (B 3 k).toNat (by omega) (by omega)
      obtain ⟨a1, a2, a3, a4⟩ := hTl
      have er : r (nx g (B 3 k) d).toNat = r (B 3 k).toNat := by
        have := hr (B 3 k).toNat (by omega) d (by omega) (by omega)
        rw [← hT] at this
        exact this c1 c3
      unfold tileI
      refine ⟨?_, fun g2 => ?_, fun g4 => ?_, Or.inr ⟨?_, (B 3 k).toNat, by omega, ?_⟩⟩
      · rw [badd_0, upR_s, er, a1, htl]
      · rw [badd_1, upR_s]
        have := sm_n1 c1 g2
        exact x02 (a2 g2) (by rcases sm_b (g := g) (t := B 3 k) (d := d) with z | z | z <;> omega)
      · rw [badd_1, upR_s]
        have := sm_n2 c1 g4
        exact x01 (a3 g4) (by rcases sm_b (g := g) (t := B 3 k) (d := d) with z | z | z <;> omega)
      · rw [badd_2, upR_s]; omega
      · obtain ⟨k0, k1, k2⟩ := kp
        rw [k0, k2, badd_0, upR_s, badd_2, upR_s, htl]
        exact ⟨hf.1, rfl, by omega⟩
    next hc => exact absurd t0 q
theorem BI_exp {g κ r : Nat → Int} (G : gOK g) (hr : clR g κ r) {f : Int} {k : Nat} {B : Mem} (hk : (k : Int) < B 4 0) (h : BF g κ f k 0 B) (hI : BI g r B) : ∀ d : Nat, d ≤ 4 → BI g r (bexp g κ f (B 3 k) d B) := by
  intro d
  induction d with
  | zero => intro _; exact hI
  | succ d ih =>
    intro hd
    obtain ⟨a1, a2, a3, -⟩ := BF_exp G hk h d (by omega)
    have e := a2 k hk
    have := BI_vis G hr (d := d) (by omega) (by omega) a1 (ih (by omega))
    rw [e] at this
    exact this
theorem BI_fl {g κ r : Nat → Int} (G : gOK g) (hr : clR g κ r) {f : Int} {B : Mem} (h : BG g κ B) (hf : 0 ≤ f ∧ f < nT g) (hu : B 0 f.toNat < 0) (hI : BI g r B) : ∀ k : Nat, BI g r (bfl g κ f B k) := by
  intro k
  induction k with
  | zero =>
    show BI g r (bini f B)
    obtain ⟨-, keep⟩ := BF_ini G h hf hu
    intro t tl t0
    by_cases q : 0 ≤ B 0 t
    · exact tileI_keep hI keep tl q
    · have e : t = f.toNat := Classical.byContradiction fun z => by
        rw [bini_0, upR_n z] at t0
        exact q t0
      subst e
      unfold tileI
      rw [bini_0, bini_1, bini_2, upR_s, upR_s, upR_s]
      exact ⟨rfl, fun _ => Or.inl rfl, fun _ => Or.inl rfl, Or.inl rfl⟩
  | succ k ih =>
    have a1 := (BF_fl G h hf hu k).1
    unfold bfl
    split
    next hk => exact BI_exp G hr hk a1 ih 4 (Nat.le_refl 4)
    next hk => exact ih
theorem BI_ly {g κ r : Nat → Int} (G : gOK g) (hr : clR g κ r) : ∀ i : Nat, i ≤ nT g → BI g r (bly g κ i) := by
  intro i
  induction i with
  | zero => intro _ t _ t0; exact absurd t0 (by show ¬ (0 : Int) ≤ -1; decide)
  | succ i ih =>
    intro hi
    unfold bly
    split
    next hu => exact BI_fl G hr (f := (i : Int)) (BG_ly G i (by omega)).1 (by omega) (by simpa using hu) (ih (by omega)) 144
    next hu => exact ih (by omega)
theorem lab_I {g κ r : Nat → Int} (G : gOK g) (hr : clR g κ r) {t : Nat} (ht : t < nT g) : tileI g r (bly g κ (nT g)) t := BI_ly G hr (nT g) (Nat.le_refl _) t ht (lab_facts (κ := κ) G ht).1.1
theorem clR_0 {g κ : Nat → Int} : clR g κ (fun _ => 0) := fun _ _ _ _ _ _ _ => rfl
/-- the least row: what steps within a kind leave alone is the same all over a part -/
theorem lab_min {g κ r : Nat → Int} (G : gOK g) (hr : clR g κ r) {t u : Nat} (ht : t < nT g) (hu : u < nT g) (e : lab g κ t = lab g κ u) : r t = r u := by
  have h1 := (lab_I G hr ht).1
  have h2 := (lab_I G hr hu).1
  unfold lab at e
  rw [h1, h2, e]
theorem crs_1 {g κ : Nat → Int} (G : gOK g) {t : Nat} (ht : t < nT g) : (g 2 = 0 → crs g κ t = 0 ∨ crs g κ t = 2) ∧ (g 4 = 0 → crs g κ t = 0 ∨ crs g κ t = 1) := by
  have h := lab_I (κ := κ) G clR_0 ht
  exact ⟨h.2.1, h.2.2.1⟩
theorem dep_1 {g κ : Nat → Int} (G : gOK g) {t : Nat} (ht : t < nT g) : dep g κ t = 0 ∨ (0 < dep g κ t ∧ ∃ u : Nat, u < nT g ∧ lab g κ u = lab g κ t ∧ dep g κ u = dep g κ t - 1) := by
  have h := (lab_I (κ := κ) G clR_0 ht).2.2.2
  exact h.imp id (fun ⟨h0, u, u1, _, u3, u4⟩ => ⟨h0, u, u1, u3, u4⟩)
theorem lab_cl {g κ : Nat → Int} (G : gOK g) : clR g κ (lab g κ) := fun t ht d d0 d4 hn hk => (lab_facts G ht).2.2.2.2.2 d d0 d4 hn hk
theorem lab_le1 {g κ : Nat → Int} (G : gOK g) {t : Nat} (ht : t < nT g) : lab g κ t ≤ t := lab_le G (nT g) (Nat.le_refl _) t ht
/-- a neighbour of another kind has another label -/
theorem lab_k {g κ : Nat → Int} (G : gOK g) {t u : Nat} (ht : t < nT g) (hu : u < nT g) (e : lab g κ t = lab g κ u) : κ t = κ u := by
  have h1 := (lab_facts (κ := κ) G ht).2.2.2.2.1
  have h2 := (lab_facts (κ := κ) G hu).2.2.2.2.1
  rw [← h1, ← h2, e]
