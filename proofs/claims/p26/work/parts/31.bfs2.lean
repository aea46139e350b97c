/-! a whole tile, a whole part, all parts -/
theorem BF_exp {g κ : Nat → Int} (G : gOK g) {f : Int} {k : Nat} {B : Mem} (hk : (k : Int) < B 4 0) (h : BF g κ f k 0 B) : ∀ d : Nat, d ≤ 4 →
    BF g κ f k d (bexp g κ f (B 3 k) d B) ∧ (∀ j : Nat, (j : Int) < B 4 0 → bexp g κ f (B 3 k) d B 3 j = B 3 j) ∧ B 4 0 ≤ bexp g κ f (B 3 k) d B 4 0 ∧ (∀ t : Nat, t < nT g → 0 ≤ B 0 t → bexp g κ f (B 3 k) d B 0 t = B 0 t ∧ bexp g κ f (B 3 k) d B 1 t = B 1 t ∧ bexp g κ f (B 3 k) d B 2 t = B 2 t) := by
  intro d
  induction d with
  | zero => intro _; exact ⟨h, fun _ _ => rfl, Int.le_refl _, fun _ _ _ => ⟨rfl, rfl, rfl⟩⟩
  | succ d ih =>
    intro hd
    obtain ⟨a1, a2, a3, a4⟩ := ih (by omega)
    have e := a2 k hk
    obtain ⟨b1, b2, b3, b4⟩ := BF_vis G (d := d) (by omega) (by omega) a1
    rw [e] at b1 b2 b3 b4
    show BF g κ f k (d + 1) (bvis g κ f (B 3 k) d (bexp g κ f (B 3 k) d B)) ∧ _
    refine ⟨b1, fun j hj => ?_, ?_, fun t tl t0 => ?_⟩
    · show bvis g κ f (B 3 k) d (bexp g κ f (B 3 k) d B) 3 j = B 3 j
      rw [b2 j (by omega), a2 j hj]
    · show _ ≤ bvis g κ f (B 3 k) d (bexp g κ f (B 3 k) d B) 4 0
      omega
    · obtain ⟨c1, c2, c3⟩ := a4 t tl t0
      obtain ⟨d1, d2, d3⟩ := b4 t tl (by omega)
      exact ⟨d1.trans c1, d2.trans c2, d3.trans c3⟩
theorem BF_next {g κ : Nat → Int} {f : Int} {k : Nat} {B : Mem} (h : BF g κ f k 4 B) : BF g κ f (k + 1) 0 B := by
  obtain ⟨h0, h1, h2, h4, h5, h6⟩ := h
  refine ⟨h0, h1, h2, h4, h5, fun j hj e e0 e4 hje hn hκ => h6 j hj e e0 e4 ?_ hn hκ⟩
  omega
/-- a flood that is through -/
theorem BF_end {g κ : Nat → Int} {f : Int} {k : Nat} {B : Mem} (hk : B 4 0 ≤ k) (h : BF g κ f k 0 B) : BF g κ f (k + 1) 0 B := by
  obtain ⟨h0, h1, h2, h4, h5, h6⟩ := h
  exact ⟨h0, h1, h2, h4, h5, fun j hj e e0 e4 hje hn hκ => h6 j hj e e0 e4 (Or.inl (by omega)) hn hκ⟩
theorem BF_ini {g κ : Nat → Int} (G : gOK g) {f : Int} {B : Mem} (h : BG g κ B) (hf : 0 ≤ f ∧ f < nT g) (hu : B 0 f.toNat < 0) : BF g κ f 0 0 (bini f B) ∧ (∀ t : Nat, t < nT g → 0 ≤ B 0 t → bini f B 0 t = B 0 t ∧ bini f B 1 t = B 1 t ∧ bini f B 2 t = B 2 t) := by
  obtain ⟨nE, n9, n144⟩ := nT_b G
  have hfl : f.toNat < nT g := by omega
  have hfe : ((f.toNat : Nat) : Int) = f := by omega
  refine ⟨⟨⟨hf, by rw [bini_0, upR_s]⟩, fun t tl => ?_, ⟨by rw [bini_4]; omega, ?_⟩, fun j hj => ?_, fun t tl tf => ?_, fun j hj e e0 e4 hje _ _ => by omega⟩, fun t tl t0 => ?_⟩
  · rw [bini_0, bini_1, bini_2]
    by_cases q : t = f.toNat
    · subst q
      rw [upR_s, upR_s, upR_s, upR_s]
      exact Or.inr ⟨hf, by omega, by omega, rfl, rfl, fun z => absurd rfl z⟩
    · rw [upR_n q, upR_n q, upR_n q]
      rcases h t tl with z | ⟨z1, z2, z3, z4, z5, z6⟩
      · exact Or.inl z
      · have hne : (B 0 t).toNat ≠ f.toNat := fun y => by rw [y] at z4; omega
        refine Or.inr ⟨z1, z2, z3, by rw [upR_n hne]; exact z4, z5, fun y d' d0 d4 y1 y2 => ?_⟩
        have hv := z6 d' d0 d4 y1 y2
        rw [upR_n (fun w => by rw [w] at hv; omega)]
        exact hv
  · rw [bini_4, bini_0]
    have hz : ∀ t : Nat, t < nT g → B 0 t ≠ f := fun t tl z => by
      rcases h t tl with y | ⟨y1, y2, y3, y4, -⟩
      · omega
      · rw [z] at y4; omega
    show (1 : Int) = sumF _ _
    rw [sumF_upd (f := fun t => if upR (B 0) f.toNat f t = f then (1 : Int) else 0) (h := fun _ => 0) hfl (fun j hj hne => by rw [upR_n hne, if_neg (hz j hj)])]
    rw [upR_s, if_pos rfl]
    have : ∀ n : Nat, sumF (fun _ => (0 : Int)) n = 0 := fun n => by
      induction n with
      | zero => rfl
      | succ n ih => unfold sumF; rw [ih]; rfl
    rw [this]; rfl
  · rw [bini_4] at hj
    have : j = 0 := by omega
    subst this
    rw [bini_3, upR_s, bini_0, bini_2, upR_s, upR_s]
    exact ⟨hf, rfl, by omega⟩
  · rw [bini_0] at tf
    by_cases q : t = f.toNat
    · exact ⟨0, by rw [bini_4]; omega, by rw [bini_3, upR_s]; omega⟩
    · rw [upR_n q] at tf
      rcases h t tl with y | ⟨y1, y2, y3, y4, -⟩
      · omega
      · rw [tf] at y4; omega
  · have q : t ≠ f.toNat := fun y => by rw [y] at t0; omega
    rw [bini_0, bini_1, bini_2, upR_n q, upR_n q, upR_n q]
    exact ⟨rfl, rfl, rfl⟩
theorem BF_fl {g κ : Nat → Int} (G : gOK g) {f : Int} {B : Mem} (h : BG g κ B) (hf : 0 ≤ f ∧ f < nT g) (hu : B 0 f.toNat < 0) : ∀ k : Nat, BF g κ f k 0 (bfl g κ f B k) ∧ (∀ t : Nat, t < nT g → 0 ≤ B 0 t → bfl g κ f B k 0 t = B 0 t ∧ bfl g κ f B k 1 t = B 1 t ∧ bfl g κ f B k 2 t = B 2 t) := by
  intro k
  induction k with
  | zero => exact BF_ini G h hf hu
  | succ k ih =>
    obtain ⟨a1, a2⟩ := ih
    unfold bfl
    split
    next hk =>
      obtain ⟨b1, -, -, b4⟩ := BF_exp G hk a1 4 (Nat.le_refl 4)
      refine ⟨BF_next b1, fun t tl t0 => ?_⟩
      obtain ⟨c1, c2, c3⟩ := a2 t tl t0
      obtain ⟨d1, d2, d3⟩ := b4 t tl (by omega)
      exact ⟨d1.trans c1, d2.trans c2, d3.trans c3⟩
    next hk => exact ⟨BF_end (by omega) a1, a2⟩
theorem bfl_stop {g κ : Nat → Int} {f : Int} {B : Mem} {k : Nat} (hk : bfl g κ f B k 4 0 ≤ k) : ∀ j : Nat, bfl g κ f B (k + j) = bfl g κ f B k := by
  intro j
  induction j with
  | zero => rfl
  | succ j ih =>
    show (if ((k + j : Nat) : Int) < bfl g κ f B (k + j) 4 0 then _ else bfl g κ f B (k + j)) = _
    rw [ih, if_neg (by omega)]
theorem bfl_all {g κ : Nat → Int} {f : Int} {B : Mem} {k : Nat} (hk : bfl g κ f B k 4 0 ≤ k) (h : k ≤ 144) : bfl g κ f B 144 = bfl g κ f B k := by
  have := bfl_stop hk (144 - k)
  rwa [show k + (144 - k) = 144 by omega] at this
theorem bvis_lab {g κ : Nat → Int} {f t d : Int} {B : Mem} (j : Nat) : bvis g κ f t d B 0 j = B 0 j ∨ bvis g κ f t d B 0 j = f := by
  unfold bvis
  split
  · rw [badd_0]
    by_cases q : j = (nx g t d).toNat
    · rw [q, upR_s]; exact Or.inr rfl
    · rw [upR_n q]; exact Or.inl rfl
  · exact Or.inl rfl
theorem bexp_lab {g κ : Nat → Int} {f t : Int} {B : Mem} (d j : Nat) : bexp g κ f t d B 0 j = B 0 j ∨ bexp g κ f t d B 0 j = f := by
  induction d with
  | zero => exact Or.inl rfl
  | succ d ih =>
    rcases bvis_lab (g := g) (κ := κ) (f := f) (t := t) (d := d) (B := bexp g κ f t d B) j with z | z
    · rcases ih with y | y
      · exact Or.inl (z.trans y)
      · exact Or.inr (z.trans y)
    · exact Or.inr z
theorem bfl_lab {g κ : Nat → Int} {f : Int} {B : Mem} (k j : Nat) : bfl g κ f B k 0 j = B 0 j ∨ bfl g κ f B k 0 j = f := by
  induction k with
  | zero =>
    show bini f B 0 j = _ ∨ bini f B 0 j = _
    rw [bini_0]
    by_cases q : j = f.toNat
    · rw [q, upR_s]; exact Or.inr rfl
    · rw [upR_n q]; exact Or.inl rfl
  | succ k ih =>
    unfold bfl
    split
    · rcases bexp_lab (g := g) (κ := κ) (f := f) (t := bfl g κ f B k 3 k) (B := bfl g κ f B k) 4 j with z | z
      · rcases ih with y | y
        · exact Or.inl (z.trans y)
        · exact Or.inr (z.trans y)
      · exact Or.inr z
    · exact ih
/-- behind a part: all that was labelled stays, f's part is closed -/
theorem BG_fl {g κ : Nat → Int} (G : gOK g) {f : Int} {B : Mem} (h : BG g κ B) (hf : 0 ≤ f ∧ f < nT g) (hu : B 0 f.toNat < 0) :
    BG g κ (bfl g κ f B 144) ∧ bfl g κ f B 144 0 f.toNat = f ∧ bfl g κ f B 144 4 0 = cntL (bfl g κ f B 144 0) f (nT g) ∧ (∀ t : Nat, t < nT g → 0 ≤ B 0 t → bfl g κ f B 144 0 t = B 0 t) ∧ (∀ t : Nat, t < nT g → B 0 t < 0 → bfl g κ f B 144 0 t = -1 ∨ bfl g κ f B 144 0 t = f) := by
  obtain ⟨a1, a2⟩ := BF_fl G h hf hu 144
  obtain ⟨⟨hf1, hff⟩, h1, ⟨h2, h3⟩, h4, h5, h6⟩ := id a1
  obtain ⟨nE, n9, n144⟩ := nT_b G
  have hq := BF_q G a1
  refine ⟨fun t tl => ?_, hff, h3, fun t tl t0 => (a2 t tl t0).1, fun t tl t0 => ?_⟩
  · rcases h1 t tl with z | ⟨z1, z2, z3, z4, z5, z6⟩
    · exact Or.inl z
    · refine Or.inr ⟨z1, z2, z3, z4, z5, fun d d0 d4 y1 y2 => ?_⟩
      by_cases q : bfl g κ f B 144 0 t = f
      · obtain ⟨j, j1, j2⟩ := h5 t tl q
        have := h6 j j1 d d0 d4 (Or.inl (by omega)) (by rw [j2]; exact y1) (by rw [j2, show ((t : Int)).toNat = t by omega]; exact y2)
        rw [j2] at this
        rw [this, q]
      · exact z6 q d d0 d4 y1 y2
  · rcases bfl_lab (g := g) (κ := κ) (f := f) (B := B) 144 t with z | z
    · rcases h t tl with y | ⟨y1, -⟩
      · exact Or.inl (z.trans y)
      · omega
    · exact Or.inr z
/-- all tiles of the parts that begin ahead of i -/
theorem BG_ly {g κ : Nat → Int} (G : gOK g) : ∀ i : Nat, i ≤ nT g → BG g κ (bly g κ i) ∧ (∀ t : Nat, t < i → 0 ≤ bly g κ i 0 t) := by
  intro i
  induction i with
  | zero => intro _; exact ⟨fun t _ => Or.inl rfl, fun t h => by omega⟩
  | succ i ih =>
    intro hi
    obtain ⟨a1, a2⟩ := ih (by omega)
    unfold bly
    split
    next hu =>
      obtain ⟨b1, b2, b3, b4, b5⟩ := BG_fl G (f := (i : Int)) a1 (by omega) (by simpa using hu)
      refine ⟨b1, fun t ht => ?_⟩
      by_cases q : t = i
      · subst q
        rw [Int.toNat_natCast] at b2
        omega
      · have := a2 t (by omega)
        rw [b4 t (by omega) this]
        exact this
    next hu =>
      refine ⟨a1, fun t ht => ?_⟩
      by_cases q : t = i
      · subst q; omega
      · exact a2 t (by omega)
theorem cntS_fl {g κ : Nat → Int} (G : gOK g) {i : Nat} {B : Mem} (h : BG g κ B) (hf : i < nT g) (hu : B 0 i < 0) :
    cntS (bfl g κ i B 144 0) (nT g) = cntS (B 0) (nT g) + 1 ∧ (∀ f : Int, 0 ≤ f → f ≠ i → cntL (bfl g κ i B 144 0) f (nT g) = cntL (B 0) f (nT g)) := by
  obtain ⟨b1, b2, b3, b4, b5⟩ := BG_fl G (f := (i : Int)) h (by omega) (by simpa using hu)
  rw [Int.toNat_natCast] at b2
  refine ⟨?_, fun f f0 fi => ?_⟩
  · show sumF _ _ = _
    rw [sumF_upd (f := fun t => if bfl g κ i B 144 0 t = (t : Int) then (1 : Int) else 0) (h := fun t => if B 0 t = (t : Int) then (1 : Int) else 0) hf (fun j hj hne => ?_)]
    · rw [b2, if_pos rfl, if_neg (by omega)]
      show cntS (B 0) (nT g) + (1 - 0) = cntS (B 0) (nT g) + 1
      omega
    · rcases Int.lt_or_le (B 0 j) 0 with y | y
      · have n1 : ¬ B 0 j = (j : Int) := by omega
        have n2 : ¬ bfl g κ i B 144 0 j = (j : Int) := by rcases b5 j hj y with z | z <;> omega
        rw [if_neg n1, if_neg n2]
      · rw [b4 j hj y]
  · refine sumF_congr fun j hj => ?_
    rcases Int.lt_or_le (B 0 j) 0 with y | y
    · have n1 : ¬ B 0 j = f := by omega
      have n2 : ¬ bfl g κ i B 144 0 j = f := by rcases b5 j hj y with z | z <;> omega
      rw [if_neg n1, if_neg n2]
    · rw [b4 j hj y]
/-- the sums of the finished map -/
theorem lab_facts {g κ : Nat → Int} (G : gOK g) {t : Nat} (ht : t < nT g) : (0 ≤ lab g κ t ∧ lab g κ t < nT g) ∧ (0 ≤ crs g κ t ∧ crs g κ t ≤ 3) ∧ (0 ≤ dep g κ t ∧ dep g κ t ≤ 144) ∧ lab g κ (lab g κ t).toNat = lab g κ t ∧ κ (lab g κ t).toNat = κ t ∧
    ∀ d : Int, 0 ≤ d → d < 4 → 0 ≤ nx g t d → κ (nx g t d).toNat = κ t → lab g κ (nx g t d).toNat = lab g κ t := by
  obtain ⟨a1, a2⟩ := BG_ly (κ := κ) G (nT g) (Nat.le_refl _)
  have := a2 t ht
  unfold lab crs dep
  exact (a1 t ht).resolve_left (by omega)
theorem sumF_0 {f : Nat → Int} (h : ∀ j, f j = 0) (n : Nat) : sumF f n = 0 := by
  induction n with
  | zero => rfl
  | succ n ih => unfold sumF; rw [ih, h]; rfl
theorem cntS_0 {g κ : Nat → Int} (n : Nat) : cntS (bly g κ 0 0) n = 0 := sumF_0 (fun j => if_neg (by show ¬ (-1 : Int) = j; omega)) n
