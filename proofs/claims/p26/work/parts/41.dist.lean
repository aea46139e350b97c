/-! ===== distances: what a row of distances is, that there is one at most, and how it grows ===== -/
/-- the length of a step, 0 if it is not possible -/
def stl (g κ wt : Nat → Int) (t d : Int) : Int := if nx g t d < 0 then 0 else if wt (κ t.toNat).toNat = 0 ∨ wt (κ (nx g t d).toNat).toNat = 0 then 0 else wt (κ t.toNat).toNat + wt (κ (nx g t d).toNat).toNat
def isDist (g κ wt : Nat → Int) (s : Nat) (L : Nat → Int) : Prop :=
  (s < nT g ∧ L s = 0) ∧ (∀ t : Nat, t < nT g → L t = -4 ∨ 0 ≤ L t) ∧
  (∀ t : Nat, t < nT g → 0 ≤ L t → ∀ e : Int, 0 ≤ e → e < 4 → 0 < stl g κ wt t e → 0 ≤ L (nx g t e).toNat ∧ L (nx g t e).toNat ≤ L t + stl g κ wt t e) ∧
  (∀ t : Nat, t < nT g → t ≠ s → 0 ≤ L t → ∃ u : Nat, u < nT g ∧ 0 ≤ L u ∧ ∃ e : Int, 0 ≤ e ∧ e < 4 ∧ 0 < stl g κ wt u e ∧ nx g u e = t ∧ L t = L u + stl g κ wt u e)
theorem isDist_le {g κ wt : Nat → Int} {s : Nat} {L L' : Nat → Int} (h : isDist g κ wt s L) (h' : isDist g κ wt s L') : ∀ (v t : Nat), t < nT g → 0 ≤ L t → L t = v → 0 ≤ L' t ∧ L' t ≤ L t := by
  intro v
  induction v using Nat.strongRecOn with
  | ind v ih =>
    intro t tl t0 tv
    by_cases q : t = s
    · subst q
      have := h'.1.2
      omega
    · obtain ⟨u, ul, u0, e, e0, e4, es, en, eL⟩ := h.2.2.2 t tl q t0
      obtain ⟨w1, w2⟩ := ih (L u).toNat (by omega) u ul u0 (by omega)
      have := h'.2.2.1 u ul w1 e e0 e4 es
      rw [en] at this
      simp only [Int.toNat_natCast] at this
      omega
theorem isDist_u {g κ wt : Nat → Int} {s : Nat} {L L' : Nat → Int} (h : isDist g κ wt s L) (h' : isDist g κ wt s L') {t : Nat} (tl : t < nT g) : L t = L' t := by
  rcases h.2.1 t tl with a | a
  · rcases h'.2.1 t tl with b | b
    · omega
    · have := (isDist_le h' h (L' t).toNat t tl b (by omega)).1; omega
  · have h1 := isDist_le h h' (L t).toNat t tl a (by omega)
    have h2 := isDist_le h' h (L' t).toNat t tl h1.1 (by omega)
    omega
/-- the distances from s -/
noncomputable def dst (g κ wt : Nat → Int) (s : Nat) : Nat → Int := Classical.epsilon (fun L => isDist g κ wt s L)
theorem dst_is {g κ wt : Nat → Int} {s : Nat} {L : Nat → Int} (h : isDist g κ wt s L) : isDist g κ wt s (dst g κ wt s) := Classical.epsilon_spec (p := fun L => isDist g κ wt s L) ⟨L, h⟩
theorem dst_eq {g κ wt : Nat → Int} {s : Nat} {L : Nat → Int} (h : isDist g κ wt s L) {t : Nat} (tl : t < nT g) : L t = dst g κ wt s t := isDist_u h (dst_is h) tl
/-- the growing row: Sd the settled tiles, c the one whose first d directions are done -/
def DI (g κ wt : Nat → Int) (s : Nat) (L : Nat → Int) (Sd : Nat → Prop) (c d B : Int) : Prop :=
  (s < nT g ∧ L s = 0) ∧ (∀ t : Nat, t < nT g → L t = -4 ∨ (0 ≤ L t ∧ L t ≤ B)) ∧ (∀ t : Nat, t < nT g → Sd t → 0 ≤ L t ∧ (0 ≤ c → L t ≤ L c.toNat)) ∧ (0 ≤ c → c < nT g ∧ Sd c.toNat) ∧
  (∀ t : Nat, t < nT g → Sd t → ∀ e : Int, 0 ≤ e → e < 4 → ((t : Int) ≠ c ∨ e < d) → 0 < stl g κ wt t e → 0 ≤ L (nx g t e).toNat ∧ L (nx g t e).toNat ≤ L t + stl g κ wt t e) ∧
  (∀ t u : Nat, t < nT g → u < nT g → Sd t → ¬ Sd u → 0 ≤ L u → L t ≤ L u) ∧
  (∀ t : Nat, t < nT g → t ≠ s → 0 ≤ L t → ∃ u : Nat, u < nT g ∧ Sd u ∧ ∃ e : Int, 0 ≤ e ∧ e < 4 ∧ 0 < stl g κ wt u e ∧ nx g u e = t ∧ L t = L u + stl g κ wt u e)
theorem stl_b {g κ wt : Nat → Int} (hκ : ∀ t : Nat, t < 144 → 0 ≤ κ t ∧ κ t ≤ 5) (hw : ∀ k : Nat, k < 6 → 0 ≤ wt k ∧ wt k ≤ 9) (G : gOK g) {t d : Int} (h0 : 0 ≤ t) (h1 : t < nT g) : 0 ≤ stl g κ wt t d ∧ stl g κ wt t d ≤ 18 ∧ (0 < stl g κ wt t d → 0 ≤ nx g t d ∧ nx g t d < nT g) := by
  obtain ⟨nE, n9, n144⟩ := nT_b G
  unfold stl
  rcases nx_b G (d := d) h0 (by omega) with q | q
  · rw [if_pos (by omega)]; omega
  · rw [if_neg (by omega)]
    have k1 := hκ t.toNat (by omega)
    have k2 := hκ (nx g t d).toNat (by omega)
    have w1 := hw (κ t.toNat).toNat (by omega)
    have w2 := hw (κ (nx g t d).toNat).toNat (by omega)
    split <;> omega
/-- one direction -/
theorem DI_relax {g κ wt : Nat → Int} {s : Nat} {L : Nat → Int} {Sd : Nat → Prop} {c d B : Int} (hκ : ∀ t : Nat, t < 144 → 0 ≤ κ t ∧ κ t ≤ 5) (hw : ∀ k : Nat, k < 6 → 0 ≤ wt k ∧ wt k ≤ 9) (G : gOK g) (hc : 0 ≤ c) (hd : 0 ≤ d ∧ d < 4) (hB : L c.toNat + 18 ≤ B) (h : DI g κ wt s L Sd c d B) :
    (¬ (0 < stl g κ wt c d ∧ (L (nx g c d).toNat = -4 ∨ L c.toNat + stl g κ wt c d < L (nx g c d).toNat)) → DI g κ wt s L Sd c (d + 1) B) ∧
    (0 < stl g κ wt c d ∧ (L (nx g c d).toNat = -4 ∨ L c.toNat + stl g κ wt c d < L (nx g c d).toNat) → ¬ Sd (nx g c d).toNat ∧ DI g κ wt s (upR L (nx g c d).toNat (L c.toNat + stl g κ wt c d)) Sd c (d + 1) B) := by
  obtain ⟨⟨h1, h2⟩, h3, h4, h5, h6, h7, h8⟩ := id h
  obtain ⟨c1, c2⟩ := h5 hc
  have hcc : ((c.toNat : Nat) : Int) = c := by omega
  have cL := (h4 c.toNat (by omega) c2).1
  obtain ⟨s1, s2, s3⟩ := stl_b hκ hw G (t := c) (d := d) hc c1
  constructor
  · intro hn
    refine ⟨⟨h1, h2⟩, h3, h4, h5, fun t tl ts e e0 e4 he hs => ?_, h7, h8⟩
    by_cases q : (t : Int) = c ∧ e = d
    · obtain ⟨q1, q2⟩ := q
      rw [q1, q2] at hs ⊢
      have : t = c.toNat := by omega
      rw [this]
      rcases h3 (nx g c d).toNat (by have := s3 hs; omega) with z | z
      · exact absurd ⟨hs, Or.inl z⟩ hn
      · exact ⟨z.1, Int.not_lt.mp fun y => hn ⟨hs, Or.inr y⟩⟩
    · exact h6 t tl ts e e0 e4 (by omega) hs
  · rintro ⟨hs, hL⟩
    have hu := s3 hs
    have ul : (nx g c d).toNat < nT g := by omega
    have hns : ¬ Sd (nx g c d).toNat := fun z => by
      have := h4 _ ul z
      have := this.2 hc
      rcases hL with y | y <;> omega
    have hus : (nx g c d).toNat ≠ s := fun z => by
      rw [z, h2] at hL
      rcases hL with y | y <;> omega
    have huc : (nx g c d).toNat ≠ c.toNat := fun z => hns (by rw [z]; exact c2)
    have low : ∀ t : Nat, t < nT g → Sd t → t ≠ (nx g c d).toNat := fun t tl ts z => hns (by rw [← z]; exact ts)
    refine ⟨hns, ⟨h1, by rw [upR_n (fun z => hus z.symm)]; exact h2⟩, fun t tl => ?_, fun t tl ts => ?_, h5, fun t tl ts e e0 e4 he hse => ?_, fun t u tl ul2 ts us u0 => ?_, fun t tl tns t0 => ?_⟩
    · by_cases q : t = (nx g c d).toNat
      · rw [q, upR_s]; exact Or.inr ⟨by omega, by omega⟩
      · rw [upR_n q]; exact h3 t tl
    · rw [upR_n (low t tl ts), upR_n (fun z => huc z.symm)]
      exact h4 t tl ts
    · rw [upR_n (low t tl ts)]
      obtain ⟨-, -, b3⟩ := stl_b hκ hw G (t := (t : Int)) (d := e) (by omega) (by omega)
      by_cases q2 : (nx g t e).toNat = (nx g c d).toNat
      · rw [q2, upR_s]
        by_cases q : (t : Int) = c ∧ e = d
        · rw [q.1, q.2, show t = c.toNat by omega]; omega
        · have := h6 t tl ts e e0 e4 (by omega) hse
          rw [q2] at this
          have hle := h4 t tl ts
          rcases hL with y | y <;> omega
      · rw [upR_n q2]
        refine h6 t tl ts e e0 e4 ?_ hse
        by_cases q : (t : Int) = c ∧ e = d
        · rw [q.1, q.2] at q2; exact absurd rfl q2
        · omega
    · rw [upR_n (low t tl ts)]
      by_cases q : u = (nx g c d).toNat
      · rw [q, upR_s]
        have := (h4 t tl ts).2 hc
        omega
      · rw [upR_n q] at u0 ⊢
        exact h7 t u tl ul2 ts us u0
    · by_cases q : t = (nx g c d).toNat
      · refine ⟨c.toNat, by omega, c2, d, hd.1, hd.2, by rw [hcc]; exact hs, by rw [hcc, q]; omega, ?_⟩
        rw [q, upR_s, upR_n (fun z => huc z.symm), hcc]
      · rw [upR_n q] at t0 ⊢
        obtain ⟨u, u1, u2, e, e0, e4, e5, e6, e7⟩ := h8 t tl tns t0
        exact ⟨u, u1, u2, e, e0, e4, e5, e6, by rw [upR_n (low u u1 u2)]; exact e7⟩
/-- the next tile -/
theorem DI_pick {g κ wt : Nat → Int} {s : Nat} {L : Nat → Int} {Sd : Nat → Prop} {c B : Int} {k : Nat} (h : DI g κ wt s L Sd c 4 B) (hk : k < nT g) (hs : ¬ Sd k) (h0 : 0 ≤ L k) (hm : ∀ u : Nat, u < nT g → ¬ Sd u → 0 ≤ L u → L k ≤ L u) :
    DI g κ wt s L (fun t => Sd t ∨ t = k) k 0 B := by
  obtain ⟨⟨h1, h2⟩, h3, h4, h5, h6, h7, h8⟩ := h
  refine ⟨⟨h1, h2⟩, h3, fun t tl ts => ?_, fun _ => ⟨by omega, Or.inr (by simp)⟩, fun t tl ts e e0 e4 he hse => ?_, fun t u tl ul ts us u0 => ?_, fun t tl tns t0 => ?_⟩
  · rw [Int.toNat_natCast]
    rcases ts with ts | rfl
    · exact ⟨(h4 t tl ts).1, fun _ => h7 t k tl hk ts hs h0⟩
    · exact ⟨h0, fun _ => Int.le_refl _⟩
  · rcases ts with ts | rfl
    · exact h6 t tl ts e e0 e4 (Or.inr e4) hse
    · omega
  · rcases ts with ts | rfl
    · exact h7 t u tl ul ts (fun z => us (Or.inl z)) u0
    · exact hm u ul (fun z => us (Or.inl z)) u0
  · obtain ⟨u, u1, u2, rest⟩ := h8 t tl tns t0
    exact ⟨u, u1, Or.inl u2, rest⟩
theorem DI_end {g κ wt : Nat → Int} {s : Nat} {L : Nat → Int} {Sd : Nat → Prop} {c B : Int} (h : DI g κ wt s L Sd c 4 B) (hall : ∀ u : Nat, u < nT g → 0 ≤ L u → Sd u) : isDist g κ wt s L := by
  obtain ⟨⟨h1, h2⟩, h3, h4, h5, h6, h7, h8⟩ := h
  refine ⟨⟨h1, h2⟩, fun t tl => (h3 t tl).elim Or.inl (fun z => Or.inr z.1), fun t tl t0 e e0 e4 hs => h6 t tl (hall t tl t0) e e0 e4 (Or.inr e4) hs, fun t tl tns t0 => ?_⟩
  obtain ⟨u, u1, u2, e, r⟩ := h8 t tl tns t0
  exact ⟨u, u1, (h4 u u1 u2).1, e, r⟩
theorem DI_ini {g κ wt : Nat → Int} {s : Nat} {L : Nat → Int} {B : Int} (hs : s < nT g) (h : ∀ t : Nat, t < nT g → L t = if t = s then 0 else -4) (hB : 0 ≤ B) : DI g κ wt s L (fun _ => False) (-1) 4 B := by
  refine ⟨⟨hs, by rw [h s hs, if_pos rfl]⟩, fun t tl => ?_, fun t tl ts => ts.elim, fun z => by omega, fun t tl ts => ts.elim, fun t u tl ul ts => ts.elim, fun t tl tns t0 => ?_⟩
  · rw [h t tl]
    split <;> omega
  · rw [h t tl, if_neg tns] at t0
    omega
theorem DI_B {g κ wt : Nat → Int} {s : Nat} {L : Nat → Int} {Sd : Nat → Prop} {c d B B' : Int} (h : DI g κ wt s L Sd c d B) (hB : B ≤ B') : DI g κ wt s L Sd c d B' :=
  ⟨h.1, fun t tl => (h.2.1 t tl).elim Or.inl (fun z => Or.inr ⟨z.1, Int.le_trans z.2 hB⟩), h.2.2⟩
