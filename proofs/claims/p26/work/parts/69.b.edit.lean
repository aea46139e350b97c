/-! ===== edits: what is kept, what a fill does, what a text of tiles says ===== -/
def ED (σ0 σ1 : Mem) : Prop := gS σ1 = gS σ0 ∧ σ1 2 = σ0 2 ∧ σ1 0 7 = (if σ0 0 7 = 12 then 12 else σ0 0 7 + 1) ∧ ∀ t : Nat, t < 144 → σ1 4 ((144 * (σ1 0 7 - 1)).toNat + t) = σ0 1 t
theorem okS_7 {σ : Mem} (h : okS σ) : 0 ≤ σ 0 7 ∧ σ 0 7 ≤ 12 := h.2.2.2.2.2.1
theorem ED_up {σ : Mem} {κ : Nat → Int} (h : okS σ) : ED σ (upA (kpS σ) 1 κ) := by
  have hb := okS_7 h
  refine ⟨gS_cg (fun i hi => ed_0 (by omega)), ed_r (Or.inl rfl), ed_07, fun t ht => ?_⟩
  rw [ed_4, ed_07]
  unfold kpH
  by_cases q : σ 0 7 = 12
  · rw [if_pos q, if_pos q, if_neg (by omega)]
    exact congrArg (σ 1) (by omega)
  · rw [if_neg q, if_neg q, if_neg (by omega)]
    exact congrArg (σ 1) (by omega)
theorem ED_l {σ0 σ σ1 : Mem} (h : ED σ σ1) (hs : sameT σ0 σ) : ED σ0 σ1 := by
  obtain ⟨h1, h2, h3, h4⟩ := h
  have e7 := hs.1 7 (by decide)
  exact ⟨h1.trans (sameT_g hs), h2.trans hs.2.2.1, by rw [h3, e7], fun t ht => by rw [h4 t ht, hs.2.1]⟩
theorem ED_r {σ0 σ σ1 : Mem} (h : ED σ0 σ) (hs : sameT σ σ1) : ED σ0 σ1 := by
  obtain ⟨h1, h2, h3, h4⟩ := h
  have e7 := hs.1 7 (by decide)
  exact ⟨(sameT_g hs).trans h1, hs.2.2.1.trans h2, by rw [e7, h3], fun t ht => by rw [hs.2.2.2, e7]; exact h4 t ht⟩
theorem ED_undo {σ0 σ1 : Mem} (h : ED σ0 σ1) (h0 : okS σ0) : (gS (G_undo σ1) = gS σ0 ∧ G_undo σ1 2 = σ0 2 ∧ G_undo σ1 0 7 = (if σ0 0 7 = 12 then 11 else σ0 0 7)) ∧ (∀ t : Nat, t < 144 → G_undo σ1 1 t = σ0 1 t) ∧ F_undo σ1 = (if σ0 0 7 = 12 then 11 else σ0 0 7) := by
  obtain ⟨h1, h2, h3, h4⟩ := h
  have hb := okS_7 h0
  have h7 : σ1 0 7 - 1 = (if σ0 0 7 = 12 then 11 else σ0 0 7) := by
    rw [h3]
    split <;> omega
  have hn : ¬ σ1 0 7 = 0 := by
    rw [h3]
    split <;> omega
  unfold G_undo F_undo
  rw [if_neg hn, if_neg hn]
  refine ⟨⟨?_, ?_, ?_⟩, fun t ht => ?_, h7⟩
  · rw [← h1]
    exact gS_cg (fun i hi => by rw [upA_n (by decide), up_nk (Or.inr (by omega))])
  · rw [upA_n (by decide), up_n (by decide)]; exact h2
  · rw [upA_n (by decide), up_sk]; exact h7
  · rw [upA_s]; exact h4 t ht
theorem fiK_at {σ : Mem} {t k : Int} {j : Nat} (hj : j < nT (gS σ)) (h : labS σ j = labS σ t.toNat) : fiK σ t k j = k := if_pos ⟨hj, h⟩
/-- a filled part is at least as great -/
theorem fill_ge {σ : Mem} (h : okS σ) {t k : Int} (ht : hasS σ t) : cntL (labS σ) (labS σ t.toNat) (nT (gS σ)) ≤ cntL (lab (gS σ) (fiK σ t k)) (lab (gS σ) (fiK σ t k) t.toNat) (nT (gS σ)) := by
  obtain ⟨tl, te⟩ := toN ht
  have hn := nT_s h
  have hr : clR (gS σ) (σ 1) (fun j => if labS σ j = labS σ t.toNat then lab (gS σ) (fiK σ t k) j else -7) := by
    intro j hj d d0 d4 hx hk
    have hb := (nx_b h.1 (t := (j : Int)) (d := d) (by omega) (by omega)).resolve_left (by omega)
    have xl : (nx (gS σ) j d).toNat < nT (gS σ) := by omega
    have e1 : labS σ (nx (gS σ) j d).toNat = labS σ j := lab_cl (κ := σ 1) h.1 j hj d d0 d4 hx hk
    show (if labS σ (nx (gS σ) j d).toNat = labS σ t.toNat then _ else _) = (if labS σ j = labS σ t.toNat then _ else _)
    rw [e1]
    by_cases q : labS σ j = labS σ t.toNat
    · rw [if_pos q, if_pos q]
      exact lab_cl (κ := fiK σ t k) h.1 j hj d d0 d4 hx (by rw [fiK_at xl (e1.trans q), fiK_at hj q])
    · rw [if_neg q, if_neg q]
  refine sumF_mono fun j hj => ?_
  by_cases q : labS σ j = labS σ t.toNat
  · have e := lab_min h.1 hr hj tl q
    have e : (if labS σ j = labS σ t.toNat then lab (gS σ) (fiK σ t k) j else -7) = (if labS σ t.toNat = labS σ t.toNat then lab (gS σ) (fiK σ t k) t.toNat else -7) := e
    rw [if_pos q, if_pos rfl] at e
    rw [if_pos q, if_pos e]
    exact Int.le_refl _
  · rw [if_neg q]
    exact (if01 _).1
/-! the text of the tiles -/
def itI (k i : Int) : Int := lowF (bShr k (Int.tmod i 13 + i / 29)) 3
theorem itI_b (k i : Int) : 0 ≤ itI k i ∧ itI k i < 3 := lowF_b (by decide)
def lnT (q i : Int) : Int := if i = 0 then 0 else i + (i - 1) / q
def TX (q k : Int) (T : Nat → Int) (i z : Int) : Prop := (∀ n : Nat, (n : Int) < z → if (n : Int) % (q + 1) = q then T n = 47 else 48 ≤ T n ∧ T n ≤ 50) ∧ ∀ τ : Nat, (τ : Int) < i → T (tix q τ) = 48 + itI k τ
theorem tix_e {q i : Int} (hq : 0 < q) (hi : 0 ≤ i) : i + i / q = (q + 1) * (i / q) + i % q ∧ (0 ≤ i % q ∧ i % q < q) ∧ 0 ≤ i / q := by
  have e1 := Int.emod_add_mul_ediv i q
  have e2 : (q + 1) * (i / q) = q * (i / q) + i / q := by rw [Int.add_mul, Int.one_mul]
  refine ⟨by omega, ⟨Int.emod_nonneg i (by omega), Int.emod_lt_of_pos i hq⟩, Int.ediv_nonneg hi (by omega)⟩
theorem tix_n {q : Int} {τ : Nat} (hq : 0 < q) : ((tix q τ : Nat) : Int) = (τ : Int) + (τ : Int) / q := by
  obtain ⟨e, b1, b2⟩ := tix_e (i := (τ : Int)) hq (by omega)
  unfold tix
  rw [e, Int.mul_comm ((τ : Int) / q) (q + 1)]
  have : 0 ≤ (q + 1) * ((τ : Int) / q) := Int.mul_nonneg (by omega) b2
  omega
theorem lnT_at {q i : Int} (hq : 0 < q) (hi : 0 ≤ i) : lnT q i = if 0 < i ∧ i % q = 0 then i + i / q - 1 else i + i / q := by
  obtain ⟨e, b1, b2⟩ := tix_e (i := i) hq hi
  have e1 := Int.emod_add_mul_ediv i q
  unfold lnT
  by_cases h0 : i = 0
  · rw [if_pos h0, if_neg (fun z => by omega), h0, Int.zero_ediv]; rfl
  · rw [if_neg h0]
    by_cases h1 : i % q = 0
    · rw [if_pos ⟨by omega, h1⟩]
      have h2 : i - 1 = q * (i / q - 1) + (q - 1) := by
        have : q * (i / q - 1) = q * (i / q) - q := by rw [Int.mul_sub, Int.mul_one]
        omega
      have h3 : (i - 1) / q = i / q - 1 := by
        rw [h2]
        exact idx_y (by omega) (by omega)
      omega
    · rw [if_neg (fun z => h1 z.2)]
      have h2 : i - 1 = q * (i / q) + (i % q - 1) := by omega
      have h3 : (i - 1) / q = i / q := by
        rw [h2]
        exact idx_y (by omega) (by omega)
      omega
/-- a slash between two rows -/
theorem TX_slash {q k i z : Int} {T : Nat → Int} (hq : 0 < q) (hi : 0 < i) (hz : i % q = 0) (h : TX q k T i z) (hlen : z = i + i / q - 1) : TX q k (upR T z.toNat 47) i (z + 1) := by
  obtain ⟨e, b1, b2⟩ := tix_e (i := i) hq (by omega)
  have hd : 1 ≤ i / q := by
    have e1 := Int.emod_add_mul_ediv i q
    refine Classical.byContradiction fun y => ?_
    have : i / q = 0 := by omega
    rw [this, Int.mul_zero] at e1
    omega
  have hm : z % (q + 1) = q := by
    have h2 : z = (q + 1) * (i / q - 1) + q := by
      have : (q + 1) * (i / q - 1) = (q + 1) * (i / q) - (q + 1) := by rw [Int.mul_sub, Int.mul_one]
      omega
    rw [h2]
    exact idx_x (by omega) (by omega)
  refine ⟨fun n hn => ?_, fun τ hτ => ?_⟩
  · by_cases y : n = z.toNat
    · have e3 : (n : Int) = z := by omega
      rw [e3, if_pos hm, y, upR_s]
    · rw [upR_n y]
      exact h.1 n (by omega)
  · have hx := tix_n (τ := τ) hq
    have hle : (τ : Int) / q ≤ i / q := Int.ediv_le_ediv hq (by omega)
    have hne : tix q τ ≠ z.toNat := by
      intro y
      have e4 : (τ : Int) + (τ : Int) / q = z := by omega
      have ee := tix_e (i := (τ : Int)) hq (by omega)
      have h5 : z % (q + 1) = (τ : Int) % q := by
        rw [← e4, ee.1]
        exact idx_x ee.2.1.1 (by omega)
      omega
    rw [upR_n hne]
    exact h.2 τ hτ
/-- a tile -/
theorem TX_tile {q k i z v : Int} {T : Nat → Int} (hq : 0 < q) (hi : 0 ≤ i) (h : TX q k T i z) (hlen : z = i + i / q) (hv : v = 48 + itI k i) : TX q k (upR T z.toNat v) (i + 1) (z + 1) := by
  obtain ⟨e, b1, b2⟩ := tix_e (i := i) hq hi
  have hb := itI_b k i
  have hm : z % (q + 1) = i % q := by
    rw [hlen, e]
    exact idx_x b1.1 (by omega)
  refine ⟨fun n hn => ?_, fun τ hτ => ?_⟩
  · by_cases y : n = z.toNat
    · have e3 : (n : Int) = z := by omega
      rw [e3, if_neg (by omega), y, upR_s]
      omega
    · rw [upR_n y]
      exact h.1 n (by omega)
  · have hx := tix_n (τ := τ) hq
    by_cases y : (τ : Int) = i
    · rw [y] at hx ⊢
      rw [show tix q τ = z.toNat by omega, upR_s, hv]
    · have hle : (τ : Int) / q ≤ i / q := Int.ediv_le_ediv hq (by omega)
      rw [upR_n (by omega)]
      exact h.2 τ (by omega)
theorem lnT_n {q w : Int} (hq : 0 < q) (hw : 0 < w) : lnT q (q * w) = w * (q + 1) - 1 := by
  rw [lnT_at hq (Int.mul_nonneg (by omega) (by omega)), if_pos ⟨Int.mul_pos hq hw, Int.mul_emod_right q w⟩, Int.mul_ediv_cancel_left w (by omega), Int.mul_add, Int.mul_one, Int.mul_comm w q]
/-- a whole text has no fault -/
theorem TX_ok {q w k i n : Int} {T : Nat → Int} (h : TX q k T i n) (hn : n = w * (q + 1) - 1) (h0 : 0 ≤ n) : ftF q w T n = -1 := by
  unfold ftF
  rw [if_pos, if_neg (by omega)]
  refine ff_no (fun j hj => ?_)
  have := h.1 j (by omega)
  unfold badT
  refine decide_eq_false (fun y => y ⟨by omega, ?_⟩)
  split
  next z => rw [if_pos z] at this; exact this
  next z => rw [if_neg z] at this; exact ⟨this.1, by omega⟩
/-- and one with a character more has its fault there -/
theorem TX_long {q w k i n : Int} {T : Nat → Int} (h : TX q k T i n) (hn : n = w * (q + 1) - 1) (h0 : 0 ≤ n) (v : Int) : ftF q w (upR T n.toNat v) (n + 1) = n := by
  refine ft_bad (k := n) (ff_no (fun j hj => ?_)) ?_ h0 (by omega)
  · have := h.1 j (by omega)
    unfold badT
    rw [upR_n (by omega)]
    refine decide_eq_false (fun y => y ⟨by omega, ?_⟩)
    split
    next z => rw [if_pos z] at this; exact this
    next z => rw [if_neg z] at this; exact ⟨this.1, by omega⟩
  · rw [badT_i h0]
    exact decide_eq_true (fun y => by have := y.1; omega)
