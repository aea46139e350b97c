/-! ===== distances of a map's state ===== -/
noncomputable def dS (σ : Mem) (s : Nat) : Nat → Int := dst (gS σ) (σ 1) (σ 2) s
def slS (σ : Mem) (t d : Int) : Int := stl (gS σ) (σ 1) (σ 2) t d
abbrev gdS (σ : Mem) (b f d : Int) : Prop := 0 < slS σ f d ∧ dS σ b.toNat (nx (gS σ) f d).toNat + slS σ f d = dS σ b.toNat f.toNat
section DS
variable {σ : Mem}
theorem dS_is (h : okS σ) {s : Nat} (hs : s < nT (gS σ)) : isDist (gS σ) (σ 1) (σ 2) s (dS σ s) := dst_ex h.1 h.2.1 h.2.2.1 hs
theorem dS_sym (h : okS σ) {s t : Nat} (hs : s < nT (gS σ)) (ht : t < nT (gS σ)) : dS σ s t = dS σ t s := dst_sym h.1 h.2.1 h.2.2.1 hs ht
theorem stl_i {g κ wt : Nat → Int} (hκ : ∀ t : Nat, t < 144 → 0 ≤ κ t ∧ κ t ≤ 5) (hw : ∀ k : Nat, k < 6 → 0 ≤ wt k ∧ wt k ≤ 9) (G : gOK g) {t d : Int} (h0 : 0 ≤ t) (h1 : t < nT g) : (nx g t d < 0 → stl g κ wt t d = 0) ∧
    (0 ≤ nx g t d → (wt (κ t.toNat).toNat ≤ 0 → stl g κ wt t d = 0) ∧ (wt (κ (nx g t d).toNat).toNat ≤ 0 → stl g κ wt t d = 0) ∧ (0 < wt (κ t.toNat).toNat → 0 < wt (κ (nx g t d).toNat).toNat → stl g κ wt t d = wt (κ t.toNat).toNat + wt (κ (nx g t d).toNat).toNat)) := by
  obtain ⟨nE, n9, n144⟩ := nT_b G
  unfold stl
  refine ⟨fun h => if_pos h, fun h => ?_⟩
  have hb := (nx_b G (d := d) h0 (by omega)).resolve_left (by omega)
  have k1 := hκ t.toNat (by omega)
  have k2 := hκ (nx g t d).toNat (by omega)
  have w1 := hw (κ t.toNat).toNat (by omega)
  have w2 := hw (κ (nx g t d).toNat).toNat (by omega)
  rw [if_neg (by omega)]
  exact ⟨fun z => if_pos (Or.inl (by omega)), fun z => if_pos (Or.inr (by omega)), fun z1 z2 => if_neg (fun z => by omega)⟩
theorem slS_i (h : okS σ) {t d : Int} (ht : hasS σ t) : (nx (gS σ) t d < 0 → slS σ t d = 0) ∧
    (0 ≤ nx (gS σ) t d → (σ 2 (σ 1 t.toNat).toNat ≤ 0 → slS σ t d = 0) ∧ (σ 2 (σ 1 (nx (gS σ) t d).toNat).toNat ≤ 0 → slS σ t d = 0) ∧ (0 < σ 2 (σ 1 t.toNat).toNat → 0 < σ 2 (σ 1 (nx (gS σ) t d).toNat).toNat → slS σ t d = σ 2 (σ 1 t.toNat).toNat + σ 2 (σ 1 (nx (gS σ) t d).toNat).toNat)) := stl_i h.2.1 h.2.2.1 h.1 ht.1 ht.2
theorem slS_b (h : okS σ) {t d : Int} (ht : hasS σ t) : 0 ≤ slS σ t d ∧ slS σ t d ≤ 18 ∧ (0 < slS σ t d → 0 ≤ nx (gS σ) t d ∧ nx (gS σ) t d < nT (gS σ)) := stl_b h.2.1 h.2.2.1 h.1 ht.1 ht.2
theorem slS_rev (h : okS σ) {t e : Int} (ht : hasS σ t) (he : 0 ≤ e ∧ e < 4) (hn : 0 ≤ nx (gS σ) t e) : nx (gS σ) (nx (gS σ) t e) (rev e) = t ∧ slS σ (nx (gS σ) t e) (rev e) = slS σ t e := stl_rev h.1 ht.1 ht.2 he hn
theorem dst_bd {g κ wt : Nat → Int} (G : gOK g) (hκ : ∀ t : Nat, t < 144 → 0 ≤ κ t ∧ κ t ≤ 5) (hw : ∀ k : Nat, k < 6 → 0 ≤ wt k ∧ wt k ≤ 9) {o : Nat} {L : Nat → Int} (h : isDist g κ wt o L) {t : Nat} (ht : t < nT g) : -4 ≤ L t ∧ L t ≤ 2592 := by
  obtain ⟨nE, n9, n144⟩ := nT_b G
  rcases h.2.1 t ht with z | z
  · omega
  · have hc0 : 0 ≤ clo g L (t : Int) := sumF_nn (fun j _ => (if01 _).1)
    have hc1 := clo_lt (g := g) (L := L) (a := (t : Int)) (by omega) (by omega)
    obtain ⟨q, q1, q2, q3⟩ := pth_ex G hκ hw h (clo g L (t : Int)).toNat (t : Int) (by omega) (by omega) (by rw [Int.toNat_natCast]; exact z) (by omega)
    have key : ∀ j : Nat, j ≤ q → L (pth g κ wt L t (q - j)).toNat ≤ 18 * (j : Int) := by
      intro j
      induction j with
      | zero =>
        intro _
        rw [Nat.sub_zero, q2, Int.toNat_natCast, h.1.2]
        exact Int.le_refl _
      | succ j ih =>
        intro hj
        have h1 := ih (by omega)
        obtain ⟨b1, b2, b3⟩ := q3 (q - (j + 1)) (by omega)
        obtain ⟨d, d0, d4, ⟨s1, s2⟩, en, -⟩ := onw_step G h b1.1 b1.2 b2 (b3 (by omega))
        have e : pth g κ wt L t (q - j) = nx g (pth g κ wt L t (q - (j + 1))) d := by
          rw [show q - j = (q - (j + 1)) + 1 by omega]
          exact en
        have hb := stl_b hκ hw G (t := pth g κ wt L t (q - (j + 1))) (d := d) b1.1 b1.2
        rw [e] at h1
        omega
    have := key q (Nat.le_refl q)
    rw [Nat.sub_self] at this
    have e : L (pth g κ wt L t 0).toNat = L t := by
      show L ((t : Int)).toNat = L t
      rw [Int.toNat_natCast]
    rw [e] at this
    omega
theorem F_ds {t o : Int} (ht : hasS σ t) (ho : hasS σ o) : F_distance σ t o = dS σ t.toNat o.toNat := if_pos ⟨ht, ho⟩
theorem F_rn {a b k : Int} (ha : hasS σ a) (hb : hasS σ b) (hk : -1 ≤ k) (h : dS σ b.toNat a.toNat = -4) : F_route σ a b k = -4 := by
  unfold F_route
  rw [if_pos ⟨ha, hb⟩, if_neg (by omega)]
  exact if_pos h
/-- the way from a to b, of q steps -/
abbrev wayS (σ : Mem) (a b : Int) (q : Nat) : Prop := pthOK (gS σ) (σ 1) (σ 2) (dS σ b.toNat) b.toNat a q
noncomputable abbrev wpt (σ : Mem) (a b : Int) (i : Nat) : Int := pth (gS σ) (σ 1) (σ 2) (dS σ b.toNat) a i
theorem F_rt {a b k : Int} {q : Nat} (ha : hasS σ a) (hb : hasS σ b) (hk : -1 ≤ k) (h : dS σ b.toNat a.toNat ≠ -4) (hq : q ≤ 144) (hw : wayS σ a b q) : F_route σ a b k = if k = -1 then (q : Int) else if k ≤ q then wpt σ a b k.toNat else -5 := by
  unfold F_route
  rw [if_pos ⟨ha, hb⟩, if_neg (by omega)]
  refine (if_neg h).trans ?_
  have := rgo_is hw hk 144 0 (by omega) (by omega) (by omega)
  rw [Int.toNat_of_nonneg hb.1] at this
  exact this
theorem way_ex (h : okS σ) {a b : Int} (ha : hasS σ a) (hb : hasS σ b) (h0 : 0 ≤ dS σ b.toNat a.toNat) : ∃ q : Nat, (q : Int) < nT (gS σ) ∧ wayS σ a b q := by
  have hc0 : 0 ≤ clo (gS σ) (dS σ b.toNat) a := sumF_nn (fun j _ => (if01 _).1)
  have hc1 := clo_lt (g := gS σ) (L := dS σ b.toNat) ha.1 ha.2
  obtain ⟨q, q1, q2⟩ := pth_ex h.1 h.2.1 h.2.2.1 (dS_is h (s := b.toNat) (by have := hb.1; have := hb.2; omega)) _ a ha.1 ha.2 h0 (Int.toNat_of_nonneg hc0).symm
  exact ⟨q, by omega, q2⟩
/-- one step of it -/
theorem way_step (h : okS σ) {a b : Int} (hb : hasS σ b) {q i : Nat} (hw : wayS σ a b q) (hi : i < q) : ∃ d : Int, 0 ≤ d ∧ d < 4 ∧ gdS σ b (wpt σ a b i) d ∧ wpt σ a b (i + 1) = nx (gS σ) (wpt σ a b i) d ∧ ∀ e : Int, 0 ≤ e → e < d → ¬ gdS σ b (wpt σ a b i) e := by
  obtain ⟨b1, b2, b3⟩ := hw.2 i (by omega)
  exact onw_step h.1 (dS_is h (s := b.toNat) (by have := hb.1; have := hb.2; omega)) b1.1 b1.2 b2 (b3 hi)
theorem F_fa {a : Int} (ha : hasS σ a) : F_farthest σ a = faF (dS σ a.toNat) a.toNat (nT (gS σ)) := by
  unfold F_farthest
  rw [if_pos ha]
  show faF (dS σ a.toNat) a (nT (gS σ)) = _
  rw [Int.toNat_of_nonneg ha.1]
end DS
