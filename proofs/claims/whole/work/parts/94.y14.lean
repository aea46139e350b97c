/-! ===== the model's members on distances: route ===== -/
theorem stl_rev {g κ wt : Nat → Int} (G : gOK g) {t d : Int} (h0 : 0 ≤ t) (h1 : t < nT g) (hd : 0 ≤ d ∧ d < 4) (hn : 0 ≤ nx g t d) : stl g κ wt (nx g t d) (rev d) = stl g κ wt t d := by
  obtain ⟨nE, -, -⟩ := nT_b G
  obtain ⟨i1, -⟩ := nx_inv G h0 (by omega) hd hn
  unfold stl
  rw [i1, if_neg (show ¬ t < 0 by omega), if_neg (show ¬ nx g t d < 0 by omega)]
  split <;> split <;> omega
theorem onw_hit {g κ wt L : Nat → Int} {a : Int} : ∀ n : Nat, n ≤ 4 → (∃ d : Int, 4 - (n : Int) ≤ d ∧ d < 4 ∧ 0 < stl g κ wt a d ∧ L (nx g a d).toNat + stl g κ wt a d = L a.toNat) →
    ∃ d : Int, 0 ≤ d ∧ d < 4 ∧ 0 < stl g κ wt a d ∧ L (nx g a d).toNat + stl g κ wt a d = L a.toNat ∧ onw g κ wt L a n = nx g a d := by
  intro n
  induction n with
  | zero =>
    rintro - ⟨d, h1, h2, -⟩
    omega
  | succ n ih =>
    rintro hn ⟨d, h1, h2, h3, h4⟩
    unfold onw
    by_cases q : 0 < stl g κ wt a (3 - (n : Int)) ∧ L (nx g a (3 - (n : Int))).toNat + stl g κ wt a (3 - (n : Int)) = L a.toNat
    · rw [if_pos q]
      exact ⟨3 - (n : Int), by omega, by omega, q.1, q.2, rfl⟩
    · rw [if_neg q]
      refine ih (by omega) ⟨d, ?_, h2, h3, h4⟩
      by_cases e : d = 3 - (n : Int)
      · rw [e] at h3 h4
        exact absurd ⟨h3, h4⟩ q
      · omega
theorem rk_lt {L : Nat → Int} {a b : Nat} (b0 : 0 ≤ L b) (hba : L b < L a) : ∀ n : Nat, sumF (fun u => if 0 ≤ L u ∧ L u < L b then (1 : Int) else 0) n + (if b < n then (1 : Int) else 0) ≤ sumF (fun u => if 0 ≤ L u ∧ L u < L a then (1 : Int) else 0) n := by
  intro n
  induction n with
  | zero =>
    rw [if_neg (by omega)]
    exact Int.le_refl 0
  | succ n ih =>
    show sumF (fun u => if 0 ≤ L u ∧ L u < L b then (1 : Int) else 0) n + (if 0 ≤ L n ∧ L n < L b then (1 : Int) else 0) + (if b < n + 1 then (1 : Int) else 0) ≤ sumF (fun u => if 0 ≤ L u ∧ L u < L a then (1 : Int) else 0) n + (if 0 ≤ L n ∧ L n < L a then (1 : Int) else 0)
    by_cases q : b = n
    · subst q
      rw [if_neg (show ¬ b < b by omega)] at ih
      rw [if_neg (show ¬ (0 ≤ L b ∧ L b < L b) by omega), if_pos (show b < b + 1 by omega), if_pos ⟨b0, hba⟩]
      omega
    · have e : (if b < n + 1 then (1 : Int) else 0) = if b < n then (1 : Int) else 0 := by
        by_cases q2 : b < n
        · rw [if_pos q2, if_pos (by omega)]
        · rw [if_neg q2, if_neg (by omega)]
      rw [e]
      by_cases q3 : 0 ≤ L n ∧ L n < L b
      · rw [if_pos q3, if_pos (show 0 ≤ L n ∧ L n < L a by omega)]
        omega
      · rw [if_neg q3]
        have := if01 (0 ≤ L n ∧ L n < L a)
        omega
abbrev rkF (g L : Nat → Int) (a : Int) : Int := sumF (fun u => if 0 ≤ L u ∧ L u < L a.toNat then (1 : Int) else 0) (nT g)
section Y14
variable {l : Launch} {D : va_G} {cy : Nat → ClassId} {ad : Nat → Nat}
theorem ok_X9_route (hA : jA ad 12) : OK_X9_route l D cy ad := met_X9_route hA (ok_X9_layDistances hA) (ok_X9_noTile hA) (ok_X9_onward hA)
  (fun p t o k M0 a c M μ => (YD M0 M o ∧ isDist (gY M0) (M0 1) (M0 2) o.toNat (dY M)) ∧ (-1 ≤ k ∧ (0 ≤ t ∧ t < nT (gY M0)) ∧ dY M t.toNat ≠ -4) ∧ ((0 ≤ a ∧ a < nT (gY M0)) ∧ 0 ≤ dY M a.toNat) ∧ (0 ≤ c ∧ c + rkF (gY M0) (dY M) a ≤ 143) ∧
    (∀ L, lnY_ M L → rgo (gY M0) (M0 1) (M0 2) L o k 144 t 0 = rgo (gY M0) (M0 1) (M0 2) L o k (144 - c).toNat a c) ∧ μ = (500 - c).toNat)
  (by
    rintro p t o k M0 ⟨hp, h0, σ0, h⟩ hM rt ro rk
    subst h0
    obtain ⟨hG, hw⟩ := absY_s h
    obtain ⟨n2, n9, n144⟩ := gY_n hG
    refine ⟨⟨hp, rfl, hG⟩, ?_⟩
    rintro x2 M1 - - ⟨hx, rfl⟩
    have hx2 := nt_x hx
    refine ⟨fun z => ⟨trivial, fun σ hσ => ⟨?_, hσ⟩⟩, fun z => ⟨⟨hp, rfl, hG⟩, ?_⟩⟩
    · unfold F_route
      rw [if_neg (fun y => z (hx2.mpr ((hsY hσ).mp y.1)))]
    have ht := hx2.mp (Classical.byContradiction z)
    rintro x4 M3 - - ⟨hx4, rfl⟩
    have hx4' := nt_x hx4
    refine ⟨fun z4 => ⟨fun hk => ⟨⟨hp, rfl, hG, hw, hx4'.mp z4⟩, ?_⟩, fun hk => ⟨trivial, fun σ hσ => ⟨?_, hσ⟩⟩⟩, fun z4 => ⟨trivial, fun σ hσ => ⟨?_, hσ⟩⟩⟩
    · have ho := hx4'.mp z4
      rintro x6 M5 - - hc6
      have hY := YD_of ho h hc6
      have eg : gY M5 = gY M3 := by funext i; unfold gY; rw [hY.2.2.1.1]
      have vt := hY.2.1 t.toNat (by omega)
      refine ⟨hp, rfl, by omega, fun z6 => ?_, fun z6 => ⟨trivial, fun σ hσ => ⟨?_, (hY.1 σ hσ).1⟩⟩⟩
      · have et : dY M5 t.toNat = M5 11 t.toNat := by unfold dY; rw [if_neg (by omega)]
        refine ⟨_, rfl, rfl, rfl, rfl, ⟨hY, hc6.1⟩, ⟨hk, ht, by omega⟩, ⟨ht, by omega⟩, ⟨by omega, ?_⟩, fun L _ => rfl, rfl⟩
        have := sumF_lt (f := fun u => if 0 ≤ dY M5 u ∧ dY M5 u < dY M5 t.toNat then (1 : Int) else 0) (n := nT (gY M3)) (k := t.toNat) (fun j _ => if01 _) (by omega) (by rw [if_neg (by omega)])
        show (0 : Int) + sumF (fun u => if 0 ≤ dY M5 u ∧ dY M5 u < dY M5 t.toNat then (1 : Int) else 0) (nT (gY M3)) ≤ 143
        omega
      · unfold F_route
        rw [if_pos ⟨(hsY hσ).mpr ht, (hsY hσ).mpr ho⟩, if_neg (by omega), if_pos]
        rw [YD_v hY hσ (by omega), if_pos (by omega)]
    · unfold F_route
      rw [if_pos ⟨(hsY hσ).mpr ht, (hsY hσ).mpr (hx4'.mp z4)⟩, if_pos (by omega)]
    · unfold F_route
      rw [if_neg (fun y => z4 (hx4'.mpr ((hsY hσ).mp y.2)))])
  (by
    rintro p t o k M0 ⟨hp, h0, σ0, h⟩ hM rt ro rk a c M n ⟨⟨hY, hD⟩, ⟨hk, ht, htd⟩, ⟨ha, had⟩, ⟨hc0, hcr⟩, hR, hμ⟩ -
    subst h0
    obtain ⟨hG, hw⟩ := absY_s h
    obtain ⟨n2, n9, n144⟩ := gY_n hG
    obtain ⟨e0, e1, e2⟩ := hY.2.2.1
    have ho := hY.2.2.2
    obtain ⟨hG1, eg⟩ := gY_congr hG e0
    have hw1 : woY M := by unfold woY; rw [e1, e2]; exact hw
    have hrk : 0 ≤ rkF (gY M0) (dY M) a := (sumF_b (fun j _ => if01 _)).1
    have fin : (a = o ∨ c = k) → ∀ v, v = (if k = -1 then c else if c = k then a else -5) → c_X9_route 0 t o k M0 v M := fun hac v hv σ hσ => by
      refine ⟨?_, (hY.1 σ hσ).1⟩
      have q1 := rgo_cg (L := dstS σ o) (o := o) (k := k) hσ.1.2.1 hσ.1.2.2.1 (fun t ht => hσ.2.2.1 t ht) (fun k hk => hσ.2.2.2.1 k hk) hσ.1.1 144 t 0 ht.1 (by rw [← hσ.2.1.1]; exact ht.2)
      have q2 := hR (dstS σ o) (hY.1 σ hσ).2.1
      rw [hσ.2.1.1, show (144 - c).toNat = (143 - c).toNat + 1 by omega] at q2
      have q3 := (hY.1 σ hσ).2.1 t.toNat (by rw [eg]; omega)
      unfold F_route
      rw [if_pos ⟨(hsY hσ).mpr ht, (hsY hσ).mpr ho⟩, if_neg (by omega), if_neg (by rw [← q3]; exact htd), ← q1, q2]
      unfold rgo
      rw [if_pos hac]
      exact hv
    have end1 : (a = o ∨ c = k) → ((0 : Int) ≤ k → ((¬ c = k → True ∧ c_X9_route 0 t o k M0 (-5) M) ∧ (¬ ¬ c = k → True ∧ c_X9_route 0 t o k M0 a M))) ∧ (¬ (0 : Int) ≤ k → True ∧ c_X9_route 0 t o k M0 c M) := fun hac =>
      ⟨fun k0 => ⟨fun hck => ⟨trivial, fin hac _ (by rw [if_neg (by omega), if_neg hck])⟩, fun hck => ⟨trivial, fin hac _ (by rw [if_neg (by omega), if_pos (Classical.byContradiction hck)])⟩⟩, fun k0 => ⟨trivial, fin hac _ (by rw [if_pos (by omega)])⟩⟩
    refine ⟨fun z => end1 (Or.inl z), fun z => ⟨fun z2 => end1 (Or.inr z2), fun z2 => ?_⟩⟩
    have nE := (nT_b hG.1).1
    have ea : ((a.toNat : Nat) : Int) = a := by omega
    obtain ⟨u, ul, u0, e, e0', e4, hs, en, eL⟩ := hD.2.2.2 a.toNat (by omega) (by omega) had
    rw [ea] at en
    have ir := nx_inv hG.1 (t := (u : Int)) (d := e) (by omega) (by omega) ⟨e0', e4⟩ (by rw [en]; exact ha.1)
    have sr := stl_rev (κ := M0 1) (wt := M0 2) hG.1 (t := (u : Int)) (d := e) (by omega) (by omega) ⟨e0', e4⟩ (by rw [en]; exact ha.1)
    rw [en] at ir sr
    obtain ⟨r0, r4, -⟩ := rev_b ⟨e0', e4⟩
    have hne : M 11 a.toNat ≠ 1000000 := fun y => by
      unfold dY at had
      rw [if_pos y] at had
      omega
    have va := hY.2.1 a.toNat (by omega)
    refine ⟨⟨hp, rfl, hG1, hw1, by rw [eg]; exact ha, by omega, by rw [eg]; exact hY.2.1, fun d d0 d4 ds y => ?_⟩, ?_⟩
    · rw [eg, e1, e2] at ds
      have := hD.2.2.1 a.toNat (by omega) had d d0 d4 (by rw [ea]; exact ds)
      rw [ea] at this
      rw [eg] at y
      have w := this.1
      unfold dY at w
      rw [if_pos y] at w
      omega
    · rintro x2 M1 - - ⟨hx, rfl⟩
      rw [eg, e1, e2] at hx
      obtain ⟨d, d0, d4, ds, dL, dx⟩ := onw_hit (g := gY M0) (κ := M0 1) (wt := M0 2) (L := dY M1) (a := a) 4 (Nat.le_refl 4) ⟨rev e, by omega, r4, by rw [sr]; exact hs, by rw [sr, ir.1, Int.toNat_natCast]; omega⟩
      have hx2 : x2 = nx (gY M0) a d := (hx (dY M1) (fun _ _ => rfl)).trans dx
      have xb := (stl_b hw.1 hw.2 hG.1 (t := a) (d := d) ha.1 ha.2).2.2 ds
      have x0 := (hD.2.2.1 a.toNat (by omega) had d d0 d4 (by rw [ea]; exact ds)).1
      rw [ea, ← hx2] at x0
      rw [← hx2] at xb dL
      have rk := rk_lt (L := dY M1) (a := a.toNat) (b := x2.toNat) x0 (by omega) (nT (gY M0))
      rw [if_pos (show x2.toNat < nT (gY M0) by omega)] at rk
      refine ⟨by omega, (500 - (c + 1)).toNat, by omega, rfl, rfl, rfl, rfl, ⟨hY, hD⟩, ⟨hk, ht, htd⟩, ⟨xb, x0⟩, ⟨by omega, ?_⟩, fun L hL => ?_, rfl⟩
      · have hcr2 : c + sumF (fun u => if 0 ≤ dY M1 u ∧ dY M1 u < dY M1 a.toNat then (1 : Int) else 0) (nT (gY M0)) ≤ 143 := hcr
        show c + 1 + sumF (fun u => if 0 ≤ dY M1 u ∧ dY M1 u < dY M1 x2.toNat then (1 : Int) else 0) (nT (gY M0)) ≤ 143
        omega
      · rw [hR L hL, show (144 - c).toNat = (144 - (c + 1)).toNat + 1 by omega, hx L hL]
        show (if a = o ∨ c = k then _ else _) = _
        rw [if_neg (by omega)])
end Y14
