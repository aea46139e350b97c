/-! ===== the law's distances ===== -/
abbrev TZ (M0 M : Mem) : Prop := TT M0 M ∧ M 46 = M0 46
theorem tz_call {M0 M M1 σ : Mem} {x : Int} {F : Mem → Int} (T : TZ M0 M) (hσ : absX M0 σ) (hc : (∀ σ, absX M σ → x = F σ ∧ absX M1 σ) ∧ ∀ b, 46 ≤ b → M1 b = M b) : x = F σ ∧ TZ M0 M1 := by
  obtain ⟨e, T1⟩ := tt_call T.1 hσ hc.1
  exact ⟨e, T1, (hc.2 46 (Nat.le_refl _)).trans T.2⟩
def DZ (σ M0 : Mem) (a b e i : Int) : Prop := absX M0 σ ∧ (hasS σ a ∧ hasS σ b) ∧ (∀ k : Nat, k < 6 → M0 46 k = σ 2 k) ∧ e = nT (gS σ) ∧ i = dS σ a.toNat b.toNat
theorem wz {σ M0 M : Mem} {a b e i : Int} (hD : DZ σ M0 a b e i) (T : TZ M0 M) {t x : Int} (ht : hasS σ t) (hx : x = σ 1 t.toNat) : (0 ≤ x ∧ x < ((lnZ 8 46 : Nat) : Int)) ∧ M 46 x.toNat = σ 2 (σ 1 t.toNat).toNat ∧ 0 ≤ σ 2 (σ 1 t.toNat).toNat ∧ σ 2 (σ 1 t.toNat).toNat ≤ 9 := by
  obtain ⟨hσ, -, hW, -, -⟩ := hD
  have hn := nT_s hσ.1.1
  obtain ⟨h0, h1⟩ := ht
  have hk := hσ.1.1.2.1 t.toNat (by omega)
  have hw := hσ.1.1.2.2.1 (σ 1 t.toNat).toNat (by omega)
  rw [hx]
  refine ⟨⟨hk.1, by show σ 1 t.toNat < (8 : Int); omega⟩, ?_, hw⟩
  rw [T.2]
  exact hW _ (by omega)
theorem toN {σ : Mem} {t : Int} (h : hasS σ t) : t.toNat < nT (gS σ) ∧ ((t.toNat : Nat) : Int) = t := by
  obtain ⟨h0, h1⟩ := h
  omega
/-- what a step at the end changes -/
theorem dS_rel {σ : Mem} (h : okS σ) {s : Nat} (hs : s < nT (gS σ)) {b d : Int} (hb : hasS σ b) (d0 : 0 ≤ d) (d4 : d < 4) (hp : 0 < slS σ b d) : hasS σ (nx (gS σ) b d) ∧ (0 ≤ dS σ s b.toNat → 0 ≤ dS σ s (nx (gS σ) b d).toNat ∧ dS σ s (nx (gS σ) b d).toNat ≤ dS σ s b.toNat + slS σ b d) ∧
    (0 ≤ dS σ s (nx (gS σ) b d).toNat → 0 ≤ dS σ s b.toNat ∧ dS σ s b.toNat ≤ dS σ s (nx (gS σ) b d).toNat + slS σ b d) := by
  have hD := dS_is h hs
  obtain ⟨bl, be⟩ := toN hb
  have hx := (slS_b h (d := d) hb).2.2 hp
  obtain ⟨r1, r2⟩ := slS_rev h hb ⟨d0, d4⟩ hx.1
  obtain ⟨c0, c1, -⟩ := rev_b (d := d) ⟨d0, d4⟩
  refine ⟨hx, fun z => ?_, fun z => ?_⟩
  · have := hD.2.2.1 b.toNat bl z d d0 d4 (by rw [be]; exact hp)
    rw [be] at this
    exact this
  · have e : (((nx (gS σ) b d).toNat : Nat) : Int) = nx (gS σ) b d := Int.toNat_of_nonneg hx.1
    have r2 : stl (gS σ) (σ 1) (σ 2) (nx (gS σ) b d) (rev d) = slS σ b d := r2
    have := hD.2.2.1 (nx (gS σ) b d).toNat (by omega) z (rev d) c0 c1 (by rw [e, r2]; exact hp)
    rw [e, r1, r2] at this
    exact this
def DW (σ : Mem) (a b i s : Int) (q : Nat) : Prop := 0 ≤ i ∧ wayS σ a b q ∧ s = (q : Int) ∧ (q : Int) < nT (gS σ)
theorem DW_d {σ M0 : Mem} {a b e i s : Int} {q : Nat} (hD : DZ σ M0 a b e i) (h : DW σ a b i s q) : dS σ b.toNat a.toNat = i ∧ dS σ b.toNat a.toNat ≠ -4 := by
  obtain ⟨hσ, ⟨ha, hb⟩, -, -, hi⟩ := hD
  have := dS_sym hσ.1.1 (toN hb).1 (toN ha).1
  have := h.1
  omega
/-- a step of the way, as the law looks at it: f its tile, t the next one, y its length, d0 its direction -/
def DR (σ : Mem) (b f t y d0 : Int) : Prop := hasS σ f ∧ (0 ≤ d0 ∧ d0 < 4) ∧ gdS σ b f d0 ∧ t = nx (gS σ) f d0 ∧ y = slS σ f d0 ∧ (∀ e : Int, 0 ≤ e → e < d0 → ¬ gdS σ b f e) ∧ 0 ≤ dS σ b.toNat f.toNat
section L4
variable {l : Launch} {D : va_G} {cy : Nat → ClassId} {ad : Nat → Nat}
set_option maxHeartbeats 2000000 in
theorem ok_L_distances (hA : jA ad 47) : OK_L_distances l D cy ad := met_L_distances hA (okz_L_low hA (ok_L_low (jA_le hA (by decide)))) (okz_X8_distance hA (ok_X8_distance (jA_le hA (by decide)))) (okz_X8_farthest hA (ok_X8_farthest (jA_le hA (by decide)))) (okz_X8_kind hA (ok_X8_kind (jA_le hA (by decide)))) (okz_X8_nearest hA (ok_X8_nearest (jA_le hA (by decide)))) (okz_X8_neighbour hA (ok_X8_neighbour (jA_le hA (by decide)))) (okz_X8_route hA (ok_X8_route (jA_le hA (by decide)))) (okz_X8_value hA (ok_X8_value (jA_le hA (by decide)))) (okz_X8_within hA (ok_X8_within (jA_le hA (by decide))))
  (fun p w a b g M0 e i d M μ => TZ M0 M ∧ ∃ σ, DZ σ M0 a b e i ∧ (0 ≤ d ∧ d ≤ 4) ∧ μ = (100000 - 10 * d).toNat)
  (fun p w a b g M0 e i d t y M μ => TZ M0 M ∧ ∃ σ, DZ σ M0 a b e i ∧ (0 ≤ d ∧ d < 4) ∧ t = nx (gS σ) b d ∧ y = (if 0 < slS σ b d then 1 else 0) ∧ μ = (99999 - 10 * d).toNat)
  (fun p w a b g M0 e i d t y f M μ => TZ M0 M ∧ ∃ σ, DZ σ M0 a b e i ∧ (0 ≤ d ∧ d < 4) ∧ t = nx (gS σ) b d ∧ y = (if 0 < slS σ b d then 1 else 0) ∧ (y ≠ 0 → f = dS σ a.toNat t.toNat) ∧ μ = (99998 - 10 * d).toNat)
  (fun p w a b g M0 e i d t y f u M μ => TZ M0 M ∧ ∃ σ, DZ σ M0 a b e i ∧ (0 ≤ d ∧ d < 4) ∧ t = nx (gS σ) b d ∧ y = (if 0 < slS σ b d then 1 else 0) ∧ (y ≠ 0 → f = dS σ a.toNat t.toNat ∧ u = slS σ b d) ∧ μ = (99997 - 10 * d).toNat)
  (fun p w a b g M0 e i d t y f u M μ => TZ M0 M ∧ ∃ σ, DZ σ M0 a b e i ∧ (0 ≤ d ∧ d < 4) ∧ (y ≠ 0 → ((0 ≤ i → f ≤ i + u ∧ i ≤ f + u) ∧ (-4 ≤ i ∧ i ≤ 2592) ∧ (-4 ≤ f ∧ f ≤ 2592) ∧ 0 ≤ u ∧ u ≤ 18)) ∧ μ = (99996 - 10 * d).toNat)
  (fun p w a b g M0 e i s m k M μ => TZ M0 M ∧ ∃ σ, DZ σ M0 a b e i ∧ ∃ q : Nat, DW σ a b i s q ∧ (0 ≤ k ∧ k ≤ s) ∧ m = i - dS σ b.toNat (wpt σ a b k.toNat).toNat ∧ μ = (20000 + (145 - k) * 100).toNat)
  (fun p w a b g M0 e i s m k f t y v d M μ => TZ M0 M ∧ ∃ σ, DZ σ M0 a b e i ∧ ∃ q : Nat, DW σ a b i s q ∧ (0 ≤ k ∧ k < s) ∧ m = i - dS σ b.toNat f.toNat ∧ f = wpt σ a b k.toNat ∧ t = wpt σ a b (k.toNat + 1) ∧ (∃ d0, DR σ b f t y d0 ∧ v = (if d0 < d then 1 else 0)) ∧ (0 ≤ d ∧ d ≤ 4) ∧ μ = (19999 + (145 - k) * 100 - 10 * d).toNat)
  (fun p w a b g M0 e i s m k f t y v d z u M μ => TZ M0 M ∧ ∃ σ, DZ σ M0 a b e i ∧ ∃ q : Nat, DW σ a b i s q ∧ (0 ≤ k ∧ k < s) ∧ m = i - dS σ b.toNat f.toNat ∧ f = wpt σ a b k.toNat ∧ t = wpt σ a b (k.toNat + 1) ∧ (∃ d0, DR σ b f t y d0 ∧ v = (if d0 < d then 1 else 0)) ∧ (0 ≤ d ∧ d < 4) ∧ z = nx (gS σ) f d ∧ (u = 0 ∨ u = 1) ∧ (u = 1 ↔ gdS σ b f d) ∧ μ = (19998 + (145 - k) * 100 - 10 * d).toNat)
  (fun p w a b g M0 e i s m k f t y v d z u M μ => TZ M0 M ∧ ∃ σ, DZ σ M0 a b e i ∧ ∃ q : Nat, DW σ a b i s q ∧ (0 ≤ k ∧ k < s) ∧ m = i - dS σ b.toNat f.toNat ∧ f = wpt σ a b k.toNat ∧ t = wpt σ a b (k.toNat + 1) ∧ (∃ d0, DR σ b f t y d0 ∧ v = (if d0 < d then 1 else 0)) ∧ (0 ≤ d ∧ d < 4) ∧ z = nx (gS σ) f d ∧ (u = 0 ∨ u = 1) ∧ (u = 1 ↔ gdS σ b f d) ∧ μ = (19997 + (145 - k) * 100 - 10 * d).toNat)
  (fun p w a b g M0 e i s m r f j c q t M μ => TZ M0 M ∧ ∃ σ, DZ σ M0 a b e i ∧ (∃ q' : Nat, DW σ a b i s q') ∧ m = i ∧ r = faF (dS σ a.toNat) a.toNat (nT (gS σ)) ∧ f = dS σ a.toNat r.toNat ∧ j = sumF (fun t => if dS σ a.toNat t ≠ -4 ∧ dS σ a.toNat t ≤ i then 1 else 0) t.toNat ∧ (0 ≤ c ∧ c ≤ 5) ∧ q = neF (dS σ a.toNat) (σ 1) c t.toNat ∧ (0 ≤ t ∧ t ≤ e) ∧ μ = ((150 - t) * 10).toNat)
  (fun p w a b g M0 e i s m r f j c q t y M μ => TZ M0 M ∧ ∃ σ, DZ σ M0 a b e i ∧ (∃ q' : Nat, DW σ a b i s q') ∧ m = i ∧ r = faF (dS σ a.toNat) a.toNat (nT (gS σ)) ∧ f = dS σ a.toNat r.toNat ∧ j = sumF (fun t => if dS σ a.toNat t ≠ -4 ∧ dS σ a.toNat t ≤ i then 1 else 0) (t + 1).toNat ∧ (0 ≤ c ∧ c ≤ 5) ∧ q = neF (dS σ a.toNat) (σ 1) c t.toNat ∧ (0 ≤ t ∧ t < e) ∧ y = dS σ a.toNat t.toNat ∧ μ = ((150 - t) * 10 - 1).toNat)
  (fun p w a b g M0 e i s m r f j c q t y M μ => TZ M0 M ∧ ∃ σ, DZ σ M0 a b e i ∧ (∃ q' : Nat, DW σ a b i s q') ∧ m = i ∧ r = faF (dS σ a.toNat) a.toNat (nT (gS σ)) ∧ f = dS σ a.toNat r.toNat ∧ j = sumF (fun t => if dS σ a.toNat t ≠ -4 ∧ dS σ a.toNat t ≤ i then 1 else 0) (t + 1).toNat ∧ (0 ≤ c ∧ c ≤ 5) ∧ q = neF (dS σ a.toNat) (σ 1) c t.toNat ∧ (0 ≤ t ∧ t < e) ∧ y = dS σ a.toNat t.toNat ∧ μ = ((150 - t) * 10 - 2).toNat)
  (by
    rintro p w a b g M0 ⟨rfl, rfl, σ, hσ, ⟨ha, hb⟩, hW⟩ hM ra rb rg
    have hn := nT_s hσ.1.1
    refine ⟨⟨rfl, rfl, σ, hσ⟩, fun x1 M1 _ _ hc => ?_⟩
    obtain ⟨e1, T⟩ := tz_call ⟨fun _ h => h, rfl⟩ hσ hc
    refine ⟨⟨rfl, rfl, σ, T.1 σ hσ⟩, fun x2 M2 _ _ hc => ?_⟩
    obtain ⟨e2, T⟩ := tz_call T hσ hc
    have e12 : x1 * x2 = nT (gS σ) := by rw [e1, e2]; exact hn.1.symm
    rw [e12]
    refine ⟨⟨by omega, by omega⟩, ⟨rfl, rfl, σ, T.1 σ hσ⟩, fun x3 M3 _ _ hc => ?_⟩
    obtain ⟨e3, T⟩ := tz_call T hσ hc
    rw [F_ds ha hb] at e3
    refine ⟨⟨rfl, rfl, σ, T.1 σ hσ⟩, fun x4 M4 _ _ hc => ?_⟩
    obtain ⟨e4, T⟩ := tz_call T hσ hc
    rw [F_ds hb ha] at e4
    refine ⟨fun z => absurd (by rw [e4, e3]; exact dS_sym hσ.1.1 (toN hb).1 (toN ha).1) z, fun _ => ⟨⟨rfl, rfl, σ, T.1 σ hσ⟩, fun x5 M5 _ _ hc => ?_⟩⟩
    obtain ⟨e5, T⟩ := tz_call T hσ hc
    rw [F_ds ha ha, (dS_is hσ.1.1 (toN ha).1).1.2] at e5
    exact ⟨fun _ => ⟨_, rfl, rfl, rfl, rfl, rfl, T, σ, ⟨hσ, ⟨ha, hb⟩, hW, rfl, e3⟩, by omega, rfl⟩, fun z => absurd e5 z⟩)
  (by
    rintro p w a b g M0 ⟨rfl, rfl, -⟩ hM ra rb rg e i d M n ⟨T, σ, hD, hd, hμ⟩ -
    obtain ⟨hσ, ⟨ha, hb⟩, hW, he, hi⟩ := id hD
    have hn := nT_s hσ.1.1
    have hsym := dS_sym hσ.1.1 (toN hb).1 (toN ha).1
    have hdi := (dS_is hσ.1.1 (toN ha).1).2.1 b.toNat (toN hb).1
    refine ⟨fun h => ⟨⟨rfl, rfl, σ, T.1 σ hσ⟩, fun x1 M1 _ _ hc => ?_⟩, fun h => ⟨⟨rfl, rfl, σ, T.1 σ hσ⟩, fun x1 M1 _ _ hc => ?_⟩⟩
    · obtain ⟨e1, T⟩ := tz_call T hσ hc
      refine ⟨fun h1 => ?_, fun h1 => ?_⟩
      · obtain ⟨q, q1, q2⟩ := way_ex hσ.1.1 ha hb (by omega)
        rw [F_rt ha hb (by decide) (by omega) (by omega) q2, if_pos rfl] at e1
        refine ⟨_, by omega, rfl, rfl, rfl, rfl, rfl, T, σ, hD, q, ⟨h1, q2, e1, q1⟩, by omega, ?_, rfl⟩
        show (0 : Int) = i - dS σ b.toNat a.toNat
        omega
      · have h4 : dS σ b.toNat a.toNat = -4 := by omega
        rw [F_rn ha hb (by decide) h4] at e1
        refine ⟨fun z => absurd (by omega) z, fun _ => ⟨fun z => absurd e1 z, fun _ => ⟨⟨rfl, rfl, σ, T.1 σ hσ⟩, fun x2 M2 _ _ hc => ?_⟩⟩⟩
        obtain ⟨e2, T⟩ := tz_call T hσ hc
        rw [F_rn ha hb (by decide) h4] at e2
        refine ⟨fun z => absurd e2 z, fun _ => ⟨⟨rfl, rfl, σ, T.1 σ hσ⟩, fun x3 M3 _ _ hc => ?_⟩⟩
        obtain ⟨e3, T⟩ := tz_call T hσ hc
        have e4 : x3 = -2 := by
          rw [e3]
          unfold F_route
          rw [if_pos ⟨ha, hb⟩, if_pos (by decide)]
        exact ⟨fun z => absurd e4 z, fun _ => ⟨Or.inr rfl, rfl, T.1, T.2⟩⟩
    · obtain ⟨e1, T⟩ := tz_call T hσ hc
      rw [F_nb hb hd.1 (by omega)] at e1
      have hs := slS_i hσ.1.1 (d := d) hb
      have no : ∀ {M' : Mem}, TZ M0 M' → slS σ b d = 0 → ∃ μ : Nat, μ < n ∧ (0 : Nat) = 0 ∧ (46 : Nat) = 46 ∧ a = a ∧ b = b ∧ g = g ∧ TZ M0 M' ∧ ∃ σ, DZ σ M0 a b e i ∧ (0 ≤ d ∧ d < 4) ∧ x1 = nx (gS σ) b d ∧ (0 : Int) = (if 0 < slS σ b d then 1 else 0) ∧ μ = (99999 - 10 * d).toNat :=
        fun T z => ⟨_, by omega, rfl, rfl, rfl, rfl, rfl, T, σ, hD, ⟨hd.1, by omega⟩, e1, by rw [if_neg (by omega)], rfl⟩
      refine ⟨fun h1 => no T (hs.1 (by omega)), fun h1 => ⟨⟨rfl, rfl, σ, T.1 σ hσ⟩, fun x2 M2 _ _ hc => ?_⟩⟩
      obtain ⟨e2, T⟩ := tz_call T hσ hc
      rw [F_kd hb] at e2
      obtain ⟨w1, w2, w3⟩ := wz hD T hb e2
      have hx := (nx_b hσ.1.1.1 (t := b) (d := d) hb.1 (by have := hb.2; omega)).resolve_left (by omega)
      have hhx : hasS σ x1 := ⟨by omega, by omega⟩
      refine ⟨rfl, w1, fun h2 => no T ((hs.2 (by omega)).1 (by omega)), fun h2 => ⟨⟨rfl, rfl, σ, T.1 σ hσ⟩, fun x3 M3 _ _ hc => ?_⟩⟩
      obtain ⟨e3, T⟩ := tz_call T hσ hc
      rw [F_kd hhx] at e3
      obtain ⟨v1, v2, v3⟩ := wz hD T hhx e3
      rw [e1] at v2 v3
      refine ⟨rfl, v1, fun h3 => no T ((hs.2 (by omega)).2.1 (by omega)), fun h3 => ⟨_, by omega, rfl, rfl, rfl, rfl, rfl, T, σ, hD, ⟨hd.1, by omega⟩, e1, ?_, rfl⟩⟩
      rw [if_pos]
      have := (hs.2 (by omega)).2.2 (by omega) (by omega)
      omega)
  (by
    rintro p w a b g M0 ⟨rfl, rfl, -⟩ hM ra rb rg e i d t y M n ⟨T, σ, hD, hd, ht, hy, hμ⟩ -
    obtain ⟨hσ, ⟨ha, hb⟩, hW, he, hi⟩ := id hD
    have hn := nT_s hσ.1.1
    refine ⟨fun h => ⟨_, by omega, rfl, rfl, rfl, rfl, rfl, T, σ, hD, hd, ht, hy, fun z => absurd h z, rfl⟩, fun h => ⟨⟨rfl, rfl, σ, T.1 σ hσ⟩, fun x1 M1 _ _ hc => ?_⟩⟩
    obtain ⟨e1, T⟩ := tz_call T hσ hc
    have hp : 0 < slS σ b d := Classical.byContradiction fun z => h (by rw [hy, if_neg z])
    have hr := dS_rel hσ.1.1 (toN ha).1 hb hd.1 hd.2 hp
    rw [← ht] at hr
    rw [F_ds ha hr.1] at e1
    exact ⟨_, by omega, rfl, rfl, rfl, rfl, rfl, T, σ, hD, hd, ht, hy, fun _ => e1, rfl⟩)
  (by
    rintro p w a b g M0 ⟨rfl, rfl, -⟩ hM ra rb rg e i d t y f M n ⟨T, σ, hD, hd, ht, hy, hf, hμ⟩ -
    obtain ⟨hσ, ⟨ha, hb⟩, hW, he, hi⟩ := id hD
    have hn := nT_s hσ.1.1
    refine ⟨fun h => ⟨_, by omega, rfl, rfl, rfl, rfl, rfl, T, σ, hD, hd, ht, hy, fun z => absurd h z, rfl⟩, fun h => ⟨⟨rfl, rfl, σ, T.1 σ hσ⟩, fun x1 M1 _ _ hc => ?_⟩⟩
    obtain ⟨e1, T⟩ := tz_call T hσ hc
    rw [F_kd hb] at e1
    obtain ⟨w1, w2, w3⟩ := wz hD T hb e1
    have hp : 0 < slS σ b d := Classical.byContradiction fun z => h (by rw [hy, if_neg z])
    have hr := dS_rel hσ.1.1 (toN ha).1 hb hd.1 hd.2 hp
    have hs := slS_i hσ.1.1 (d := d) hb
    rw [← ht] at hr hs
    refine ⟨rfl, w1, ⟨rfl, rfl, σ, T.1 σ hσ⟩, fun x2 M2 _ _ hc => ?_⟩
    obtain ⟨e2, T2⟩ := tz_call T hσ hc
    rw [F_kd hr.1] at e2
    obtain ⟨v1, v2, v3⟩ := wz hD T2 hr.1 e2
    have hs2 := hs.2 hr.1.1
    refine ⟨rfl, v1, ⟨by omega, by omega⟩, _, by omega, rfl, rfl, rfl, rfl, rfl, T2, σ, hD, hd, ht, hy, fun z => ⟨hf z, ?_⟩, rfl⟩
    rw [w2, v2]
    refine (hs2.2.2 ?_ ?_).symm
    · exact Classical.byContradiction fun z => by have := hs2.1 (by omega); omega
    · exact Classical.byContradiction fun z => by have := hs2.2.1 (by omega); omega)
  (by
    rintro p w a b g M0 ⟨rfl, rfl, -⟩ hM ra rb rg e i d t y f u M n ⟨T, σ, hD, hd, ht, hy, hf, hμ⟩ -
    obtain ⟨hσ, ⟨ha, hb⟩, hW, he, hi⟩ := id hD
    have hn := nT_s hσ.1.1
    refine ⟨fun h => ⟨_, by omega, rfl, rfl, rfl, rfl, rfl, T, σ, hD, hd, fun z => absurd h z, rfl⟩, fun h => ?_⟩
    have hp : 0 < slS σ b d := Classical.byContradiction fun z => h (by rw [hy, if_neg z])
    have hr := dS_rel hσ.1.1 (toN ha).1 hb hd.1 hd.2 hp
    have hsb := slS_b hσ.1.1 (d := d) hb
    rw [← ht] at hr
    obtain ⟨f1, f2⟩ := hf h
    have bi := dst_bd hσ.1.1.1 hσ.1.1.2.1 hσ.1.1.2.2.1 (dS_is hσ.1.1 (toN ha).1) (toN hb).1
    have bf := dst_bd hσ.1.1.1 hσ.1.1.2.1 hσ.1.1.2.2.1 (dS_is hσ.1.1 (toN ha).1) (toN hr.1).1
    have done : ∃ μ : Nat, μ < n ∧ (0 : Nat) = 0 ∧ (46 : Nat) = 46 ∧ a = a ∧ b = b ∧ g = g ∧ TZ M0 M ∧ ∃ σ, DZ σ M0 a b e i ∧ (0 ≤ d ∧ d < 4) ∧ (y ≠ 0 → ((0 ≤ i → f ≤ i + u ∧ i ≤ f + u) ∧ (-4 ≤ i ∧ i ≤ 2592) ∧ (-4 ≤ f ∧ f ≤ 2592) ∧ 0 ≤ u ∧ u ≤ 18)) ∧ μ = (99996 - 10 * d).toNat :=
      ⟨_, by omega, rfl, rfl, rfl, rfl, rfl, T, σ, hD, hd, fun _ => ⟨fun z => by have h1 := hr.2.1 (by omega); have h2 := hr.2.2 h1.1; omega, by omega, by omega, by omega, by omega⟩, rfl⟩
    refine ⟨fun h1 => ⟨fun h2 => ⟨fun z => absurd rfl z, fun _ => done⟩, fun h2 => absurd ?_ h2⟩, fun h1 => ⟨fun h2 => absurd ?_ h1, fun h2 => ⟨fun z => absurd rfl z, fun _ => done⟩⟩⟩
    · have := hr.2.1 (by omega); omega
    · have := hr.2.2 (by omega); omega)
  (by
    rintro p w a b g M0 ⟨rfl, rfl, -⟩ hM ra rb rg e i d t y f u M n ⟨T, σ, hD, hd, hf, hμ⟩ -
    have go : ∃ μ : Nat, μ < n ∧ (0 : Nat) = 0 ∧ (46 : Nat) = 46 ∧ a = a ∧ b = b ∧ g = g ∧ TZ M0 M ∧ ∃ σ, DZ σ M0 a b e i ∧ (0 ≤ d + 1 ∧ d + 1 ≤ 4) ∧ μ = (100000 - 10 * (d + 1)).toNat := ⟨_, by omega, rfl, rfl, rfl, rfl, rfl, T, σ, hD, by omega, rfl⟩
    refine ⟨fun h => ⟨⟨by omega, by omega⟩, go⟩, fun h => ?_⟩
    obtain ⟨f1, f2, f3, f4, f5⟩ := hf h
    exact ⟨fun h1 => ⟨⟨by omega, by omega⟩, go⟩, fun h1 => ⟨⟨by omega, by omega⟩, fun z => absurd (f1 (by omega)).1 (by omega), fun _ => ⟨⟨by omega, by omega⟩, fun _ => ⟨⟨by omega, by omega⟩, go⟩, fun z => absurd (f1 (by omega)).2 z⟩⟩⟩)
  (by
    rintro p w a b g M0 ⟨rfl, rfl, -⟩ hM ra rb rg e i s m k M n ⟨T, σ, hD, q, hDW, hk, hm, hμ⟩ -
    obtain ⟨hσ, ⟨ha, hb⟩, hW, he, hi⟩ := id hD
    obtain ⟨i0, hq, hsq, hqn⟩ := id hDW
    have hn := nT_s hσ.1.1
    obtain ⟨d1, d2⟩ := DW_d hD hDW
    refine ⟨fun h => ⟨⟨rfl, rfl, σ, T.1 σ hσ⟩, fun x1 M1 _ _ hc => ?_⟩, fun h => ⟨⟨rfl, rfl, σ, T.1 σ hσ⟩, fun x1 M1 _ _ hc => ?_⟩⟩
    · obtain ⟨e1, T⟩ := tz_call T hσ hc
      rw [F_fa ha] at e1
      obtain ⟨fb, f0, fm⟩ := far_is (dS_is hσ.1.1 (toN ha).1)
      rw [← e1] at fb
      refine ⟨⟨rfl, rfl, σ, T.1 σ hσ⟩, fun x2 M2 _ _ hc => ?_⟩
      obtain ⟨e2, T⟩ := tz_call T hσ hc
      rw [F_ds ha fb] at e2
      refine ⟨by show (0 : Int) < 6; decide, fun x3 M3 _ _ hc => ?_⟩
      obtain ⟨⟨e3, rfl⟩, -⟩ := hc
      have hl := lowF_b (v := g) (b := 6) (by decide)
      have hz : m = i := by
        have hq1 : wpt σ a b q = b.toNat := hq.1
        rw [hm, show k.toNat = q by omega, hq1, Int.toNat_natCast, (dS_is hσ.1.1 (toN hb).1).1.2]
        omega
      exact ⟨_, by omega, rfl, rfl, rfl, rfl, rfl, T, σ, hD, ⟨q, hDW⟩, hz, e1, e2, rfl, by omega, rfl, by omega, rfl⟩
    · obtain ⟨e1, T⟩ := tz_call T hσ hc
      rw [F_rt ha hb (by omega) d2 (by omega) hq, if_neg (by omega), if_pos (by omega)] at e1
      refine ⟨⟨by omega, by omega⟩, ⟨rfl, rfl, σ, T.1 σ hσ⟩, fun x2 M2 _ _ hc => ?_⟩
      obtain ⟨e2, T⟩ := tz_call T hσ hc
      rw [F_rt ha hb (by omega) d2 (by omega) hq, if_neg (by omega), if_pos (by omega), show (k + 1).toNat = k.toNat + 1 by omega] at e2
      obtain ⟨b1, b2, -⟩ := hq.2 k.toNat (by omega)
      obtain ⟨c1, c2, -⟩ := hq.2 (k.toNat + 1) (by omega)
      have b2 : 0 ≤ dS σ b.toNat (wpt σ a b k.toNat).toNat := b2
      have h1 : hasS σ x1 := by rw [e1]; exact b1
      have h2 : hasS σ x2 := by rw [e2]; exact c1
      obtain ⟨d0, g0, g4, gg, gn, gf⟩ := way_step hσ.1.1 hb hq (i := k.toNat) (by omega)
      rw [← e1] at gg gn gf b2
      rw [← e2] at gn
      refine ⟨⟨rfl, rfl, σ, T.1 σ hσ⟩, fun x3 M3 _ _ hc => ?_⟩
      obtain ⟨e3, T⟩ := tz_call T hσ hc
      rw [F_kd h1] at e3
      obtain ⟨w1, w2, w3⟩ := wz hD T h1 e3
      refine ⟨rfl, w1, ⟨rfl, rfl, σ, T.1 σ hσ⟩, fun x4 M4 _ _ hc => ?_⟩
      obtain ⟨e4, T2⟩ := tz_call T hσ hc
      rw [F_kd h2] at e4
      obtain ⟨v1, v2, v3⟩ := wz hD T2 h2 e4
      have hs := (slS_i hσ.1.1 (d := d0) h1).2 (by rw [← gn]; exact h2.1)
      rw [← gn] at hs
      have hy : M3 46 x3.toNat + M4 46 x4.toNat = slS σ x1 d0 := by
        rw [w2, v2]
        refine (hs.2.2 ?_ ?_).symm
        · exact Classical.byContradiction fun z => by have := hs.1 (by omega); have := gg.1; omega
        · exact Classical.byContradiction fun z => by have := hs.2.1 (by omega); have := gg.1; omega
      refine ⟨rfl, v1, ⟨by omega, by omega⟩, _, by omega, rfl, rfl, rfl, rfl, rfl, T2, σ, hD, q, hDW, by omega, by rw [hm, ← e1], e1, e2, ⟨d0, ⟨h1, ⟨g0, g4⟩, gg, gn, hy, gf, b2⟩, by rw [if_neg (by omega)]⟩, by omega, rfl⟩)
  (by
    rintro p w a b g M0 ⟨rfl, rfl, -⟩ hM ra rb rg e i s m k f t y v d M n ⟨T, σ, hD, q, hDW, hk, hm, hf, ht, ⟨d0, hR, hv⟩, hd, hμ⟩ -
    obtain ⟨hσ, ⟨ha, hb⟩, hW, he, hi⟩ := id hD
    obtain ⟨i0, hq, hsq, hqn⟩ := id hDW
    obtain ⟨hhf, hd0, gg, gt, gy, gf, f0⟩ := id hR
    have hn := nT_s hσ.1.1
    have bl := toN hb
    have fl := toN hhf
    have bf := dst_bd hσ.1.1.1 hσ.1.1.2.1 hσ.1.1.2.2.1 (dS_is hσ.1.1 bl.1) fl.1
    have sb := slS_b hσ.1.1 (d := d0) hhf
    have hht : hasS σ t := by rw [gt]; exact sb.2.2 gg.1
    have tl := toN hht
    have gg2 : dS σ b.toNat t.toNat + y = dS σ b.toNat f.toNat := by rw [gt, gy]; exact gg.2
    have bt := dst_bd hσ.1.1.1 hσ.1.1.2.1 hσ.1.1.2.2.1 (dS_is hσ.1.1 bl.1) tl.1
    have ib := dst_bd hσ.1.1.1 hσ.1.1.2.1 hσ.1.1.2.2.1 (dS_is hσ.1.1 (toN ha).1) bl.1
    refine ⟨fun h => ⟨⟨by omega, by omega⟩, fun z => absurd (hv.symm.trans z) (by rw [if_pos (by omega)]; decide), fun _ => ⟨⟨rfl, rfl, σ, T.1 σ hσ⟩, fun x1 M1 _ _ hc => ?_⟩⟩, fun h => ⟨⟨rfl, rfl, σ, T.1 σ hσ⟩, fun x1 M1 _ _ hc => ?_⟩⟩
    · obtain ⟨e1, T⟩ := tz_call T hσ hc
      rw [F_ds hhf hb, dS_sym hσ.1.1 fl.1 bl.1] at e1
      refine ⟨⟨rfl, rfl, σ, T.1 σ hσ⟩, fun x2 M2 _ _ hc => ?_⟩
      obtain ⟨e2, T⟩ := tz_call T hσ hc
      rw [F_ds hht hb, dS_sym hσ.1.1 tl.1 bl.1] at e2
      refine ⟨⟨by omega, by omega⟩, fun _ => ⟨⟨by omega, by omega⟩, _, by omega, rfl, rfl, rfl, rfl, rfl, T, σ, hD, q, hDW, by omega, ?_, rfl⟩, fun z => absurd (by omega) z⟩
      rw [show (k + 1).toNat = k.toNat + 1 by omega, ← ht]
      omega
    · obtain ⟨e1, T⟩ := tz_call T hσ hc
      rw [F_nb hhf hd.1 (by omega)] at e1
      have hs := slS_i hσ.1.1 (d := d) hhf
      have no : ∀ {M' : Mem}, TZ M0 M' → ¬ gdS σ b f d → ∃ μ : Nat, μ < n ∧ (0 : Nat) = 0 ∧ (46 : Nat) = 46 ∧ a = a ∧ b = b ∧ g = g ∧ TZ M0 M' ∧ ∃ σ, DZ σ M0 a b e i ∧ ∃ q : Nat, DW σ a b i s q ∧ (0 ≤ k ∧ k < s) ∧ m = i - dS σ b.toNat f.toNat ∧ f = wpt σ a b k.toNat ∧ t = wpt σ a b (k.toNat + 1) ∧ (∃ d0, DR σ b f t y d0 ∧ v = (if d0 < d then 1 else 0)) ∧ (0 ≤ d ∧ d < 4) ∧ x1 = nx (gS σ) f d ∧ ((0 : Int) = 0 ∨ (0 : Int) = 1) ∧ ((0 : Int) = 1 ↔ gdS σ b f d) ∧ μ = (19998 + (145 - k) * 100 - 10 * d).toNat :=
        fun T z => ⟨_, by omega, rfl, rfl, rfl, rfl, rfl, T, σ, hD, q, hDW, hk, hm, hf, ht, ⟨d0, hR, hv⟩, ⟨hd.1, by omega⟩, e1, Or.inl rfl, ⟨fun y => absurd y (by decide), fun y => absurd y z⟩, rfl⟩
      refine ⟨fun h1 => no T (fun z => by have := hs.1 (by omega); have := z.1; omega), fun h1 => ⟨⟨rfl, rfl, σ, T.1 σ hσ⟩, fun x2 M2 _ _ hc => ?_⟩⟩
      obtain ⟨e2, T⟩ := tz_call T hσ hc
      have hx := (nx_b hσ.1.1.1 (t := f) (d := d) hhf.1 (by have := hhf.2; omega)).resolve_left (by omega)
      have hhx : hasS σ x1 := ⟨by omega, by omega⟩
      have xl := toN hhx
      have bx := dst_bd hσ.1.1.1 hσ.1.1.2.1 hσ.1.1.2.2.1 (dS_is hσ.1.1 bl.1) xl.1
      rw [F_kd hhx] at e2
      obtain ⟨w1, w2, w3⟩ := wz hD T hhx e2
      have hs2 := hs.2 (by omega)
      rw [← e1] at hs2
      refine ⟨rfl, w1, fun h2 => no T (fun z => by have := hs2.2.1 (by omega); have := z.1; omega), fun h2 => ⟨⟨rfl, rfl, σ, T.1 σ hσ⟩, fun x3 M3 _ _ hc => ?_⟩⟩
      obtain ⟨e3, T⟩ := tz_call T hσ hc
      rw [F_ds hhx hb, dS_sym hσ.1.1 xl.1 bl.1] at e3
      refine ⟨⟨rfl, rfl, σ, T.1 σ hσ⟩, fun x4 M4 _ _ hc => ?_⟩
      obtain ⟨e4, T⟩ := tz_call T hσ hc
      rw [F_kd hhx] at e4
      obtain ⟨u1, u2, u3⟩ := wz hD T hhx e4
      have r3 : -4 ≤ x3 ∧ x3 ≤ 2592 := by rw [e3]; exact bx
      refine ⟨rfl, u1, ⟨by omega, by omega⟩, ⟨rfl, rfl, σ, T.1 σ hσ⟩, fun x5 M5 _ _ hc => ?_⟩
      obtain ⟨e5, T⟩ := tz_call T hσ hc
      rw [F_kd hhf] at e5
      obtain ⟨y1, y2, y3⟩ := wz hD T hhf e5
      refine ⟨rfl, y1, ⟨by omega, by omega⟩, ⟨rfl, rfl, σ, T.1 σ hσ⟩, fun x6 M6 _ _ hc => ?_⟩
      obtain ⟨e6, T⟩ := tz_call T hσ hc
      rw [F_ds hhf hb, dS_sym hσ.1.1 fl.1 bl.1] at e6
      have wf : 0 < σ 2 (σ 1 f.toNat).toNat := Classical.byContradiction fun z => by
        have h9 := slS_i hσ.1.1 (d := d0) hhf
        have := (h9.2 (by rw [← gt]; exact hht.1)).1 (by omega)
        have := gg.1
        omega
      have hsl : slS σ f d = σ 2 (σ 1 f.toNat).toNat + σ 2 (σ 1 x1.toNat).toNat := hs2.2.2 wf (by omega)
      refine ⟨fun h3 => no T (fun z => h3 ?_), fun h3 => ⟨_, by omega, rfl, rfl, rfl, rfl, rfl, T, σ, hD, q, hDW, hk, hm, hf, ht, ⟨d0, hR, hv⟩, ⟨hd.1, by omega⟩, e1, Or.inr rfl, ⟨fun _ => ⟨by omega, ?_⟩, fun _ => rfl⟩, rfl⟩⟩
      · have z2 : dS σ b.toNat (nx (gS σ) f d).toNat + slS σ f d = dS σ b.toNat f.toNat := z.2
        rw [← e1] at z2
        omega
      · show dS σ b.toNat (nx (gS σ) f d).toNat + slS σ f d = dS σ b.toNat f.toNat
        rw [← e1]
        omega)
  (by
    rintro p w a b g M0 ⟨rfl, rfl, -⟩ hM ra rb rg e i s m k f t y v d z u M n ⟨T, σ, hD, q, hDW, hk, hm, hf, ht, ⟨d0, hR, hv⟩, hd, hz, hu, hg, hμ⟩ -
    have hqn := hDW.2.2
    have hn := nT_s hD.1.1.1
    have go : ∃ μ : Nat, μ < n ∧ (0 : Nat) = 0 ∧ (46 : Nat) = 46 ∧ a = a ∧ b = b ∧ g = g ∧ TZ M0 M ∧ ∃ σ, DZ σ M0 a b e i ∧ ∃ q : Nat, DW σ a b i s q ∧ (0 ≤ k ∧ k < s) ∧ m = i - dS σ b.toNat f.toNat ∧ f = wpt σ a b k.toNat ∧ t = wpt σ a b (k.toNat + 1) ∧ (∃ d0, DR σ b f t y d0 ∧ v = (if d0 < d then 1 else 0)) ∧ (0 ≤ d ∧ d < 4) ∧ z = nx (gS σ) f d ∧ (u = 0 ∨ u = 1) ∧ (u = 1 ↔ gdS σ b f d) ∧ μ = (19997 + (145 - k) * 100 - 10 * d).toNat :=
      ⟨_, by omega, rfl, rfl, rfl, rfl, rfl, T, σ, hD, q, hDW, hk, hm, hf, ht, ⟨d0, hR, hv⟩, hd, hz, hu, hg, rfl⟩
    refine ⟨fun _ => go, fun h => ⟨fun _ => go, fun h1 => ⟨fun _ => go, fun h2 => absurd ?_ h2⟩⟩⟩
    have hgd := hg.mp (by omega)
    have hv0 : ¬ d0 < d := fun y => h1 (by rw [hv, if_pos y]; decide)
    have hdd : d = d0 := by
      by_cases y : d < d0
      · exact absurd hgd (hR.2.2.2.2.2.1 d hd.1 y)
      · omega
    rw [hz, hR.2.2.2.1, hdd])
  (by
    rintro p w a b g M0 ⟨rfl, rfl, -⟩ hM ra rb rg e i s m k f t y v d z u M n ⟨T, σ, hD, q, hDW, hk, hm, hf, ht, ⟨d0, hR, hv⟩, hd, hz, hu, hg, hμ⟩ -
    have hqn := hDW.2.2
    have hn := nT_s hD.1.1.1
    have go : ∀ v' : Int, v' = (if d0 < d + 1 then 1 else 0) → ∃ μ : Nat, μ < n ∧ (0 : Nat) = 0 ∧ (46 : Nat) = 46 ∧ a = a ∧ b = b ∧ g = g ∧ TZ M0 M ∧ ∃ σ, DZ σ M0 a b e i ∧ ∃ q : Nat, DW σ a b i s q ∧ (0 ≤ k ∧ k < s) ∧ m = i - dS σ b.toNat f.toNat ∧ f = wpt σ a b k.toNat ∧ t = wpt σ a b (k.toNat + 1) ∧ (∃ d0, DR σ b f t y d0 ∧ v' = (if d0 < d + 1 then 1 else 0)) ∧ (0 ≤ d + 1 ∧ d + 1 ≤ 4) ∧ μ = (19999 + (145 - k) * 100 - 10 * (d + 1)).toNat :=
      fun v' hv' => ⟨_, by omega, rfl, rfl, rfl, rfl, rfl, T, σ, hD, q, hDW, hk, hm, hf, ht, ⟨d0, hR, hv'⟩, by omega, rfl⟩
    refine ⟨fun h => ⟨⟨by omega, by omega⟩, go 1 ?_⟩, fun h => ⟨fun h1 => ⟨⟨by omega, by omega⟩, go 0 ?_⟩, fun h1 => ⟨⟨by omega, by omega⟩, go 1 ?_⟩⟩⟩
    · have : d0 < d := Classical.byContradiction fun y => h (by rw [hv, if_neg y])
      rw [if_pos (by omega)]
    · have hv0 : ¬ d0 < d := fun y => h (by rw [hv, if_pos y]; decide)
      rw [if_neg]
      intro y
      have e : d0 = d := by omega
      have := hg.mpr (by rw [← e]; exact hR.2.2.1)
      omega
    · have hgd := hg.mp (by omega)
      rw [if_pos]
      refine Classical.byContradiction fun y => ?_
      exact absurd hgd (hR.2.2.2.2.2.1 d hd.1 (by omega)))
  (by
    rintro p w a b g M0 ⟨rfl, rfl, -⟩ hM ra rb rg e i s m r f j c q t M n ⟨T, σ, hD, ⟨q', hDW⟩, hm, hr, hf, hj, hc', hq, ht, hμ⟩ -
    obtain ⟨hσ, ⟨ha, hb⟩, hW, he, hi⟩ := id hD
    obtain ⟨i0, hw, hsq, hqn⟩ := id hDW
    have hn := nT_s hσ.1.1
    obtain ⟨d1, d2⟩ := DW_d hD hDW
    have bj := sumF_b (f := fun t => if dS σ a.toNat t ≠ -4 ∧ dS σ a.toNat t ≤ i then (1 : Int) else 0) (n := t.toNat) (fun _ _ => if01 _)
    rw [← hj] at bj
    refine ⟨fun h => ⟨fun z => absurd hm z, fun _ => ⟨⟨rfl, rfl, σ, T.1 σ hσ⟩, fun x1 M1 _ _ hc => ?_⟩⟩, fun h => ⟨⟨rfl, rfl, σ, T.1 σ hσ⟩, fun x1 M1 _ _ hc => ?_⟩⟩
    · have et : t.toNat = nT (gS σ) := by omega
      obtain ⟨e1, T⟩ := tz_call T hσ hc
      rw [F_rt ha hb (by decide) d2 (by omega) hw, if_neg (by decide), if_pos (by omega)] at e1
      refine ⟨fun z => absurd e1 z, fun _ => ⟨⟨rfl, rfl, σ, T.1 σ hσ⟩, fun x2 M2 _ _ hc => ?_⟩⟩
      obtain ⟨e2, T⟩ := tz_call T hσ hc
      rw [F_rt ha hb (by omega) d2 (by omega) hw, if_neg (by omega), if_pos (by omega), show s.toNat = q' by omega] at e2
      have e2 : x2 = b := e2.trans (hw.1.trans (toN hb).2)
      refine ⟨fun z => absurd e2 z, fun _ => ⟨⟨by omega, by omega⟩, ⟨rfl, rfl, σ, T.1 σ hσ⟩, fun x3 M3 _ _ hc => ?_⟩⟩
      obtain ⟨e3, T⟩ := tz_call T hσ hc
      rw [F_rt ha hb (by omega) d2 (by omega) hw, if_neg (by omega), if_neg (by omega)] at e3
      refine ⟨fun z => absurd e3 z, fun _ => ⟨⟨rfl, rfl, σ, T.1 σ hσ⟩, fun x4 M4 _ _ hc => ?_⟩⟩
      obtain ⟨e4, T⟩ := tz_call T hσ hc
      have e4 : x4 = j := by
        rw [e4, hj, et]
        unfold F_within
        rw [if_pos ha, if_neg (by omega)]
        rfl
      refine ⟨fun z => absurd e4 z, fun _ => ⟨⟨rfl, rfl, σ, T.1 σ hσ⟩, fun x5 M5 _ _ hc => ?_⟩⟩
      obtain ⟨e5, T⟩ := tz_call T hσ hc
      have e5 : x5 = -2 := by
        rw [e5]
        unfold F_within
        rw [if_pos ha, if_pos (by decide)]
      refine ⟨fun z => absurd e5 z, fun _ => ⟨⟨rfl, rfl, σ, T.1 σ hσ⟩, fun x6 M6 _ _ hc => ?_⟩⟩
      obtain ⟨e6, T⟩ := tz_call T hσ hc
      have e6 : x6 = q := by
        rw [e6, hq, et]
        unfold F_nearest
        rw [if_pos ha, if_pos hc']
        rfl
      refine ⟨fun z => absurd e6 z, fun _ => ⟨⟨rfl, rfl, σ, T.1 σ hσ⟩, fun x7 M7 _ _ hc => ?_⟩⟩
      obtain ⟨e7, T⟩ := tz_call T hσ hc
      have e7 : x7 = -2 := by
        rw [e7]
        unfold F_nearest
        rw [if_pos ha, if_neg (by decide)]
      exact ⟨fun z => absurd e7 z, fun _ => ⟨Or.inr rfl, rfl, T.1, T.2⟩⟩
    · obtain ⟨e1, T⟩ := tz_call T hσ hc
      have hht : hasS σ t := ⟨ht.1, by omega⟩
      rw [F_ds ha hht] at e1
      have e1 : x1 = dS σ a.toNat t.toNat := e1
      have hj2 : sumF (fun t => if dS σ a.toNat t ≠ -4 ∧ dS σ a.toNat t ≤ i then (1 : Int) else 0) (t + 1).toNat = j + (if x1 ≠ -4 ∧ x1 ≤ i then 1 else 0) := by
        rw [sumF_s (show (t + 1).toNat = t.toNat + 1 by omega), ← hj, ← e1]
      have hd2 := (dS_is hσ.1.1 (toN ha).1).2.1 t.toNat (toN hht).1
      have go : ∀ j' : Int, j' = j + (if x1 ≠ -4 ∧ x1 ≤ i then 1 else 0) → ∃ μ : Nat, μ < n ∧ (0 : Nat) = 0 ∧ (46 : Nat) = 46 ∧ a = a ∧ b = b ∧ g = g ∧ TZ M0 M1 ∧ ∃ σ, DZ σ M0 a b e i ∧ (∃ q' : Nat, DW σ a b i s q') ∧ m = i ∧ r = faF (dS σ a.toNat) a.toNat (nT (gS σ)) ∧ f = dS σ a.toNat r.toNat ∧ j' = sumF (fun t => if dS σ a.toNat t ≠ -4 ∧ dS σ a.toNat t ≤ i then 1 else 0) (t + 1).toNat ∧ (0 ≤ c ∧ c ≤ 5) ∧ q = neF (dS σ a.toNat) (σ 1) c t.toNat ∧ (0 ≤ t ∧ t < e) ∧ x1 = dS σ a.toNat t.toNat ∧ μ = ((150 - t) * 10 - 1).toNat :=
        fun j' hj' => ⟨_, by omega, rfl, rfl, rfl, rfl, rfl, T, σ, hD, ⟨q', hDW⟩, hm, hr, hf, by rw [hj', hj2], hc', hq, by omega, e1, rfl⟩
      refine ⟨fun h1 => ⟨⟨by omega, by omega⟩, go _ ?_⟩, fun h1 => ⟨fun h2 => ⟨⟨by omega, by omega⟩, go _ ?_⟩, fun h2 => ⟨⟨by omega, by omega⟩, go _ ?_⟩⟩⟩
      · rw [if_neg (fun z => by omega)]
      · rw [if_neg (fun z => by omega)]
      · rw [if_pos ⟨by omega, by omega⟩])
  (by
    rintro p w a b g M0 ⟨rfl, rfl, -⟩ hM ra rb rg e i s m r f j c q t y M n ⟨T, σ, hD, hDW, hm, hr, hf, hj, hc', hq, ht, hy, hμ⟩ -
    obtain ⟨hσ, ⟨ha, hb⟩, hW, he, hi⟩ := id hD
    have hn := nT_s hσ.1.1
    obtain ⟨fb, f0, fm⟩ := far_is (dS_is hσ.1.1 (toN ha).1)
    obtain ⟨g1, g2⟩ := fm t.toNat (by omega)
    have g1 : y ≤ f := by rw [hy, hf, hr]; exact g1
    have g2 : y = f → r ≤ t := fun z => by
      rw [hy, hf, hr] at z
      have := g2 z
      rw [← hr] at this
      omega
    have go : ∃ μ : Nat, μ < n ∧ (0 : Nat) = 0 ∧ (46 : Nat) = 46 ∧ a = a ∧ b = b ∧ g = g ∧ TZ M0 M ∧ ∃ σ, DZ σ M0 a b e i ∧ (∃ q' : Nat, DW σ a b i s q') ∧ m = i ∧ r = faF (dS σ a.toNat) a.toNat (nT (gS σ)) ∧ f = dS σ a.toNat r.toNat ∧ j = sumF (fun t => if dS σ a.toNat t ≠ -4 ∧ dS σ a.toNat t ≤ i then 1 else 0) (t + 1).toNat ∧ (0 ≤ c ∧ c ≤ 5) ∧ q = neF (dS σ a.toNat) (σ 1) c t.toNat ∧ (0 ≤ t ∧ t < e) ∧ y = dS σ a.toNat t.toNat ∧ μ = ((150 - t) * 10 - 2).toNat :=
      ⟨_, by omega, rfl, rfl, rfl, rfl, rfl, T, σ, hD, hDW, hm, hr, hf, hj, hc', hq, ht, hy, rfl⟩
    exact ⟨fun h => absurd h (by omega), fun h => ⟨fun h1 => go, fun h1 => ⟨fun h2 => go, fun h2 => absurd (g2 (Classical.byContradiction h1)) h2⟩⟩⟩)
  (by
    rintro p w a b g M0 ⟨rfl, rfl, -⟩ hM ra rb rg e i s m r f j c q t y M n ⟨T, σ, hD, hDW, hm, hr, hf, hj, hc', hq, ht, hy, hμ⟩ -
    obtain ⟨hσ, ⟨ha, hb⟩, hW, he, hi⟩ := id hD
    have hn := nT_s hσ.1.1
    have hht : hasS σ t := ⟨ht.1, by omega⟩
    have hq2 : neF (dS σ a.toNat) (σ 1) c (t + 1).toNat = if σ 1 t.toNat = c ∧ y ≠ -4 ∧ (q = -5 ∨ y < dS σ a.toNat q.toNat) then (t.toNat : Int) else q := by
      rw [show (t + 1).toNat = t.toNat + 1 by omega, hq, hy]
      rfl
    have hqb := ne_b (L := dS σ a.toNat) (κ' := σ 1) (k := c) t.toNat
    rw [← hq] at hqb
    have hd2 := (dS_is hσ.1.1 (toN ha).1).2.1 t.toNat (toN hht).1
    have go : ∀ {M' : Mem} (q' : Int), TZ M0 M' → q' = (if σ 1 t.toNat = c ∧ y ≠ -4 ∧ (q = -5 ∨ y < dS σ a.toNat q.toNat) then (t.toNat : Int) else q) → ∃ μ : Nat, μ < n ∧ (0 : Nat) = 0 ∧ (46 : Nat) = 46 ∧ a = a ∧ b = b ∧ g = g ∧ TZ M0 M' ∧ ∃ σ, DZ σ M0 a b e i ∧ (∃ q' : Nat, DW σ a b i s q') ∧ m = i ∧ r = faF (dS σ a.toNat) a.toNat (nT (gS σ)) ∧ f = dS σ a.toNat r.toNat ∧ j = sumF (fun t => if dS σ a.toNat t ≠ -4 ∧ dS σ a.toNat t ≤ i then 1 else 0) (t + 1).toNat ∧ (0 ≤ c ∧ c ≤ 5) ∧ q' = neF (dS σ a.toNat) (σ 1) c (t + 1).toNat ∧ (0 ≤ t + 1 ∧ t + 1 ≤ e) ∧ μ = ((150 - (t + 1)) * 10).toNat :=
      fun q' T hq' => ⟨_, by omega, rfl, rfl, rfl, rfl, rfl, T, σ, hD, hDW, hm, hr, hf, hj, hc', by rw [hq', hq2], by omega, rfl⟩
    refine ⟨fun h => ⟨⟨by omega, by omega⟩, go q T ?_⟩, fun h => ⟨⟨rfl, rfl, σ, T.1 σ hσ⟩, fun x1 M1 _ _ hc => ?_⟩⟩
    · rw [if_neg (fun z => by have := z.2.1; omega)]
    · obtain ⟨e1, T⟩ := tz_call T hσ hc
      rw [F_kd hht] at e1
      refine ⟨fun h1 => ⟨⟨by omega, by omega⟩, go q T ?_⟩, fun h1 => ⟨fun h2 => ⟨⟨by omega, by omega⟩, go t T ?_⟩, fun h2 => ⟨⟨rfl, rfl, σ, T.1 σ hσ⟩, fun x2 M2 _ _ hc => ?_⟩⟩⟩
      · rw [if_neg (fun z => h1 (by rw [e1]; exact z.1))]
      · rw [if_pos ⟨by rw [← e1]; exact Classical.byContradiction h1, by omega, Or.inl (by omega)⟩]
        omega
      · obtain ⟨e2, T⟩ := tz_call T hσ hc
        have hhq : hasS σ q := ⟨by omega, by omega⟩
        rw [F_ds ha hhq] at e2
        have e2 : x2 = dS σ a.toNat q.toNat := e2
        refine ⟨fun h3 => ⟨⟨by omega, by omega⟩, go q T ?_⟩, fun h3 => ⟨⟨by omega, by omega⟩, go t T ?_⟩⟩
        · rw [if_neg (fun z => by rcases z.2.2 with y | y <;> omega)]
        · rw [if_pos ⟨by rw [← e1]; exact Classical.byContradiction h1, by omega, Or.inr (by omega)⟩]
          omega)
end L4
