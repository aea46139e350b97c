/-! ===== the model's walk ===== -/
theorem stW_in {g S : Nat → Int} {c : Int} (h : (∀ i : Nat, S (6 + i) = 0 ∨ S (6 + i) = 1) ∧ S (6 + (S 0).toNat) = 1) : (∀ i : Nat, stW g c S (6 + i) = 0 ∨ stW g c S (6 + i) = 1) ∧ stW g c S (6 + (stW g c S 0).toNat) = 1 := by
  obtain ⟨h1, h2⟩ := h
  unfold stW
  split
  · exact ⟨h1, h2⟩
  · split
    · split
      · refine ⟨fun i => by rw [upR_n (by omega)]; exact h1 i, ?_⟩
        rw [upR_n (show (0 : Nat) ≠ 5 by decide), upR_n (by omega)]
        exact h2
      · generalize nx g (S 0) (S 1) = u
        generalize (if flp g (S 0) (S 1) then 1 - S 2 else S 2) = v
        have e1 : ∀ i : Nat, upR (upR S 2 v) 3 (S 3 + 1) (6 + i) = S (6 + i) := fun i => by rw [upR_n (by omega), upR_n (by omega)]
        unfold entW
        rw [e1]
        split
        next q =>
          refine ⟨fun i => ?_, ?_⟩
          · rw [upR_n (by omega)]
            by_cases q2 : i = u.toNat
            · rw [q2, upR_s]; exact Or.inr rfl
            · rw [upR_n (by omega), upR_n (by omega), e1]; exact h1 i
          · have e0 : upR (upR (upR (upR (upR S 2 v) 3 (S 3 + 1)) 0 u) (6 + u.toNat) 1) 4 (upR (upR S 2 v) 3 (S 3 + 1) 4 + 1) 0 = u := by
              rw [upR_n (by decide), upR_n (by omega), upR_s]
            rw [e0, upR_n (by omega), upR_s]
        next q =>
          refine ⟨fun i => by rw [upR_n (by omega), e1]; exact h1 i, ?_⟩
          rw [upR_s, upR_n (by omega), e1]
          exact (h1 u.toNat).resolve_left q
    · refine ⟨fun i => by rw [upR_n (by omega)]; exact h1 i, ?_⟩
      rw [upR_n (show (0 : Nat) ≠ 1 by decide), upR_n (by omega)]
      exact h2
theorem wlk_in {g T : Nat → Int} {t y : Int} : ∀ n : Nat, (∀ i : Nat, wlk g T t y n (6 + i) = 0 ∨ wlk g T t y n (6 + i) = 1) ∧ wlk g T t y n (6 + (wlk g T t y n 0).toNat) = 1 := by
  intro n
  induction n with
  | zero =>
    refine ⟨fun i => ?_, ?_⟩
    · show (if 6 + i = 0 then t else if 6 + i = 1 then y else if 6 + i = 4 ∨ 6 + i = 5 ∨ 6 + i = 6 + t.toNat then (1 : Int) else 0) = 0 ∨ (if 6 + i = 0 then t else if 6 + i = 1 then y else if 6 + i = 4 ∨ 6 + i = 5 ∨ 6 + i = 6 + t.toNat then (1 : Int) else 0) = 1
      rw [if_neg (by omega), if_neg (by omega)]
      split
      · exact Or.inr rfl
      · exact Or.inl rfl
    · show (if 6 + t.toNat = 0 then t else if 6 + t.toNat = 1 then y else if 6 + t.toNat = 4 ∨ 6 + t.toNat = 5 ∨ 6 + t.toNat = 6 + t.toNat then (1 : Int) else 0) = 1
      rw [if_neg (by omega), if_neg (by omega), if_pos (by omega)]
  | succ n ih => exact stW_in ih
/-- the model's walker -/
def WSY (M : Mem) (S : Nat → Int) (a z e q f g : Int) : Prop := (a = S 0 ∧ z = S 1 ∧ e = S 2 ∧ q = S 3 ∧ f = S 4 ∧ g = S 5) ∧ ∀ i : Nat, i < 144 → M 4 i = S (6 + i)
theorem WSY_no {M : Mem} {g S : Nat → Int} {a z e q f : Int} (h : WSY M S a z e q f 1) (hn : nx g a z < 0) (h1 : S (6 + a.toNat) = 1) : WSY (up M 4 a.toNat 1) (stW g 102 S) a z e (q + 0) (f + 0) 0 := by
  obtain ⟨⟨rfl, rfl, rfl, rfl, rfl, hg⟩, hM⟩ := h
  unfold stW
  rw [if_neg (by omega), if_pos rfl, if_pos hn]
  refine ⟨⟨by rw [upR_n (by decide)], by rw [upR_n (by decide)], by rw [upR_n (by decide)], by rw [upR_n (by decide)]; omega, by rw [upR_n (by decide)]; omega, by rw [upR_s]⟩, fun i hi => ?_⟩
  rw [upR_n (by omega)]
  by_cases q : i = (S 0).toNat
  · rw [q, up_sk, h1]
  · rw [up_nk (Or.inr q)]; exact hM i hi
theorem WSY_go {M : Mem} {g S : Nat → Int} {a z e q f u e' : Int} (h : WSY M S a z e q f 1) (hu : u = nx g a z) (hn : 0 ≤ u ∧ u < 144) (he : e' = if flp g a z then 1 - e else e) (h01 : ∀ i : Nat, S (6 + i) = 0 ∨ S (6 + i) = 1) :
    (M 4 u.toNat = 0 → WSY (up M 4 u.toNat 1) (stW g 102 S) u z e' (q + 1) (f + 1) 1) ∧ (¬ M 4 u.toNat = 0 → WSY (up M 4 u.toNat 1) (stW g 102 S) u z e' (q + 1) (f + 0) 1) := by
  obtain ⟨⟨rfl, rfl, rfl, rfl, rfl, hg⟩, hM⟩ := h
  have hS := hM u.toNat (by omega)
  unfold stW
  rw [if_neg (by omega), if_pos rfl, ← hu, if_neg (by omega), ← he]
  have e6 : upR (upR S 2 e') 3 (S 3 + 1) (6 + u.toNat) = M 4 u.toNat := by rw [upR_n (by omega), upR_n (by omega), hS]
  unfold entW
  rw [e6]
  refine ⟨fun q => ?_, fun q => ?_⟩
  · rw [if_pos q]
    refine ⟨⟨?_, ?_, ?_, ?_, ?_, ?_⟩, fun i hi => ?_⟩
    · rw [upR_n (by omega), upR_n (by omega), upR_s]
    · rw [upR_n (by omega), upR_n (by omega), upR_n (by omega), upR_n (by omega), upR_n (by omega)]
    · rw [upR_n (by omega), upR_n (by omega), upR_n (by omega), upR_n (by omega), upR_s]
    · rw [upR_n (by omega), upR_n (by omega), upR_n (by omega), upR_s]
    · rw [upR_s, upR_n (by omega), upR_n (by omega)]
    · rw [upR_n (by omega), upR_n (by omega), upR_n (by omega), upR_n (by omega), upR_n (by omega)]; exact hg
    · rw [upR_n (by omega)]
      by_cases q2 : i = u.toNat
      · rw [q2, up_sk, upR_s]
      · rw [up_nk (Or.inr q2), upR_n (by omega), upR_n (by omega), upR_n (by omega), upR_n (by omega)]; exact hM i hi
  · rw [if_neg q]
    refine ⟨⟨?_, ?_, ?_, ?_, ?_, ?_⟩, fun i hi => ?_⟩
    · rw [upR_s]
    · rw [upR_n (by omega), upR_n (by omega), upR_n (by omega)]
    · rw [upR_n (by omega), upR_n (by omega), upR_s]
    · rw [upR_n (by omega), upR_s]
    · rw [upR_n (by omega), upR_n (by omega), upR_n (by omega)]; omega
    · rw [upR_n (by omega), upR_n (by omega), upR_n (by omega)]; exact hg
    · rw [upR_n (by omega), upR_n (by omega), upR_n (by omega)]
      by_cases q2 : i = u.toNat
      · have := (h01 u.toNat).resolve_left (by omega)
        rw [q2, up_sk, this]
      · rw [up_nk (Or.inr q2)]; exact hM i hi
theorem WSY_turn {M : Mem} {g S : Nat → Int} {a z e q f c : Int} (h : WSY M S a z e q f 1) (hc : c ≠ 102) : WSY M (stW g c S) a (trn (decide (c = 114)) e z) e q f 1 := by
  obtain ⟨⟨rfl, rfl, rfl, rfl, rfl, hg⟩, hM⟩ := h
  unfold stW
  rw [if_neg (by omega), if_neg hc]
  exact ⟨⟨by rw [upR_n (by decide)], by rw [upR_s], by rw [upR_n (by decide)], by rw [upR_n (by decide)], by rw [upR_n (by decide)], by rw [upR_n (by decide)]; exact hg⟩, fun i hi => by rw [upR_n (by omega)]; exact hM i hi⟩
abbrev wgY (M0 : Mem) (t y w : Int) : Prop := (0 ≤ t ∧ t < nT (gY M0)) ∧ (0 ≤ y ∧ y < 4) ∧ (0 ≤ w ∧ w ≤ 4) ∧ ffF (badW (M0 3)) (M0 0 9).toNat = -1
def YW (M0 M : Mem) (t y w k a z e q f g : Int) : Prop := wgY M0 t y w ∧ (∀ b, b ≠ 4 → M b = M0 b) ∧ WSY M (wlk (gY M0) (M0 3) t y k.toNat) a z e q f g
section Y18
variable {l : Launch} {D : va_G} {cy : Nat → ClassId} {ad : Nat → Nat}
theorem ok_X9_walk (hA : jA ad 12) : OK_X9_walk l D cy ad := met_X9_walk hA (ok_X9_in hA) (ok_X9_next hA) (ok_X9_noTile hA) (ok_X9_seamOf hA)
  (fun p t y w M0 k M μ => M = M0 ∧ ((0 ≤ t ∧ t < nT (gY M0)) ∧ (0 ≤ y ∧ y < 4) ∧ 0 ≤ w ∧ w ≤ 4) ∧ ffF (badW (M0 3)) k.toNat = -1 ∧ (0 ≤ k ∧ k ≤ M0 0 9) ∧ μ = (10000 - k).toNat)
  (fun p t y w M0 j M μ => wgY M0 t y w ∧ (∀ b, b ≠ 4 → M b = M0 b) ∧ (∀ i : Nat, (i : Int) < j → M 4 i = if (i : Int) = t then 1 else 0) ∧ (0 ≤ j ∧ j ≤ 144) ∧ μ = (9000 - j).toNat)
  (fun p t y w M0 a z e q f g k M μ => YW M0 M t y w k a z e q f g ∧ (0 ≤ k ∧ k ≤ M0 0 9) ∧ μ = ((200 - k) * 10).toNat)
  (fun p t y w M0 a z e q f g k u M μ => YW M0 M t y w k a z e q f 1 ∧ (0 ≤ k ∧ k < M0 0 9) ∧ M0 3 k.toNat = 102 ∧ u = nx (gY M0) a z ∧ g = (if u < 0 then 0 else 1) ∧ μ = ((200 - k) * 10 - 1).toNat)
  (fun p t y w M0 a z e q f g k u v M μ => YW M0 M t y w k a z e q f 1 ∧ (0 ≤ k ∧ k < M0 0 9) ∧ M0 3 k.toNat = 102 ∧ u = nx (gY M0) a z ∧ g = (if u < 0 then 0 else 1) ∧ v = (if 0 ≤ u ∧ flp (gY M0) a z then 1 else 0) ∧ μ = ((200 - k) * 10 - 2).toNat)
  (fun p t y w M0 a z e q f g k v M μ => YW M0 M t y w k a z e q f 1 ∧ g = 1 ∧ (0 ≤ k ∧ k < M0 0 9) ∧ M0 3 k.toNat ≠ 102 ∧ v = (if decide (M0 3 k.toNat = 114) = decide (e = 0) then 1 else 0) ∧ μ = ((200 - k) * 10 - 3).toNat)
  (by
    rintro p t y w M0 ⟨hp, h0, σ0, h⟩ hM rt ry rw_
    subst h0
    obtain ⟨hG, hw⟩ := absY_s h
    have hl := h.1.2.2.2.1
    have e9 := h.2.2.2.2.1.1
    refine ⟨⟨hp, rfl, hG⟩, ?_⟩
    rintro x2 M1 - - ⟨hx, rfl⟩
    have hx2 := nt_x hx
    refine ⟨fun z => ⟨trivial, ?_⟩, fun z => ⟨trivial, fun σ hσ => ⟨?_, hσ⟩⟩⟩
    · have ht := hx2.mp z
      rintro x4 M3 - - ⟨hc4, rfl⟩
      have hx4 := if_x hc4
      have bad : ¬ ((0 ≤ y ∧ y < 4) ∧ 0 ≤ w ∧ w ≤ 4) → c_X9_walk 0 t y w M3 (-2) M3 := fun q σ hσ => ⟨by unfold F_walk; rw [if_pos ((hsY hσ).mpr ht), if_neg q], hσ⟩
      refine ⟨fun z4 => ⟨trivial, bad (fun q => hx4.mp z4 ⟨q.1.1, by omega⟩)⟩, fun z4 => ⟨trivial, ?_⟩⟩
      have hy := Classical.byContradiction (fun y => z4 (hx4.mpr y))
      rintro x6 M5 - - ⟨hc6, rfl⟩
      have hx6 := if_x hc6
      refine ⟨fun z6 => ?_, fun z6 => ⟨trivial, bad (fun q => hx6.mp (Classical.byContradiction z6) q.2)⟩⟩
      have hww := Classical.byContradiction (fun y => z6 (hx6.mpr y))
      exact ⟨_, rfl, rfl, rfl, rfl, rfl, ⟨ht, by omega, hww⟩, rfl, by omega, rfl⟩
    · unfold F_walk
      rw [if_neg (fun y => z (hx2.mpr ((hsY hσ).mp y)))])
  (by
    rintro p t y w M0 ⟨hp, h0, σ0, h⟩ hM rt ry rw_ k M n ⟨rfl, ⟨ht, hy, hww⟩, hI, hk, hμ⟩ -
    subst h0
    have hl := h.1.2.2.2.1
    have e9 := h.2.2.2.2.1.1
    have go : ∀ _ : Nat, ¬ M 0 9 ≤ k → (M 3 k.toNat = 102 ∨ M 3 k.toNat = 114 ∨ M 3 k.toNat = 108) → inR (k + 1) ∧ ∃ μ : Nat, μ < n ∧ (0 : Nat) = 0 ∧ t = t ∧ y = y ∧ w = w ∧ (M = M ∧ ((0 ≤ t ∧ t < nT (gY M)) ∧ (0 ≤ y ∧ y < 4) ∧ 0 ≤ w ∧ w ≤ 4) ∧ ffF (badW (M 3)) (k + 1).toNat = -1 ∧ (0 ≤ k + 1 ∧ k + 1 ≤ M 0 9) ∧ μ = (10000 - (k + 1)).toNat) := fun _ h1 hc =>
      ⟨by omega, (10000 - (k + 1)).toNat, by omega, rfl, rfl, rfl, rfl, rfl, ⟨ht, hy, hww⟩, by rw [show (k + 1).toNat = k.toNat + 1 by omega]; exact ff_ok hI (decide_eq_false (by omega)), by omega, rfl⟩
    refine ⟨hp, fun h1 => ⟨(9000 - 0 : Int).toNat, by omega, rfl, rfl, rfl, rfl, ⟨ht, hy, hww, by rw [show (M 0 9).toNat = k.toNat by omega]; exact hI⟩, fun _ _ => rfl, fun i hi => by omega, by omega, rfl⟩, fun h1 => ⟨hp, rfl, by omega, fun h2 => go 0 h1 (Or.inl h2), fun h2 => ⟨hp, rfl, by omega, fun h3 => go 0 h1 (Or.inr (Or.inl h3)), fun h3 => ⟨hp, rfl, by omega, fun h4 => go 0 h1 (Or.inr (Or.inr h4)), fun h4 => ⟨by omega, trivial, fun σ hσ => ⟨?_, hσ⟩⟩⟩⟩⟩⟩
    have ef : fwS σ = k := by
      have w6 := hσ.2.2.2.2.1
      unfold fwS
      rw [← w6.1, show (M 0 9).toNat = k.toNat + 1 + (M 0 9 - k - 1).toNat by omega, ff_cg (b' := badW (M 3)) _ (fun j hj => by unfold badW; rw [w6.2 j (by omega)]), ff_at hI (decide_eq_true ⟨h2, h3, h4⟩)]
      omega
    unfold F_walk
    rw [if_pos ((hsY hσ).mpr ht), if_pos ⟨hy, hww⟩, if_neg (by omega), ef])
  (by
    rintro p t y w M0 ⟨hp, h0, σ0, h⟩ hM rt ry rw_ j M n ⟨⟨ht, hy, hww, hff⟩, hf, hI, hj, hμ⟩ -
    subst h0
    obtain ⟨hG, hw⟩ := absY_s h
    have hl := h.1.2.2.2.1
    have e9 := h.2.2.2.2.1.1
    have nxt : ∀ (_ : Nat) (v : Int), v = (if j = t then 1 else 0) → ¬ (144 : Int) ≤ j → inR (j + 1) ∧ ∃ μ : Nat, μ < n ∧ (0 : Nat) = 0 ∧ t = t ∧ y = y ∧ w = w ∧ (wgY M0 t y w ∧ (∀ b, b ≠ 4 → up M 4 j.toNat v b = M0 b) ∧ (∀ i : Nat, (i : Int) < j + 1 → up M 4 j.toNat v 4 i = if (i : Int) = t then 1 else 0) ∧ (0 ≤ j + 1 ∧ j + 1 ≤ 144) ∧ μ = (9000 - (j + 1)).toNat) := fun _ v hv h1 =>
      ⟨by omega, (9000 - (j + 1)).toNat, by omega, rfl, rfl, rfl, rfl, ⟨ht, hy, hww, hff⟩, fun b hb => by rw [up_n hb]; exact hf b hb, fun i hi => by
        by_cases q : i = j.toNat
        · rw [q, up_sk, hv, show ((j.toNat : Nat) : Int) = j by omega]
        · rw [up_nk (Or.inr q)]; exact hI i (by omega), by omega, rfl⟩
    refine ⟨fun h1 => ⟨((200 - 0 : Int) * 10).toNat, by omega, rfl, rfl, rfl, rfl, ⟨⟨ht, hy, hww, hff⟩, hf, ⟨rfl, rfl, ?_, ?_, rfl, rfl⟩, fun i hi => ?_⟩, by omega, rfl⟩, fun h1 => ⟨hp, fun h2 => ⟨rfl, by omega, Or.inl rfl, nxt 0 0 (by rw [if_neg h2]) h1⟩, fun h2 => ⟨rfl, by omega, Or.inr rfl, nxt 0 1 (by rw [if_pos (Classical.byContradiction h2)]) h1⟩⟩⟩
    · show (0 : Int) = (if (2 : Nat) = 0 then t else if (2 : Nat) = 1 then y else if (2 : Nat) = 4 ∨ (2 : Nat) = 5 ∨ (2 : Nat) = 6 + t.toNat then (1 : Int) else 0)
      rw [if_neg (by omega), if_neg (by omega), if_neg (by omega)]
    · show (0 : Int) = (if (3 : Nat) = 0 then t else if (3 : Nat) = 1 then y else if (3 : Nat) = 4 ∨ (3 : Nat) = 5 ∨ (3 : Nat) = 6 + t.toNat then (1 : Int) else 0)
      rw [if_neg (by omega), if_neg (by omega), if_neg (by omega)]
    · show M 4 i = (if 6 + i = 0 then t else if 6 + i = 1 then y else if 6 + i = 4 ∨ 6 + i = 5 ∨ 6 + i = 6 + t.toNat then (1 : Int) else 0)
      rw [hI i (by omega), if_neg (show ¬ 6 + i = 0 by omega), if_neg (show ¬ 6 + i = 1 by omega)]
      by_cases q : (i : Int) = t
      · rw [if_pos q, if_pos (by omega)]
      · rw [if_neg q, if_neg (by omega)])
  (by
    rintro p t y w M0 ⟨hp, h0, σ0, h⟩ hM rt ry rw_ a z e q f g k M n ⟨⟨⟨ht, hy, hww, hff⟩, hf, hW⟩, hk, hμ⟩ -
    subst h0
    obtain ⟨hG, hw⟩ := absY_s h
    have hl := h.1.2.2.2.1
    have e9 := h.2.2.2.2.1.1
    have e0 : M 0 = M0 0 := hf 0 (by decide)
    have e3 : M 3 = M0 3 := hf 3 (by decide)
    obtain ⟨hG1, eg⟩ := gY_congr hG e0
    have hb := wlk_b (T := M0 3) hG.1 ht hy k.toNat
    obtain ⟨⟨sa, sz, se, sq, sf, sg⟩, hM4⟩ := id hW
    rw [e0, e3]
    have ret : (M0 0 9 ≤ k ∨ g = 0) → ∀ v, v = wlk (gY M0) (M0 3) t y k.toNat w.toNat → c_X9_walk 0 t y w M0 v M := fun hd v hv σ hσ => by
      have w6 := hσ.2.2.2.2.1
      have ef : fwS σ = -1 := by
        unfold fwS
        rw [← w6.1, ff_cg (b' := badW (M0 3)) _ (fun j hj => by unfold badW; rw [w6.2 j (by omega)]), hff]
      refine ⟨?_, absY_congr hσ (fun b hb => hf b (by omega))⟩
      unfold F_walk
      rw [if_pos ((hsY hσ).mpr ht), if_pos ⟨hy, hww⟩, if_pos ef, ← hσ.2.1.1, ← w6.1, ← wlk_cg (T := M0 3) (T' := σ 3) _ (fun j hj => w6.2 j (by omega)), hv]
      rcases hd with hd | hd
      · rw [show (M0 0 9).toNat = k.toNat by omega]
      · have := wlk_stay (g := gY M0) (T := M0 3) (t := t) (y := y) (n := k.toNat) (by rw [← sg]; exact hd) (M0 0 9 - k).toNat
        rw [show k.toNat + (M0 0 9 - k).toNat = (M0 0 9).toNat by omega] at this
        rw [this]
    have fin : (M0 0 9 ≤ k ∨ g = 0) → ((¬ w = (0 : Int) → ((¬ w = (1 : Int) → ((¬ w = (2 : Int) → ((¬ w = (3 : Int) → True ∧ c_X9_walk 0 t y w M0 f M) ∧ (¬ (¬ w = (3 : Int)) → True ∧ c_X9_walk 0 t y w M0 q M))) ∧ (¬ (¬ w = (2 : Int)) → True ∧ c_X9_walk 0 t y w M0 e M))) ∧ (¬ (¬ w = (1 : Int)) → True ∧ c_X9_walk 0 t y w M0 z M))) ∧ (¬ (¬ w = (0 : Int)) → True ∧ c_X9_walk 0 t y w M0 a M)) := fun hd => by
      refine ⟨fun w0 => ⟨fun w1 => ⟨fun w2 => ⟨fun w3 => ⟨trivial, ret hd _ ?_⟩, fun w3 => ⟨trivial, ret hd _ ?_⟩⟩, fun w2 => ⟨trivial, ret hd _ ?_⟩⟩, fun w1 => ⟨trivial, ret hd _ ?_⟩⟩, fun w0 => ⟨trivial, ret hd _ ?_⟩⟩
      · rw [show w.toNat = 4 by omega]; exact sf
      · rw [show w.toNat = 3 by omega]; exact sq
      · rw [show w.toNat = 2 by omega]; exact se
      · rw [show w.toNat = 1 by omega]; exact sz
      · rw [show w.toNat = 0 by omega]; exact sa
    refine ⟨hp, fun h1 => fin (Or.inl h1), fun h1 => ⟨fun h2 => fin (Or.inr h2), fun h2 => ?_⟩⟩
    have g1 : g = 1 := (by rw [sg]; exact hb.2.2.2.2.2 : g = 0 ∨ g = 1).resolve_left h2
    subst g1
    have t358 : ∀ (_ : Nat) (v : Int), ¬ M0 3 k.toNat = 102 → v = (if decide (M0 3 k.toNat = 114) = decide (e = 0) then 1 else 0) → ∃ μ : Nat, μ < n ∧ (0 : Nat) = 0 ∧ t = t ∧ y = y ∧ w = w ∧ (YW M0 M t y w k a z e q f 1 ∧ (1 : Int) = 1 ∧ (0 ≤ k ∧ k < M0 0 9) ∧ M0 3 k.toNat ≠ 102 ∧ v = (if decide (M0 3 k.toNat = 114) = decide (e = 0) then 1 else 0) ∧ μ = ((200 - k) * 10 - 3).toNat) := fun _ v hc hv =>
      ⟨((200 - k) * 10 - 3).toNat, by omega, rfl, rfl, rfl, rfl, ⟨⟨ht, hy, hww, hff⟩, hf, hW⟩, rfl, by omega, hc, hv, rfl⟩
    have d1 : M0 3 k.toNat = 114 → decide (M0 3 k.toNat = 114) = true := decide_eq_true
    have d2 : ¬ M0 3 k.toNat = 114 → decide (M0 3 k.toNat = 114) = false := decide_eq_false
    refine ⟨hp, rfl, by omega, fun h3 => ⟨hp, rfl, by omega, fun h4 => ⟨fun h5 => ⟨fun y => absurd rfl y, fun _ => t358 0 1 h3 ?_⟩, fun h5 => ⟨fun _ => t358 0 0 h3 ?_, fun y => absurd (by decide) y⟩⟩, fun h4 => ⟨fun h5 => ⟨fun _ => t358 0 0 h3 ?_, fun y => absurd (by decide) y⟩, fun h5 => ⟨fun y => absurd rfl y, fun _ => t358 0 1 h3 ?_⟩⟩⟩, fun h3 => ⟨⟨hp, rfl, hG1, by rw [eg, sa]; exact hb.1, by rw [sz]; exact hb.2.1⟩, ?_⟩⟩
    · rw [d2 h4, decide_eq_false h5]; rfl
    · rw [d2 h4, decide_eq_true (Classical.byContradiction h5)]; rfl
    · rw [d1 (Classical.byContradiction h4), decide_eq_false h5]; rfl
    · rw [d1 (Classical.byContradiction h4), decide_eq_true (Classical.byContradiction h5)]; rfl
    · rintro x2 M1 - - ⟨hx, rfl⟩
      rw [eg] at hx
      have h3' := Classical.byContradiction h3
      exact ⟨fun h4 => ⟨((200 - k) * 10 - 1).toNat, by omega, rfl, rfl, rfl, rfl, ⟨⟨ht, hy, hww, hff⟩, hf, hW⟩, by omega, h3', hx, by rw [if_pos h4], rfl⟩, fun h4 => ⟨((200 - k) * 10 - 1).toNat, by omega, rfl, rfl, rfl, rfl, ⟨⟨ht, hy, hww, hff⟩, hf, hW⟩, by omega, h3', hx, by rw [if_neg h4], rfl⟩⟩)
  (by
    rintro p t y w M0 ⟨hp, h0, σ0, h⟩ hM rt ry rw_ a z e q f g k u M n ⟨⟨⟨ht, hy, hww, hff⟩, hf, hW⟩, hk, hc, hu, hg, hμ⟩ -
    subst h0
    obtain ⟨hG, hw⟩ := absY_s h
    have hl := h.1.2.2.2.1
    have e9 := h.2.2.2.2.1.1
    have e0 : M 0 = M0 0 := hf 0 (by decide)
    obtain ⟨hG1, eg⟩ := gY_congr hG e0
    have hb := wlk_b (T := M0 3) hG.1 ht hy k.toNat
    obtain ⟨⟨sa, sz, se, sq, sf, sg⟩, hM4⟩ := id hW
    refine ⟨⟨hp, rfl, hG1, by rw [eg, sa]; exact hb.1, by rw [sz]; exact hb.2.1⟩, ?_⟩
    rintro x2 M1 - - ⟨hx, rfl⟩
    rw [eg] at hx
    have k2 : gY M0 2 = M1 0 5 := by rw [e0]; rfl
    have k4 : gY M0 4 = M1 0 7 := by rw [e0]; rfl
    have t245 : ∀ (_ : Nat) (v : Int), v = (if 0 ≤ u ∧ flp (gY M0) a z then 1 else 0) → ∃ μ : Nat, μ < n ∧ (0 : Nat) = 0 ∧ t = t ∧ y = y ∧ w = w ∧ (YW M0 M1 t y w k a z e q f 1 ∧ (0 ≤ k ∧ k < M0 0 9) ∧ M0 3 k.toNat = 102 ∧ u = nx (gY M0) a z ∧ g = (if u < 0 then 0 else 1) ∧ v = (if 0 ≤ u ∧ flp (gY M0) a z then 1 else 0) ∧ μ = ((200 - k) * 10 - 2).toNat) := fun _ v hv =>
      ⟨((200 - k) * 10 - 2).toNat, by omega, rfl, rfl, rfl, rfl, ⟨⟨ht, hy, hww, hff⟩, hf, hW⟩, hk, hc, hu, hg, hv, rfl⟩
    have g0 : g = 0 → u < 0 := fun y => by
      by_cases q : u < 0
      · exact q
      · rw [if_neg q] at hg; omega
    have gn : ¬ g = 0 → 0 ≤ u := fun y => by
      by_cases q : u < 0
      · rw [if_pos q] at hg; exact absurd hg y
      · omega
    have fE : flp (gY M0) a z ↔ ((x2 = 1 ∧ M1 0 5 = 2) ∨ (x2 = 2 ∧ M1 0 7 = 2)) := by
      unfold flp
      rw [k2, k4, ← hx]
    refine ⟨fun h1 => t245 0 0 ?_, fun h1 => ⟨fun h2 => ⟨fun h3 => t245 0 0 ?_, fun h3 => ⟨hp, fun h4 => t245 0 0 ?_, fun h4 => t245 0 1 ?_⟩⟩, fun h2 => ⟨hp, fun h3 => t245 0 1 ?_, fun h3 => ⟨fun h4 => t245 0 0 ?_, fun h4 => ⟨hp, fun h5 => t245 0 0 ?_, fun h5 => t245 0 1 ?_⟩⟩⟩⟩⟩
    · have := g0 h1
      rw [if_neg (fun y => by omega)]
    · rw [if_neg (fun y => by have := fE.mp y.2; omega)]
    · rw [if_neg (fun y => by have := fE.mp y.2; omega)]
    · have := gn h1
      rw [if_pos ⟨by omega, fE.mpr (by omega)⟩]
    · have := gn h1
      rw [if_pos ⟨by omega, fE.mpr (by omega)⟩]
    · rw [if_neg (fun y => by have := fE.mp y.2; omega)]
    · rw [if_neg (fun y => by have := fE.mp y.2; omega)]
    · have := gn h1
      rw [if_pos ⟨by omega, fE.mpr (by omega)⟩])
  (by
    rintro p t y w M0 ⟨hp, h0, σ0, h⟩ hM rt ry rw_ a z e q f g k u v M n ⟨⟨⟨ht, hy, hww, hff⟩, hf, hW⟩, hk, hc, hu, hg, hv, hμ⟩ -
    subst h0
    obtain ⟨hG, hw⟩ := absY_s h
    have hl := h.1.2.2.2.1
    have e9 := h.2.2.2.2.1.1
    have nE := (nT_b hG.1).1
    obtain ⟨n2, n9, n144⟩ := gY_n hG
    have hb := wlk_b (T := M0 3) hG.1 ht hy k.toNat
    obtain ⟨⟨sa, sz, se, sq, sf, sg⟩, hM4⟩ := id hW
    obtain ⟨b0, b1, b2, b3, b4, b5⟩ := hb
    rw [← sa] at b0
    rw [← sz] at b1
    rw [← se] at b2
    rw [← sq] at b3
    rw [← sf] at b4
    obtain ⟨i1, i2⟩ := wlk_in (g := gY M0) (T := M0 3) (t := t) (y := y) k.toNat
    rw [← sa] at i2
    have hn := nx_b hG.1 (t := a) (d := z) (by omega) (by omega)
    rw [← hu] at hn
    have nxt : ∀ (_ : Nat) (a' e' q' f' : Int), a' < 144 → WSY (up M 4 a'.toNat 1) (stW (gY M0) 102 (wlk (gY M0) (M0 3) t y k.toNat)) a' z e' q' f' g → inR (k + 1) ∧ ∃ μ : Nat, μ < n ∧ (0 : Nat) = 0 ∧ t = t ∧ y = y ∧ w = w ∧ (YW M0 (up M 4 a'.toNat 1) t y w (k + 1) a' z e' q' f' g ∧ (0 ≤ k + 1 ∧ k + 1 ≤ M0 0 9) ∧ μ = ((200 - (k + 1)) * 10).toNat) := fun _ a' e' q' f' ha' hW' => by
      refine ⟨by omega, ((200 - (k + 1)) * 10).toNat, by omega, rfl, rfl, rfl, rfl, ⟨⟨ht, hy, hww, hff⟩, fun b hb => by rw [up_n hb]; exact hf b hb, ?_⟩, by omega, rfl⟩
      rw [show (k + 1).toNat = k.toNat + 1 by omega]
      show WSY _ (stW (gY M0) (M0 3 k.toNat) (wlk (gY M0) (M0 3) t y k.toNat)) _ _ _ _ _ _
      rw [hc]
      exact hW'
    by_cases q0 : u < 0
    · rw [if_pos q0] at hg
      rw [if_neg (fun y => by omega)] at hv
      subst hg hv
      have h1 : M 4 a.toNat = 1 := (hM4 a.toNat (by omega)).trans i2
      refine ⟨fun _ => ⟨fun _ => ⟨fun _ => ⟨by omega, hp, rfl, by omega, fun y => by omega, fun _ => ⟨by omega, hp, rfl, by omega, Or.inr rfl, nxt 0 _ _ _ _ (by omega) (WSY_no hW (by omega) i2)⟩⟩, fun y => absurd rfl y⟩, fun y => absurd rfl y⟩, fun y => absurd rfl y⟩
    · rw [if_neg q0] at hg
      subst hg
      have go : ∀ (_ : Nat) (e' : Int), e' = (if flp (gY M0) a z then 1 - e else e) → inR (q + 1) ∧ kdY 0 = 9 ∧ kdY 4 = 22 ∧ (0 ≤ u ∧ u < 144) ∧ (M 4 u.toNat = 0 → inR (f + 1) ∧ kdY 0 = 9 ∧ kdY 4 = 22 ∧ (0 ≤ u ∧ u < 144) ∧ ((1 : Int) = 0 ∨ (1 : Int) = 1) ∧ inR (k + 1) ∧ ∃ μ : Nat, μ < n ∧ (0 : Nat) = 0 ∧ t = t ∧ y = y ∧ w = w ∧ (YW M0 (up M 4 u.toNat 1) t y w (k + 1) u z e' (q + 1) (f + 1) 1 ∧ (0 ≤ k + 1 ∧ k + 1 ≤ M0 0 9) ∧ μ = ((200 - (k + 1)) * 10).toNat)) ∧
          (¬ M 4 u.toNat = 0 → inR (f + 0) ∧ kdY 0 = 9 ∧ kdY 4 = 22 ∧ (0 ≤ u ∧ u < 144) ∧ ((1 : Int) = 0 ∨ (1 : Int) = 1) ∧ inR (k + 1) ∧ ∃ μ : Nat, μ < n ∧ (0 : Nat) = 0 ∧ t = t ∧ y = y ∧ w = w ∧ (YW M0 (up M 4 u.toNat 1) t y w (k + 1) u z e' (q + 1) (f + 0) 1 ∧ (0 ≤ k + 1 ∧ k + 1 ≤ M0 0 9) ∧ μ = ((200 - (k + 1)) * 10).toNat)) := fun _ e' he' => by
        obtain ⟨w1, w2⟩ := WSY_go hW hu ⟨by omega, by omega⟩ he' i1
        exact ⟨by omega, hp, rfl, by omega, fun h1 => ⟨by omega, hp, rfl, by omega, Or.inr rfl, nxt 0 _ _ _ _ (by omega) (w1 h1)⟩, fun h1 => ⟨by omega, hp, rfl, by omega, Or.inr rfl, nxt 0 _ _ _ _ (by omega) (w2 h1)⟩⟩
      refine ⟨fun h1 => ⟨fun y => absurd y (by decide), fun _ => ⟨fun y => absurd y (by decide), fun _ => go 0 e ?_⟩⟩, fun h1 => ⟨by omega, fun y => absurd y (by decide), fun _ => ⟨fun y => absurd y (by decide), fun _ => go 0 (1 - e) ?_⟩⟩⟩
      · by_cases q3 : flp (gY M0) a z
        · rw [if_pos ⟨by omega, q3⟩] at hv; omega
        · rw [if_neg q3]
      · by_cases q3 : flp (gY M0) a z
        · rw [if_pos q3]
        · rw [if_neg (fun y => q3 y.2)] at hv; exact absurd hv h1)
  (by
    rintro p t y w M0 ⟨hp, h0, σ0, h⟩ hM rt ry rw_ a z e q f g k v M n ⟨⟨⟨ht, hy, hww, hff⟩, hf, hW⟩, hg, hk, hc, hv, hμ⟩ -
    subst h0 hg
    obtain ⟨hG, hw⟩ := absY_s h
    have hl := h.1.2.2.2.1
    have e9 := h.2.2.2.2.1.1
    have hb := wlk_b (T := M0 3) hG.1 ht hy k.toNat
    obtain ⟨⟨sa, sz, se, sq, sf, sg⟩, hM4⟩ := id hW
    have bz := hb.2.1
    rw [← sz] at bz
    have nxt : ∀ (_ : Nat) (z' : Int), z' = trn (decide (M0 3 k.toNat = 114)) e z → inR (k + 1) ∧ ∃ μ : Nat, μ < n ∧ (0 : Nat) = 0 ∧ t = t ∧ y = y ∧ w = w ∧ (YW M0 M t y w (k + 1) a z' e q f 1 ∧ (0 ≤ k + 1 ∧ k + 1 ≤ M0 0 9) ∧ μ = ((200 - (k + 1)) * 10).toNat) := fun _ z' hz' => by
      refine ⟨by omega, ((200 - (k + 1)) * 10).toNat, by omega, rfl, rfl, rfl, rfl, ⟨⟨ht, hy, hww, hff⟩, hf, ?_⟩, by omega, rfl⟩
      rw [show (k + 1).toNat = k.toNat + 1 by omega, hz']
      exact WSY_turn hW hc
    refine ⟨fun h1 => ⟨by omega, by decide, nxt 0 _ ?_⟩, fun h1 => ⟨by omega, by decide, nxt 0 _ ?_⟩⟩
    · unfold trn
      by_cases q3 : decide (M0 3 k.toNat = 114) = decide (e = 0)
      · rw [if_pos q3] at hv; omega
      · rw [if_neg q3, Int.tmod_eq_emod_of_nonneg (by omega)]
        split <;> omega
    · unfold trn
      by_cases q3 : decide (M0 3 k.toNat = 114) = decide (e = 0)
      · rw [if_pos q3, Int.tmod_eq_emod_of_nonneg (by omega)]
        split <;> omega
      · rw [if_neg q3] at hv; exact absurd hv h1)
end Y18
