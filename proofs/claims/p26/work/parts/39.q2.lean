section Q2
variable {l : Launch} {D : va_G} {cy : Nat → ClassId} {ad : Nat → Nat}
theorem ok_X1_bordersToNothing (hA : jA ad 46) : OK_X1_bordersToNothing l D cy ad := met_X1_bordersToNothing hA (ok_X3_next hA) (ok_X3_tiles hA)
  (fun p f M0 o t M μ => M = M0 ∧ (∀ L, labR p M0 L → o = sumF (qN L (gX M0) f) (t * 4).toNat) ∧ (0 ≤ t ∧ t ≤ nT (gX M0)) ∧ (0 ≤ o ∧ o ≤ t * 4) ∧ μ = ((200 - t) * 10).toNat)
  (fun p f M0 o t d M μ => M = M0 ∧ (∀ L, labR p M0 L → o = sumF (qN L (gX M0) f) (t * 4 + d).toNat) ∧ (0 ≤ t ∧ t < nT (gX M0)) ∧ (0 ≤ o ∧ o ≤ t * 4 + d) ∧ (0 ≤ d ∧ d ≤ 4) ∧ μ = ((200 - t) * 10 - 1 - d).toNat)
  (by
    rintro p f M0 ⟨hp, hS, hf, hl⟩ hM rf
    refine ⟨_, rfl, rfl, rfl, fun L h => ?_, by omega, by omega, rfl⟩
    rw [sumF_low]
    intro j hj
    have := hl (j / 4) (by omega)
    rw [h _ (by omega)] at this
    unfold qN
    rw [if_neg (fun z => this z.1)])
  (by
    rintro p f M0 ⟨hp, hS, hf, hl⟩ hM rf o t M n ⟨rfl, hI, ht, ho, hn⟩ -
    obtain ⟨nE, n9, n144⟩ := nT_b hS.1
    refine ⟨hp, ⟨rfl, rfl, surf_gB hS⟩, ?_⟩
    rintro x2 M1 - - ⟨rfl, rfl⟩
    rw [surf_N hS]
    refine ⟨fun h => ⟨trivial, fun L h1 => ?_, rfl⟩, fun h => ⟨((200 - t) * 10 - 1 - 0).toNat, by omega, rfl, rfl, rfl, fun L h1 => ?_, by omega, by omega, by omega, rfl⟩⟩
    · rw [hI L h1, show (t * 4).toNat = nT (gX M1) * 4 by omega]
    · rw [Int.add_zero]; exact hI L h1)
  (by
    rintro p f M0 ⟨hp, hS, hf, hl⟩ hM rf o t d M n ⟨rfl, hI, ht, ho, hd, hn⟩ -
    obtain ⟨⟨a1, b1⟩, -⟩ := kd1a hp
    obtain ⟨nE, n9, n144⟩ := nT_b hS.1
    refine ⟨fun h => ⟨by omega, ((200 - (t + 1)) * 10).toNat, by omega, rfl, rfl, rfl, fun L h1 => ?_, by omega, by omega, rfl⟩, fun h => ⟨hp, a1, ⟨by omega, by rw [b1]; omega⟩, fun h2 => ⟨by omega, ((200 - t) * 10 - 1 - (d + 1)).toNat, by omega, rfl, rfl, rfl, fun L h1 => cnt4 ht.1 hd.1 (hI L h1) ?_, by omega, by omega, by omega, rfl⟩, fun h2 => ⟨hp, ⟨rfl, rfl, by omega, by omega⟩, ?_⟩⟩⟩
    · rw [hI L h1, show (t * 4 + d).toNat = ((t + 1) * 4).toNat by omega]
    · rw [h1 _ (by omega)] at h2
      unfold qN
      rw [(k4 ht.1 ⟨hd.1, by omega⟩).1, if_neg (fun z => h2 z.1)]; omega
    · have h2 := Classical.byContradiction h2
      rintro x2 M1 - - ⟨rfl, rfl⟩
      rw [(hS.2 t d ht.1 (by omega) hd.1 (by omega)).1]
      refine ⟨fun h3 => ⟨by omega, ((200 - t) * 10 - 1 - (d + 1)).toNat, by omega, rfl, rfl, rfl, fun L h1 => cnt4 ht.1 hd.1 (hI L h1) ?_, by omega, by omega, by omega, rfl⟩, fun h3 => ⟨by omega, by omega, ((200 - t) * 10 - 1 - (d + 1)).toNat, by omega, rfl, rfl, rfl, fun L h1 => cnt4 ht.1 hd.1 (hI L h1) ?_, by omega, by omega, by omega, rfl⟩⟩
      · have hu := (nx_b hS.1 (d := d) ht.1 (by omega)).resolve_left h3
        unfold qN
        rw [nxk_of ht.1 ⟨hd.1, by omega⟩, if_neg (by omega)]; omega
      · rw [h1 _ (by omega)] at h2
        unfold qN
        rw [(k4 ht.1 ⟨hd.1, by omega⟩).1, nxk_of ht.1 ⟨hd.1, by omega⟩, if_pos ⟨h2, by omega⟩])
theorem wlN_bb : ∀ s : Nat, s < 16 → ∀ c : Nat, c < 4 → ∀ j : Nat, j ≤ 4 → 0 ≤ wlN s c j ∧ wlN s c j < 16 := by decide +kernel
theorem ok_X1_withLoop (hA : jA ad 46) : OK_X1_withLoop l D cy ad := met_X1_withLoop hA
  (fun s c M0 o j M μ => M = M0 ∧ o = wlN s c j.toNat ∧ (0 ≤ j ∧ j ≤ 4) ∧ μ = (4 - j).toNat)
  (by
    rintro s c M0 ⟨hs, hc⟩ hM rs rc
    exact ⟨_, rfl, rfl, rfl, rfl, by omega, rfl⟩)
  (by
    rintro s c M0 ⟨hs, hc⟩ hM rs rc o j M n ⟨rfl, rfl, hj, hn⟩ -
    have e1 : (j + 1).toNat = j.toNat + 1 := by omega
    have hjn : ((j.toNat : Nat) : Int) = j := by omega
    refine ⟨fun h => ⟨trivial, by rw [show j.toNat = 4 by omega], rfl⟩, fun h => ⟨fun h2 => ⟨by omega, (4 - (j + 1)).toNat, by omega, rfl, rfl, rfl, ?_, by omega, rfl⟩, fun h2 => ⟨by omega, (4 - (j + 1)).toNat, by omega, rfl, rfl, rfl, ?_, by omega, rfl⟩⟩⟩
    · rw [e1]
      show _ = if bAnd (bShr s ((j.toNat : Nat) : Int)) 1 = 1 then _ else _
      rw [hjn, if_neg h2]
    · rw [e1]
      show _ = if bAnd (bShr s ((j.toNat : Nat) : Int)) 1 = 1 then _ else _
      rw [hjn, if_pos (Classical.byContradiction h2)])
theorem phi_3 : ∀ a b : Bool, ∀ x : Nat, x < 4 → ∀ y : Nat, y < 4 → bXor (phiB a b x) (phiB a b y) = phiB a b (bXor x y) := by decide +kernel
theorem bX_b {x y : Int} (hx : 0 ≤ x ∧ x ≤ 3) (hy : 0 ≤ y ∧ y ≤ 3) : 0 ≤ bXor x y ∧ bXor x y ≤ 3 := by
  have := (by decide +kernel : ∀ x : Nat, x < 4 → ∀ y : Nat, y < 4 → 0 ≤ bXor x y ∧ bXor x y ≤ 3) x.toNat (by omega) y.toNat (by omega)
  rwa [show ((x.toNat : Nat) : Int) = x by omega, show ((y.toNat : Nat) : Int) = y by omega] at this
theorem phi_xx {g : Nat → Int} {x y : Int} (hx : 0 ≤ x ∧ x ≤ 3) (hy : 0 ≤ y ∧ y ≤ 3) : bXor (phi g x) (phi g y) = phi g (bXor x y) := by
  have := phi_3 (decide (g 2 = 2)) (decide (g 4 = 2)) x.toNat (by omega) y.toNat (by omega)
  rw [show ((x.toNat : Nat) : Int) = x by omega, show ((y.toNat : Nat) : Int) = y by omega] at this
  rw [phiB_of hx, phiB_of hy, phiB_of (bX_b hx hy)]
  exact this
/-- what loopOver answers, by the classes -/
theorem lov {p : Nat} {M : Mem} {L C : Nat → Int} {t d : Int} (hS : surf M) (hL : labR p M L) (hC : crsR p M C) (ht : 0 ≤ t ∧ t < nT (gX M)) (hd : 0 ≤ d ∧ d < 4) :
    (if 0 ≤ nx (gX M) t d ∧ M (p + 1) (nx (gX M) t d).toNat = M (p + 1) t.toNat then bXor (bXor (M (p + 4) t.toNat) (cx (gX M) t d)) (M (p + 4) (nx (gX M) t d).toNat) else 0) = phi (gX M) (lcl L C (gX M) (t * 4 + d).toNat) ∧ 0 ≤ lcl L C (gX M) (t * 4 + d).toNat ∧ lcl L C (gX M) (t * 4 + d).toNat ≤ 3 := by
  obtain ⟨nE, n9, n144⟩ := nT_b hS.1
  obtain ⟨k1, k2⟩ := k4 ht.1 hd
  unfold lcl
  rw [nxk_of ht.1 hd, k1, k2, show ((t.toNat : Nat) : Int) = t by omega, show ((d.toNat : Nat) : Int) = d by omega]
  rcases nx_b hS.1 (d := d) ht.1 (by omega) with q | q
  · rw [if_neg (by omega), if_neg (by omega)]
    exact ⟨rfl, by omega⟩
  · rw [hL _ (by omega), hL _ (by omega)]
    by_cases z : L (nx (gX M) t d).toNat = L t.toNat
    · rw [if_pos ⟨q.1, z⟩, if_pos ⟨q.1, z⟩]
      obtain ⟨c1, c2⟩ := hC t.toNat (by omega)
      obtain ⟨c3, c5⟩ := hC (nx (gX M) t d).toNat (by omega)
      have ec : cx (gX M) t d = cxb (gX M) (sm (gX M) t d) := by unfold cx; rw [if_neg (by omega)]
      have hx := bX3 c2 (sm_b (g := gX M) (t := t) (d := d))
      rw [c1, c3, ec, phi_x c2 sm_b, phi_xx hx c5]
      exact ⟨rfl, bX_b hx c5⟩
    · rw [if_neg (fun y => z y.2), if_neg (fun y => z y.2)]
      exact ⟨rfl, by omega⟩
theorem lpF_s {L C g : Nat → Int} {f : Int} {n m : Nat} (h : m = n + 1) : lpF L C g f m = if L (n / 4) = f then wlN (lpF L C g f n) (lcl L C g n) 4 else lpF L C g f n := by subst h; rfl
theorem wl_int {s c : Int} (hs : 0 ≤ s ∧ s < 16) (hc : 0 ≤ c ∧ c ≤ 3) : 0 ≤ wlN s c 4 ∧ wlN s c 4 < 16 := by
  have := wlN_b s.toNat (by omega) c.toNat (by omega)
  rwa [show ((s.toNat : Nat) : Int) = s by omega, show ((c.toNat : Nat) : Int) = c by omega] at this
theorem ok_X1_loops (hA : jA ad 46) : OK_X1_loops l D cy ad := met_X1_loops hA (ok_X1_loopOver hA) (ok_X1_withLoop hA) (ok_X3_tiles hA)
  (fun p f M0 o t M μ => M = M0 ∧ (∀ L C, labR p M0 L → crsR p M0 C → o = lpF L C (gX M0) f (t * 4).toNat) ∧ (0 ≤ t ∧ t ≤ nT (gX M0)) ∧ (0 ≤ o ∧ o < 16) ∧ μ = ((200 - t) * 10).toNat)
  (fun p f M0 o t d M μ => M = M0 ∧ (∀ L C, labR p M0 L → crsR p M0 C → o = lpF L C (gX M0) f (t * 4 + d).toNat) ∧ (0 ≤ t ∧ t < nT (gX M0)) ∧ (0 ≤ o ∧ o < 16) ∧ (0 ≤ d ∧ d ≤ 4) ∧ μ = ((200 - t) * 10 - 1 - d).toNat)
  (by
    rintro p f M0 ⟨hp, hS, ⟨hf, hl⟩, hC⟩ hM rf
    refine ⟨_, rfl, rfl, rfl, fun L C h _ => ?_, by omega, by omega, rfl⟩
    have : ∀ n : Nat, (n : Int) ≤ f * 4 → lpF L C (gX M0) f n = 1 := by
      intro n
      induction n with
      | zero => intro _; rfl
      | succ n ih =>
        intro hn
        have := hl (n / 4) (by omega)
        rw [h _ (by omega)] at this
        rw [lpF_s rfl, if_neg this]
        exact ih (by omega)
    exact (this _ (by omega)).symm)
  (by
    rintro p f M0 ⟨hp, hS, ⟨hf, hl⟩, hC⟩ hM rf o t M n ⟨rfl, hI, ht, ho, hn⟩ -
    obtain ⟨nE, n9, n144⟩ := nT_b hS.1
    refine ⟨hp, ⟨rfl, rfl, surf_gB hS⟩, ?_⟩
    rintro x2 M1 - - ⟨rfl, rfl⟩
    rw [surf_N hS]
    refine ⟨fun h => ⟨trivial, fun L C h1 h2 => ?_, rfl⟩, fun h => ⟨((200 - t) * 10 - 1 - 0).toNat, by omega, rfl, rfl, rfl, fun L C h1 h2 => ?_, by omega, by omega, by omega, rfl⟩⟩
    · rw [hI L C h1 h2, show (t * 4).toNat = nT (gX M1) * 4 by omega]
    · rw [Int.add_zero]; exact hI L C h1 h2)
  (by
    rintro p f M0 ⟨hp, hS, ⟨hf, hl⟩, C0, hC⟩ hM rf o t d M n ⟨rfl, hI, ht, ho, hd, hn⟩ -
    obtain ⟨⟨a1, b1⟩, -⟩ := kd1a hp
    obtain ⟨nE, n9, n144⟩ := nT_b hS.1
    have es : (t * 4 + (d + 1)).toNat = (t * 4 + d).toNat + 1 := by omega
    refine ⟨fun h => ⟨by omega, ((200 - (t + 1)) * 10).toNat, by omega, rfl, rfl, rfl, fun L C h1 h2 => ?_, by omega, by omega, rfl⟩, fun h => ⟨hp, a1, ⟨by omega, by rw [b1]; omega⟩, fun h2 => ⟨by omega, ((200 - t) * 10 - 1 - (d + 1)).toNat, by omega, rfl, rfl, rfl, fun L C h1 h3 => ?_, by omega, by omega, by omega, rfl⟩, fun h2 => ⟨⟨hp, hS, ht, by omega⟩, ?_⟩⟩⟩
    · rw [hI L C h1 h2, show (t * 4 + d).toNat = ((t + 1) * 4).toNat by omega]
    · rw [h1 _ (by omega)] at h2
      rw [lpF_s es, (k4 ht.1 ⟨hd.1, by omega⟩).1, if_neg h2]
      exact hI L C h1 h3
    · have h2 := Classical.byContradiction h2
      rintro x2 M1 - - ⟨hx, rfl⟩
      have val : ∀ L C, labR p M1 L → crsR p M1 C → bAnd x2 3 = lcl L C (gX M1) (t * 4 + d).toNat ∧ 0 ≤ lcl L C (gX M1) (t * 4 + d).toNat ∧ lcl L C (gX M1) (t * 4 + d).toNat ≤ 3 := by
        intro L C h1 h3
        obtain ⟨z1, z2⟩ := lov hS h1 h3 ht ⟨hd.1, by omega⟩
        rw [hx, z1]
        exact ⟨(odd_phi z2).2, z2⟩
      obtain ⟨v1, v2⟩ := val (M1 (p + 1)) C0 (fun _ _ => rfl) hC
      refine ⟨⟨ho, by rw [v1]; omega⟩, ?_⟩
      rintro x4 M3 - - ⟨rfl, rfl⟩
      refine ⟨by omega, ((200 - t) * 10 - 1 - (d + 1)).toNat, by omega, rfl, rfl, rfl, fun L C h1 h3 => ?_, by omega, by rw [v1]; exact wl_int ho v2, by omega, rfl⟩
      have h4 := h2
      rw [h1 _ (by omega)] at h4
      rw [lpF_s es, (k4 ht.1 ⟨hd.1, by omega⟩).1, if_pos h4, ← hI L C h1 h3, (val L C h1 h3).1])
theorem ok_X1_isOneSided (hA : jA ad 46) : OK_X1_isOneSided l D cy ad := met_X1_isOneSided hA (ok_X1_loopOver hA) (ok_X3_tiles hA)
  (fun p f M0 t M μ => M = M0 ∧ (∀ L C, labR p M0 L → crsR p M0 C → ∀ k : Nat, (k : Int) < t * 4 → ¬ (L (k / 4) = f ∧ odd (gX M0) (lcl L C (gX M0) k) = true)) ∧ (0 ≤ t ∧ t ≤ nT (gX M0)) ∧ μ = ((200 - t) * 10).toNat)
  (fun p f M0 t d M μ => M = M0 ∧ (∀ L C, labR p M0 L → crsR p M0 C → ∀ k : Nat, (k : Int) < t * 4 + d → ¬ (L (k / 4) = f ∧ odd (gX M0) (lcl L C (gX M0) k) = true)) ∧ (0 ≤ t ∧ t < nT (gX M0)) ∧ (0 ≤ d ∧ d ≤ 4) ∧ μ = ((200 - t) * 10 - 1 - d).toNat)
  (by
    rintro p f M0 ⟨hp, hS, ⟨hf, hl⟩, hC⟩ hM rf
    refine ⟨_, rfl, rfl, rfl, fun L C h _ k hk z => ?_, by omega, rfl⟩
    have := hl (k / 4) (by omega)
    rw [h _ (by omega)] at this
    exact this z.1)
  (by
    rintro p f M0 ⟨hp, hS, ⟨hf, hl⟩, hC⟩ hM rf t M n ⟨rfl, hI, ht, hn⟩ -
    obtain ⟨nE, n9, n144⟩ := nT_b hS.1
    refine ⟨hp, ⟨rfl, rfl, surf_gB hS⟩, ?_⟩
    rintro x2 M1 - - ⟨rfl, rfl⟩
    rw [surf_N hS]
    refine ⟨fun h => ⟨Or.inl rfl, fun L C h1 h2 => ⟨fun z => absurd z (by decide), fun ⟨k, k1, k2⟩ => absurd k2 (hI L C h1 h2 k (by omega))⟩, Or.inl rfl, rfl⟩, fun h => ⟨((200 - t) * 10 - 1 - 0).toNat, by omega, rfl, rfl, rfl, fun L C h1 h2 k hk => hI L C h1 h2 k (by omega), by omega, by omega, rfl⟩⟩)
  (by
    rintro p f M0 ⟨hp, hS, ⟨hf, hl⟩, C0, hC⟩ hM rf t d M n ⟨rfl, hI, ht, hd, hn⟩ -
    obtain ⟨⟨a1, b1⟩, -⟩ := kd1a hp
    obtain ⟨nE, n9, n144⟩ := nT_b hS.1
    refine ⟨fun h => ⟨by omega, ((200 - (t + 1)) * 10).toNat, by omega, rfl, rfl, rfl, fun L C h1 h2 k hk => hI L C h1 h2 k (by omega), by omega, rfl⟩, fun h => ⟨hp, a1, ⟨by omega, by rw [b1]; omega⟩, fun h2 => ⟨by omega, ((200 - t) * 10 - 1 - (d + 1)).toNat, by omega, rfl, rfl, rfl, fun L C h1 h3 k hk => ?_, by omega, by omega, rfl⟩, fun h2 => ⟨⟨hp, hS, ht, by omega⟩, ?_⟩⟩⟩
    · by_cases q : k = (t * 4 + d).toNat
      · subst q
        rw [h1 _ (by omega)] at h2
        rw [(k4 ht.1 ⟨hd.1, by omega⟩).1]
        exact fun z => h2 z.1
      · exact hI L C h1 h3 k (by omega)
    · have h2 := Classical.byContradiction h2
      rintro x2 M1 - - ⟨hx, rfl⟩
      have val : ∀ L C, labR p M1 L → crsR p M1 C → (bAnd x2 4 = 0 ↔ odd (gX M1) (lcl L C (gX M1) (t * 4 + d).toNat) = false) := by
        intro L C h1 h3
        obtain ⟨z1, z2⟩ := lov hS h1 h3 ht ⟨hd.1, by omega⟩
        rw [hx, z1]
        exact (odd_phi z2).1
      refine ⟨fun h5 => ⟨by omega, ((200 - t) * 10 - 1 - (d + 1)).toNat, by omega, rfl, rfl, rfl, fun L C h1 h3 k hk => ?_, by omega, by omega, rfl⟩, fun h5 => ⟨Or.inr rfl, fun L C h1 h3 => ⟨fun _ => ⟨(t * 4 + d).toNat, by omega, ?_, ?_⟩, fun _ => rfl⟩, Or.inr rfl, rfl⟩⟩
      · by_cases q : k = (t * 4 + d).toNat
        · subst q
          rw [(val L C h1 h3).mp h5]
          exact fun z => absurd z.2 (by decide)
        · exact hI L C h1 h3 k (by omega)
      · rw [(k4 ht.1 ⟨hd.1, by omega⟩).1, ← h1 _ (by omega)]; exact h2
      · cases q : odd (gX M1) (lcl L C (gX M1) (t * 4 + d).toNat) with
        | true => rfl
        | false => exact absurd ((val L C h1 h3).mpr q) h5)
theorem ok_X1_isFirstMeeting (hA : jA ad 46) : OK_X1_isFirstMeeting l D cy ad := met_X1_isFirstMeeting hA (by
  rintro p t M0 ⟨hp, ht, hl⟩ hM rt
  obtain ⟨⟨a1, b1⟩, -, -, -, ⟨a5, b5⟩, -⟩ := kd1a hp
  refine ⟨hp, a1, ⟨ht.1, by rw [b1]; omega⟩, hp, a5, ⟨hl.1, by rw [b5]; omega⟩, fun h => ⟨hp, a5, ⟨hl.1, by rw [b5]; omega⟩, Or.inr rfl, Or.inl rfl, ?_, rfl⟩, fun h => ⟨hp, a5, ⟨hl.1, by rw [b5]; omega⟩, Or.inr rfl, Or.inr rfl, ?_, rfl⟩⟩
  · rw [if_neg h]
  · rw [if_pos (Classical.byContradiction h)])
theorem gdF_s {L E : Nat → Int} {f : Int} {n m : Nat} (h : m = n + 1) : gdF L E f m = if L n = f ∧ gdF L E f n < E n then E n else gdF L E f n := by subst h; rfl
theorem ok_X1_greatestDepth (hA : jA ad 46) : OK_X1_greatestDepth l D cy ad := met_X1_greatestDepth hA (ok_X3_tiles hA)
  (fun p f M0 o t M μ => M = M0 ∧ (∀ L E, labR p M0 L → (∀ t : Nat, t < nT (gX M0) → M0 (p + 3) t = E t) → o = gdF L E f t.toNat) ∧ (0 ≤ t ∧ t ≤ nT (gX M0)) ∧ μ = (500 - t).toNat)
  (by
    rintro p f M0 ⟨hp, hS, hf, hl⟩ hM rf
    refine ⟨_, rfl, rfl, rfl, fun L E h _ => ?_, by omega, rfl⟩
    have : ∀ n : Nat, (n : Int) ≤ f → gdF L E f n = 0 := by
      intro n
      induction n with
      | zero => intro _; rfl
      | succ n ih =>
        intro hn
        have := hl n (by omega)
        rw [h _ (by omega)] at this
        rw [gdF_s rfl, if_neg (fun z => this z.1)]
        exact ih (by omega)
    exact (this _ (by omega)).symm)
  (by
    rintro p f M0 ⟨hp, hS, hf, hl⟩ hM rf o t M n ⟨rfl, hI, ht, hn⟩ -
    obtain ⟨⟨a1, b1⟩, -, ⟨a3, b3⟩, -⟩ := kd1a hp
    obtain ⟨nE, n9, n144⟩ := nT_b hS.1
    refine ⟨hp, ⟨rfl, rfl, surf_gB hS⟩, ?_⟩
    rintro x2 M1 - - ⟨rfl, rfl⟩
    rw [surf_N hS]
    have es : (t + 1).toNat = t.toNat + 1 := by omega
    refine ⟨fun h => ⟨trivial, fun L E h1 h2 => ?_, rfl⟩, fun h => ⟨hp, a1, ⟨by omega, by rw [b1]; omega⟩, fun h2 => ⟨by omega, (500 - (t + 1)).toNat, by omega, rfl, rfl, rfl, fun L E h1 h3 => ?_, by omega, rfl⟩, fun h2 => ⟨hp, a3, ⟨by omega, by rw [b3]; omega⟩, fun h4 => ⟨by omega, (500 - (t + 1)).toNat, by omega, rfl, rfl, rfl, fun L E h1 h3 => ?_, by omega, rfl⟩, fun h4 => ⟨hp, a3, ⟨by omega, by rw [b3]; omega⟩, by omega, (500 - (t + 1)).toNat, by omega, rfl, rfl, rfl, fun L E h1 h3 => ?_, by omega, rfl⟩⟩⟩⟩
    · rw [hI L E h1 h2, show t.toNat = nT (gX M1) by omega]
    · rw [h1 _ (by omega)] at h2
      rw [gdF_s es, if_neg (fun z => h2 z.1)]; exact hI L E h1 h3
    · rw [h3 _ (by omega), hI L E h1 h3] at h4
      rw [gdF_s es, if_neg (fun z => by omega)]; exact hI L E h1 h3
    · have h2 := Classical.byContradiction h2
      rw [h1 _ (by omega)] at h2
      rw [h3 _ (by omega)] at h4 ⊢
      rw [hI L E h1 h3] at h4
      rw [gdF_s es, if_pos ⟨h2, by omega⟩])
end Q2
