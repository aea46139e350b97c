abbrev p_X9_layDistances (p : Nat) (s : Int) (M : Mem) : Prop := kdY p = 9 ∧ p = 0 ∧ gyB M ∧ woY M ∧ 0 ≤ s ∧ s < nT (gY M)
abbrev c_X9_layDistances (p : Nat) (s : Int) (M : Mem) (x : Int) (M' : Mem) : Prop := isDist (gY M) (M 1) (M 2) s.toNat (dY M') ∧ (∀ j : Nat, j < nT (gY M) → M' 11 j = 1000000 ∨ (0 ≤ M' 11 j ∧ M' 11 j ≤ 10000)) ∧ (∀ b, b ≠ 4 → b ≠ 11 → M' b = M b)
def P_X9_layDistances (as : List AV) (M : Mem) : Prop := match as with
  | [.inr p, .inl s] => p_X9_layDistances p s M
  | _ => False
def C_X9_layDistances (as : List AV) (M : Mem) (x : Int) (M' : Mem) : Prop := match as with
  | [.inr p, .inl s] => c_X9_layDistances p s M x M'
  | _ => False
abbrev rm_X9_layDistances : Room := { frames := 3, cells := 0, slots := 0, locals := 70 }
abbrev OK_X9_layDistances (l : Launch) (D : va_G) (cy : Nat → ClassId) (ad : Nat → Nat) : Prop := MetA l D cy ad kdY lnY 12 yX9_layDistances cX9_layDistances 7 none rm_X9_layDistances 0 P_X9_layDistances C_X9_layDistances
theorem ca_X9_layDistances : CalV yX9_layDistances cX9_layDistances 7 none 1 := ⟨⟨wcX9_layDistances, wnX9, by decide +kernel, by decide +kernel, by decide +kernel⟩, wiX9_layDistances, wlX9_layDistances⟩
theorem rv_X9_layDistances : ∀ as M, P_X9_layDistances as M → ∃ a As q, as = .inr a :: As ∧ vwCl[kdY a]? = some q ∧ q.1 = yX9_layDistances.cls := by
  intro as M h
  unfold P_X9_layDistances at h
  split at h
  · exact ⟨_, _, (RX9, TX9, 20), rfl, by rw [h.1]; rfl, rfl⟩
  · exact h.elim
def ct_X9_layDistances : List (Nat × CS) := [(127, (3, 1, P_X9_next, C_X9_next)), (142, (3, 1, P_X9_stepLength, C_X9_stepLength))]
def J_X9_layDistances (I2 : Nat → Int → Mem → Int → Mem → Nat → Prop) (I42 : Nat → Int → Mem → Int → Mem → Nat → Prop) (I55 : Nat → Int → Mem → Int → Int → Int → Mem → Nat → Prop) (I117 : Nat → Int → Mem → Int → Int → Int → Mem → Nat → Prop) (p : Nat) (s : Int) (M0 : Mem) : IT := fun pc ls st M μ => match pc, ls, st, M, μ with
  | 2, [some (.inr p_), some (.inl s_), some (.inl t), _, _, _, _], [], M, μ => p = p_ ∧ s = s_ ∧ I2 p s M0 t M μ
  | 42, [some (.inr p_), some (.inl s_), some (.inl r), _, _, _, _], [], M, μ => p = p_ ∧ s = s_ ∧ I42 p s M0 r M μ
  | 55, [some (.inr p_), some (.inl s_), some (.inl r), some (.inl b), some (.inl t), _, _], [], M, μ => p = p_ ∧ s = s_ ∧ I55 p s M0 r b t M μ
  | 117, [some (.inr p_), some (.inl s_), some (.inl r), some (.inl b), some (.inl d), _, _], [], M, μ => p = p_ ∧ s = s_ ∧ I117 p s M0 r b d M μ
  | _, _, _, _, _ => False
def JA_X9_layDistances (I2 : Nat → Int → Mem → Int → Mem → Nat → Prop) (I42 : Nat → Int → Mem → Int → Mem → Nat → Prop) (I55 : Nat → Int → Mem → Int → Int → Int → Mem → Nat → Prop) (I117 : Nat → Int → Mem → Int → Int → Int → Mem → Nat → Prop) (as : List AV) (M0 : Mem) : IT := match as with
  | [.inr p, .inl s] => J_X9_layDistances I2 I42 I55 I117 p s M0
  | _ => fun _ _ _ _ _ => False
theorem si_X9_layDistances_127 {l : Launch} {D : va_G} {cy : Nat → ClassId} {ad : Nat → Nat} (o : OK_X9_next l D cy ad) : Site l D cy ad kdY lnY 12 yX9_layDistances.cls tbX9_layDistances rm_X9_layDistances 127 (3, 1, P_X9_next, C_X9_next) := Or.inl ⟨89, 2, yX9_next, cX9_next, 6, (some .int), rm_X9_next, rfl, rfl, o, ca_X9_next, mkX9_89, ⟨rfl, rfl, by decide, by decide⟩, rv_X9_next⟩
theorem si_X9_layDistances_142 {l : Launch} {D : va_G} {cy : Nat → ClassId} {ad : Nat → Nat} (o : OK_X9_stepLength l D cy ad) : Site l D cy ad kdY lnY 12 yX9_layDistances.cls tbX9_layDistances rm_X9_layDistances 142 (3, 1, P_X9_stepLength, C_X9_stepLength) := Or.inl ⟨140, 2, yX9_stepLength, cX9_stepLength, 5, (some .int), rm_X9_stepLength, rfl, rfl, o, ca_X9_stepLength, mkX9_140, ⟨rfl, rfl, by decide, by decide⟩, rv_X9_stepLength⟩
set_option maxRecDepth 100000 in
set_option maxHeartbeats 4000000 in
theorem met_X9_layDistances {l : Launch} {D : va_G} {cy : Nat → ClassId} {ad : Nat → Nat} (hA : jA ad 12) (o_X9_next : OK_X9_next l D cy ad) (o_X9_stepLength : OK_X9_stepLength l D cy ad) (I2 : Nat → Int → Mem → Int → Mem → Nat → Prop) (I42 : Nat → Int → Mem → Int → Mem → Nat → Prop) (I55 : Nat → Int → Mem → Int → Int → Int → Mem → Nat → Prop) (I117 : Nat → Int → Mem → Int → Int → Int → Mem → Nat → Prop)
    (hent : ∀ (p : Nat) (s : Int) (M0 : Mem), p_X9_layDistances p s M0 → okM M0 → inR s → ∃ μ : Nat, p = p ∧ s = s ∧ I2 p s M0 0 M0 μ)
    (hc2 : ∀ (p : Nat) (s : Int) (M0 : Mem), p_X9_layDistances p s M0 → okM M0 → inR s → ∀ (t : Int) (M : Mem) (n : Nat), I2 p s M0 t M n → okM M → kdY p = 9 ∧ (((M p 2) ≤ t → (∃ μ : Nat, μ < n ∧ p = p ∧ s = s ∧ I42 p s M0 0 M μ)) ∧ (¬ (M p 2) ≤ t → (kdY p = 9 ∧ ((¬ t = s → (kdY 11 = 21 ∧ (0 ≤ t ∧ t < 144) ∧ (kdY p = 9 ∧ (kdY 4 = 22 ∧ (0 ≤ t ∧ t < 144) ∧ ((0 : Int) = 0 ∨ (0 : Int) = 1) ∧ (inR (t + 1) ∧ (∃ μ : Nat, μ < n ∧ p = p ∧ s = s ∧ I2 p s M0 (t + 1) (up (up M 11 (t).toNat 1000000) 4 (t).toNat 0) μ)))))) ∧ (¬ (¬ t = s) → (kdY 11 = 21 ∧ (0 ≤ t ∧ t < 144) ∧ (kdY p = 9 ∧ (kdY 4 = 22 ∧ (0 ≤ t ∧ t < 144) ∧ ((0 : Int) = 0 ∨ (0 : Int) = 1) ∧ (inR (t + 1) ∧ (∃ μ : Nat, μ < n ∧ p = p ∧ s = s ∧ I2 p s M0 (t + 1) (up (up M 11 (t).toNat 0) 4 (t).toNat 0) μ)))))))))))
    (hc42 : ∀ (p : Nat) (s : Int) (M0 : Mem), p_X9_layDistances p s M0 → okM M0 → inR s → ∀ (r : Int) (M : Mem) (n : Nat), I42 p s M0 r M n → okM M → kdY p = 9 ∧ (((M p 2) ≤ r → (0 = 0 ∧ c_X9_layDistances p s M0 0 M)) ∧ (¬ (M p 2) ≤ r → (∃ μ : Nat, μ < n ∧ p = p ∧ s = s ∧ I55 p s M0 r (-1) 0 M μ))))
    (hc55 : ∀ (p : Nat) (s : Int) (M0 : Mem), p_X9_layDistances p s M0 → okM M0 → inR s → ∀ (r : Int) (b : Int) (t : Int) (M : Mem) (n : Nat), I55 p s M0 r b t M n → okM M → kdY p = 9 ∧ (((M p 2) ≤ t → (kdY p = 9 ∧ (kdY 4 = 22 ∧ (0 ≤ b ∧ b < 144) ∧ ((1 : Int) = 0 ∨ (1 : Int) = 1) ∧ (∃ μ : Nat, μ < n ∧ p = p ∧ s = s ∧ I117 p s M0 r b 0 (up M 4 (b).toNat 1) μ)))) ∧ (¬ (M p 2) ≤ t → (kdY p = 9 ∧ (kdY 4 = 22 ∧ (0 ≤ t ∧ t < 144) ∧ ((¬ (M 4 (t).toNat) = (0 : Int) → (inR (t + 1) ∧ (∃ μ : Nat, μ < n ∧ p = p ∧ s = s ∧ I55 p s M0 r b (t + 1) M μ))) ∧ (¬ (¬ (M 4 (t).toNat) = (0 : Int)) → ((b < (0 : Int) → (inR (t + 1) ∧ (∃ μ : Nat, μ < n ∧ p = p ∧ s = s ∧ I55 p s M0 r t (t + 1) M μ))) ∧ (¬ b < (0 : Int) → (kdY p = 9 ∧ (kdY 11 = 21 ∧ (0 ≤ t ∧ t < 144) ∧ (kdY p = 9 ∧ (kdY 11 = 21 ∧ (0 ≤ b ∧ b < 144) ∧ (((M 11 (b).toNat) ≤ (M 11 (t).toNat) → (inR (t + 1) ∧ (∃ μ : Nat, μ < n ∧ p = p ∧ s = s ∧ I55 p s M0 r b (t + 1) M μ))) ∧ (¬ (M 11 (b).toNat) ≤ (M 11 (t).toNat) → (inR (t + 1) ∧ (∃ μ : Nat, μ < n ∧ p = p ∧ s = s ∧ I55 p s M0 r t (t + 1) M μ)))))))))))))))))
    (hc117 : ∀ (p : Nat) (s : Int) (M0 : Mem), p_X9_layDistances p s M0 → okM M0 → inR s → ∀ (r : Int) (b : Int) (d : Int) (M : Mem) (n : Nat), I117 p s M0 r b d M n → okM M → ((4 : Int) ≤ d → (inR (r + 1) ∧ (∃ μ : Nat, μ < n ∧ p = p ∧ s = s ∧ I42 p s M0 (r + 1) M μ))) ∧ (¬ (4 : Int) ≤ d → (p_X9_next p b d M ∧ ∀ (x2 : Int) (M1 : Mem), inR x2 → okM M1 → c_X9_next p b d M x2 M1 → (kdY p = 9 ∧ (kdY 11 = 21 ∧ (0 ≤ b ∧ b < 144) ∧ (p_X9_stepLength p b x2 M1 ∧ ∀ (x4 : Int) (M3 : Mem), inR x4 → okM M3 → c_X9_stepLength p b x2 M1 x4 M3 → (inR ((M1 11 (b).toNat) + x4) ∧ (((1000000 : Int) ≤ ((M1 11 (b).toNat) + x4) → (inR (d + 1) ∧ (∃ μ : Nat, μ < n ∧ p = p ∧ s = s ∧ I117 p s M0 r b (d + 1) M3 μ))) ∧ (¬ (1000000 : Int) ≤ ((M1 11 (b).toNat) + x4) → (kdY p = 9 ∧ (kdY 11 = 21 ∧ (0 ≤ x2 ∧ x2 < 144) ∧ (((M3 11 (x2).toNat) ≤ ((M1 11 (b).toNat) + x4) → (inR (d + 1) ∧ (∃ μ : Nat, μ < n ∧ p = p ∧ s = s ∧ I117 p s M0 r b (d + 1) M3 μ))) ∧ (¬ (M3 11 (x2).toNat) ≤ ((M1 11 (b).toNat) + x4) → (kdY p = 9 ∧ (kdY 11 = 21 ∧ (0 ≤ x2 ∧ x2 < 144) ∧ (inR (d + 1) ∧ (∃ μ : Nat, μ < n ∧ p = p ∧ s = s ∧ I117 p s M0 r b (d + 1) (up M3 11 (x2).toNat ((M1 11 (b).toNat) + x4)) μ)))))))))))))))))
    : OK_X9_layDistances l D cy ad := by
  refine met_of (tb := tbX9_layDistances) (ft := ftX9) (cst := cstY) (ct := ct_X9_layDistances) (cuts := [2, 42, 55, 117]) 105 (JA_X9_layDistances I2 I42 I55 I117) hA jWY (by decide) tbX9_layDistances_ok (by decide) ftX9_ok cstY_ok (ldc_of (tb := tbX9_layDistances) (cst := cstY) (by decide)) rfl (List.forall_mem_cons.mpr ⟨si_X9_layDistances_127 o_X9_next, List.forall_mem_cons.mpr ⟨si_X9_layDistances_142 o_X9_stepLength, fun q h => absurd h List.not_mem_nil⟩⟩) ?_ ?_ ?_
  · intro as M0 h
    unfold P_X9_layDistances at h
    split at h
    · exact Nat.le_of_ble_eq_true rfl
    · exact h.elim
  · intro as M0 h hM has
    unfold P_X9_layDistances at h
    split at h
    next p s => exact hent p s M0 h hM (has s (by simp))
    · exact h.elim
  · intro as M0 h hM has pc ls st M n hI hM1
    unfold P_X9_layDistances at h
    split at h
    next p s =>
      unfold JA_X9_layDistances J_X9_layDistances at hI
      dsimp only at hI
      split at hI
      ·
        obtain ⟨rfl, rfl, hI⟩ := hI
        exact hc2 _ _ _ h hM (has _ (by simp)) _ _ _ hI hM1
      ·
        obtain ⟨rfl, rfl, hI⟩ := hI
        exact hc42 _ _ _ h hM (has _ (by simp)) _ _ _ hI hM1
      ·
        obtain ⟨rfl, rfl, hI⟩ := hI
        exact hc55 _ _ _ h hM (has _ (by simp)) _ _ _ _ _ hI hM1
      ·
        obtain ⟨rfl, rfl, hI⟩ := hI
        exact hc117 _ _ _ h hM (has _ (by simp)) _ _ _ _ _ hI hM1
      · exact hI.elim
    · exact h.elim
