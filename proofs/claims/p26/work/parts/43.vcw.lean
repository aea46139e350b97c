abbrev p_X7_levelWeights (p : Nat) (M : Mem) : Prop := kdX p = 7 ∧ p = 7
abbrev c_X7_levelWeights (p : Nat) (M : Mem) (x : Int) (M' : Mem) : Prop := (∀ k : Nat, k < 6 → M' 8 k = 1) ∧ (∀ b, b ≠ 8 → M' b = M b)
def P_X7_levelWeights (as : List AV) (M : Mem) : Prop := match as with
  | [.inr p] => p_X7_levelWeights p M
  | _ => False
def C_X7_levelWeights (as : List AV) (M : Mem) (x : Int) (M' : Mem) : Prop := match as with
  | [.inr p] => c_X7_levelWeights p M x M'
  | _ => False
abbrev rm_X7_levelWeights : Room := { frames := 0, cells := 0, slots := 0, locals := 0 }
abbrev OK_X7_levelWeights (l : Launch) (D : va_G) (cy : Nat → ClassId) (ad : Nat → Nat) : Prop := MetA l D cy ad kdX lnX 46 yX7_levelWeights cX7_levelWeights 2 none rm_X7_levelWeights 0 P_X7_levelWeights C_X7_levelWeights
theorem ca_X7_levelWeights : CalV yX7_levelWeights cX7_levelWeights 2 none 0 := ⟨⟨wcX7_levelWeights, wnX7, by decide +kernel, by decide +kernel, by decide +kernel⟩, wiX7_levelWeights, wlX7_levelWeights⟩
theorem rv_X7_levelWeights : ∀ as M, P_X7_levelWeights as M → ∃ a As q, as = .inr a :: As ∧ vwCl[kdX a]? = some q ∧ q.1 = yX7_levelWeights.cls := by
  intro as M h
  unfold P_X7_levelWeights at h
  split at h
  · exact ⟨_, _, (RX7, TX7, 5), rfl, by rw [h.1]; rfl, rfl⟩
  · exact h.elim
def ct_X7_levelWeights : List (Nat × CS) := []
def J_X7_levelWeights (I2 : Nat → Mem → Int → Mem → Nat → Prop) (p : Nat) (M0 : Mem) : IT := fun pc ls st M μ => match pc, ls, st, M, μ with
  | 2, [some (.inr p_), some (.inl k)], [], M, μ => p = p_ ∧ I2 p M0 k M μ
  | _, _, _, _, _ => False
def JA_X7_levelWeights (I2 : Nat → Mem → Int → Mem → Nat → Prop) (as : List AV) (M0 : Mem) : IT := match as with
  | [.inr p] => J_X7_levelWeights I2 p M0
  | _ => fun _ _ _ _ _ => False
set_option maxRecDepth 100000 in
set_option maxHeartbeats 4000000 in
theorem met_X7_levelWeights {l : Launch} {D : va_G} {cy : Nat → ClassId} {ad : Nat → Nat} (hA : jA ad 46)  (I2 : Nat → Mem → Int → Mem → Nat → Prop)
    (hent : ∀ (p : Nat) (M0 : Mem), p_X7_levelWeights p M0 → okM M0 → ∃ μ : Nat, p = p ∧ I2 p M0 0 M0 μ)
    (hc2 : ∀ (p : Nat) (M0 : Mem), p_X7_levelWeights p M0 → okM M0 → ∀ (k : Int) (M : Mem) (n : Nat), I2 p M0 k M n → okM M → ((6 : Int) ≤ k → (0 = 0 ∧ c_X7_levelWeights p M0 0 M)) ∧ (¬ (6 : Int) ≤ k → (kdX p = 7 ∧ (kdX 8 = 21 ∧ (0 ≤ k ∧ k < 6) ∧ (inR (k + 1) ∧ (∃ μ : Nat, μ < n ∧ p = p ∧ I2 p M0 (k + 1) (up M 8 (k).toNat 1) μ))))))
    : OK_X7_levelWeights l D cy ad := by
  refine met_of (tb := tbX7_levelWeights) (ft := ftX7) (cst := cst0) (ct := ct_X7_levelWeights) (cuts := [2]) 15 (JA_X7_levelWeights I2) hA jWX (by decide) tbX7_levelWeights_ok (by decide) ftX7_ok cst0_ok (ldc_of (tb := tbX7_levelWeights) (cst := cst0) (by decide)) rfl (fun q h => absurd h List.not_mem_nil) ?_ ?_ ?_
  · intro as M0 h
    unfold P_X7_levelWeights at h
    split at h
    · exact Nat.le_of_ble_eq_true rfl
    · exact h.elim
  · intro as M0 h hM has
    unfold P_X7_levelWeights at h
    split at h
    next p => exact hent p M0 h hM
    · exact h.elim
  · intro as M0 h hM has pc ls st M n hI hM1
    unfold P_X7_levelWeights at h
    split at h
    next p =>
      unfold JA_X7_levelWeights J_X7_levelWeights at hI
      dsimp only at hI
      split at hI
      ·
        obtain ⟨rfl, hI⟩ := hI
        exact hc2 _ _ h hM _ _ _ hI hM1
      · exact hI.elim
    · exact h.elim
abbrev p_X7_changeWeight (p : Nat) (k : Int) (w : Int) (M : Mem) : Prop := kdX p = 7 ∧ p = 7 ∧ 0 ≤ k ∧ k < 6
abbrev c_X7_changeWeight (p : Nat) (k : Int) (w : Int) (M : Mem) (x : Int) (M' : Mem) : Prop := x = M 8 k.toNat ∧ M' = up M 8 k.toNat w
def P_X7_changeWeight (as : List AV) (M : Mem) : Prop := match as with
  | [.inr p, .inl k, .inl w] => p_X7_changeWeight p k w M
  | _ => False
def C_X7_changeWeight (as : List AV) (M : Mem) (x : Int) (M' : Mem) : Prop := match as with
  | [.inr p, .inl k, .inl w] => c_X7_changeWeight p k w M x M'
  | _ => False
abbrev rm_X7_changeWeight : Room := { frames := 0, cells := 0, slots := 0, locals := 0 }
abbrev OK_X7_changeWeight (l : Launch) (D : va_G) (cy : Nat → ClassId) (ad : Nat → Nat) : Prop := MetA l D cy ad kdX lnX 46 yX7_changeWeight cX7_changeWeight 4 (some .int) rm_X7_changeWeight 1 P_X7_changeWeight C_X7_changeWeight
theorem ca_X7_changeWeight : CalV yX7_changeWeight cX7_changeWeight 4 (some .int) 2 := ⟨⟨wcX7_changeWeight, wnX7, by decide +kernel, by decide +kernel, by decide +kernel⟩, wiX7_changeWeight, wlX7_changeWeight⟩
theorem rv_X7_changeWeight : ∀ as M, P_X7_changeWeight as M → ∃ a As q, as = .inr a :: As ∧ vwCl[kdX a]? = some q ∧ q.1 = yX7_changeWeight.cls := by
  intro as M h
  unfold P_X7_changeWeight at h
  split at h
  · exact ⟨_, _, (RX7, TX7, 5), rfl, by rw [h.1]; rfl, rfl⟩
  · exact h.elim
def ct_X7_changeWeight : List (Nat × CS) := []
def J_X7_changeWeight  (p : Nat) (k : Int) (w : Int) (M0 : Mem) : IT := fun pc ls st M μ => match pc, ls, st, M, μ with
  | _, _, _, _, _ => False
def JA_X7_changeWeight  (as : List AV) (M0 : Mem) : IT := match as with
  | [.inr p, .inl k, .inl w] => J_X7_changeWeight  p k w M0
  | _ => fun _ _ _ _ _ => False
set_option maxRecDepth 100000 in
set_option maxHeartbeats 4000000 in
theorem met_X7_changeWeight {l : Launch} {D : va_G} {cy : Nat → ClassId} {ad : Nat → Nat} (hA : jA ad 46)  
    (hent : ∀ (p : Nat) (k : Int) (w : Int) (M0 : Mem), p_X7_changeWeight p k w M0 → okM M0 → inR k → inR w → kdX p = 7 ∧ (kdX 8 = 21 ∧ (0 ≤ k ∧ k < 6) ∧ (kdX p = 7 ∧ (kdX 8 = 21 ∧ (0 ≤ k ∧ k < 6) ∧ ((True) ∧ c_X7_changeWeight p k w M0 (M0 8 (k).toNat) (up M0 8 (k).toNat w))))))
    : OK_X7_changeWeight l D cy ad := by
  refine met_of (tb := tbX7_changeWeight) (ft := ftX7) (cst := cst0) (ct := ct_X7_changeWeight) (cuts := []) 14 (JA_X7_changeWeight ) hA jWX (by decide) tbX7_changeWeight_ok (by decide) ftX7_ok cst0_ok (ldc_of (tb := tbX7_changeWeight) (cst := cst0) (by decide)) rfl (fun q h => absurd h List.not_mem_nil) ?_ ?_ ?_
  · intro as M0 h
    unfold P_X7_changeWeight at h
    split at h
    · exact Nat.le_of_ble_eq_true rfl
    · exact h.elim
  · intro as M0 h hM has
    unfold P_X7_changeWeight at h
    split at h
    next p k w => exact hent p k w M0 h hM (has k (by simp)) (has w (by simp))
    · exact h.elim
  · intro as M0 h hM has pc ls st M n hI hM1
    unfold P_X7_changeWeight at h
    split at h
    · exact hI.elim
    · exact h.elim
abbrev p_X7_lengthTo (p : Nat) (t : Int) (M : Mem) : Prop := kdX p = 7 ∧ p = 7 ∧ 0 ≤ t ∧ t < 144
abbrev c_X7_lengthTo (p : Nat) (t : Int) (M : Mem) (x : Int) (M' : Mem) : Prop := x = M 9 t.toNat ∧ M' = M
def P_X7_lengthTo (as : List AV) (M : Mem) : Prop := match as with
  | [.inr p, .inl t] => p_X7_lengthTo p t M
  | _ => False
def C_X7_lengthTo (as : List AV) (M : Mem) (x : Int) (M' : Mem) : Prop := match as with
  | [.inr p, .inl t] => c_X7_lengthTo p t M x M'
  | _ => False
abbrev rm_X7_lengthTo : Room := { frames := 0, cells := 0, slots := 0, locals := 0 }
abbrev OK_X7_lengthTo (l : Launch) (D : va_G) (cy : Nat → ClassId) (ad : Nat → Nat) : Prop := MetA l D cy ad kdX lnX 46 yX7_lengthTo cX7_lengthTo 2 (some .int) rm_X7_lengthTo 1 P_X7_lengthTo C_X7_lengthTo
theorem ca_X7_lengthTo : CalV yX7_lengthTo cX7_lengthTo 2 (some .int) 1 := ⟨⟨wcX7_lengthTo, wnX7, by decide +kernel, by decide +kernel, by decide +kernel⟩, wiX7_lengthTo, wlX7_lengthTo⟩
theorem rv_X7_lengthTo : ∀ as M, P_X7_lengthTo as M → ∃ a As q, as = .inr a :: As ∧ vwCl[kdX a]? = some q ∧ q.1 = yX7_lengthTo.cls := by
  intro as M h
  unfold P_X7_lengthTo at h
  split at h
  · exact ⟨_, _, (RX7, TX7, 5), rfl, by rw [h.1]; rfl, rfl⟩
  · exact h.elim
def ct_X7_lengthTo : List (Nat × CS) := []
def J_X7_lengthTo  (p : Nat) (t : Int) (M0 : Mem) : IT := fun pc ls st M μ => match pc, ls, st, M, μ with
  | _, _, _, _, _ => False
def JA_X7_lengthTo  (as : List AV) (M0 : Mem) : IT := match as with
  | [.inr p, .inl t] => J_X7_lengthTo  p t M0
  | _ => fun _ _ _ _ _ => False
set_option maxRecDepth 100000 in
set_option maxHeartbeats 4000000 in
theorem met_X7_lengthTo {l : Launch} {D : va_G} {cy : Nat → ClassId} {ad : Nat → Nat} (hA : jA ad 46)  
    (hent : ∀ (p : Nat) (t : Int) (M0 : Mem), p_X7_lengthTo p t M0 → okM M0 → inR t → kdX p = 7 ∧ (kdX 9 = 21 ∧ (0 ≤ t ∧ t < 144) ∧ ((True) ∧ c_X7_lengthTo p t M0 (M0 9 (t).toNat) M0)))
    : OK_X7_lengthTo l D cy ad := by
  refine met_of (tb := tbX7_lengthTo) (ft := ftX7) (cst := cst0) (ct := ct_X7_lengthTo) (cuts := []) 7 (JA_X7_lengthTo ) hA jWX (by decide) tbX7_lengthTo_ok (by decide) ftX7_ok cst0_ok (ldc_of (tb := tbX7_lengthTo) (cst := cst0) (by decide)) rfl (fun q h => absurd h List.not_mem_nil) ?_ ?_ ?_
  · intro as M0 h
    unfold P_X7_lengthTo at h
    split at h
    · exact Nat.le_of_ble_eq_true rfl
    · exact h.elim
  · intro as M0 h hM has
    unfold P_X7_lengthTo at h
    split at h
    next p t => exact hent p t M0 h hM (has t (by simp))
    · exact h.elim
  · intro as M0 h hM has pc ls st M n hI hM1
    unfold P_X7_lengthTo at h
    split at h
    · exact hI.elim
    · exact h.elim
abbrev p_X7_stepLength (p : Nat) (t : Int) (d : Int) (M : Mem) : Prop := kdX p = 7 ∧ p = 7 ∧ surf M ∧ wok M ∧ (0 ≤ t ∧ t < nT (gX M)) ∧ 0 ≤ d ∧ d < 4
abbrev c_X7_stepLength (p : Nat) (t : Int) (d : Int) (M : Mem) (x : Int) (M' : Mem) : Prop := x = stl (gX M) (M 6) (M 8) t d ∧ M' = M
def P_X7_stepLength (as : List AV) (M : Mem) : Prop := match as with
  | [.inr p, .inl t, .inl d] => p_X7_stepLength p t d M
  | _ => False
def C_X7_stepLength (as : List AV) (M : Mem) (x : Int) (M' : Mem) : Prop := match as with
  | [.inr p, .inl t, .inl d] => c_X7_stepLength p t d M x M'
  | _ => False
abbrev rm_X7_stepLength : Room := { frames := 1, cells := 0, slots := 0, locals := 22 }
abbrev OK_X7_stepLength (l : Launch) (D : va_G) (cy : Nat → ClassId) (ad : Nat → Nat) : Prop := MetA l D cy ad kdX lnX 46 yX7_stepLength cX7_stepLength 6 (some .int) rm_X7_stepLength 1 P_X7_stepLength C_X7_stepLength
theorem ca_X7_stepLength : CalV yX7_stepLength cX7_stepLength 6 (some .int) 2 := ⟨⟨wcX7_stepLength, wnX7, by decide +kernel, by decide +kernel, by decide +kernel⟩, wiX7_stepLength, wlX7_stepLength⟩
theorem rv_X7_stepLength : ∀ as M, P_X7_stepLength as M → ∃ a As q, as = .inr a :: As ∧ vwCl[kdX a]? = some q ∧ q.1 = yX7_stepLength.cls := by
  intro as M h
  unfold P_X7_stepLength at h
  split at h
  · exact ⟨_, _, (RX7, TX7, 5), rfl, by rw [h.1]; rfl, rfl⟩
  · exact h.elim
def ct_X7_stepLength : List (Nat × CS) := [(6, (3, 1, P_X3_next, C_X3_next))]
def J_X7_stepLength  (p : Nat) (t : Int) (d : Int) (M0 : Mem) : IT := fun pc ls st M μ => match pc, ls, st, M, μ with
  | _, _, _, _, _ => False
def JA_X7_stepLength  (as : List AV) (M0 : Mem) : IT := match as with
  | [.inr p, .inl t, .inl d] => J_X7_stepLength  p t d M0
  | _ => fun _ _ _ _ _ => False
theorem si_X7_stepLength_6 {l : Launch} {D : va_G} {cy : Nat → ClassId} {ad : Nat → Nat} (o : OK_X3_next l D cy ad) : Site l D cy ad kdX lnX 46 yX7_stepLength.cls tbX7_stepLength rm_X7_stepLength 6 (3, 1, P_X3_next, C_X3_next) := Or.inl ⟨66, 2, yX3_next, cX3_next, 3, (some .int), rm_X3_next, rfl, rfl, o, ca_X3_next, mkX7_66, ⟨rfl, rfl, by decide, by decide⟩, rv_X3_next⟩
set_option maxRecDepth 100000 in
set_option maxHeartbeats 4000000 in
theorem met_X7_stepLength {l : Launch} {D : va_G} {cy : Nat → ClassId} {ad : Nat → Nat} (hA : jA ad 46) (o_X3_next : OK_X3_next l D cy ad) 
    (hent : ∀ (p : Nat) (t : Int) (d : Int) (M0 : Mem), p_X7_stepLength p t d M0 → okM M0 → inR t → inR d → kdX p = 7 ∧ (p_X3_next 1 t d M0 ∧ ∀ (x2 : Int) (M1 : Mem), inR x2 → okM M1 → c_X3_next 1 t d M0 x2 M1 → (((0 : Int) ≤ x2 → (kdX p = 7 ∧ (kdX p = 7 ∧ (kdX 6 = 21 ∧ (0 ≤ t ∧ t < 144) ∧ (kdX 8 = 21 ∧ (0 ≤ (M1 6 (t).toNat) ∧ (M1 6 (t).toNat) < 6) ∧ (kdX p = 7 ∧ (kdX p = 7 ∧ (kdX 6 = 21 ∧ (0 ≤ x2 ∧ x2 < 144) ∧ (kdX 8 = 21 ∧ (0 ≤ (M1 6 (x2).toNat) ∧ (M1 6 (x2).toNat) < 6) ∧ (((M1 8 (M1 6 (t).toNat).toNat) = (0 : Int) → ((True) ∧ c_X7_stepLength p t d M0 0 M1)) ∧ (¬ (M1 8 (M1 6 (t).toNat).toNat) = (0 : Int) → ((¬ (M1 8 (M1 6 (x2).toNat).toNat) = (0 : Int) → (inR ((M1 8 (M1 6 (t).toNat).toNat) + (M1 8 (M1 6 (x2).toNat).toNat)) ∧ ((True) ∧ c_X7_stepLength p t d M0 ((M1 8 (M1 6 (t).toNat).toNat) + (M1 8 (M1 6 (x2).toNat).toNat)) M1))) ∧ (¬ (¬ (M1 8 (M1 6 (x2).toNat).toNat) = (0 : Int)) → ((True) ∧ c_X7_stepLength p t d M0 0 M1)))))))))))))) ∧ (¬ (0 : Int) ≤ x2 → ((True) ∧ c_X7_stepLength p t d M0 0 M1)))))
    : OK_X7_stepLength l D cy ad := by
  refine met_of (tb := tbX7_stepLength) (ft := ftX7) (cst := cst0) (ct := ct_X7_stepLength) (cuts := []) 38 (JA_X7_stepLength ) hA jWX (by decide) tbX7_stepLength_ok (by decide) ftX7_ok cst0_ok (ldc_of (tb := tbX7_stepLength) (cst := cst0) (by decide)) rfl (List.forall_mem_cons.mpr ⟨si_X7_stepLength_6 o_X3_next, fun q h => absurd h List.not_mem_nil⟩) ?_ ?_ ?_
  · intro as M0 h
    unfold P_X7_stepLength at h
    split at h
    · exact Nat.le_of_ble_eq_true rfl
    · exact h.elim
  · intro as M0 h hM has
    unfold P_X7_stepLength at h
    split at h
    next p t d => exact hent p t d M0 h hM (has t (by simp)) (has d (by simp))
    · exact h.elim
  · intro as M0 h hM has pc ls st M n hI hM1
    unfold P_X7_stepLength at h
    split at h
    · exact hI.elim
    · exact h.elim
abbrev p_X7_reach (p : Nat) (t : Int) (v : Int) (M : Mem) : Prop := kdX p = 7 ∧ p = 7 ∧ (0 ≤ t ∧ t < 144) ∧ (M 9 t.toNat = -4 → 0 ≤ M 10 1 ∧ M 10 1 < 144)
abbrev c_X7_reach (p : Nat) (t : Int) (v : Int) (M : Mem) (x : Int) (M' : Mem) : Prop := M' = (if M 9 t.toNat = -4 then up (up (up M 9 t.toNat v) 11 (M 10 1).toNat t) 10 1 (M 10 1 + 1) else if v < M 9 t.toNat then up M 9 t.toNat v else M)
def P_X7_reach (as : List AV) (M : Mem) : Prop := match as with
  | [.inr p, .inl t, .inl v] => p_X7_reach p t v M
  | _ => False
def C_X7_reach (as : List AV) (M : Mem) (x : Int) (M' : Mem) : Prop := match as with
  | [.inr p, .inl t, .inl v] => c_X7_reach p t v M x M'
  | _ => False
abbrev rm_X7_reach : Room := { frames := 1, cells := 0, slots := 0, locals := 21 }
abbrev OK_X7_reach (l : Launch) (D : va_G) (cy : Nat → ClassId) (ad : Nat → Nat) : Prop := MetA l D cy ad kdX lnX 46 yX7_reach cX7_reach 3 none rm_X7_reach 0 P_X7_reach C_X7_reach
theorem ca_X7_reach : CalV yX7_reach cX7_reach 3 none 2 := ⟨⟨wcX7_reach, wnX7, by decide +kernel, by decide +kernel, by decide +kernel⟩, wiX7_reach, wlX7_reach⟩
theorem rv_X7_reach : ∀ as M, P_X7_reach as M → ∃ a As q, as = .inr a :: As ∧ vwCl[kdX a]? = some q ∧ q.1 = yX7_reach.cls := by
  intro as M h
  unfold P_X7_reach at h
  split at h
  · exact ⟨_, _, (RX7, TX7, 5), rfl, by rw [h.1]; rfl, rfl⟩
  · exact h.elim
def ct_X7_reach : List (Nat × CS) := [(23, (2, 0, P_X5_add, C_X5_add))]
def J_X7_reach  (p : Nat) (t : Int) (v : Int) (M0 : Mem) : IT := fun pc ls st M μ => match pc, ls, st, M, μ with
  | _, _, _, _, _ => False
def JA_X7_reach  (as : List AV) (M0 : Mem) : IT := match as with
  | [.inr p, .inl t, .inl v] => J_X7_reach  p t v M0
  | _ => fun _ _ _ _ _ => False
theorem si_X7_reach_23 {l : Launch} {D : va_G} {cy : Nat → ClassId} {ad : Nat → Nat} (o : OK_X5_add l D cy ad) : Site l D cy ad kdX lnX 46 yX7_reach.cls tbX7_reach rm_X7_reach 23 (2, 0, P_X5_add, C_X5_add) := Or.inl ⟨69, 1, yX5_add, cX5_add, 2, none, rm_X5_add, rfl, rfl, o, ca_X5_add, mkX7_69, ⟨rfl, rfl, by decide, by decide⟩, rv_X5_add⟩
set_option maxRecDepth 100000 in
set_option maxHeartbeats 4000000 in
theorem met_X7_reach {l : Launch} {D : va_G} {cy : Nat → ClassId} {ad : Nat → Nat} (hA : jA ad 46) (o_X5_add : OK_X5_add l D cy ad) 
    (hent : ∀ (p : Nat) (t : Int) (v : Int) (M0 : Mem), p_X7_reach p t v M0 → okM M0 → inR t → inR v → kdX p = 7 ∧ (kdX 9 = 21 ∧ (0 ≤ t ∧ t < 144) ∧ ((¬ (M0 9 (t).toNat) = (-4 : Int) → (kdX p = 7 ∧ (kdX 9 = 21 ∧ (0 ≤ t ∧ t < 144) ∧ (((M0 9 (t).toNat) ≤ v → (0 = 0 ∧ c_X7_reach p t v M0 0 M0)) ∧ (¬ (M0 9 (t).toNat) ≤ v → (kdX p = 7 ∧ (kdX 9 = 21 ∧ (0 ≤ t ∧ t < 144) ∧ (0 = 0 ∧ c_X7_reach p t v M0 0 (up M0 9 (t).toNat v))))))))) ∧ (¬ (¬ (M0 9 (t).toNat) = (-4 : Int)) → (kdX p = 7 ∧ (kdX 9 = 21 ∧ (0 ≤ t ∧ t < 144) ∧ (kdX p = 7 ∧ (p_X5_add 10 t (up M0 9 (t).toNat v) ∧ ∀ (x2 : Int) (M1 : Mem), inR x2 → okM M1 → c_X5_add 10 t (up M0 9 (t).toNat v) x2 M1 → (0 = 0 ∧ c_X7_reach p t v M0 0 M1)))))))))
    : OK_X7_reach l D cy ad := by
  refine met_of (tb := tbX7_reach) (ft := ftX7) (cst := cst0) (ct := ct_X7_reach) (cuts := []) 30 (JA_X7_reach ) hA jWX (by decide) tbX7_reach_ok (by decide) ftX7_ok cst0_ok (ldc_of (tb := tbX7_reach) (cst := cst0) (by decide)) rfl (List.forall_mem_cons.mpr ⟨si_X7_reach_23 o_X5_add, fun q h => absurd h List.not_mem_nil⟩) ?_ ?_ ?_
  · intro as M0 h
    unfold P_X7_reach at h
    split at h
    · exact Nat.le_of_ble_eq_true rfl
    · exact h.elim
  · intro as M0 h hM has
    unfold P_X7_reach at h
    split at h
    next p t v => exact hent p t v M0 h hM (has t (by simp)) (has v (by simp))
    · exact h.elim
  · intro as M0 h hM has pc ls st M n hI hM1
    unfold P_X7_reach at h
    split at h
    · exact hI.elim
    · exact h.elim
abbrev p_X7_takeNearestOpen (p : Nat) (M : Mem) : Prop := kdX p = 7 ∧ p = 7 ∧ (0 < M 10 1 ∧ M 10 1 ≤ 144) ∧ ∀ j : Nat, (j : Int) < M 10 1 → 0 ≤ M 11 j ∧ M 11 j < 144
abbrev c_X7_takeNearestOpen (p : Nat) (M : Mem) (x : Int) (M' : Mem) : Prop := ∃ i : Nat, (i : Int) < M 10 1 ∧ x = M 11 i ∧ (∀ j : Nat, (j : Int) < M 10 1 → M 9 (M 11 i).toNat ≤ M 9 (M 11 j).toNat) ∧ M' = up (up M 10 1 (M 10 1 - 1)) 11 i (M 11 (M 10 1 - 1).toNat)
def P_X7_takeNearestOpen (as : List AV) (M : Mem) : Prop := match as with
  | [.inr p] => p_X7_takeNearestOpen p M
  | _ => False
def C_X7_takeNearestOpen (as : List AV) (M : Mem) (x : Int) (M' : Mem) : Prop := match as with
  | [.inr p] => c_X7_takeNearestOpen p M x M'
  | _ => False
abbrev rm_X7_takeNearestOpen : Room := { frames := 1, cells := 0, slots := 0, locals := 22 }
abbrev OK_X7_takeNearestOpen (l : Launch) (D : va_G) (cy : Nat → ClassId) (ad : Nat → Nat) : Prop := MetA l D cy ad kdX lnX 46 yX7_takeNearestOpen cX7_takeNearestOpen 3 (some .int) rm_X7_takeNearestOpen 1 P_X7_takeNearestOpen C_X7_takeNearestOpen
theorem ca_X7_takeNearestOpen : CalV yX7_takeNearestOpen cX7_takeNearestOpen 3 (some .int) 0 := ⟨⟨wcX7_takeNearestOpen, wnX7, by decide +kernel, by decide +kernel, by decide +kernel⟩, wiX7_takeNearestOpen, wlX7_takeNearestOpen⟩
theorem rv_X7_takeNearestOpen : ∀ as M, P_X7_takeNearestOpen as M → ∃ a As q, as = .inr a :: As ∧ vwCl[kdX a]? = some q ∧ q.1 = yX7_takeNearestOpen.cls := by
  intro as M h
  unfold P_X7_takeNearestOpen at h
  split at h
  · exact ⟨_, _, (RX7, TX7, 5), rfl, by rw [h.1]; rfl, rfl⟩
  · exact h.elim
def ct_X7_takeNearestOpen : List (Nat × CS) := [(9, (1, 1, P_X5_number, C_X5_number)), (24, (2, 1, P_X5_at, C_X5_at)), (37, (2, 1, P_X5_at, C_X5_at)), (57, (2, 1, P_X5_takeOut, C_X5_takeOut))]
def J_X7_takeNearestOpen (I4 : Nat → Mem → Int → Int → Mem → Nat → Prop) (p : Nat) (M0 : Mem) : IT := fun pc ls st M μ => match pc, ls, st, M, μ with
  | 4, [some (.inr p_), some (.inl b), some (.inl j)], [], M, μ => p = p_ ∧ I4 p M0 b j M μ
  | _, _, _, _, _ => False
def JA_X7_takeNearestOpen (I4 : Nat → Mem → Int → Int → Mem → Nat → Prop) (as : List AV) (M0 : Mem) : IT := match as with
  | [.inr p] => J_X7_takeNearestOpen I4 p M0
  | _ => fun _ _ _ _ _ => False
theorem si_X7_takeNearestOpen_9 {l : Launch} {D : va_G} {cy : Nat → ClassId} {ad : Nat → Nat} (o : OK_X5_number l D cy ad) : Site l D cy ad kdX lnX 46 yX7_takeNearestOpen.cls tbX7_takeNearestOpen rm_X7_takeNearestOpen 9 (1, 1, P_X5_number, C_X5_number) := Or.inl ⟨45, 0, yX5_number, cX5_number, 1, (some .int), rm_X5_number, rfl, rfl, o, ca_X5_number, mkX7_45, ⟨rfl, rfl, by decide, by decide⟩, rv_X5_number⟩
theorem si_X7_takeNearestOpen_24 {l : Launch} {D : va_G} {cy : Nat → ClassId} {ad : Nat → Nat} (o : OK_X5_at l D cy ad) : Site l D cy ad kdX lnX 46 yX7_takeNearestOpen.cls tbX7_takeNearestOpen rm_X7_takeNearestOpen 24 (2, 1, P_X5_at, C_X5_at) := Or.inl ⟨55, 1, yX5_at, cX5_at, 2, (some .int), rm_X5_at, rfl, rfl, o, ca_X5_at, mkX7_55, ⟨rfl, rfl, by decide, by decide⟩, rv_X5_at⟩
theorem si_X7_takeNearestOpen_37 {l : Launch} {D : va_G} {cy : Nat → ClassId} {ad : Nat → Nat} (o : OK_X5_at l D cy ad) : Site l D cy ad kdX lnX 46 yX7_takeNearestOpen.cls tbX7_takeNearestOpen rm_X7_takeNearestOpen 37 (2, 1, P_X5_at, C_X5_at) := Or.inl ⟨55, 1, yX5_at, cX5_at, 2, (some .int), rm_X5_at, rfl, rfl, o, ca_X5_at, mkX7_55, ⟨rfl, rfl, by decide, by decide⟩, rv_X5_at⟩
theorem si_X7_takeNearestOpen_57 {l : Launch} {D : va_G} {cy : Nat → ClassId} {ad : Nat → Nat} (o : OK_X5_takeOut l D cy ad) : Site l D cy ad kdX lnX 46 yX7_takeNearestOpen.cls tbX7_takeNearestOpen rm_X7_takeNearestOpen 57 (2, 1, P_X5_takeOut, C_X5_takeOut) := Or.inl ⟨59, 1, yX5_takeOut, cX5_takeOut, 3, (some .int), rm_X5_takeOut, rfl, rfl, o, ca_X5_takeOut, mkX7_59, ⟨rfl, rfl, by decide, by decide⟩, rv_X5_takeOut⟩
set_option maxRecDepth 100000 in
set_option maxHeartbeats 4000000 in
theorem met_X7_takeNearestOpen {l : Launch} {D : va_G} {cy : Nat → ClassId} {ad : Nat → Nat} (hA : jA ad 46) (o_X5_at : OK_X5_at l D cy ad) (o_X5_number : OK_X5_number l D cy ad) (o_X5_takeOut : OK_X5_takeOut l D cy ad) (I4 : Nat → Mem → Int → Int → Mem → Nat → Prop)
    (hent : ∀ (p : Nat) (M0 : Mem), p_X7_takeNearestOpen p M0 → okM M0 → ∃ μ : Nat, p = p ∧ I4 p M0 0 1 M0 μ)
    (hc4 : ∀ (p : Nat) (M0 : Mem), p_X7_takeNearestOpen p M0 → okM M0 → ∀ (b : Int) (j : Int) (M : Mem) (n : Nat), I4 p M0 b j M n → okM M → kdX p = 7 ∧ (p_X5_number 10 M ∧ ∀ (x2 : Int) (M1 : Mem), inR x2 → okM M1 → c_X5_number 10 M x2 M1 → ((x2 ≤ j → (kdX p = 7 ∧ (p_X5_takeOut 10 b M1 ∧ ∀ (x4 : Int) (M3 : Mem), inR x4 → okM M3 → c_X5_takeOut 10 b M1 x4 M3 → ((True) ∧ c_X7_takeNearestOpen p M0 x4 M3)))) ∧ (¬ x2 ≤ j → (kdX p = 7 ∧ (kdX p = 7 ∧ (p_X5_at 10 j M1 ∧ ∀ (x6 : Int) (M5 : Mem), inR x6 → okM M5 → c_X5_at 10 j M1 x6 M5 → (kdX 9 = 21 ∧ (0 ≤ x6 ∧ x6 < 144) ∧ (kdX p = 7 ∧ (kdX p = 7 ∧ (p_X5_at 10 b M5 ∧ ∀ (x8 : Int) (M7 : Mem), inR x8 → okM M7 → c_X5_at 10 b M5 x8 M7 → (kdX 9 = 21 ∧ (0 ≤ x8 ∧ x8 < 144) ∧ (((M7 9 (x8).toNat) ≤ (M5 9 (x6).toNat) → (inR (j + 1) ∧ (∃ μ : Nat, μ < n ∧ p = p ∧ I4 p M0 b (j + 1) M7 μ))) ∧ (¬ (M7 9 (x8).toNat) ≤ (M5 9 (x6).toNat) → (inR (j + 1) ∧ (∃ μ : Nat, μ < n ∧ p = p ∧ I4 p M0 j (j + 1) M7 μ))))))))))))))))
    : OK_X7_takeNearestOpen l D cy ad := by
  refine met_of (tb := tbX7_takeNearestOpen) (ft := ftX7) (cst := cst0) (ct := ct_X7_takeNearestOpen) (cuts := [4]) 35 (JA_X7_takeNearestOpen I4) hA jWX (by decide) tbX7_takeNearestOpen_ok (by decide) ftX7_ok cst0_ok (ldc_of (tb := tbX7_takeNearestOpen) (cst := cst0) (by decide)) rfl (List.forall_mem_cons.mpr ⟨si_X7_takeNearestOpen_9 o_X5_number, List.forall_mem_cons.mpr ⟨si_X7_takeNearestOpen_24 o_X5_at, List.forall_mem_cons.mpr ⟨si_X7_takeNearestOpen_37 o_X5_at, List.forall_mem_cons.mpr ⟨si_X7_takeNearestOpen_57 o_X5_takeOut, fun q h => absurd h List.not_mem_nil⟩⟩⟩⟩) ?_ ?_ ?_
  · intro as M0 h
    unfold P_X7_takeNearestOpen at h
    split at h
    · exact Nat.le_of_ble_eq_true rfl
    · exact h.elim
  · intro as M0 h hM has
    unfold P_X7_takeNearestOpen at h
    split at h
    next p => exact hent p M0 h hM
    · exact h.elim
  · intro as M0 h hM has pc ls st M n hI hM1
    unfold P_X7_takeNearestOpen at h
    split at h
    next p =>
      unfold JA_X7_takeNearestOpen J_X7_takeNearestOpen at hI
      dsimp only at hI
      split at hI
      ·
        obtain ⟨rfl, hI⟩ := hI
        exact hc4 _ _ h hM _ _ _ _ hI hM1
      · exact hI.elim
    · exact h.elim
abbrev p_X7_spread (p : Nat) (t : Int) (M : Mem) : Prop := kdX p = 7 ∧ p = 7 ∧ surf M ∧ wok M ∧ ∃ s Sd k B, preW t M s Sd k B
abbrev c_X7_spread (p : Nat) (t : Int) (M : Mem) (x : Int) (M' : Mem) : Prop := ∀ s Sd k B, preW t M s Sd k B → DI (gX M) (M 6) (M 8) s (M' 9) Sd t 4 B ∧ OLp M' (gX M) Sd k ∧ (∀ b, b ≠ 9 → b ≠ 10 → b ≠ 11 → M' b = M b)
def P_X7_spread (as : List AV) (M : Mem) : Prop := match as with
  | [.inr p, .inl t] => p_X7_spread p t M
  | _ => False
def C_X7_spread (as : List AV) (M : Mem) (x : Int) (M' : Mem) : Prop := match as with
  | [.inr p, .inl t] => c_X7_spread p t M x M'
  | _ => False
abbrev rm_X7_spread : Room := { frames := 2, cells := 0, slots := 0, locals := 47 }
abbrev OK_X7_spread (l : Launch) (D : va_G) (cy : Nat → ClassId) (ad : Nat → Nat) : Prop := MetA l D cy ad kdX lnX 46 yX7_spread cX7_spread 4 none rm_X7_spread 0 P_X7_spread C_X7_spread
theorem ca_X7_spread : CalV yX7_spread cX7_spread 4 none 1 := ⟨⟨wcX7_spread, wnX7, by decide +kernel, by decide +kernel, by decide +kernel⟩, wiX7_spread, wlX7_spread⟩
theorem rv_X7_spread : ∀ as M, P_X7_spread as M → ∃ a As q, as = .inr a :: As ∧ vwCl[kdX a]? = some q ∧ q.1 = yX7_spread.cls := by
  intro as M h
  unfold P_X7_spread at h
  split at h
  · exact ⟨_, _, (RX7, TX7, 5), rfl, by rw [h.1]; rfl, rfl⟩
  · exact h.elim
def ct_X7_spread : List (Nat × CS) := [(10, (3, 1, P_X7_stepLength, C_X7_stepLength)), (25, (3, 1, P_X3_next, C_X3_next)), (36, (3, 0, P_X7_reach, C_X7_reach))]
def J_X7_spread (I2 : Nat → Int → Mem → Int → Mem → Nat → Prop) (p : Nat) (t : Int) (M0 : Mem) : IT := fun pc ls st M μ => match pc, ls, st, M, μ with
  | 2, [some (.inr p_), some (.inl t_), some (.inl d), _], [], M, μ => p = p_ ∧ t = t_ ∧ I2 p t M0 d M μ
  | _, _, _, _, _ => False
def JA_X7_spread (I2 : Nat → Int → Mem → Int → Mem → Nat → Prop) (as : List AV) (M0 : Mem) : IT := match as with
  | [.inr p, .inl t] => J_X7_spread I2 p t M0
  | _ => fun _ _ _ _ _ => False
theorem si_X7_spread_10 {l : Launch} {D : va_G} {cy : Nat → ClassId} {ad : Nat → Nat} (o : OK_X7_stepLength l D cy ad) : Site l D cy ad kdX lnX 46 yX7_spread.cls tbX7_spread rm_X7_spread 10 (3, 1, P_X7_stepLength, C_X7_stepLength) := Or.inl ⟨62, 2, yX7_stepLength, cX7_stepLength, 6, (some .int), rm_X7_stepLength, rfl, rfl, o, ca_X7_stepLength, mkX7_62, ⟨rfl, rfl, by decide, by decide⟩, rv_X7_stepLength⟩
theorem si_X7_spread_25 {l : Launch} {D : va_G} {cy : Nat → ClassId} {ad : Nat → Nat} (o : OK_X3_next l D cy ad) : Site l D cy ad kdX lnX 46 yX7_spread.cls tbX7_spread rm_X7_spread 25 (3, 1, P_X3_next, C_X3_next) := Or.inl ⟨66, 2, yX3_next, cX3_next, 3, (some .int), rm_X3_next, rfl, rfl, o, ca_X3_next, mkX7_66, ⟨rfl, rfl, by decide, by decide⟩, rv_X3_next⟩
theorem si_X7_spread_36 {l : Launch} {D : va_G} {cy : Nat → ClassId} {ad : Nat → Nat} (o : OK_X7_reach l D cy ad) : Site l D cy ad kdX lnX 46 yX7_spread.cls tbX7_spread rm_X7_spread 36 (3, 0, P_X7_reach, C_X7_reach) := Or.inl ⟨41, 2, yX7_reach, cX7_reach, 3, none, rm_X7_reach, rfl, rfl, o, ca_X7_reach, mkX7_41, ⟨rfl, rfl, by decide, by decide⟩, rv_X7_reach⟩
set_option maxRecDepth 100000 in
set_option maxHeartbeats 4000000 in
theorem met_X7_spread {l : Launch} {D : va_G} {cy : Nat → ClassId} {ad : Nat → Nat} (hA : jA ad 46) (o_X3_next : OK_X3_next l D cy ad) (o_X7_reach : OK_X7_reach l D cy ad) (o_X7_stepLength : OK_X7_stepLength l D cy ad) (I2 : Nat → Int → Mem → Int → Mem → Nat → Prop)
    (hent : ∀ (p : Nat) (t : Int) (M0 : Mem), p_X7_spread p t M0 → okM M0 → inR t → ∃ μ : Nat, p = p ∧ t = t ∧ I2 p t M0 0 M0 μ)
    (hc2 : ∀ (p : Nat) (t : Int) (M0 : Mem), p_X7_spread p t M0 → okM M0 → inR t → ∀ (d : Int) (M : Mem) (n : Nat), I2 p t M0 d M n → okM M → ((4 : Int) ≤ d → (0 = 0 ∧ c_X7_spread p t M0 0 M)) ∧ (¬ (4 : Int) ≤ d → (p_X7_stepLength p t d M ∧ ∀ (x2 : Int) (M1 : Mem), inR x2 → okM M1 → c_X7_stepLength p t d M x2 M1 → ((x2 ≤ (0 : Int) → (inR (d + 1) ∧ (∃ μ : Nat, μ < n ∧ p = p ∧ t = t ∧ I2 p t M0 (d + 1) M1 μ))) ∧ (¬ x2 ≤ (0 : Int) → (kdX p = 7 ∧ (p_X3_next 1 t d M1 ∧ ∀ (x4 : Int) (M3 : Mem), inR x4 → okM M3 → c_X3_next 1 t d M1 x4 M3 → (kdX p = 7 ∧ (kdX 9 = 21 ∧ (0 ≤ t ∧ t < 144) ∧ (inR ((M3 9 (t).toNat) + x2) ∧ (p_X7_reach p x4 ((M3 9 (t).toNat) + x2) M3 ∧ ∀ (x6 : Int) (M5 : Mem), inR x6 → okM M5 → c_X7_reach p x4 ((M3 9 (t).toNat) + x2) M3 x6 M5 → (inR (d + 1) ∧ (∃ μ : Nat, μ < n ∧ p = p ∧ t = t ∧ I2 p t M0 (d + 1) M5 μ)))))))))))))
    : OK_X7_spread l D cy ad := by
  refine met_of (tb := tbX7_spread) (ft := ftX7) (cst := cst0) (ct := ct_X7_spread) (cuts := [2]) 30 (JA_X7_spread I2) hA jWX (by decide) tbX7_spread_ok (by decide) ftX7_ok cst0_ok (ldc_of (tb := tbX7_spread) (cst := cst0) (by decide)) rfl (List.forall_mem_cons.mpr ⟨si_X7_spread_10 o_X7_stepLength, List.forall_mem_cons.mpr ⟨si_X7_spread_25 o_X3_next, List.forall_mem_cons.mpr ⟨si_X7_spread_36 o_X7_reach, fun q h => absurd h List.not_mem_nil⟩⟩⟩) ?_ ?_ ?_
  · intro as M0 h
    unfold P_X7_spread at h
    split at h
    · exact Nat.le_of_ble_eq_true rfl
    · exact h.elim
  · intro as M0 h hM has
    unfold P_X7_spread at h
    split at h
    next p t => exact hent p t M0 h hM (has t (by simp))
    · exact h.elim
  · intro as M0 h hM has pc ls st M n hI hM1
    unfold P_X7_spread at h
    split at h
    next p t =>
      unfold JA_X7_spread J_X7_spread at hI
      dsimp only at hI
      split at hI
      ·
        obtain ⟨rfl, rfl, hI⟩ := hI
        exact hc2 _ _ _ h hM (has _ (by simp)) _ _ _ hI hM1
      · exact hI.elim
    · exact h.elim
abbrev p_X7_measureFrom (p : Nat) (s : Int) (M : Mem) : Prop := kdX p = 7 ∧ p = 7 ∧ surf M ∧ wok M ∧ 0 ≤ s ∧ s < nT (gX M)
abbrev c_X7_measureFrom (p : Nat) (s : Int) (M : Mem) (x : Int) (M' : Mem) : Prop := isDist (gX M) (M 6) (M 8) s.toNat (M' 9) ∧ (∀ j : Nat, j < nT (gX M) → M' 9 j = -4 ∨ (0 ≤ M' 9 j ∧ M' 9 j ≤ 10000)) ∧ (∀ b, b ≠ 9 → b ≠ 10 → b ≠ 11 → M' b = M b)
def P_X7_measureFrom (as : List AV) (M : Mem) : Prop := match as with
  | [.inr p, .inl s] => p_X7_measureFrom p s M
  | _ => False
def C_X7_measureFrom (as : List AV) (M : Mem) (x : Int) (M' : Mem) : Prop := match as with
  | [.inr p, .inl s] => c_X7_measureFrom p s M x M'
  | _ => False
abbrev rm_X7_measureFrom : Room := { frames := 3, cells := 0, slots := 0, locals := 70 }
abbrev OK_X7_measureFrom (l : Launch) (D : va_G) (cy : Nat → ClassId) (ad : Nat → Nat) : Prop := MetA l D cy ad kdX lnX 46 yX7_measureFrom cX7_measureFrom 3 none rm_X7_measureFrom 0 P_X7_measureFrom C_X7_measureFrom
theorem ca_X7_measureFrom : CalV yX7_measureFrom cX7_measureFrom 3 none 1 := ⟨⟨wcX7_measureFrom, wnX7, by decide +kernel, by decide +kernel, by decide +kernel⟩, wiX7_measureFrom, wlX7_measureFrom⟩
theorem rv_X7_measureFrom : ∀ as M, P_X7_measureFrom as M → ∃ a As q, as = .inr a :: As ∧ vwCl[kdX a]? = some q ∧ q.1 = yX7_measureFrom.cls := by
  intro as M h
  unfold P_X7_measureFrom at h
  split at h
  · exact ⟨_, _, (RX7, TX7, 5), rfl, by rw [h.1]; rfl, rfl⟩
  · exact h.elim
def ct_X7_measureFrom : List (Nat × CS) := [(7, (1, 1, P_X3_tiles, C_X3_tiles)), (31, (1, 0, P_X5_clear, C_X5_clear)), (37, (3, 0, P_X7_reach, C_X7_reach)), (53, (1, 1, P_X5_number, C_X5_number)), (61, (1, 1, P_X7_takeNearestOpen, C_X7_takeNearestOpen)), (64, (2, 0, P_X7_spread, C_X7_spread))]
def J_X7_measureFrom (I2 : Nat → Int → Mem → Int → Mem → Nat → Prop) (I42 : Nat → Int → Mem → Int → Mem → Nat → Prop) (p : Nat) (s : Int) (M0 : Mem) : IT := fun pc ls st M μ => match pc, ls, st, M, μ with
  | 2, [some (.inr p_), some (.inl s_), some (.inl j)], [], M, μ => p = p_ ∧ s = s_ ∧ I2 p s M0 j M μ
  | 42, [some (.inr p_), some (.inl s_), some (.inl k)], [], M, μ => p = p_ ∧ s = s_ ∧ I42 p s M0 k M μ
  | _, _, _, _, _ => False
def JA_X7_measureFrom (I2 : Nat → Int → Mem → Int → Mem → Nat → Prop) (I42 : Nat → Int → Mem → Int → Mem → Nat → Prop) (as : List AV) (M0 : Mem) : IT := match as with
  | [.inr p, .inl s] => J_X7_measureFrom I2 I42 p s M0
  | _ => fun _ _ _ _ _ => False
theorem si_X7_measureFrom_7 {l : Launch} {D : va_G} {cy : Nat → ClassId} {ad : Nat → Nat} (o : OK_X3_tiles l D cy ad) : Site l D cy ad kdX lnX 46 yX7_measureFrom.cls tbX7_measureFrom rm_X7_measureFrom 7 (1, 1, P_X3_tiles, C_X3_tiles) := Or.inl ⟨32, 0, yX3_tiles, cX3_tiles, 1, (some .int), rm_X3_tiles, rfl, rfl, o, ca_X3_tiles, mkX7_32, ⟨rfl, rfl, by decide, by decide⟩, rv_X3_tiles⟩
theorem si_X7_measureFrom_31 {l : Launch} {D : va_G} {cy : Nat → ClassId} {ad : Nat → Nat} (o : OK_X5_clear l D cy ad) : Site l D cy ad kdX lnX 46 yX7_measureFrom.cls tbX7_measureFrom rm_X7_measureFrom 31 (1, 0, P_X5_clear, C_X5_clear) := Or.inl ⟨38, 0, yX5_clear, cX5_clear, 1, none, rm_X5_clear, rfl, rfl, o, ca_X5_clear, mkX7_38, ⟨rfl, rfl, by decide, by decide⟩, rv_X5_clear⟩
theorem si_X7_measureFrom_37 {l : Launch} {D : va_G} {cy : Nat → ClassId} {ad : Nat → Nat} (o : OK_X7_reach l D cy ad) : Site l D cy ad kdX lnX 46 yX7_measureFrom.cls tbX7_measureFrom rm_X7_measureFrom 37 (3, 0, P_X7_reach, C_X7_reach) := Or.inl ⟨41, 2, yX7_reach, cX7_reach, 3, none, rm_X7_reach, rfl, rfl, o, ca_X7_reach, mkX7_41, ⟨rfl, rfl, by decide, by decide⟩, rv_X7_reach⟩
theorem si_X7_measureFrom_53 {l : Launch} {D : va_G} {cy : Nat → ClassId} {ad : Nat → Nat} (o : OK_X5_number l D cy ad) : Site l D cy ad kdX lnX 46 yX7_measureFrom.cls tbX7_measureFrom rm_X7_measureFrom 53 (1, 1, P_X5_number, C_X5_number) := Or.inl ⟨45, 0, yX5_number, cX5_number, 1, (some .int), rm_X5_number, rfl, rfl, o, ca_X5_number, mkX7_45, ⟨rfl, rfl, by decide, by decide⟩, rv_X5_number⟩
theorem si_X7_measureFrom_61 {l : Launch} {D : va_G} {cy : Nat → ClassId} {ad : Nat → Nat} (o : OK_X7_takeNearestOpen l D cy ad) : Site l D cy ad kdX lnX 46 yX7_measureFrom.cls tbX7_measureFrom rm_X7_measureFrom 61 (1, 1, P_X7_takeNearestOpen, C_X7_takeNearestOpen) := Or.inl ⟨48, 0, yX7_takeNearestOpen, cX7_takeNearestOpen, 3, (some .int), rm_X7_takeNearestOpen, rfl, rfl, o, ca_X7_takeNearestOpen, mkX7_48, ⟨rfl, rfl, by decide, by decide⟩, rv_X7_takeNearestOpen⟩
theorem si_X7_measureFrom_64 {l : Launch} {D : va_G} {cy : Nat → ClassId} {ad : Nat → Nat} (o : OK_X7_spread l D cy ad) : Site l D cy ad kdX lnX 46 yX7_measureFrom.cls tbX7_measureFrom rm_X7_measureFrom 64 (2, 0, P_X7_spread, C_X7_spread) := Or.inl ⟨51, 1, yX7_spread, cX7_spread, 4, none, rm_X7_spread, rfl, rfl, o, ca_X7_spread, mkX7_51, ⟨rfl, rfl, by decide, by decide⟩, rv_X7_spread⟩
set_option maxRecDepth 100000 in
set_option maxHeartbeats 4000000 in
theorem met_X7_measureFrom {l : Launch} {D : va_G} {cy : Nat → ClassId} {ad : Nat → Nat} (hA : jA ad 46) (o_X3_tiles : OK_X3_tiles l D cy ad) (o_X5_clear : OK_X5_clear l D cy ad) (o_X5_number : OK_X5_number l D cy ad) (o_X7_reach : OK_X7_reach l D cy ad) (o_X7_spread : OK_X7_spread l D cy ad) (o_X7_takeNearestOpen : OK_X7_takeNearestOpen l D cy ad) (I2 : Nat → Int → Mem → Int → Mem → Nat → Prop) (I42 : Nat → Int → Mem → Int → Mem → Nat → Prop)
    (hent : ∀ (p : Nat) (s : Int) (M0 : Mem), p_X7_measureFrom p s M0 → okM M0 → inR s → ∃ μ : Nat, p = p ∧ s = s ∧ I2 p s M0 0 M0 μ)
    (hc2 : ∀ (p : Nat) (s : Int) (M0 : Mem), p_X7_measureFrom p s M0 → okM M0 → inR s → ∀ (j : Int) (M : Mem) (n : Nat), I2 p s M0 j M n → okM M → kdX p = 7 ∧ (p_X3_tiles 1 M ∧ ∀ (x2 : Int) (M1 : Mem), inR x2 → okM M1 → c_X3_tiles 1 M x2 M1 → ((x2 ≤ j → (kdX p = 7 ∧ (p_X5_clear 10 M1 ∧ ∀ (x4 : Int) (M3 : Mem), inR x4 → okM M3 → c_X5_clear 10 M1 x4 M3 → (p_X7_reach p s 0 M3 ∧ ∀ (x6 : Int) (M5 : Mem), inR x6 → okM M5 → c_X7_reach p s 0 M3 x6 M5 → (∃ μ : Nat, μ < n ∧ p = p ∧ s = s ∧ I42 p s M0 0 M5 μ))))) ∧ (¬ x2 ≤ j → (kdX p = 7 ∧ (kdX 9 = 21 ∧ (0 ≤ j ∧ j < 144) ∧ (inR (j + 1) ∧ (∃ μ : Nat, μ < n ∧ p = p ∧ s = s ∧ I2 p s M0 (j + 1) (up M1 9 (j).toNat (-4)) μ))))))))
    (hc42 : ∀ (p : Nat) (s : Int) (M0 : Mem), p_X7_measureFrom p s M0 → okM M0 → inR s → ∀ (k : Int) (M : Mem) (n : Nat), I42 p s M0 k M n → okM M → ((144 : Int) ≤ k → (0 = 0 ∧ c_X7_measureFrom p s M0 0 M)) ∧ (¬ (144 : Int) ≤ k → (kdX p = 7 ∧ (p_X5_number 10 M ∧ ∀ (x2 : Int) (M1 : Mem), inR x2 → okM M1 → c_X5_number 10 M x2 M1 → ((x2 ≤ (0 : Int) → (0 = 0 ∧ c_X7_measureFrom p s M0 0 M1)) ∧ (¬ x2 ≤ (0 : Int) → (p_X7_takeNearestOpen p M1 ∧ ∀ (x4 : Int) (M3 : Mem), inR x4 → okM M3 → c_X7_takeNearestOpen p M1 x4 M3 → (p_X7_spread p x4 M3 ∧ ∀ (x6 : Int) (M5 : Mem), inR x6 → okM M5 → c_X7_spread p x4 M3 x6 M5 → (inR (k + 1) ∧ (∃ μ : Nat, μ < n ∧ p = p ∧ s = s ∧ I42 p s M0 (k + 1) M5 μ))))))))))
    : OK_X7_measureFrom l D cy ad := by
  refine met_of (tb := tbX7_measureFrom) (ft := ftX7) (cst := cst0) (ct := ct_X7_measureFrom) (cuts := [2, 42]) 39 (JA_X7_measureFrom I2 I42) hA jWX (by decide) tbX7_measureFrom_ok (by decide) ftX7_ok cst0_ok (ldc_of (tb := tbX7_measureFrom) (cst := cst0) (by decide)) rfl (List.forall_mem_cons.mpr ⟨si_X7_measureFrom_7 o_X3_tiles, List.forall_mem_cons.mpr ⟨si_X7_measureFrom_31 o_X5_clear, List.forall_mem_cons.mpr ⟨si_X7_measureFrom_37 o_X7_reach, List.forall_mem_cons.mpr ⟨si_X7_measureFrom_53 o_X5_number, List.forall_mem_cons.mpr ⟨si_X7_measureFrom_61 o_X7_takeNearestOpen, List.forall_mem_cons.mpr ⟨si_X7_measureFrom_64 o_X7_spread, fun q h => absurd h List.not_mem_nil⟩⟩⟩⟩⟩⟩) ?_ ?_ ?_
  · intro as M0 h
    unfold P_X7_measureFrom at h
    split at h
    · exact Nat.le_of_ble_eq_true rfl
    · exact h.elim
  · intro as M0 h hM has
    unfold P_X7_measureFrom at h
    split at h
    next p s => exact hent p s M0 h hM (has s (by simp))
    · exact h.elim
  · intro as M0 h hM has pc ls st M n hI hM1
    unfold P_X7_measureFrom at h
    split at h
    next p s =>
      unfold JA_X7_measureFrom J_X7_measureFrom at hI
      dsimp only at hI
      split at hI
      ·
        obtain ⟨rfl, rfl, hI⟩ := hI
        exact hc2 _ _ _ h hM (has _ (by simp)) _ _ _ hI hM1
      ·
        obtain ⟨rfl, rfl, hI⟩ := hI
        exact hc42 _ _ _ h hM (has _ (by simp)) _ _ _ hI hM1
      · exact hI.elim
    · exact h.elim
abbrev p_X7_nextOnRoute (p : Nat) (t : Int) (M : Mem) : Prop := kdX p = 7 ∧ p = 7 ∧ surf M ∧ wok M ∧ (0 ≤ t ∧ t < nT (gX M)) ∧ ∀ j : Nat, j < nT (gX M) → M 9 j = -4 ∨ (0 ≤ M 9 j ∧ M 9 j ≤ 10000)
abbrev c_X7_nextOnRoute (p : Nat) (t : Int) (M : Mem) (x : Int) (M' : Mem) : Prop := (∀ L, lenR M L → x = onw (gX M) (M 6) (M 8) L t 4) ∧ M' = M
def P_X7_nextOnRoute (as : List AV) (M : Mem) : Prop := match as with
  | [.inr p, .inl t] => p_X7_nextOnRoute p t M
  | _ => False
def C_X7_nextOnRoute (as : List AV) (M : Mem) (x : Int) (M' : Mem) : Prop := match as with
  | [.inr p, .inl t] => c_X7_nextOnRoute p t M x M'
  | _ => False
abbrev rm_X7_nextOnRoute : Room := { frames := 2, cells := 0, slots := 0, locals := 47 }
abbrev OK_X7_nextOnRoute (l : Launch) (D : va_G) (cy : Nat → ClassId) (ad : Nat → Nat) : Prop := MetA l D cy ad kdX lnX 46 yX7_nextOnRoute cX7_nextOnRoute 5 (some .int) rm_X7_nextOnRoute 1 P_X7_nextOnRoute C_X7_nextOnRoute
theorem ca_X7_nextOnRoute : CalV yX7_nextOnRoute cX7_nextOnRoute 5 (some .int) 1 := ⟨⟨wcX7_nextOnRoute, wnX7, by decide +kernel, by decide +kernel, by decide +kernel⟩, wiX7_nextOnRoute, wlX7_nextOnRoute⟩
theorem rv_X7_nextOnRoute : ∀ as M, P_X7_nextOnRoute as M → ∃ a As q, as = .inr a :: As ∧ vwCl[kdX a]? = some q ∧ q.1 = yX7_nextOnRoute.cls := by
  intro as M h
  unfold P_X7_nextOnRoute at h
  split at h
  · exact ⟨_, _, (RX7, TX7, 5), rfl, by rw [h.1]; rfl, rfl⟩
  · exact h.elim
def ct_X7_nextOnRoute : List (Nat × CS) := [(10, (3, 1, P_X7_stepLength, C_X7_stepLength)), (24, (3, 1, P_X3_next, C_X3_next))]
def J_X7_nextOnRoute (I2 : Nat → Int → Mem → Int → Mem → Nat → Prop) (p : Nat) (t : Int) (M0 : Mem) : IT := fun pc ls st M μ => match pc, ls, st, M, μ with
  | 2, [some (.inr p_), some (.inl t_), some (.inl d), _, _], [], M, μ => p = p_ ∧ t = t_ ∧ I2 p t M0 d M μ
  | _, _, _, _, _ => False
def JA_X7_nextOnRoute (I2 : Nat → Int → Mem → Int → Mem → Nat → Prop) (as : List AV) (M0 : Mem) : IT := match as with
  | [.inr p, .inl t] => J_X7_nextOnRoute I2 p t M0
  | _ => fun _ _ _ _ _ => False
theorem si_X7_nextOnRoute_10 {l : Launch} {D : va_G} {cy : Nat → ClassId} {ad : Nat → Nat} (o : OK_X7_stepLength l D cy ad) : Site l D cy ad kdX lnX 46 yX7_nextOnRoute.cls tbX7_nextOnRoute rm_X7_nextOnRoute 10 (3, 1, P_X7_stepLength, C_X7_stepLength) := Or.inl ⟨62, 2, yX7_stepLength, cX7_stepLength, 6, (some .int), rm_X7_stepLength, rfl, rfl, o, ca_X7_stepLength, mkX7_62, ⟨rfl, rfl, by decide, by decide⟩, rv_X7_stepLength⟩
theorem si_X7_nextOnRoute_24 {l : Launch} {D : va_G} {cy : Nat → ClassId} {ad : Nat → Nat} (o : OK_X3_next l D cy ad) : Site l D cy ad kdX lnX 46 yX7_nextOnRoute.cls tbX7_nextOnRoute rm_X7_nextOnRoute 24 (3, 1, P_X3_next, C_X3_next) := Or.inl ⟨66, 2, yX3_next, cX3_next, 3, (some .int), rm_X3_next, rfl, rfl, o, ca_X3_next, mkX7_66, ⟨rfl, rfl, by decide, by decide⟩, rv_X3_next⟩
set_option maxRecDepth 100000 in
set_option maxHeartbeats 4000000 in
theorem met_X7_nextOnRoute {l : Launch} {D : va_G} {cy : Nat → ClassId} {ad : Nat → Nat} (hA : jA ad 46) (o_X3_next : OK_X3_next l D cy ad) (o_X7_stepLength : OK_X7_stepLength l D cy ad) (I2 : Nat → Int → Mem → Int → Mem → Nat → Prop)
    (hent : ∀ (p : Nat) (t : Int) (M0 : Mem), p_X7_nextOnRoute p t M0 → okM M0 → inR t → ∃ μ : Nat, p = p ∧ t = t ∧ I2 p t M0 0 M0 μ)
    (hc2 : ∀ (p : Nat) (t : Int) (M0 : Mem), p_X7_nextOnRoute p t M0 → okM M0 → inR t → ∀ (d : Int) (M : Mem) (n : Nat), I2 p t M0 d M n → okM M → ((4 : Int) ≤ d → ((True) ∧ c_X7_nextOnRoute p t M0 t M)) ∧ (¬ (4 : Int) ≤ d → (p_X7_stepLength p t d M ∧ ∀ (x2 : Int) (M1 : Mem), inR x2 → okM M1 → c_X7_stepLength p t d M x2 M1 → ((x2 ≤ (0 : Int) → (inR (d + 1) ∧ (∃ μ : Nat, μ < n ∧ p = p ∧ t = t ∧ I2 p t M0 (d + 1) M1 μ))) ∧ (¬ x2 ≤ (0 : Int) → (kdX p = 7 ∧ (p_X3_next 1 t d M1 ∧ ∀ (x4 : Int) (M3 : Mem), inR x4 → okM M3 → c_X3_next 1 t d M1 x4 M3 → (kdX p = 7 ∧ (kdX 9 = 21 ∧ (0 ≤ x4 ∧ x4 < 144) ∧ (inR ((M3 9 (x4).toNat) + x2) ∧ (kdX p = 7 ∧ (kdX 9 = 21 ∧ (0 ≤ t ∧ t < 144) ∧ ((¬ ((M3 9 (x4).toNat) + x2) = (M3 9 (t).toNat) → (inR (d + 1) ∧ (∃ μ : Nat, μ < n ∧ p = p ∧ t = t ∧ I2 p t M0 (d + 1) M3 μ))) ∧ (¬ (¬ ((M3 9 (x4).toNat) + x2) = (M3 9 (t).toNat)) → ((True) ∧ c_X7_nextOnRoute p t M0 x4 M3)))))))))))))))
    : OK_X7_nextOnRoute l D cy ad := by
  refine met_of (tb := tbX7_nextOnRoute) (ft := ftX7) (cst := cst0) (ct := ct_X7_nextOnRoute) (cuts := [2]) 37 (JA_X7_nextOnRoute I2) hA jWX (by decide) tbX7_nextOnRoute_ok (by decide) ftX7_ok cst0_ok (ldc_of (tb := tbX7_nextOnRoute) (cst := cst0) (by decide)) rfl (List.forall_mem_cons.mpr ⟨si_X7_nextOnRoute_10 o_X7_stepLength, List.forall_mem_cons.mpr ⟨si_X7_nextOnRoute_24 o_X3_next, fun q h => absurd h List.not_mem_nil⟩⟩) ?_ ?_ ?_
  · intro as M0 h
    unfold P_X7_nextOnRoute at h
    split at h
    · exact Nat.le_of_ble_eq_true rfl
    · exact h.elim
  · intro as M0 h hM has
    unfold P_X7_nextOnRoute at h
    split at h
    next p t => exact hent p t M0 h hM (has t (by simp))
    · exact h.elim
  · intro as M0 h hM has pc ls st M n hI hM1
    unfold P_X7_nextOnRoute at h
    split at h
    next p t =>
      unfold JA_X7_nextOnRoute J_X7_nextOnRoute at hI
      dsimp only at hI
      split at hI
      ·
        obtain ⟨rfl, rfl, hI⟩ := hI
        exact hc2 _ _ _ h hM (has _ (by simp)) _ _ _ hI hM1
      · exact hI.elim
    · exact h.elim
abbrev p_X7_routeTile (p : Nat) (t : Int) (o : Int) (k : Int) (M : Mem) : Prop := kdX p = 7 ∧ p = 7 ∧ surf M ∧ wok M ∧ (0 ≤ t ∧ t < nT (gX M)) ∧ ∀ j : Nat, j < nT (gX M) → M 9 j = -4 ∨ (0 ≤ M 9 j ∧ M 9 j ≤ 10000)
abbrev c_X7_routeTile (p : Nat) (t : Int) (o : Int) (k : Int) (M : Mem) (x : Int) (M' : Mem) : Prop := (∀ L, lenR M L → x = rgo (gX M) (M 6) (M 8) L o k 144 t 0) ∧ M' = M
def P_X7_routeTile (as : List AV) (M : Mem) : Prop := match as with
  | [.inr p, .inl t, .inl o, .inl k] => p_X7_routeTile p t o k M
  | _ => False
def C_X7_routeTile (as : List AV) (M : Mem) (x : Int) (M' : Mem) : Prop := match as with
  | [.inr p, .inl t, .inl o, .inl k] => c_X7_routeTile p t o k M x M'
  | _ => False
abbrev rm_X7_routeTile : Room := { frames := 3, cells := 0, slots := 0, locals := 71 }
abbrev OK_X7_routeTile (l : Launch) (D : va_G) (cy : Nat → ClassId) (ad : Nat → Nat) : Prop := MetA l D cy ad kdX lnX 46 yX7_routeTile cX7_routeTile 6 (some .int) rm_X7_routeTile 1 P_X7_routeTile C_X7_routeTile
theorem ca_X7_routeTile : CalV yX7_routeTile cX7_routeTile 6 (some .int) 3 := ⟨⟨wcX7_routeTile, wnX7, by decide +kernel, by decide +kernel, by decide +kernel⟩, wiX7_routeTile, wlX7_routeTile⟩
theorem rv_X7_routeTile : ∀ as M, P_X7_routeTile as M → ∃ a As q, as = .inr a :: As ∧ vwCl[kdX a]? = some q ∧ q.1 = yX7_routeTile.cls := by
  intro as M h
  unfold P_X7_routeTile at h
  split at h
  · exact ⟨_, _, (RX7, TX7, 5), rfl, by rw [h.1]; rfl, rfl⟩
  · exact h.elim
def ct_X7_routeTile : List (Nat × CS) := [(29, (2, 1, P_X7_nextOnRoute, C_X7_nextOnRoute))]
def J_X7_routeTile (I6 : Nat → Int → Int → Int → Mem → Int → Int → Mem → Nat → Prop) (p : Nat) (t : Int) (o : Int) (k : Int) (M0 : Mem) : IT := fun pc ls st M μ => match pc, ls, st, M, μ with
  | 6, [some (.inr p_), some (.inl t_), some (.inl o_), some (.inl k_), some (.inl a), some (.inl c)], [], M, μ => p = p_ ∧ t = t_ ∧ o = o_ ∧ k = k_ ∧ I6 p t o k M0 a c M μ
  | _, _, _, _, _ => False
def JA_X7_routeTile (I6 : Nat → Int → Int → Int → Mem → Int → Int → Mem → Nat → Prop) (as : List AV) (M0 : Mem) : IT := match as with
  | [.inr p, .inl t, .inl o, .inl k] => J_X7_routeTile I6 p t o k M0
  | _ => fun _ _ _ _ _ => False
theorem si_X7_routeTile_29 {l : Launch} {D : va_G} {cy : Nat → ClassId} {ad : Nat → Nat} (o : OK_X7_nextOnRoute l D cy ad) : Site l D cy ad kdX lnX 46 yX7_routeTile.cls tbX7_routeTile rm_X7_routeTile 29 (2, 1, P_X7_nextOnRoute, C_X7_nextOnRoute) := Or.inl ⟨72, 1, yX7_nextOnRoute, cX7_nextOnRoute, 5, (some .int), rm_X7_nextOnRoute, rfl, rfl, o, ca_X7_nextOnRoute, mkX7_72, ⟨rfl, rfl, by decide, by decide⟩, rv_X7_nextOnRoute⟩
set_option maxRecDepth 100000 in
set_option maxHeartbeats 4000000 in
theorem met_X7_routeTile {l : Launch} {D : va_G} {cy : Nat → ClassId} {ad : Nat → Nat} (hA : jA ad 46) (o_X7_nextOnRoute : OK_X7_nextOnRoute l D cy ad) (I6 : Nat → Int → Int → Int → Mem → Int → Int → Mem → Nat → Prop)
    (hent : ∀ (p : Nat) (t : Int) (o : Int) (k : Int) (M0 : Mem), p_X7_routeTile p t o k M0 → okM M0 → inR t → inR o → inR k → ∃ μ : Nat, p = p ∧ t = t ∧ o = o ∧ k = k ∧ I6 p t o k M0 t 0 M0 μ)
    (hc6 : ∀ (p : Nat) (t : Int) (o : Int) (k : Int) (M0 : Mem), p_X7_routeTile p t o k M0 → okM M0 → inR t → inR o → inR k → ∀ (a : Int) (c : Int) (M : Mem) (n : Nat), I6 p t o k M0 a c M n → okM M → (a = o → ((¬ k = (-1 : Int) → ((¬ c = k → ((True) ∧ c_X7_routeTile p t o k M0 (-5) M)) ∧ (¬ (¬ c = k) → ((True) ∧ c_X7_routeTile p t o k M0 a M)))) ∧ (¬ (¬ k = (-1 : Int)) → ((True) ∧ c_X7_routeTile p t o k M0 c M)))) ∧ (¬ a = o → ((c = k → ((¬ k = (-1 : Int) → ((¬ c = k → ((True) ∧ c_X7_routeTile p t o k M0 (-5) M)) ∧ (¬ (¬ c = k) → ((True) ∧ c_X7_routeTile p t o k M0 a M)))) ∧ (¬ (¬ k = (-1 : Int)) → ((True) ∧ c_X7_routeTile p t o k M0 c M)))) ∧ (¬ c = k → (((144 : Int) ≤ c → ((¬ k = (-1 : Int) → ((¬ c = k → ((True) ∧ c_X7_routeTile p t o k M0 (-5) M)) ∧ (¬ (¬ c = k) → ((True) ∧ c_X7_routeTile p t o k M0 a M)))) ∧ (¬ (¬ k = (-1 : Int)) → ((True) ∧ c_X7_routeTile p t o k M0 c M)))) ∧ (¬ (144 : Int) ≤ c → (p_X7_nextOnRoute p a M ∧ ∀ (x2 : Int) (M1 : Mem), inR x2 → okM M1 → c_X7_nextOnRoute p a M x2 M1 → (inR (c + 1) ∧ (∃ μ : Nat, μ < n ∧ p = p ∧ t = t ∧ o = o ∧ k = k ∧ I6 p t o k M0 x2 (c + 1) M1 μ)))))))))
    : OK_X7_routeTile l D cy ad := by
  refine met_of (tb := tbX7_routeTile) (ft := ftX7) (cst := cst0) (ct := ct_X7_routeTile) (cuts := [6]) 33 (JA_X7_routeTile I6) hA jWX (by decide) tbX7_routeTile_ok (by decide) ftX7_ok cst0_ok (ldc_of (tb := tbX7_routeTile) (cst := cst0) (by decide)) rfl (List.forall_mem_cons.mpr ⟨si_X7_routeTile_29 o_X7_nextOnRoute, fun q h => absurd h List.not_mem_nil⟩) ?_ ?_ ?_
  · intro as M0 h
    unfold P_X7_routeTile at h
    split at h
    · exact Nat.le_of_ble_eq_true rfl
    · exact h.elim
  · intro as M0 h hM has
    unfold P_X7_routeTile at h
    split at h
    next p t o k => exact hent p t o k M0 h hM (has t (by simp)) (has o (by simp)) (has k (by simp))
    · exact h.elim
  · intro as M0 h hM has pc ls st M n hI hM1
    unfold P_X7_routeTile at h
    split at h
    next p t o k =>
      unfold JA_X7_routeTile J_X7_routeTile at hI
      dsimp only at hI
      split at hI
      ·
        obtain ⟨rfl, rfl, rfl, rfl, hI⟩ := hI
        exact hc6 _ _ _ _ _ h hM (has _ (by simp)) (has _ (by simp)) (has _ (by simp)) _ _ _ _ hI hM1
      · exact hI.elim
    · exact h.elim
abbrev p_X7_farthestTile (p : Nat) (s : Int) (M : Mem) : Prop := kdX p = 7 ∧ p = 7 ∧ surf M ∧ 0 ≤ s ∧ s < nT (gX M)
abbrev c_X7_farthestTile (p : Nat) (s : Int) (M : Mem) (x : Int) (M' : Mem) : Prop := (∀ L, lenR M L → x = faF L s (nT (gX M))) ∧ M' = M
def P_X7_farthestTile (as : List AV) (M : Mem) : Prop := match as with
  | [.inr p, .inl s] => p_X7_farthestTile p s M
  | _ => False
def C_X7_farthestTile (as : List AV) (M : Mem) (x : Int) (M' : Mem) : Prop := match as with
  | [.inr p, .inl s] => c_X7_farthestTile p s M x M'
  | _ => False
abbrev rm_X7_farthestTile : Room := { frames := 1, cells := 0, slots := 0, locals := 20 }
abbrev OK_X7_farthestTile (l : Launch) (D : va_G) (cy : Nat → ClassId) (ad : Nat → Nat) : Prop := MetA l D cy ad kdX lnX 46 yX7_farthestTile cX7_farthestTile 4 (some .int) rm_X7_farthestTile 1 P_X7_farthestTile C_X7_farthestTile
theorem ca_X7_farthestTile : CalV yX7_farthestTile cX7_farthestTile 4 (some .int) 1 := ⟨⟨wcX7_farthestTile, wnX7, by decide +kernel, by decide +kernel, by decide +kernel⟩, wiX7_farthestTile, wlX7_farthestTile⟩
theorem rv_X7_farthestTile : ∀ as M, P_X7_farthestTile as M → ∃ a As q, as = .inr a :: As ∧ vwCl[kdX a]? = some q ∧ q.1 = yX7_farthestTile.cls := by
  intro as M h
  unfold P_X7_farthestTile at h
  split at h
  · exact ⟨_, _, (RX7, TX7, 5), rfl, by rw [h.1]; rfl, rfl⟩
  · exact h.elim
def ct_X7_farthestTile : List (Nat × CS) := [(9, (1, 1, P_X3_tiles, C_X3_tiles))]
def J_X7_farthestTile (I4 : Nat → Int → Mem → Int → Int → Mem → Nat → Prop) (p : Nat) (s : Int) (M0 : Mem) : IT := fun pc ls st M μ => match pc, ls, st, M, μ with
  | 4, [some (.inr p_), some (.inl s_), some (.inl b), some (.inl j)], [], M, μ => p = p_ ∧ s = s_ ∧ I4 p s M0 b j M μ
  | _, _, _, _, _ => False
def JA_X7_farthestTile (I4 : Nat → Int → Mem → Int → Int → Mem → Nat → Prop) (as : List AV) (M0 : Mem) : IT := match as with
  | [.inr p, .inl s] => J_X7_farthestTile I4 p s M0
  | _ => fun _ _ _ _ _ => False
theorem si_X7_farthestTile_9 {l : Launch} {D : va_G} {cy : Nat → ClassId} {ad : Nat → Nat} (o : OK_X3_tiles l D cy ad) : Site l D cy ad kdX lnX 46 yX7_farthestTile.cls tbX7_farthestTile rm_X7_farthestTile 9 (1, 1, P_X3_tiles, C_X3_tiles) := Or.inl ⟨32, 0, yX3_tiles, cX3_tiles, 1, (some .int), rm_X3_tiles, rfl, rfl, o, ca_X3_tiles, mkX7_32, ⟨rfl, rfl, by decide, by decide⟩, rv_X3_tiles⟩
set_option maxRecDepth 100000 in
set_option maxHeartbeats 4000000 in
theorem met_X7_farthestTile {l : Launch} {D : va_G} {cy : Nat → ClassId} {ad : Nat → Nat} (hA : jA ad 46) (o_X3_tiles : OK_X3_tiles l D cy ad) (I4 : Nat → Int → Mem → Int → Int → Mem → Nat → Prop)
    (hent : ∀ (p : Nat) (s : Int) (M0 : Mem), p_X7_farthestTile p s M0 → okM M0 → inR s → ∃ μ : Nat, p = p ∧ s = s ∧ I4 p s M0 s 0 M0 μ)
    (hc4 : ∀ (p : Nat) (s : Int) (M0 : Mem), p_X7_farthestTile p s M0 → okM M0 → inR s → ∀ (b : Int) (j : Int) (M : Mem) (n : Nat), I4 p s M0 b j M n → okM M → kdX p = 7 ∧ (p_X3_tiles 1 M ∧ ∀ (x2 : Int) (M1 : Mem), inR x2 → okM M1 → c_X3_tiles 1 M x2 M1 → ((x2 ≤ j → ((True) ∧ c_X7_farthestTile p s M0 b M1)) ∧ (¬ x2 ≤ j → (kdX p = 7 ∧ (kdX 9 = 21 ∧ (0 ≤ j ∧ j < 144) ∧ (kdX p = 7 ∧ (kdX 9 = 21 ∧ (0 ≤ b ∧ b < 144) ∧ (((M1 9 (j).toNat) ≤ (M1 9 (b).toNat) → (inR (j + 1) ∧ (∃ μ : Nat, μ < n ∧ p = p ∧ s = s ∧ I4 p s M0 b (j + 1) M1 μ))) ∧ (¬ (M1 9 (j).toNat) ≤ (M1 9 (b).toNat) → (inR (j + 1) ∧ (∃ μ : Nat, μ < n ∧ p = p ∧ s = s ∧ I4 p s M0 j (j + 1) M1 μ))))))))))))
    : OK_X7_farthestTile l D cy ad := by
  refine met_of (tb := tbX7_farthestTile) (ft := ftX7) (cst := cst0) (ct := ct_X7_farthestTile) (cuts := [4]) 26 (JA_X7_farthestTile I4) hA jWX (by decide) tbX7_farthestTile_ok (by decide) ftX7_ok cst0_ok (ldc_of (tb := tbX7_farthestTile) (cst := cst0) (by decide)) rfl (List.forall_mem_cons.mpr ⟨si_X7_farthestTile_9 o_X3_tiles, fun q h => absurd h List.not_mem_nil⟩) ?_ ?_ ?_
  · intro as M0 h
    unfold P_X7_farthestTile at h
    split at h
    · exact Nat.le_of_ble_eq_true rfl
    · exact h.elim
  · intro as M0 h hM has
    unfold P_X7_farthestTile at h
    split at h
    next p s => exact hent p s M0 h hM (has s (by simp))
    · exact h.elim
  · intro as M0 h hM has pc ls st M n hI hM1
    unfold P_X7_farthestTile at h
    split at h
    next p s =>
      unfold JA_X7_farthestTile J_X7_farthestTile at hI
      dsimp only at hI
      split at hI
      ·
        obtain ⟨rfl, rfl, hI⟩ := hI
        exact hc4 _ _ _ h hM (has _ (by simp)) _ _ _ _ hI hM1
      · exact hI.elim
    · exact h.elim
abbrev p_X7_tilesUpTo (p : Nat) (v : Int) (M : Mem) : Prop := kdX p = 7 ∧ p = 7 ∧ surf M
abbrev c_X7_tilesUpTo (p : Nat) (v : Int) (M : Mem) (x : Int) (M' : Mem) : Prop := (∀ L, lenR M L → x = sumF (fun t => if L t ≠ -4 ∧ L t ≤ v then 1 else 0) (nT (gX M))) ∧ M' = M
def P_X7_tilesUpTo (as : List AV) (M : Mem) : Prop := match as with
  | [.inr p, .inl v] => p_X7_tilesUpTo p v M
  | _ => False
def C_X7_tilesUpTo (as : List AV) (M : Mem) (x : Int) (M' : Mem) : Prop := match as with
  | [.inr p, .inl v] => c_X7_tilesUpTo p v M x M'
  | _ => False
abbrev rm_X7_tilesUpTo : Room := { frames := 1, cells := 0, slots := 0, locals := 20 }
abbrev OK_X7_tilesUpTo (l : Launch) (D : va_G) (cy : Nat → ClassId) (ad : Nat → Nat) : Prop := MetA l D cy ad kdX lnX 46 yX7_tilesUpTo cX7_tilesUpTo 4 (some .int) rm_X7_tilesUpTo 1 P_X7_tilesUpTo C_X7_tilesUpTo
theorem ca_X7_tilesUpTo : CalV yX7_tilesUpTo cX7_tilesUpTo 4 (some .int) 1 := ⟨⟨wcX7_tilesUpTo, wnX7, by decide +kernel, by decide +kernel, by decide +kernel⟩, wiX7_tilesUpTo, wlX7_tilesUpTo⟩
theorem rv_X7_tilesUpTo : ∀ as M, P_X7_tilesUpTo as M → ∃ a As q, as = .inr a :: As ∧ vwCl[kdX a]? = some q ∧ q.1 = yX7_tilesUpTo.cls := by
  intro as M h
  unfold P_X7_tilesUpTo at h
  split at h
  · exact ⟨_, _, (RX7, TX7, 5), rfl, by rw [h.1]; rfl, rfl⟩
  · exact h.elim
def ct_X7_tilesUpTo : List (Nat × CS) := [(9, (1, 1, P_X3_tiles, C_X3_tiles))]
def J_X7_tilesUpTo (I4 : Nat → Int → Mem → Int → Int → Mem → Nat → Prop) (p : Nat) (v : Int) (M0 : Mem) : IT := fun pc ls st M μ => match pc, ls, st, M, μ with
  | 4, [some (.inr p_), some (.inl v_), some (.inl c), some (.inl j)], [], M, μ => p = p_ ∧ v = v_ ∧ I4 p v M0 c j M μ
  | _, _, _, _, _ => False
def JA_X7_tilesUpTo (I4 : Nat → Int → Mem → Int → Int → Mem → Nat → Prop) (as : List AV) (M0 : Mem) : IT := match as with
  | [.inr p, .inl v] => J_X7_tilesUpTo I4 p v M0
  | _ => fun _ _ _ _ _ => False
theorem si_X7_tilesUpTo_9 {l : Launch} {D : va_G} {cy : Nat → ClassId} {ad : Nat → Nat} (o : OK_X3_tiles l D cy ad) : Site l D cy ad kdX lnX 46 yX7_tilesUpTo.cls tbX7_tilesUpTo rm_X7_tilesUpTo 9 (1, 1, P_X3_tiles, C_X3_tiles) := Or.inl ⟨32, 0, yX3_tiles, cX3_tiles, 1, (some .int), rm_X3_tiles, rfl, rfl, o, ca_X3_tiles, mkX7_32, ⟨rfl, rfl, by decide, by decide⟩, rv_X3_tiles⟩
set_option maxRecDepth 100000 in
set_option maxHeartbeats 4000000 in
theorem met_X7_tilesUpTo {l : Launch} {D : va_G} {cy : Nat → ClassId} {ad : Nat → Nat} (hA : jA ad 46) (o_X3_tiles : OK_X3_tiles l D cy ad) (I4 : Nat → Int → Mem → Int → Int → Mem → Nat → Prop)
    (hent : ∀ (p : Nat) (v : Int) (M0 : Mem), p_X7_tilesUpTo p v M0 → okM M0 → inR v → ∃ μ : Nat, p = p ∧ v = v ∧ I4 p v M0 0 0 M0 μ)
    (hc4 : ∀ (p : Nat) (v : Int) (M0 : Mem), p_X7_tilesUpTo p v M0 → okM M0 → inR v → ∀ (c : Int) (j : Int) (M : Mem) (n : Nat), I4 p v M0 c j M n → okM M → kdX p = 7 ∧ (p_X3_tiles 1 M ∧ ∀ (x2 : Int) (M1 : Mem), inR x2 → okM M1 → c_X3_tiles 1 M x2 M1 → ((x2 ≤ j → ((True) ∧ c_X7_tilesUpTo p v M0 c M1)) ∧ (¬ x2 ≤ j → (kdX p = 7 ∧ (kdX 9 = 21 ∧ (0 ≤ j ∧ j < 144) ∧ (((M1 9 (j).toNat) = (-4 : Int) → (inR (j + 1) ∧ (∃ μ : Nat, μ < n ∧ p = p ∧ v = v ∧ I4 p v M0 c (j + 1) M1 μ))) ∧ (¬ (M1 9 (j).toNat) = (-4 : Int) → (kdX p = 7 ∧ (kdX 9 = 21 ∧ (0 ≤ j ∧ j < 144) ∧ ((v < (M1 9 (j).toNat) → (inR (j + 1) ∧ (∃ μ : Nat, μ < n ∧ p = p ∧ v = v ∧ I4 p v M0 c (j + 1) M1 μ))) ∧ (¬ v < (M1 9 (j).toNat) → (inR (c + 1) ∧ (inR (j + 1) ∧ (∃ μ : Nat, μ < n ∧ p = p ∧ v = v ∧ I4 p v M0 (c + 1) (j + 1) M1 μ)))))))))))))))
    : OK_X7_tilesUpTo l D cy ad := by
  refine met_of (tb := tbX7_tilesUpTo) (ft := ftX7) (cst := cst0) (ct := ct_X7_tilesUpTo) (cuts := [4]) 28 (JA_X7_tilesUpTo I4) hA jWX (by decide) tbX7_tilesUpTo_ok (by decide) ftX7_ok cst0_ok (ldc_of (tb := tbX7_tilesUpTo) (cst := cst0) (by decide)) rfl (List.forall_mem_cons.mpr ⟨si_X7_tilesUpTo_9 o_X3_tiles, fun q h => absurd h List.not_mem_nil⟩) ?_ ?_ ?_
  · intro as M0 h
    unfold P_X7_tilesUpTo at h
    split at h
    · exact Nat.le_of_ble_eq_true rfl
    · exact h.elim
  · intro as M0 h hM has
    unfold P_X7_tilesUpTo at h
    split at h
    next p v => exact hent p v M0 h hM (has v (by simp))
    · exact h.elim
  · intro as M0 h hM has pc ls st M n hI hM1
    unfold P_X7_tilesUpTo at h
    split at h
    next p v =>
      unfold JA_X7_tilesUpTo J_X7_tilesUpTo at hI
      dsimp only at hI
      split at hI
      ·
        obtain ⟨rfl, rfl, hI⟩ := hI
        exact hc4 _ _ _ h hM (has _ (by simp)) _ _ _ _ hI hM1
      · exact hI.elim
    · exact h.elim
abbrev p_X7_nearestOf (p : Nat) (k : Int) (M : Mem) : Prop := kdX p = 7 ∧ p = 7 ∧ surf M
abbrev c_X7_nearestOf (p : Nat) (k : Int) (M : Mem) (x : Int) (M' : Mem) : Prop := (∀ L κ, lenR M L → kin M κ → x = neF L κ k (nT (gX M))) ∧ M' = M
def P_X7_nearestOf (as : List AV) (M : Mem) : Prop := match as with
  | [.inr p, .inl k] => p_X7_nearestOf p k M
  | _ => False
def C_X7_nearestOf (as : List AV) (M : Mem) (x : Int) (M' : Mem) : Prop := match as with
  | [.inr p, .inl k] => c_X7_nearestOf p k M x M'
  | _ => False
abbrev rm_X7_nearestOf : Room := { frames := 1, cells := 0, slots := 0, locals := 20 }
abbrev OK_X7_nearestOf (l : Launch) (D : va_G) (cy : Nat → ClassId) (ad : Nat → Nat) : Prop := MetA l D cy ad kdX lnX 46 yX7_nearestOf cX7_nearestOf 4 (some .int) rm_X7_nearestOf 1 P_X7_nearestOf C_X7_nearestOf
theorem ca_X7_nearestOf : CalV yX7_nearestOf cX7_nearestOf 4 (some .int) 1 := ⟨⟨wcX7_nearestOf, wnX7, by decide +kernel, by decide +kernel, by decide +kernel⟩, wiX7_nearestOf, wlX7_nearestOf⟩
theorem rv_X7_nearestOf : ∀ as M, P_X7_nearestOf as M → ∃ a As q, as = .inr a :: As ∧ vwCl[kdX a]? = some q ∧ q.1 = yX7_nearestOf.cls := by
  intro as M h
  unfold P_X7_nearestOf at h
  split at h
  · exact ⟨_, _, (RX7, TX7, 5), rfl, by rw [h.1]; rfl, rfl⟩
  · exact h.elim
def ct_X7_nearestOf : List (Nat × CS) := [(10, (1, 1, P_X3_tiles, C_X3_tiles))]
def J_X7_nearestOf (I5 : Nat → Int → Mem → Int → Int → Mem → Nat → Prop) (p : Nat) (k : Int) (M0 : Mem) : IT := fun pc ls st M μ => match pc, ls, st, M, μ with
  | 5, [some (.inr p_), some (.inl k_), some (.inl b), some (.inl j)], [], M, μ => p = p_ ∧ k = k_ ∧ I5 p k M0 b j M μ
  | _, _, _, _, _ => False
def JA_X7_nearestOf (I5 : Nat → Int → Mem → Int → Int → Mem → Nat → Prop) (as : List AV) (M0 : Mem) : IT := match as with
  | [.inr p, .inl k] => J_X7_nearestOf I5 p k M0
  | _ => fun _ _ _ _ _ => False
theorem si_X7_nearestOf_10 {l : Launch} {D : va_G} {cy : Nat → ClassId} {ad : Nat → Nat} (o : OK_X3_tiles l D cy ad) : Site l D cy ad kdX lnX 46 yX7_nearestOf.cls tbX7_nearestOf rm_X7_nearestOf 10 (1, 1, P_X3_tiles, C_X3_tiles) := Or.inl ⟨32, 0, yX3_tiles, cX3_tiles, 1, (some .int), rm_X3_tiles, rfl, rfl, o, ca_X3_tiles, mkX7_32, ⟨rfl, rfl, by decide, by decide⟩, rv_X3_tiles⟩
set_option maxRecDepth 100000 in
set_option maxHeartbeats 4000000 in
theorem met_X7_nearestOf {l : Launch} {D : va_G} {cy : Nat → ClassId} {ad : Nat → Nat} (hA : jA ad 46) (o_X3_tiles : OK_X3_tiles l D cy ad) (I5 : Nat → Int → Mem → Int → Int → Mem → Nat → Prop)
    (hent : ∀ (p : Nat) (k : Int) (M0 : Mem), p_X7_nearestOf p k M0 → okM M0 → inR k → ∃ μ : Nat, p = p ∧ k = k ∧ I5 p k M0 (-5) 0 M0 μ)
    (hc5 : ∀ (p : Nat) (k : Int) (M0 : Mem), p_X7_nearestOf p k M0 → okM M0 → inR k → ∀ (b : Int) (j : Int) (M : Mem) (n : Nat), I5 p k M0 b j M n → okM M → kdX p = 7 ∧ (p_X3_tiles 1 M ∧ ∀ (x2 : Int) (M1 : Mem), inR x2 → okM M1 → c_X3_tiles 1 M x2 M1 → ((x2 ≤ j → ((True) ∧ c_X7_nearestOf p k M0 b M1)) ∧ (¬ x2 ≤ j → (kdX p = 7 ∧ (kdX 6 = 21 ∧ (0 ≤ j ∧ j < 144) ∧ ((¬ (M1 6 (j).toNat) = k → (inR (j + 1) ∧ (∃ μ : Nat, μ < n ∧ p = p ∧ k = k ∧ I5 p k M0 b (j + 1) M1 μ))) ∧ (¬ (¬ (M1 6 (j).toNat) = k) → (kdX p = 7 ∧ (kdX 9 = 21 ∧ (0 ≤ j ∧ j < 144) ∧ (((M1 9 (j).toNat) = (-4 : Int) → (inR (j + 1) ∧ (∃ μ : Nat, μ < n ∧ p = p ∧ k = k ∧ I5 p k M0 b (j + 1) M1 μ))) ∧ (¬ (M1 9 (j).toNat) = (-4 : Int) → ((b = (-5 : Int) → (inR (j + 1) ∧ (∃ μ : Nat, μ < n ∧ p = p ∧ k = k ∧ I5 p k M0 j (j + 1) M1 μ))) ∧ (¬ b = (-5 : Int) → (kdX p = 7 ∧ (kdX 9 = 21 ∧ (0 ≤ j ∧ j < 144) ∧ (kdX p = 7 ∧ (kdX 9 = 21 ∧ (0 ≤ b ∧ b < 144) ∧ (((M1 9 (b).toNat) ≤ (M1 9 (j).toNat) → (inR (j + 1) ∧ (∃ μ : Nat, μ < n ∧ p = p ∧ k = k ∧ I5 p k M0 b (j + 1) M1 μ))) ∧ (¬ (M1 9 (b).toNat) ≤ (M1 9 (j).toNat) → (inR (j + 1) ∧ (∃ μ : Nat, μ < n ∧ p = p ∧ k = k ∧ I5 p k M0 j (j + 1) M1 μ))))))))))))))))))))))
    : OK_X7_nearestOf l D cy ad := by
  refine met_of (tb := tbX7_nearestOf) (ft := ftX7) (cst := cst0) (ct := ct_X7_nearestOf) (cuts := [5]) 41 (JA_X7_nearestOf I5) hA jWX (by decide) tbX7_nearestOf_ok (by decide) ftX7_ok cst0_ok (ldc_of (tb := tbX7_nearestOf) (cst := cst0) (by decide)) rfl (List.forall_mem_cons.mpr ⟨si_X7_nearestOf_10 o_X3_tiles, fun q h => absurd h List.not_mem_nil⟩) ?_ ?_ ?_
  · intro as M0 h
    unfold P_X7_nearestOf at h
    split at h
    · exact Nat.le_of_ble_eq_true rfl
    · exact h.elim
  · intro as M0 h hM has
    unfold P_X7_nearestOf at h
    split at h
    next p k => exact hent p k M0 h hM (has k (by simp))
    · exact h.elim
  · intro as M0 h hM has pc ls st M n hI hM1
    unfold P_X7_nearestOf at h
    split at h
    next p k =>
      unfold JA_X7_nearestOf J_X7_nearestOf at hI
      dsimp only at hI
      split at hI
      ·
        obtain ⟨rfl, rfl, hI⟩ := hI
        exact hc5 _ _ _ h hM (has _ (by simp)) _ _ _ _ hI hM1
      · exact hI.elim
    · exact h.elim
