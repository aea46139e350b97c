abbrev p_X1_changesSince (p : Nat) (q : Nat) (t : Int) (M : Mem) : Prop := kdX p = 1 ∧ kdX q = 1 ∧ surf M
abbrev c_X1_changesSince (p : Nat) (q : Nat) (t : Int) (M : Mem) (x : Int) (M' : Mem) : Prop := (∀ L L2, labR p M L → labR q M L2 → x = sumF (fun j => if (j : Int) ≠ t ∧ L j ≠ L2 j then 1 else 0) (nT (gX M))) ∧ M' = M
def P_X1_changesSince (as : List AV) (M : Mem) : Prop := match as with
  | [.inr p, .inr q, .inl t] => p_X1_changesSince p q t M
  | _ => False
def C_X1_changesSince (as : List AV) (M : Mem) (x : Int) (M' : Mem) : Prop := match as with
  | [.inr p, .inr q, .inl t] => c_X1_changesSince p q t M x M'
  | _ => False
abbrev rm_X1_changesSince : Room := { frames := 1, cells := 0, slots := 0, locals := 20 }
abbrev OK_X1_changesSince (l : Launch) (D : va_G) (cy : Nat → ClassId) (ad : Nat → Nat) : Prop := MetA l D cy ad kdX lnX 46 yX1_changesSince cX1_changesSince 5 (some .int) rm_X1_changesSince 1 P_X1_changesSince C_X1_changesSince
theorem ca_X1_changesSince : CalV yX1_changesSince cX1_changesSince 5 (some .int) 2 := ⟨⟨wcX1_changesSince, wnX1, by decide +kernel, by decide +kernel, by decide +kernel⟩, wiX1_changesSince, wlX1_changesSince⟩
theorem rv_X1_changesSince : ∀ as M, P_X1_changesSince as M → ∃ a As q, as = .inr a :: As ∧ vwCl[kdX a]? = some q ∧ q.1 = yX1_changesSince.cls := by
  intro as M h
  unfold P_X1_changesSince at h
  split at h
  · exact ⟨_, _, (RX1, TX1, 9), rfl, by rw [h.1]; rfl, rfl⟩
  · exact h.elim
def ct_X1_changesSince : List (Nat × CS) := [(11, (1, 1, P_X3_tiles, C_X3_tiles))]
def J_X1_changesSince (I5 : Nat → Nat → Int → Mem → Int → Int → Mem → Nat → Prop) (p : Nat) (q : Nat) (t : Int) (M0 : Mem) : IT := fun pc ls st M μ => match pc, ls, st, M, μ with
  | 5, [some (.inr p_), some (.inr q_), some (.inl t_), some (.inl c), some (.inl j)], [], M, μ => p = p_ ∧ q = q_ ∧ t = t_ ∧ I5 p q t M0 c j M μ
  | _, _, _, _, _ => False
def JA_X1_changesSince (I5 : Nat → Nat → Int → Mem → Int → Int → Mem → Nat → Prop) (as : List AV) (M0 : Mem) : IT := match as with
  | [.inr p, .inr q, .inl t] => J_X1_changesSince I5 p q t M0
  | _ => fun _ _ _ _ _ => False
theorem si_X1_changesSince_11 {l : Launch} {D : va_G} {cy : Nat → ClassId} {ad : Nat → Nat} (o : OK_X3_tiles l D cy ad) : Site l D cy ad kdX lnX 46 yX1_changesSince.cls tbX1_changesSince rm_X1_changesSince 11 (1, 1, P_X3_tiles, C_X3_tiles) := Or.inl ⟨46, 0, yX3_tiles, cX3_tiles, 1, (some .int), rm_X3_tiles, rfl, rfl, o, ca_X3_tiles, mkX1_46, ⟨rfl, rfl, by decide, by decide⟩, rv_X3_tiles⟩
set_option maxRecDepth 100000 in
set_option maxHeartbeats 4000000 in
theorem met_X1_changesSince {l : Launch} {D : va_G} {cy : Nat → ClassId} {ad : Nat → Nat} (hA : jA ad 46) (o_X3_tiles : OK_X3_tiles l D cy ad) (I5 : Nat → Nat → Int → Mem → Int → Int → Mem → Nat → Prop)
    (hent : ∀ (p : Nat) (q : Nat) (t : Int) (M0 : Mem), p_X1_changesSince p q t M0 → okM M0 → inR t → ∃ μ : Nat, p = p ∧ q = q ∧ t = t ∧ I5 p q t M0 0 0 M0 μ)
    (hc5 : ∀ (p : Nat) (q : Nat) (t : Int) (M0 : Mem), p_X1_changesSince p q t M0 → okM M0 → inR t → ∀ (c : Int) (j : Int) (M : Mem) (n : Nat), I5 p q t M0 c j M n → okM M → kdX p = 1 ∧ (p_X3_tiles 1 M ∧ ∀ (x2 : Int) (M1 : Mem), inR x2 → okM M1 → c_X3_tiles 1 M x2 M1 → ((x2 ≤ j → ((True) ∧ c_X1_changesSince p q t M0 c M1)) ∧ (¬ x2 ≤ j → ((j = t → (inR (j + 1) ∧ (∃ μ : Nat, μ < n ∧ p = p ∧ q = q ∧ t = t ∧ I5 p q t M0 c (j + 1) M1 μ))) ∧ (¬ j = t → (kdX p = 1 ∧ (kdX (p + 1) = 21 ∧ (0 ≤ j ∧ j < ((lnX (p + 1) : Nat) : Int)) ∧ (kdX q = 1 ∧ (kdX (q + 1) = 21 ∧ (0 ≤ j ∧ j < ((lnX (q + 1) : Nat) : Int)) ∧ (((M1 (p + 1) (j).toNat) = (M1 (q + 1) (j).toNat) → (inR (j + 1) ∧ (∃ μ : Nat, μ < n ∧ p = p ∧ q = q ∧ t = t ∧ I5 p q t M0 c (j + 1) M1 μ))) ∧ (¬ (M1 (p + 1) (j).toNat) = (M1 (q + 1) (j).toNat) → (inR (c + 1) ∧ (inR (j + 1) ∧ (∃ μ : Nat, μ < n ∧ p = p ∧ q = q ∧ t = t ∧ I5 p q t M0 (c + 1) (j + 1) M1 μ)))))))))))))))
    : OK_X1_changesSince l D cy ad := by
  refine met_of (tb := tbX1_changesSince) (ft := ftX1) (cst := cst0) (ct := ct_X1_changesSince) (cuts := [5]) 28 (JA_X1_changesSince I5) hA jWX (by decide) tbX1_changesSince_ok (by decide) ftX1_ok cst0_ok (ldc_of (tb := tbX1_changesSince) (cst := cst0) (by decide)) rfl (List.forall_mem_cons.mpr ⟨si_X1_changesSince_11 o_X3_tiles, fun q h => absurd h List.not_mem_nil⟩) ?_ ?_ ?_
  · intro as M0 h
    unfold P_X1_changesSince at h
    split at h
    · exact Nat.le_of_ble_eq_true rfl
    · exact h.elim
  · intro as M0 h hM has
    unfold P_X1_changesSince at h
    split at h
    next p q t => exact hent p q t M0 h hM (has t (by simp))
    · exact h.elim
  · intro as M0 h hM has pc ls st M n hI hM1
    unfold P_X1_changesSince at h
    split at h
    next p q t =>
      unfold JA_X1_changesSince J_X1_changesSince at hI
      dsimp only at hI
      split at hI
      ·
        obtain ⟨rfl, rfl, rfl, hI⟩ := hI
        exact hc5 _ _ _ _ h hM (has _ (by simp)) _ _ _ _ hI hM1
      · exact hI.elim
    · exact h.elim
abbrev p_X1_labelNumber (p : Nat) (k : Int) (M : Mem) : Prop := kdX p = 1 ∧ surf M
abbrev c_X1_labelNumber (p : Nat) (k : Int) (M : Mem) (x : Int) (M' : Mem) : Prop := (∀ L, labR p M L → x = kthF L k (nT (gX M))) ∧ M' = M
def P_X1_labelNumber (as : List AV) (M : Mem) : Prop := match as with
  | [.inr p, .inl k] => p_X1_labelNumber p k M
  | _ => False
def C_X1_labelNumber (as : List AV) (M : Mem) (x : Int) (M' : Mem) : Prop := match as with
  | [.inr p, .inl k] => c_X1_labelNumber p k M x M'
  | _ => False
abbrev rm_X1_labelNumber : Room := { frames := 1, cells := 0, slots := 0, locals := 20 }
abbrev OK_X1_labelNumber (l : Launch) (D : va_G) (cy : Nat → ClassId) (ad : Nat → Nat) : Prop := MetA l D cy ad kdX lnX 46 yX1_labelNumber cX1_labelNumber 4 (some .int) rm_X1_labelNumber 1 P_X1_labelNumber C_X1_labelNumber
theorem ca_X1_labelNumber : CalV yX1_labelNumber cX1_labelNumber 4 (some .int) 1 := ⟨⟨wcX1_labelNumber, wnX1, by decide +kernel, by decide +kernel, by decide +kernel⟩, wiX1_labelNumber, wlX1_labelNumber⟩
theorem rv_X1_labelNumber : ∀ as M, P_X1_labelNumber as M → ∃ a As q, as = .inr a :: As ∧ vwCl[kdX a]? = some q ∧ q.1 = yX1_labelNumber.cls := by
  intro as M h
  unfold P_X1_labelNumber at h
  split at h
  · exact ⟨_, _, (RX1, TX1, 9), rfl, by rw [h.1]; rfl, rfl⟩
  · exact h.elim
def ct_X1_labelNumber : List (Nat × CS) := [(9, (1, 1, P_X3_tiles, C_X3_tiles))]
def J_X1_labelNumber (I4 : Nat → Int → Mem → Int → Int → Mem → Nat → Prop) (p : Nat) (k : Int) (M0 : Mem) : IT := fun pc ls st M μ => match pc, ls, st, M, μ with
  | 4, [some (.inr p_), some (.inl k_), some (.inl b), some (.inl j)], [], M, μ => p = p_ ∧ k = k_ ∧ I4 p k M0 b j M μ
  | _, _, _, _, _ => False
def JA_X1_labelNumber (I4 : Nat → Int → Mem → Int → Int → Mem → Nat → Prop) (as : List AV) (M0 : Mem) : IT := match as with
  | [.inr p, .inl k] => J_X1_labelNumber I4 p k M0
  | _ => fun _ _ _ _ _ => False
theorem si_X1_labelNumber_9 {l : Launch} {D : va_G} {cy : Nat → ClassId} {ad : Nat → Nat} (o : OK_X3_tiles l D cy ad) : Site l D cy ad kdX lnX 46 yX1_labelNumber.cls tbX1_labelNumber rm_X1_labelNumber 9 (1, 1, P_X3_tiles, C_X3_tiles) := Or.inl ⟨46, 0, yX3_tiles, cX3_tiles, 1, (some .int), rm_X3_tiles, rfl, rfl, o, ca_X3_tiles, mkX1_46, ⟨rfl, rfl, by decide, by decide⟩, rv_X3_tiles⟩
set_option maxRecDepth 100000 in
set_option maxHeartbeats 4000000 in
theorem met_X1_labelNumber {l : Launch} {D : va_G} {cy : Nat → ClassId} {ad : Nat → Nat} (hA : jA ad 46) (o_X3_tiles : OK_X3_tiles l D cy ad) (I4 : Nat → Int → Mem → Int → Int → Mem → Nat → Prop)
    (hent : ∀ (p : Nat) (k : Int) (M0 : Mem), p_X1_labelNumber p k M0 → okM M0 → inR k → ∃ μ : Nat, p = p ∧ k = k ∧ I4 p k M0 0 0 M0 μ)
    (hc4 : ∀ (p : Nat) (k : Int) (M0 : Mem), p_X1_labelNumber p k M0 → okM M0 → inR k → ∀ (b : Int) (j : Int) (M : Mem) (n : Nat), I4 p k M0 b j M n → okM M → kdX p = 1 ∧ (p_X3_tiles 1 M ∧ ∀ (x2 : Int) (M1 : Mem), inR x2 → okM M1 → c_X3_tiles 1 M x2 M1 → ((x2 ≤ j → ((True) ∧ c_X1_labelNumber p k M0 (-5) M1)) ∧ (¬ x2 ≤ j → (kdX p = 1 ∧ (kdX (p + 1) = 21 ∧ (0 ≤ j ∧ j < ((lnX (p + 1) : Nat) : Int)) ∧ ((¬ (M1 (p + 1) (j).toNat) = j → (inR (j + 1) ∧ (∃ μ : Nat, μ < n ∧ p = p ∧ k = k ∧ I4 p k M0 b (j + 1) M1 μ))) ∧ (¬ (¬ (M1 (p + 1) (j).toNat) = j) → ((¬ b = k → (inR (b + 1) ∧ (inR (j + 1) ∧ (∃ μ : Nat, μ < n ∧ p = p ∧ k = k ∧ I4 p k M0 (b + 1) (j + 1) M1 μ)))) ∧ (¬ (¬ b = k) → ((True) ∧ c_X1_labelNumber p k M0 j M1)))))))))))
    : OK_X1_labelNumber l D cy ad := by
  refine met_of (tb := tbX1_labelNumber) (ft := ftX1) (cst := cst0) (ct := ct_X1_labelNumber) (cuts := [4]) 27 (JA_X1_labelNumber I4) hA jWX (by decide) tbX1_labelNumber_ok (by decide) ftX1_ok cst0_ok (ldc_of (tb := tbX1_labelNumber) (cst := cst0) (by decide)) rfl (List.forall_mem_cons.mpr ⟨si_X1_labelNumber_9 o_X3_tiles, fun q h => absurd h List.not_mem_nil⟩) ?_ ?_ ?_
  · intro as M0 h
    unfold P_X1_labelNumber at h
    split at h
    · exact Nat.le_of_ble_eq_true rfl
    · exact h.elim
  · intro as M0 h hM has
    unfold P_X1_labelNumber at h
    split at h
    next p k => exact hent p k M0 h hM (has k (by simp))
    · exact h.elim
  · intro as M0 h hM has pc ls st M n hI hM1
    unfold P_X1_labelNumber at h
    split at h
    next p k =>
      unfold JA_X1_labelNumber J_X1_labelNumber at hI
      dsimp only at hI
      split at hI
      ·
        obtain ⟨rfl, rfl, hI⟩ := hI
        exact hc4 _ _ _ h hM (has _ (by simp)) _ _ _ _ hI hM1
      · exact hI.elim
    · exact h.elim
abbrev p_X1_greatestOf (p : Nat) (k : Int) (M : Mem) : Prop := kdX p = 1 ∧ surf M
abbrev c_X1_greatestOf (p : Nat) (k : Int) (M : Mem) (x : Int) (M' : Mem) : Prop := (∀ L κ S, labR p M L → kin M κ → (∀ t : Nat, t < nT (gX M) → L t = t → M (p + 2) t = S t) → x = grF (fun t => decide (L t = t ∧ κ t = k)) S (nT (gX M))) ∧ M' = M
def P_X1_greatestOf (as : List AV) (M : Mem) : Prop := match as with
  | [.inr p, .inl k] => p_X1_greatestOf p k M
  | _ => False
def C_X1_greatestOf (as : List AV) (M : Mem) (x : Int) (M' : Mem) : Prop := match as with
  | [.inr p, .inl k] => c_X1_greatestOf p k M x M'
  | _ => False
abbrev rm_X1_greatestOf : Room := { frames := 1, cells := 0, slots := 0, locals := 20 }
abbrev OK_X1_greatestOf (l : Launch) (D : va_G) (cy : Nat → ClassId) (ad : Nat → Nat) : Prop := MetA l D cy ad kdX lnX 46 yX1_greatestOf cX1_greatestOf 4 (some .int) rm_X1_greatestOf 1 P_X1_greatestOf C_X1_greatestOf
theorem ca_X1_greatestOf : CalV yX1_greatestOf cX1_greatestOf 4 (some .int) 1 := ⟨⟨wcX1_greatestOf, wnX1, by decide +kernel, by decide +kernel, by decide +kernel⟩, wiX1_greatestOf, wlX1_greatestOf⟩
theorem rv_X1_greatestOf : ∀ as M, P_X1_greatestOf as M → ∃ a As q, as = .inr a :: As ∧ vwCl[kdX a]? = some q ∧ q.1 = yX1_greatestOf.cls := by
  intro as M h
  unfold P_X1_greatestOf at h
  split at h
  · exact ⟨_, _, (RX1, TX1, 9), rfl, by rw [h.1]; rfl, rfl⟩
  · exact h.elim
def ct_X1_greatestOf : List (Nat × CS) := [(10, (1, 1, P_X3_tiles, C_X3_tiles))]
def J_X1_greatestOf (I5 : Nat → Int → Mem → Int → Int → Mem → Nat → Prop) (p : Nat) (k : Int) (M0 : Mem) : IT := fun pc ls st M μ => match pc, ls, st, M, μ with
  | 5, [some (.inr p_), some (.inl k_), some (.inl b), some (.inl j)], [], M, μ => p = p_ ∧ k = k_ ∧ I5 p k M0 b j M μ
  | _, _, _, _, _ => False
def JA_X1_greatestOf (I5 : Nat → Int → Mem → Int → Int → Mem → Nat → Prop) (as : List AV) (M0 : Mem) : IT := match as with
  | [.inr p, .inl k] => J_X1_greatestOf I5 p k M0
  | _ => fun _ _ _ _ _ => False
theorem si_X1_greatestOf_10 {l : Launch} {D : va_G} {cy : Nat → ClassId} {ad : Nat → Nat} (o : OK_X3_tiles l D cy ad) : Site l D cy ad kdX lnX 46 yX1_greatestOf.cls tbX1_greatestOf rm_X1_greatestOf 10 (1, 1, P_X3_tiles, C_X3_tiles) := Or.inl ⟨46, 0, yX3_tiles, cX3_tiles, 1, (some .int), rm_X3_tiles, rfl, rfl, o, ca_X3_tiles, mkX1_46, ⟨rfl, rfl, by decide, by decide⟩, rv_X3_tiles⟩
set_option maxRecDepth 100000 in
set_option maxHeartbeats 4000000 in
theorem met_X1_greatestOf {l : Launch} {D : va_G} {cy : Nat → ClassId} {ad : Nat → Nat} (hA : jA ad 46) (o_X3_tiles : OK_X3_tiles l D cy ad) (I5 : Nat → Int → Mem → Int → Int → Mem → Nat → Prop)
    (hent : ∀ (p : Nat) (k : Int) (M0 : Mem), p_X1_greatestOf p k M0 → okM M0 → inR k → ∃ μ : Nat, p = p ∧ k = k ∧ I5 p k M0 (-5) 0 M0 μ)
    (hc5 : ∀ (p : Nat) (k : Int) (M0 : Mem), p_X1_greatestOf p k M0 → okM M0 → inR k → ∀ (b : Int) (j : Int) (M : Mem) (n : Nat), I5 p k M0 b j M n → okM M → kdX p = 1 ∧ (p_X3_tiles 1 M ∧ ∀ (x2 : Int) (M1 : Mem), inR x2 → okM M1 → c_X3_tiles 1 M x2 M1 → ((x2 ≤ j → ((True) ∧ c_X1_greatestOf p k M0 b M1)) ∧ (¬ x2 ≤ j → (kdX p = 1 ∧ (kdX (p + 1) = 21 ∧ (0 ≤ j ∧ j < ((lnX (p + 1) : Nat) : Int)) ∧ ((¬ (M1 (p + 1) (j).toNat) = j → (inR (j + 1) ∧ (∃ μ : Nat, μ < n ∧ p = p ∧ k = k ∧ I5 p k M0 b (j + 1) M1 μ))) ∧ (¬ (¬ (M1 (p + 1) (j).toNat) = j) → (kdX p = 1 ∧ (kdX 6 = 21 ∧ (0 ≤ j ∧ j < 144) ∧ ((¬ (M1 6 (j).toNat) = k → (inR (j + 1) ∧ (∃ μ : Nat, μ < n ∧ p = p ∧ k = k ∧ I5 p k M0 b (j + 1) M1 μ))) ∧ (¬ (¬ (M1 6 (j).toNat) = k) → ((b = (-5 : Int) → (inR (j + 1) ∧ (∃ μ : Nat, μ < n ∧ p = p ∧ k = k ∧ I5 p k M0 j (j + 1) M1 μ))) ∧ (¬ b = (-5 : Int) → (kdX p = 1 ∧ (kdX (p + 2) = 21 ∧ (0 ≤ j ∧ j < ((lnX (p + 2) : Nat) : Int)) ∧ (kdX p = 1 ∧ (kdX (p + 2) = 21 ∧ (0 ≤ b ∧ b < ((lnX (p + 2) : Nat) : Int)) ∧ (((M1 (p + 2) (j).toNat) ≤ (M1 (p + 2) (b).toNat) → (inR (j + 1) ∧ (∃ μ : Nat, μ < n ∧ p = p ∧ k = k ∧ I5 p k M0 b (j + 1) M1 μ))) ∧ (¬ (M1 (p + 2) (j).toNat) ≤ (M1 (p + 2) (b).toNat) → (inR (j + 1) ∧ (∃ μ : Nat, μ < n ∧ p = p ∧ k = k ∧ I5 p k M0 j (j + 1) M1 μ))))))))))))))))))))))
    : OK_X1_greatestOf l D cy ad := by
  refine met_of (tb := tbX1_greatestOf) (ft := ftX1) (cst := cst0) (ct := ct_X1_greatestOf) (cuts := [5]) 41 (JA_X1_greatestOf I5) hA jWX (by decide) tbX1_greatestOf_ok (by decide) ftX1_ok cst0_ok (ldc_of (tb := tbX1_greatestOf) (cst := cst0) (by decide)) rfl (List.forall_mem_cons.mpr ⟨si_X1_greatestOf_10 o_X3_tiles, fun q h => absurd h List.not_mem_nil⟩) ?_ ?_ ?_
  · intro as M0 h
    unfold P_X1_greatestOf at h
    split at h
    · exact Nat.le_of_ble_eq_true rfl
    · exact h.elim
  · intro as M0 h hM has
    unfold P_X1_greatestOf at h
    split at h
    next p k => exact hent p k M0 h hM (has k (by simp))
    · exact h.elim
  · intro as M0 h hM has pc ls st M n hI hM1
    unfold P_X1_greatestOf at h
    split at h
    next p k =>
      unfold JA_X1_greatestOf J_X1_greatestOf at hI
      dsimp only at hI
      split at hI
      ·
        obtain ⟨rfl, rfl, hI⟩ := hI
        exact hc5 _ _ _ h hM (has _ (by simp)) _ _ _ _ hI hM1
      · exact hI.elim
    · exact h.elim
abbrev p_X1_leadsOut (p : Nat) (t : Int) (d : Int) (M : Mem) : Prop := kdX p = 1 ∧ surf M ∧ (0 ≤ t ∧ t < nT (gX M)) ∧ 0 ≤ d ∧ d < 4
abbrev c_X1_leadsOut (p : Nat) (t : Int) (d : Int) (M : Mem) (x : Int) (M' : Mem) : Prop := x = (if 0 ≤ nx (gX M) t d ∧ M (p + 1) (nx (gX M) t d).toNat ≠ M (p + 1) t.toNat then 1 else 0) ∧ M' = M
def P_X1_leadsOut (as : List AV) (M : Mem) : Prop := match as with
  | [.inr p, .inl t, .inl d] => p_X1_leadsOut p t d M
  | _ => False
def C_X1_leadsOut (as : List AV) (M : Mem) (x : Int) (M' : Mem) : Prop := match as with
  | [.inr p, .inl t, .inl d] => c_X1_leadsOut p t d M x M'
  | _ => False
abbrev rm_X1_leadsOut : Room := { frames := 1, cells := 0, slots := 0, locals := 22 }
abbrev OK_X1_leadsOut (l : Launch) (D : va_G) (cy : Nat → ClassId) (ad : Nat → Nat) : Prop := MetA l D cy ad kdX lnX 46 yX1_leadsOut cX1_leadsOut 4 (some .boolean) rm_X1_leadsOut 2 P_X1_leadsOut C_X1_leadsOut
theorem ca_X1_leadsOut : CalV yX1_leadsOut cX1_leadsOut 4 (some .boolean) 2 := ⟨⟨wcX1_leadsOut, wnX1, by decide +kernel, by decide +kernel, by decide +kernel⟩, wiX1_leadsOut, wlX1_leadsOut⟩
theorem rv_X1_leadsOut : ∀ as M, P_X1_leadsOut as M → ∃ a As q, as = .inr a :: As ∧ vwCl[kdX a]? = some q ∧ q.1 = yX1_leadsOut.cls := by
  intro as M h
  unfold P_X1_leadsOut at h
  split at h
  · exact ⟨_, _, (RX1, TX1, 9), rfl, by rw [h.1]; rfl, rfl⟩
  · exact h.elim
def ct_X1_leadsOut : List (Nat × CS) := [(6, (3, 1, P_X3_next, C_X3_next))]
def J_X1_leadsOut  (p : Nat) (t : Int) (d : Int) (M0 : Mem) : IT := fun pc ls st M μ => match pc, ls, st, M, μ with
  | _, _, _, _, _ => False
def JA_X1_leadsOut  (as : List AV) (M0 : Mem) : IT := match as with
  | [.inr p, .inl t, .inl d] => J_X1_leadsOut  p t d M0
  | _ => fun _ _ _ _ _ => False
theorem si_X1_leadsOut_6 {l : Launch} {D : va_G} {cy : Nat → ClassId} {ad : Nat → Nat} (o : OK_X3_next l D cy ad) : Site l D cy ad kdX lnX 46 yX1_leadsOut.cls tbX1_leadsOut rm_X1_leadsOut 6 (3, 1, P_X3_next, C_X3_next) := Or.inl ⟨75, 2, yX3_next, cX3_next, 3, (some .int), rm_X3_next, rfl, rfl, o, ca_X3_next, mkX1_75, ⟨rfl, rfl, by decide, by decide⟩, rv_X3_next⟩
set_option maxRecDepth 100000 in
set_option maxHeartbeats 4000000 in
theorem met_X1_leadsOut {l : Launch} {D : va_G} {cy : Nat → ClassId} {ad : Nat → Nat} (hA : jA ad 46) (o_X3_next : OK_X3_next l D cy ad) 
    (hent : ∀ (p : Nat) (t : Int) (d : Int) (M0 : Mem), p_X1_leadsOut p t d M0 → okM M0 → inR t → inR d → kdX p = 1 ∧ (p_X3_next 1 t d M0 ∧ ∀ (x2 : Int) (M1 : Mem), inR x2 → okM M1 → c_X3_next 1 t d M0 x2 M1 → ((x2 < (0 : Int) → (((0 : Int) = 0 ∨ (0 : Int) = 1) ∧ c_X1_leadsOut p t d M0 0 M1)) ∧ (¬ x2 < (0 : Int) → (kdX p = 1 ∧ (kdX (p + 1) = 21 ∧ (0 ≤ x2 ∧ x2 < ((lnX (p + 1) : Nat) : Int)) ∧ (kdX p = 1 ∧ (kdX (p + 1) = 21 ∧ (0 ≤ t ∧ t < ((lnX (p + 1) : Nat) : Int)) ∧ (((M1 (p + 1) (x2).toNat) = (M1 (p + 1) (t).toNat) → (((0 : Int) = 0 ∨ (0 : Int) = 1) ∧ c_X1_leadsOut p t d M0 0 M1)) ∧ (¬ (M1 (p + 1) (x2).toNat) = (M1 (p + 1) (t).toNat) → (((1 : Int) = 0 ∨ (1 : Int) = 1) ∧ c_X1_leadsOut p t d M0 1 M1)))))))))))
    : OK_X1_leadsOut l D cy ad := by
  refine met_of (tb := tbX1_leadsOut) (ft := ftX1) (cst := cst0) (ct := ct_X1_leadsOut) (cuts := []) 23 (JA_X1_leadsOut ) hA jWX (by decide) tbX1_leadsOut_ok (by decide) ftX1_ok cst0_ok (ldc_of (tb := tbX1_leadsOut) (cst := cst0) (by decide)) rfl (List.forall_mem_cons.mpr ⟨si_X1_leadsOut_6 o_X3_next, fun q h => absurd h List.not_mem_nil⟩) ?_ ?_ ?_
  · intro as M0 h
    unfold P_X1_leadsOut at h
    split at h
    · exact Nat.le_of_ble_eq_true rfl
    · exact h.elim
  · intro as M0 h hM has
    unfold P_X1_leadsOut at h
    split at h
    next p t d => exact hent p t d M0 h hM (has t (by simp)) (has d (by simp))
    · exact h.elim
  · intro as M0 h hM has pc ls st M n hI hM1
    unfold P_X1_leadsOut at h
    split at h
    · exact hI.elim
    · exact h.elim
abbrev p_X1_bordersToOthers (p : Nat) (f : Int) (M : Mem) : Prop := kdX p = 1 ∧ surf M ∧ lowL p f M
abbrev c_X1_bordersToOthers (p : Nat) (f : Int) (M : Mem) (x : Int) (M' : Mem) : Prop := (∀ L, labR p M L → x = sumF (qO L (gX M) f) (nT (gX M) * 4)) ∧ M' = M
def P_X1_bordersToOthers (as : List AV) (M : Mem) : Prop := match as with
  | [.inr p, .inl f] => p_X1_bordersToOthers p f M
  | _ => False
def C_X1_bordersToOthers (as : List AV) (M : Mem) (x : Int) (M' : Mem) : Prop := match as with
  | [.inr p, .inl f] => c_X1_bordersToOthers p f M x M'
  | _ => False
abbrev rm_X1_bordersToOthers : Room := { frames := 2, cells := 0, slots := 0, locals := 45 }
abbrev OK_X1_bordersToOthers (l : Launch) (D : va_G) (cy : Nat → ClassId) (ad : Nat → Nat) : Prop := MetA l D cy ad kdX lnX 46 yX1_bordersToOthers cX1_bordersToOthers 5 (some .int) rm_X1_bordersToOthers 1 P_X1_bordersToOthers C_X1_bordersToOthers
theorem ca_X1_bordersToOthers : CalV yX1_bordersToOthers cX1_bordersToOthers 5 (some .int) 1 := ⟨⟨wcX1_bordersToOthers, wnX1, by decide +kernel, by decide +kernel, by decide +kernel⟩, wiX1_bordersToOthers, wlX1_bordersToOthers⟩
theorem rv_X1_bordersToOthers : ∀ as M, P_X1_bordersToOthers as M → ∃ a As q, as = .inr a :: As ∧ vwCl[kdX a]? = some q ∧ q.1 = yX1_bordersToOthers.cls := by
  intro as M h
  unfold P_X1_bordersToOthers at h
  split at h
  · exact ⟨_, _, (RX1, TX1, 9), rfl, by rw [h.1]; rfl, rfl⟩
  · exact h.elim
def ct_X1_bordersToOthers : List (Nat × CS) := [(9, (1, 1, P_X3_tiles, C_X3_tiles)), (38, (3, 2, P_X1_leadsOut, C_X1_leadsOut))]
def J_X1_bordersToOthers (I4 : Nat → Int → Mem → Int → Int → Mem → Nat → Prop) (I18 : Nat → Int → Mem → Int → Int → Int → Mem → Nat → Prop) (p : Nat) (f : Int) (M0 : Mem) : IT := fun pc ls st M μ => match pc, ls, st, M, μ with
  | 4, [some (.inr p_), some (.inl f_), some (.inl o), some (.inl t), _], [], M, μ => p = p_ ∧ f = f_ ∧ I4 p f M0 o t M μ
  | 18, [some (.inr p_), some (.inl f_), some (.inl o), some (.inl t), some (.inl d)], [], M, μ => p = p_ ∧ f = f_ ∧ I18 p f M0 o t d M μ
  | _, _, _, _, _ => False
def JA_X1_bordersToOthers (I4 : Nat → Int → Mem → Int → Int → Mem → Nat → Prop) (I18 : Nat → Int → Mem → Int → Int → Int → Mem → Nat → Prop) (as : List AV) (M0 : Mem) : IT := match as with
  | [.inr p, .inl f] => J_X1_bordersToOthers I4 I18 p f M0
  | _ => fun _ _ _ _ _ => False
theorem si_X1_bordersToOthers_9 {l : Launch} {D : va_G} {cy : Nat → ClassId} {ad : Nat → Nat} (o : OK_X3_tiles l D cy ad) : Site l D cy ad kdX lnX 46 yX1_bordersToOthers.cls tbX1_bordersToOthers rm_X1_bordersToOthers 9 (1, 1, P_X3_tiles, C_X3_tiles) := Or.inl ⟨46, 0, yX3_tiles, cX3_tiles, 1, (some .int), rm_X3_tiles, rfl, rfl, o, ca_X3_tiles, mkX1_46, ⟨rfl, rfl, by decide, by decide⟩, rv_X3_tiles⟩
theorem si_X1_bordersToOthers_38 {l : Launch} {D : va_G} {cy : Nat → ClassId} {ad : Nat → Nat} (o : OK_X1_leadsOut l D cy ad) : Site l D cy ad kdX lnX 46 yX1_bordersToOthers.cls tbX1_bordersToOthers rm_X1_bordersToOthers 38 (3, 2, P_X1_leadsOut, C_X1_leadsOut) := Or.inl ⟨101, 2, yX1_leadsOut, cX1_leadsOut, 4, (some .boolean), rm_X1_leadsOut, rfl, rfl, o, ca_X1_leadsOut, mkX1_101, ⟨rfl, rfl, by decide, by decide⟩, rv_X1_leadsOut⟩
set_option maxRecDepth 100000 in
set_option maxHeartbeats 4000000 in
theorem met_X1_bordersToOthers {l : Launch} {D : va_G} {cy : Nat → ClassId} {ad : Nat → Nat} (hA : jA ad 46) (o_X1_leadsOut : OK_X1_leadsOut l D cy ad) (o_X3_tiles : OK_X3_tiles l D cy ad) (I4 : Nat → Int → Mem → Int → Int → Mem → Nat → Prop) (I18 : Nat → Int → Mem → Int → Int → Int → Mem → Nat → Prop)
    (hent : ∀ (p : Nat) (f : Int) (M0 : Mem), p_X1_bordersToOthers p f M0 → okM M0 → inR f → ∃ μ : Nat, p = p ∧ f = f ∧ I4 p f M0 0 f M0 μ)
    (hc4 : ∀ (p : Nat) (f : Int) (M0 : Mem), p_X1_bordersToOthers p f M0 → okM M0 → inR f → ∀ (o : Int) (t : Int) (M : Mem) (n : Nat), I4 p f M0 o t M n → okM M → kdX p = 1 ∧ (p_X3_tiles 1 M ∧ ∀ (x2 : Int) (M1 : Mem), inR x2 → okM M1 → c_X3_tiles 1 M x2 M1 → ((x2 ≤ t → ((True) ∧ c_X1_bordersToOthers p f M0 o M1)) ∧ (¬ x2 ≤ t → (∃ μ : Nat, μ < n ∧ p = p ∧ f = f ∧ I18 p f M0 o t 0 M1 μ)))))
    (hc18 : ∀ (p : Nat) (f : Int) (M0 : Mem), p_X1_bordersToOthers p f M0 → okM M0 → inR f → ∀ (o : Int) (t : Int) (d : Int) (M : Mem) (n : Nat), I18 p f M0 o t d M n → okM M → ((4 : Int) ≤ d → (inR (t + 1) ∧ (∃ μ : Nat, μ < n ∧ p = p ∧ f = f ∧ I4 p f M0 o (t + 1) M μ))) ∧ (¬ (4 : Int) ≤ d → (kdX p = 1 ∧ (kdX (p + 1) = 21 ∧ (0 ≤ t ∧ t < ((lnX (p + 1) : Nat) : Int)) ∧ ((¬ (M (p + 1) (t).toNat) = f → (inR (d + 1) ∧ (∃ μ : Nat, μ < n ∧ p = p ∧ f = f ∧ I18 p f M0 o t (d + 1) M μ))) ∧ (¬ (¬ (M (p + 1) (t).toNat) = f) → (p_X1_leadsOut p t d M ∧ ∀ (x2 : Int) (M1 : Mem), inR x2 → okM M1 → c_X1_leadsOut p t d M x2 M1 → ((x2 = (0 : Int) → (inR (d + 1) ∧ (∃ μ : Nat, μ < n ∧ p = p ∧ f = f ∧ I18 p f M0 o t (d + 1) M1 μ))) ∧ (¬ x2 = (0 : Int) → (inR (o + 1) ∧ (inR (d + 1) ∧ (∃ μ : Nat, μ < n ∧ p = p ∧ f = f ∧ I18 p f M0 (o + 1) t (d + 1) M1 μ))))))))))))
    : OK_X1_bordersToOthers l D cy ad := by
  refine met_of (tb := tbX1_bordersToOthers) (ft := ftX1) (cst := cst0) (ct := ct_X1_bordersToOthers) (cuts := [4, 18]) 34 (JA_X1_bordersToOthers I4 I18) hA jWX (by decide) tbX1_bordersToOthers_ok (by decide) ftX1_ok cst0_ok (ldc_of (tb := tbX1_bordersToOthers) (cst := cst0) (by decide)) rfl (List.forall_mem_cons.mpr ⟨si_X1_bordersToOthers_9 o_X3_tiles, List.forall_mem_cons.mpr ⟨si_X1_bordersToOthers_38 o_X1_leadsOut, fun q h => absurd h List.not_mem_nil⟩⟩) ?_ ?_ ?_
  · intro as M0 h
    unfold P_X1_bordersToOthers at h
    split at h
    · exact Nat.le_of_ble_eq_true rfl
    · exact h.elim
  · intro as M0 h hM has
    unfold P_X1_bordersToOthers at h
    split at h
    next p f => exact hent p f M0 h hM (has f (by simp))
    · exact h.elim
  · intro as M0 h hM has pc ls st M n hI hM1
    unfold P_X1_bordersToOthers at h
    split at h
    next p f =>
      unfold JA_X1_bordersToOthers J_X1_bordersToOthers at hI
      dsimp only at hI
      split at hI
      ·
        obtain ⟨rfl, rfl, hI⟩ := hI
        exact hc4 _ _ _ h hM (has _ (by simp)) _ _ _ _ hI hM1
      ·
        obtain ⟨rfl, rfl, hI⟩ := hI
        exact hc18 _ _ _ h hM (has _ (by simp)) _ _ _ _ _ hI hM1
      · exact hI.elim
    · exact h.elim
abbrev p_X1_bordersToNothing (p : Nat) (f : Int) (M : Mem) : Prop := kdX p = 1 ∧ surf M ∧ lowL p f M
abbrev c_X1_bordersToNothing (p : Nat) (f : Int) (M : Mem) (x : Int) (M' : Mem) : Prop := (∀ L, labR p M L → x = sumF (qN L (gX M) f) (nT (gX M) * 4)) ∧ M' = M
def P_X1_bordersToNothing (as : List AV) (M : Mem) : Prop := match as with
  | [.inr p, .inl f] => p_X1_bordersToNothing p f M
  | _ => False
def C_X1_bordersToNothing (as : List AV) (M : Mem) (x : Int) (M' : Mem) : Prop := match as with
  | [.inr p, .inl f] => c_X1_bordersToNothing p f M x M'
  | _ => False
abbrev rm_X1_bordersToNothing : Room := { frames := 1, cells := 0, slots := 0, locals := 22 }
abbrev OK_X1_bordersToNothing (l : Launch) (D : va_G) (cy : Nat → ClassId) (ad : Nat → Nat) : Prop := MetA l D cy ad kdX lnX 46 yX1_bordersToNothing cX1_bordersToNothing 5 (some .int) rm_X1_bordersToNothing 1 P_X1_bordersToNothing C_X1_bordersToNothing
theorem ca_X1_bordersToNothing : CalV yX1_bordersToNothing cX1_bordersToNothing 5 (some .int) 1 := ⟨⟨wcX1_bordersToNothing, wnX1, by decide +kernel, by decide +kernel, by decide +kernel⟩, wiX1_bordersToNothing, wlX1_bordersToNothing⟩
theorem rv_X1_bordersToNothing : ∀ as M, P_X1_bordersToNothing as M → ∃ a As q, as = .inr a :: As ∧ vwCl[kdX a]? = some q ∧ q.1 = yX1_bordersToNothing.cls := by
  intro as M h
  unfold P_X1_bordersToNothing at h
  split at h
  · exact ⟨_, _, (RX1, TX1, 9), rfl, by rw [h.1]; rfl, rfl⟩
  · exact h.elim
def ct_X1_bordersToNothing : List (Nat × CS) := [(9, (1, 1, P_X3_tiles, C_X3_tiles)), (41, (3, 1, P_X3_next, C_X3_next))]
def J_X1_bordersToNothing (I4 : Nat → Int → Mem → Int → Int → Mem → Nat → Prop) (I18 : Nat → Int → Mem → Int → Int → Int → Mem → Nat → Prop) (p : Nat) (f : Int) (M0 : Mem) : IT := fun pc ls st M μ => match pc, ls, st, M, μ with
  | 4, [some (.inr p_), some (.inl f_), some (.inl o), some (.inl t), _], [], M, μ => p = p_ ∧ f = f_ ∧ I4 p f M0 o t M μ
  | 18, [some (.inr p_), some (.inl f_), some (.inl o), some (.inl t), some (.inl d)], [], M, μ => p = p_ ∧ f = f_ ∧ I18 p f M0 o t d M μ
  | _, _, _, _, _ => False
def JA_X1_bordersToNothing (I4 : Nat → Int → Mem → Int → Int → Mem → Nat → Prop) (I18 : Nat → Int → Mem → Int → Int → Int → Mem → Nat → Prop) (as : List AV) (M0 : Mem) : IT := match as with
  | [.inr p, .inl f] => J_X1_bordersToNothing I4 I18 p f M0
  | _ => fun _ _ _ _ _ => False
theorem si_X1_bordersToNothing_9 {l : Launch} {D : va_G} {cy : Nat → ClassId} {ad : Nat → Nat} (o : OK_X3_tiles l D cy ad) : Site l D cy ad kdX lnX 46 yX1_bordersToNothing.cls tbX1_bordersToNothing rm_X1_bordersToNothing 9 (1, 1, P_X3_tiles, C_X3_tiles) := Or.inl ⟨46, 0, yX3_tiles, cX3_tiles, 1, (some .int), rm_X3_tiles, rfl, rfl, o, ca_X3_tiles, mkX1_46, ⟨rfl, rfl, by decide, by decide⟩, rv_X3_tiles⟩
theorem si_X1_bordersToNothing_41 {l : Launch} {D : va_G} {cy : Nat → ClassId} {ad : Nat → Nat} (o : OK_X3_next l D cy ad) : Site l D cy ad kdX lnX 46 yX1_bordersToNothing.cls tbX1_bordersToNothing rm_X1_bordersToNothing 41 (3, 1, P_X3_next, C_X3_next) := Or.inl ⟨75, 2, yX3_next, cX3_next, 3, (some .int), rm_X3_next, rfl, rfl, o, ca_X3_next, mkX1_75, ⟨rfl, rfl, by decide, by decide⟩, rv_X3_next⟩
set_option maxRecDepth 100000 in
set_option maxHeartbeats 4000000 in
theorem met_X1_bordersToNothing {l : Launch} {D : va_G} {cy : Nat → ClassId} {ad : Nat → Nat} (hA : jA ad 46) (o_X3_next : OK_X3_next l D cy ad) (o_X3_tiles : OK_X3_tiles l D cy ad) (I4 : Nat → Int → Mem → Int → Int → Mem → Nat → Prop) (I18 : Nat → Int → Mem → Int → Int → Int → Mem → Nat → Prop)
    (hent : ∀ (p : Nat) (f : Int) (M0 : Mem), p_X1_bordersToNothing p f M0 → okM M0 → inR f → ∃ μ : Nat, p = p ∧ f = f ∧ I4 p f M0 0 f M0 μ)
    (hc4 : ∀ (p : Nat) (f : Int) (M0 : Mem), p_X1_bordersToNothing p f M0 → okM M0 → inR f → ∀ (o : Int) (t : Int) (M : Mem) (n : Nat), I4 p f M0 o t M n → okM M → kdX p = 1 ∧ (p_X3_tiles 1 M ∧ ∀ (x2 : Int) (M1 : Mem), inR x2 → okM M1 → c_X3_tiles 1 M x2 M1 → ((x2 ≤ t → ((True) ∧ c_X1_bordersToNothing p f M0 o M1)) ∧ (¬ x2 ≤ t → (∃ μ : Nat, μ < n ∧ p = p ∧ f = f ∧ I18 p f M0 o t 0 M1 μ)))))
    (hc18 : ∀ (p : Nat) (f : Int) (M0 : Mem), p_X1_bordersToNothing p f M0 → okM M0 → inR f → ∀ (o : Int) (t : Int) (d : Int) (M : Mem) (n : Nat), I18 p f M0 o t d M n → okM M → ((4 : Int) ≤ d → (inR (t + 1) ∧ (∃ μ : Nat, μ < n ∧ p = p ∧ f = f ∧ I4 p f M0 o (t + 1) M μ))) ∧ (¬ (4 : Int) ≤ d → (kdX p = 1 ∧ (kdX (p + 1) = 21 ∧ (0 ≤ t ∧ t < ((lnX (p + 1) : Nat) : Int)) ∧ ((¬ (M (p + 1) (t).toNat) = f → (inR (d + 1) ∧ (∃ μ : Nat, μ < n ∧ p = p ∧ f = f ∧ I18 p f M0 o t (d + 1) M μ))) ∧ (¬ (¬ (M (p + 1) (t).toNat) = f) → (kdX p = 1 ∧ (p_X3_next 1 t d M ∧ ∀ (x2 : Int) (M1 : Mem), inR x2 → okM M1 → c_X3_next 1 t d M x2 M1 → ((¬ x2 = (-5 : Int) → (inR (d + 1) ∧ (∃ μ : Nat, μ < n ∧ p = p ∧ f = f ∧ I18 p f M0 o t (d + 1) M1 μ))) ∧ (¬ (¬ x2 = (-5 : Int)) → (inR (o + 1) ∧ (inR (d + 1) ∧ (∃ μ : Nat, μ < n ∧ p = p ∧ f = f ∧ I18 p f M0 (o + 1) t (d + 1) M1 μ)))))))))))))
    : OK_X1_bordersToNothing l D cy ad := by
  refine met_of (tb := tbX1_bordersToNothing) (ft := ftX1) (cst := cst0) (ct := ct_X1_bordersToNothing) (cuts := [4, 18]) 36 (JA_X1_bordersToNothing I4 I18) hA jWX (by decide) tbX1_bordersToNothing_ok (by decide) ftX1_ok cst0_ok (ldc_of (tb := tbX1_bordersToNothing) (cst := cst0) (by decide)) rfl (List.forall_mem_cons.mpr ⟨si_X1_bordersToNothing_9 o_X3_tiles, List.forall_mem_cons.mpr ⟨si_X1_bordersToNothing_41 o_X3_next, fun q h => absurd h List.not_mem_nil⟩⟩) ?_ ?_ ?_
  · intro as M0 h
    unfold P_X1_bordersToNothing at h
    split at h
    · exact Nat.le_of_ble_eq_true rfl
    · exact h.elim
  · intro as M0 h hM has
    unfold P_X1_bordersToNothing at h
    split at h
    next p f => exact hent p f M0 h hM (has f (by simp))
    · exact h.elim
  · intro as M0 h hM has pc ls st M n hI hM1
    unfold P_X1_bordersToNothing at h
    split at h
    next p f =>
      unfold JA_X1_bordersToNothing J_X1_bordersToNothing at hI
      dsimp only at hI
      split at hI
      ·
        obtain ⟨rfl, rfl, hI⟩ := hI
        exact hc4 _ _ _ h hM (has _ (by simp)) _ _ _ _ hI hM1
      ·
        obtain ⟨rfl, rfl, hI⟩ := hI
        exact hc18 _ _ _ h hM (has _ (by simp)) _ _ _ _ _ hI hM1
      · exact hI.elim
    · exact h.elim
abbrev p_X1_loopOver (p : Nat) (t : Int) (d : Int) (M : Mem) : Prop := kdX p = 1 ∧ surf M ∧ (0 ≤ t ∧ t < nT (gX M)) ∧ 0 ≤ d ∧ d < 4
abbrev c_X1_loopOver (p : Nat) (t : Int) (d : Int) (M : Mem) (x : Int) (M' : Mem) : Prop := x = (if 0 ≤ nx (gX M) t d ∧ M (p + 1) (nx (gX M) t d).toNat = M (p + 1) t.toNat then bXor (bXor (M (p + 4) t.toNat) (cx (gX M) t d)) (M (p + 4) (nx (gX M) t d).toNat) else 0) ∧ M' = M
def P_X1_loopOver (as : List AV) (M : Mem) : Prop := match as with
  | [.inr p, .inl t, .inl d] => p_X1_loopOver p t d M
  | _ => False
def C_X1_loopOver (as : List AV) (M : Mem) (x : Int) (M' : Mem) : Prop := match as with
  | [.inr p, .inl t, .inl d] => c_X1_loopOver p t d M x M'
  | _ => False
abbrev rm_X1_loopOver : Room := { frames := 1, cells := 0, slots := 0, locals := 22 }
abbrev OK_X1_loopOver (l : Launch) (D : va_G) (cy : Nat → ClassId) (ad : Nat → Nat) : Prop := MetA l D cy ad kdX lnX 46 yX1_loopOver cX1_loopOver 4 (some .int) rm_X1_loopOver 1 P_X1_loopOver C_X1_loopOver
theorem ca_X1_loopOver : CalV yX1_loopOver cX1_loopOver 4 (some .int) 2 := ⟨⟨wcX1_loopOver, wnX1, by decide +kernel, by decide +kernel, by decide +kernel⟩, wiX1_loopOver, wlX1_loopOver⟩
theorem rv_X1_loopOver : ∀ as M, P_X1_loopOver as M → ∃ a As q, as = .inr a :: As ∧ vwCl[kdX a]? = some q ∧ q.1 = yX1_loopOver.cls := by
  intro as M h
  unfold P_X1_loopOver at h
  split at h
  · exact ⟨_, _, (RX1, TX1, 9), rfl, by rw [h.1]; rfl, rfl⟩
  · exact h.elim
def ct_X1_loopOver : List (Nat × CS) := [(6, (3, 1, P_X3_next, C_X3_next)), (43, (3, 1, P_X3_crossing, C_X3_crossing))]
def J_X1_loopOver  (p : Nat) (t : Int) (d : Int) (M0 : Mem) : IT := fun pc ls st M μ => match pc, ls, st, M, μ with
  | _, _, _, _, _ => False
def JA_X1_loopOver  (as : List AV) (M0 : Mem) : IT := match as with
  | [.inr p, .inl t, .inl d] => J_X1_loopOver  p t d M0
  | _ => fun _ _ _ _ _ => False
theorem si_X1_loopOver_6 {l : Launch} {D : va_G} {cy : Nat → ClassId} {ad : Nat → Nat} (o : OK_X3_next l D cy ad) : Site l D cy ad kdX lnX 46 yX1_loopOver.cls tbX1_loopOver rm_X1_loopOver 6 (3, 1, P_X3_next, C_X3_next) := Or.inl ⟨75, 2, yX3_next, cX3_next, 3, (some .int), rm_X3_next, rfl, rfl, o, ca_X3_next, mkX1_75, ⟨rfl, rfl, by decide, by decide⟩, rv_X3_next⟩
theorem si_X1_loopOver_43 {l : Launch} {D : va_G} {cy : Nat → ClassId} {ad : Nat → Nat} (o : OK_X3_crossing l D cy ad) : Site l D cy ad kdX lnX 46 yX1_loopOver.cls tbX1_loopOver rm_X1_loopOver 43 (3, 1, P_X3_crossing, C_X3_crossing) := Or.inl ⟨79, 2, yX3_crossing, cX3_crossing, 3, (some .int), rm_X3_crossing, rfl, rfl, o, ca_X3_crossing, mkX1_79, ⟨rfl, rfl, by decide, by decide⟩, rv_X3_crossing⟩
set_option maxRecDepth 100000 in
set_option maxHeartbeats 4000000 in
theorem met_X1_loopOver {l : Launch} {D : va_G} {cy : Nat → ClassId} {ad : Nat → Nat} (hA : jA ad 46) (o_X3_crossing : OK_X3_crossing l D cy ad) (o_X3_next : OK_X3_next l D cy ad) 
    (hent : ∀ (p : Nat) (t : Int) (d : Int) (M0 : Mem), p_X1_loopOver p t d M0 → okM M0 → inR t → inR d → kdX p = 1 ∧ (p_X3_next 1 t d M0 ∧ ∀ (x2 : Int) (M1 : Mem), inR x2 → okM M1 → c_X3_next 1 t d M0 x2 M1 → ((x2 < (0 : Int) → ((True) ∧ c_X1_loopOver p t d M0 0 M1)) ∧ (¬ x2 < (0 : Int) → (kdX p = 1 ∧ (kdX (p + 1) = 21 ∧ (0 ≤ x2 ∧ x2 < ((lnX (p + 1) : Nat) : Int)) ∧ (kdX p = 1 ∧ (kdX (p + 1) = 21 ∧ (0 ≤ t ∧ t < ((lnX (p + 1) : Nat) : Int)) ∧ (((M1 (p + 1) (x2).toNat) = (M1 (p + 1) (t).toNat) → (kdX p = 1 ∧ (kdX (p + 4) = 21 ∧ (0 ≤ t ∧ t < ((lnX (p + 4) : Nat) : Int)) ∧ (kdX p = 1 ∧ (p_X3_crossing 1 t d M1 ∧ ∀ (x4 : Int) (M3 : Mem), inR x4 → okM M3 → c_X3_crossing 1 t d M1 x4 M3 → (kdX p = 1 ∧ (kdX (p + 4) = 21 ∧ (0 ≤ x2 ∧ x2 < ((lnX (p + 4) : Nat) : Int)) ∧ ((True) ∧ c_X1_loopOver p t d M0 (bXor (bXor (M1 (p + 4) (t).toNat) x4) (M3 (p + 4) (x2).toNat)) M3)))))))) ∧ (¬ (M1 (p + 1) (x2).toNat) = (M1 (p + 1) (t).toNat) → ((True) ∧ c_X1_loopOver p t d M0 0 M1)))))))))))
    : OK_X1_loopOver l D cy ad := by
  refine met_of (tb := tbX1_loopOver) (ft := ftX1) (cst := cst0) (ct := ct_X1_loopOver) (cuts := []) 37 (JA_X1_loopOver ) hA jWX (by decide) tbX1_loopOver_ok (by decide) ftX1_ok cst0_ok (ldc_of (tb := tbX1_loopOver) (cst := cst0) (by decide)) rfl (List.forall_mem_cons.mpr ⟨si_X1_loopOver_6 o_X3_next, List.forall_mem_cons.mpr ⟨si_X1_loopOver_43 o_X3_crossing, fun q h => absurd h List.not_mem_nil⟩⟩) ?_ ?_ ?_
  · intro as M0 h
    unfold P_X1_loopOver at h
    split at h
    · exact Nat.le_of_ble_eq_true rfl
    · exact h.elim
  · intro as M0 h hM has
    unfold P_X1_loopOver at h
    split at h
    next p t d => exact hent p t d M0 h hM (has t (by simp)) (has d (by simp))
    · exact h.elim
  · intro as M0 h hM has pc ls st M n hI hM1
    unfold P_X1_loopOver at h
    split at h
    · exact hI.elim
    · exact h.elim
abbrev p_X1_withLoop (s : Int) (c : Int) (M : Mem) : Prop := (0 ≤ s ∧ s < 16) ∧ 0 ≤ c ∧ c < 4
abbrev c_X1_withLoop (s : Int) (c : Int) (M : Mem) (x : Int) (M' : Mem) : Prop := x = wlN s c 4 ∧ M' = M
def P_X1_withLoop (as : List AV) (M : Mem) : Prop := match as with
  | [.inl s, .inl c] => p_X1_withLoop s c M
  | _ => False
def C_X1_withLoop (as : List AV) (M : Mem) (x : Int) (M' : Mem) : Prop := match as with
  | [.inl s, .inl c] => c_X1_withLoop s c M x M'
  | _ => False
abbrev rm_X1_withLoop : Room := { frames := 0, cells := 0, slots := 0, locals := 0 }
abbrev OK_X1_withLoop (l : Launch) (D : va_G) (cy : Nat → ClassId) (ad : Nat → Nat) : Prop := MetA l D cy ad kdX lnX 46 yX1_withLoop cX1_withLoop 4 (some .int) rm_X1_withLoop 1 P_X1_withLoop C_X1_withLoop
theorem ca_X1_withLoop : CalS yX1_withLoop cX1_withLoop 4 (some .int) 2 := ⟨⟨wcX1_withLoop, wnX1, by decide +kernel, by decide +kernel, by decide +kernel⟩, wsX1_withLoop⟩
def ct_X1_withLoop : List (Nat × CS) := []
def J_X1_withLoop (I4 : Int → Int → Mem → Int → Int → Mem → Nat → Prop) (s : Int) (c : Int) (M0 : Mem) : IT := fun pc ls st M μ => match pc, ls, st, M, μ with
  | 4, [some (.inl s_), some (.inl c_), some (.inl o), some (.inl j)], [], M, μ => s = s_ ∧ c = c_ ∧ I4 s c M0 o j M μ
  | _, _, _, _, _ => False
def JA_X1_withLoop (I4 : Int → Int → Mem → Int → Int → Mem → Nat → Prop) (as : List AV) (M0 : Mem) : IT := match as with
  | [.inl s, .inl c] => J_X1_withLoop I4 s c M0
  | _ => fun _ _ _ _ _ => False
set_option maxRecDepth 100000 in
set_option maxHeartbeats 4000000 in
theorem met_X1_withLoop {l : Launch} {D : va_G} {cy : Nat → ClassId} {ad : Nat → Nat} (hA : jA ad 46)  (I4 : Int → Int → Mem → Int → Int → Mem → Nat → Prop)
    (hent : ∀ (s : Int) (c : Int) (M0 : Mem), p_X1_withLoop s c M0 → okM M0 → inR s → inR c → ∃ μ : Nat, s = s ∧ c = c ∧ I4 s c M0 s 0 M0 μ)
    (hc4 : ∀ (s : Int) (c : Int) (M0 : Mem), p_X1_withLoop s c M0 → okM M0 → inR s → inR c → ∀ (o : Int) (j : Int) (M : Mem) (n : Nat), I4 s c M0 o j M n → okM M → ((4 : Int) ≤ j → ((True) ∧ c_X1_withLoop s c M0 o M)) ∧ (¬ (4 : Int) ≤ j → ((¬ (bAnd (bShr s j) 1) = (1 : Int) → (inR (j + 1) ∧ (∃ μ : Nat, μ < n ∧ s = s ∧ c = c ∧ I4 s c M0 o (j + 1) M μ))) ∧ (¬ (¬ (bAnd (bShr s j) 1) = (1 : Int)) → (inR (j + 1) ∧ (∃ μ : Nat, μ < n ∧ s = s ∧ c = c ∧ I4 s c M0 (bOr o (bShl 1 (bXor j c))) (j + 1) M μ))))))
    : OK_X1_withLoop l D cy ad := by
  refine met_of (tb := tbX1_withLoop) (ft := ftX1) (cst := cst0) (ct := ct_X1_withLoop) (cuts := [4]) 28 (JA_X1_withLoop I4) hA jWX (by decide) tbX1_withLoop_ok (by decide) ftX1_ok cst0_ok (ldc_of (tb := tbX1_withLoop) (cst := cst0) (by decide)) rfl (fun q h => absurd h List.not_mem_nil) ?_ ?_ ?_
  · intro as M0 h
    unfold P_X1_withLoop at h
    split at h
    · exact Nat.le_of_ble_eq_true rfl
    · exact h.elim
  · intro as M0 h hM has
    unfold P_X1_withLoop at h
    split at h
    next s c => exact hent s c M0 h hM (has s (by simp)) (has c (by simp))
    · exact h.elim
  · intro as M0 h hM has pc ls st M n hI hM1
    unfold P_X1_withLoop at h
    split at h
    next s c =>
      unfold JA_X1_withLoop J_X1_withLoop at hI
      dsimp only at hI
      split at hI
      ·
        obtain ⟨rfl, rfl, hI⟩ := hI
        exact hc4 _ _ _ h hM (has _ (by simp)) (has _ (by simp)) _ _ _ _ hI hM1
      · exact hI.elim
    · exact h.elim
abbrev p_X1_loops (p : Nat) (f : Int) (M : Mem) : Prop := kdX p = 1 ∧ surf M ∧ lowL p f M ∧ ∃ C, crsR p M C
abbrev c_X1_loops (p : Nat) (f : Int) (M : Mem) (x : Int) (M' : Mem) : Prop := (∀ L C, labR p M L → crsR p M C → x = lpF L C (gX M) f (nT (gX M) * 4)) ∧ M' = M
def P_X1_loops (as : List AV) (M : Mem) : Prop := match as with
  | [.inr p, .inl f] => p_X1_loops p f M
  | _ => False
def C_X1_loops (as : List AV) (M : Mem) (x : Int) (M' : Mem) : Prop := match as with
  | [.inr p, .inl f] => c_X1_loops p f M x M'
  | _ => False
abbrev rm_X1_loops : Room := { frames := 2, cells := 0, slots := 0, locals := 45 }
abbrev OK_X1_loops (l : Launch) (D : va_G) (cy : Nat → ClassId) (ad : Nat → Nat) : Prop := MetA l D cy ad kdX lnX 46 yX1_loops cX1_loops 5 (some .int) rm_X1_loops 1 P_X1_loops C_X1_loops
theorem ca_X1_loops : CalV yX1_loops cX1_loops 5 (some .int) 1 := ⟨⟨wcX1_loops, wnX1, by decide +kernel, by decide +kernel, by decide +kernel⟩, wiX1_loops, wlX1_loops⟩
theorem rv_X1_loops : ∀ as M, P_X1_loops as M → ∃ a As q, as = .inr a :: As ∧ vwCl[kdX a]? = some q ∧ q.1 = yX1_loops.cls := by
  intro as M h
  unfold P_X1_loops at h
  split at h
  · exact ⟨_, _, (RX1, TX1, 9), rfl, by rw [h.1]; rfl, rfl⟩
  · exact h.elim
def ct_X1_loops : List (Nat × CS) := [(9, (1, 1, P_X3_tiles, C_X3_tiles)), (39, (3, 1, P_X1_loopOver, C_X1_loopOver)), (44, (2, 1, P_X1_withLoop, C_X1_withLoop))]
def J_X1_loops (I4 : Nat → Int → Mem → Int → Int → Mem → Nat → Prop) (I18 : Nat → Int → Mem → Int → Int → Int → Mem → Nat → Prop) (p : Nat) (f : Int) (M0 : Mem) : IT := fun pc ls st M μ => match pc, ls, st, M, μ with
  | 4, [some (.inr p_), some (.inl f_), some (.inl o), some (.inl t), _], [], M, μ => p = p_ ∧ f = f_ ∧ I4 p f M0 o t M μ
  | 18, [some (.inr p_), some (.inl f_), some (.inl o), some (.inl t), some (.inl d)], [], M, μ => p = p_ ∧ f = f_ ∧ I18 p f M0 o t d M μ
  | _, _, _, _, _ => False
def JA_X1_loops (I4 : Nat → Int → Mem → Int → Int → Mem → Nat → Prop) (I18 : Nat → Int → Mem → Int → Int → Int → Mem → Nat → Prop) (as : List AV) (M0 : Mem) : IT := match as with
  | [.inr p, .inl f] => J_X1_loops I4 I18 p f M0
  | _ => fun _ _ _ _ _ => False
theorem si_X1_loops_9 {l : Launch} {D : va_G} {cy : Nat → ClassId} {ad : Nat → Nat} (o : OK_X3_tiles l D cy ad) : Site l D cy ad kdX lnX 46 yX1_loops.cls tbX1_loops rm_X1_loops 9 (1, 1, P_X3_tiles, C_X3_tiles) := Or.inl ⟨46, 0, yX3_tiles, cX3_tiles, 1, (some .int), rm_X3_tiles, rfl, rfl, o, ca_X3_tiles, mkX1_46, ⟨rfl, rfl, by decide, by decide⟩, rv_X3_tiles⟩
theorem si_X1_loops_39 {l : Launch} {D : va_G} {cy : Nat → ClassId} {ad : Nat → Nat} (o : OK_X1_loopOver l D cy ad) : Site l D cy ad kdX lnX 46 yX1_loops.cls tbX1_loops rm_X1_loops 39 (3, 1, P_X1_loopOver, C_X1_loopOver) := Or.inl ⟨105, 2, yX1_loopOver, cX1_loopOver, 4, (some .int), rm_X1_loopOver, rfl, rfl, o, ca_X1_loopOver, mkX1_105, ⟨rfl, rfl, by decide, by decide⟩, rv_X1_loopOver⟩
theorem si_X1_loops_44 {l : Launch} {D : va_G} {cy : Nat → ClassId} {ad : Nat → Nat} (o : OK_X1_withLoop l D cy ad) : Site l D cy ad kdX lnX 46 yX1_loops.cls tbX1_loops rm_X1_loops 44 (2, 1, P_X1_withLoop, C_X1_withLoop) := Or.inr (Or.inl ⟨108, 2, yX1_withLoop, cX1_withLoop, 4, (some .int), rm_X1_withLoop, rfl, rfl, o, ca_X1_withLoop, mkX1_108, rfl, ⟨rfl, rfl, by decide, by decide⟩⟩)
set_option maxRecDepth 100000 in
set_option maxHeartbeats 4000000 in
theorem met_X1_loops {l : Launch} {D : va_G} {cy : Nat → ClassId} {ad : Nat → Nat} (hA : jA ad 46) (o_X1_loopOver : OK_X1_loopOver l D cy ad) (o_X1_withLoop : OK_X1_withLoop l D cy ad) (o_X3_tiles : OK_X3_tiles l D cy ad) (I4 : Nat → Int → Mem → Int → Int → Mem → Nat → Prop) (I18 : Nat → Int → Mem → Int → Int → Int → Mem → Nat → Prop)
    (hent : ∀ (p : Nat) (f : Int) (M0 : Mem), p_X1_loops p f M0 → okM M0 → inR f → ∃ μ : Nat, p = p ∧ f = f ∧ I4 p f M0 1 f M0 μ)
    (hc4 : ∀ (p : Nat) (f : Int) (M0 : Mem), p_X1_loops p f M0 → okM M0 → inR f → ∀ (o : Int) (t : Int) (M : Mem) (n : Nat), I4 p f M0 o t M n → okM M → kdX p = 1 ∧ (p_X3_tiles 1 M ∧ ∀ (x2 : Int) (M1 : Mem), inR x2 → okM M1 → c_X3_tiles 1 M x2 M1 → ((x2 ≤ t → ((True) ∧ c_X1_loops p f M0 o M1)) ∧ (¬ x2 ≤ t → (∃ μ : Nat, μ < n ∧ p = p ∧ f = f ∧ I18 p f M0 o t 0 M1 μ)))))
    (hc18 : ∀ (p : Nat) (f : Int) (M0 : Mem), p_X1_loops p f M0 → okM M0 → inR f → ∀ (o : Int) (t : Int) (d : Int) (M : Mem) (n : Nat), I18 p f M0 o t d M n → okM M → ((4 : Int) ≤ d → (inR (t + 1) ∧ (∃ μ : Nat, μ < n ∧ p = p ∧ f = f ∧ I4 p f M0 o (t + 1) M μ))) ∧ (¬ (4 : Int) ≤ d → (kdX p = 1 ∧ (kdX (p + 1) = 21 ∧ (0 ≤ t ∧ t < ((lnX (p + 1) : Nat) : Int)) ∧ ((¬ (M (p + 1) (t).toNat) = f → (inR (d + 1) ∧ (∃ μ : Nat, μ < n ∧ p = p ∧ f = f ∧ I18 p f M0 o t (d + 1) M μ))) ∧ (¬ (¬ (M (p + 1) (t).toNat) = f) → (p_X1_loopOver p t d M ∧ ∀ (x2 : Int) (M1 : Mem), inR x2 → okM M1 → c_X1_loopOver p t d M x2 M1 → (p_X1_withLoop o (bAnd x2 3) M1 ∧ ∀ (x4 : Int) (M3 : Mem), inR x4 → okM M3 → c_X1_withLoop o (bAnd x2 3) M1 x4 M3 → (inR (d + 1) ∧ (∃ μ : Nat, μ < n ∧ p = p ∧ f = f ∧ I18 p f M0 x4 t (d + 1) M3 μ))))))))))
    : OK_X1_loops l D cy ad := by
  refine met_of (tb := tbX1_loops) (ft := ftX1) (cst := cst0) (ct := ct_X1_loops) (cuts := [4, 18]) 37 (JA_X1_loops I4 I18) hA jWX (by decide) tbX1_loops_ok (by decide) ftX1_ok cst0_ok (ldc_of (tb := tbX1_loops) (cst := cst0) (by decide)) rfl (List.forall_mem_cons.mpr ⟨si_X1_loops_9 o_X3_tiles, List.forall_mem_cons.mpr ⟨si_X1_loops_39 o_X1_loopOver, List.forall_mem_cons.mpr ⟨si_X1_loops_44 o_X1_withLoop, fun q h => absurd h List.not_mem_nil⟩⟩⟩) ?_ ?_ ?_
  · intro as M0 h
    unfold P_X1_loops at h
    split at h
    · exact Nat.le_of_ble_eq_true rfl
    · exact h.elim
  · intro as M0 h hM has
    unfold P_X1_loops at h
    split at h
    next p f => exact hent p f M0 h hM (has f (by simp))
    · exact h.elim
  · intro as M0 h hM has pc ls st M n hI hM1
    unfold P_X1_loops at h
    split at h
    next p f =>
      unfold JA_X1_loops J_X1_loops at hI
      dsimp only at hI
      split at hI
      ·
        obtain ⟨rfl, rfl, hI⟩ := hI
        exact hc4 _ _ _ h hM (has _ (by simp)) _ _ _ _ hI hM1
      ·
        obtain ⟨rfl, rfl, hI⟩ := hI
        exact hc18 _ _ _ h hM (has _ (by simp)) _ _ _ _ _ hI hM1
      · exact hI.elim
    · exact h.elim
abbrev p_X1_isOneSided (p : Nat) (f : Int) (M : Mem) : Prop := kdX p = 1 ∧ surf M ∧ lowL p f M ∧ ∃ C, crsR p M C
abbrev c_X1_isOneSided (p : Nat) (f : Int) (M : Mem) (x : Int) (M' : Mem) : Prop := (∀ L C, labR p M L → crsR p M C → (x = 1 ↔ ∃ k : Nat, k < nT (gX M) * 4 ∧ L (k / 4) = f ∧ odd (gX M) (lcl L C (gX M) k) = true)) ∧ (x = 0 ∨ x = 1) ∧ M' = M
def P_X1_isOneSided (as : List AV) (M : Mem) : Prop := match as with
  | [.inr p, .inl f] => p_X1_isOneSided p f M
  | _ => False
def C_X1_isOneSided (as : List AV) (M : Mem) (x : Int) (M' : Mem) : Prop := match as with
  | [.inr p, .inl f] => c_X1_isOneSided p f M x M'
  | _ => False
abbrev rm_X1_isOneSided : Room := { frames := 2, cells := 0, slots := 0, locals := 45 }
abbrev OK_X1_isOneSided (l : Launch) (D : va_G) (cy : Nat → ClassId) (ad : Nat → Nat) : Prop := MetA l D cy ad kdX lnX 46 yX1_isOneSided cX1_isOneSided 4 (some .boolean) rm_X1_isOneSided 2 P_X1_isOneSided C_X1_isOneSided
theorem ca_X1_isOneSided : CalV yX1_isOneSided cX1_isOneSided 4 (some .boolean) 1 := ⟨⟨wcX1_isOneSided, wnX1, by decide +kernel, by decide +kernel, by decide +kernel⟩, wiX1_isOneSided, wlX1_isOneSided⟩
theorem rv_X1_isOneSided : ∀ as M, P_X1_isOneSided as M → ∃ a As q, as = .inr a :: As ∧ vwCl[kdX a]? = some q ∧ q.1 = yX1_isOneSided.cls := by
  intro as M h
  unfold P_X1_isOneSided at h
  split at h
  · exact ⟨_, _, (RX1, TX1, 9), rfl, by rw [h.1]; rfl, rfl⟩
  · exact h.elim
def ct_X1_isOneSided : List (Nat × CS) := [(7, (1, 1, P_X3_tiles, C_X3_tiles)), (33, (3, 1, P_X1_loopOver, C_X1_loopOver))]
def J_X1_isOneSided (I2 : Nat → Int → Mem → Int → Mem → Nat → Prop) (I15 : Nat → Int → Mem → Int → Int → Mem → Nat → Prop) (p : Nat) (f : Int) (M0 : Mem) : IT := fun pc ls st M μ => match pc, ls, st, M, μ with
  | 2, [some (.inr p_), some (.inl f_), some (.inl t), _], [], M, μ => p = p_ ∧ f = f_ ∧ I2 p f M0 t M μ
  | 15, [some (.inr p_), some (.inl f_), some (.inl t), some (.inl d)], [], M, μ => p = p_ ∧ f = f_ ∧ I15 p f M0 t d M μ
  | _, _, _, _, _ => False
def JA_X1_isOneSided (I2 : Nat → Int → Mem → Int → Mem → Nat → Prop) (I15 : Nat → Int → Mem → Int → Int → Mem → Nat → Prop) (as : List AV) (M0 : Mem) : IT := match as with
  | [.inr p, .inl f] => J_X1_isOneSided I2 I15 p f M0
  | _ => fun _ _ _ _ _ => False
theorem si_X1_isOneSided_7 {l : Launch} {D : va_G} {cy : Nat → ClassId} {ad : Nat → Nat} (o : OK_X3_tiles l D cy ad) : Site l D cy ad kdX lnX 46 yX1_isOneSided.cls tbX1_isOneSided rm_X1_isOneSided 7 (1, 1, P_X3_tiles, C_X3_tiles) := Or.inl ⟨46, 0, yX3_tiles, cX3_tiles, 1, (some .int), rm_X3_tiles, rfl, rfl, o, ca_X3_tiles, mkX1_46, ⟨rfl, rfl, by decide, by decide⟩, rv_X3_tiles⟩
theorem si_X1_isOneSided_33 {l : Launch} {D : va_G} {cy : Nat → ClassId} {ad : Nat → Nat} (o : OK_X1_loopOver l D cy ad) : Site l D cy ad kdX lnX 46 yX1_isOneSided.cls tbX1_isOneSided rm_X1_isOneSided 33 (3, 1, P_X1_loopOver, C_X1_loopOver) := Or.inl ⟨105, 2, yX1_loopOver, cX1_loopOver, 4, (some .int), rm_X1_loopOver, rfl, rfl, o, ca_X1_loopOver, mkX1_105, ⟨rfl, rfl, by decide, by decide⟩, rv_X1_loopOver⟩
set_option maxRecDepth 100000 in
set_option maxHeartbeats 4000000 in
theorem met_X1_isOneSided {l : Launch} {D : va_G} {cy : Nat → ClassId} {ad : Nat → Nat} (hA : jA ad 46) (o_X1_loopOver : OK_X1_loopOver l D cy ad) (o_X3_tiles : OK_X3_tiles l D cy ad) (I2 : Nat → Int → Mem → Int → Mem → Nat → Prop) (I15 : Nat → Int → Mem → Int → Int → Mem → Nat → Prop)
    (hent : ∀ (p : Nat) (f : Int) (M0 : Mem), p_X1_isOneSided p f M0 → okM M0 → inR f → ∃ μ : Nat, p = p ∧ f = f ∧ I2 p f M0 f M0 μ)
    (hc2 : ∀ (p : Nat) (f : Int) (M0 : Mem), p_X1_isOneSided p f M0 → okM M0 → inR f → ∀ (t : Int) (M : Mem) (n : Nat), I2 p f M0 t M n → okM M → kdX p = 1 ∧ (p_X3_tiles 1 M ∧ ∀ (x2 : Int) (M1 : Mem), inR x2 → okM M1 → c_X3_tiles 1 M x2 M1 → ((x2 ≤ t → (((0 : Int) = 0 ∨ (0 : Int) = 1) ∧ c_X1_isOneSided p f M0 0 M1)) ∧ (¬ x2 ≤ t → (∃ μ : Nat, μ < n ∧ p = p ∧ f = f ∧ I15 p f M0 t 0 M1 μ)))))
    (hc15 : ∀ (p : Nat) (f : Int) (M0 : Mem), p_X1_isOneSided p f M0 → okM M0 → inR f → ∀ (t : Int) (d : Int) (M : Mem) (n : Nat), I15 p f M0 t d M n → okM M → ((4 : Int) ≤ d → (inR (t + 1) ∧ (∃ μ : Nat, μ < n ∧ p = p ∧ f = f ∧ I2 p f M0 (t + 1) M μ))) ∧ (¬ (4 : Int) ≤ d → (kdX p = 1 ∧ (kdX (p + 1) = 21 ∧ (0 ≤ t ∧ t < ((lnX (p + 1) : Nat) : Int)) ∧ ((¬ (M (p + 1) (t).toNat) = f → (inR (d + 1) ∧ (∃ μ : Nat, μ < n ∧ p = p ∧ f = f ∧ I15 p f M0 t (d + 1) M μ))) ∧ (¬ (¬ (M (p + 1) (t).toNat) = f) → (p_X1_loopOver p t d M ∧ ∀ (x2 : Int) (M1 : Mem), inR x2 → okM M1 → c_X1_loopOver p t d M x2 M1 → (((bAnd x2 4) = (0 : Int) → (inR (d + 1) ∧ (∃ μ : Nat, μ < n ∧ p = p ∧ f = f ∧ I15 p f M0 t (d + 1) M1 μ))) ∧ (¬ (bAnd x2 4) = (0 : Int) → (((1 : Int) = 0 ∨ (1 : Int) = 1) ∧ c_X1_isOneSided p f M0 1 M1))))))))))
    : OK_X1_isOneSided l D cy ad := by
  refine met_of (tb := tbX1_isOneSided) (ft := ftX1) (cst := cst0) (ct := ct_X1_isOneSided) (cuts := [2, 15]) 35 (JA_X1_isOneSided I2 I15) hA jWX (by decide) tbX1_isOneSided_ok (by decide) ftX1_ok cst0_ok (ldc_of (tb := tbX1_isOneSided) (cst := cst0) (by decide)) rfl (List.forall_mem_cons.mpr ⟨si_X1_isOneSided_7 o_X3_tiles, List.forall_mem_cons.mpr ⟨si_X1_isOneSided_33 o_X1_loopOver, fun q h => absurd h List.not_mem_nil⟩⟩) ?_ ?_ ?_
  · intro as M0 h
    unfold P_X1_isOneSided at h
    split at h
    · exact Nat.le_of_ble_eq_true rfl
    · exact h.elim
  · intro as M0 h hM has
    unfold P_X1_isOneSided at h
    split at h
    next p f => exact hent p f M0 h hM (has f (by simp))
    · exact h.elim
  · intro as M0 h hM has pc ls st M n hI hM1
    unfold P_X1_isOneSided at h
    split at h
    next p f =>
      unfold JA_X1_isOneSided J_X1_isOneSided at hI
      dsimp only at hI
      split at hI
      ·
        obtain ⟨rfl, rfl, hI⟩ := hI
        exact hc2 _ _ _ h hM (has _ (by simp)) _ _ _ hI hM1
      ·
        obtain ⟨rfl, rfl, hI⟩ := hI
        exact hc15 _ _ _ h hM (has _ (by simp)) _ _ _ _ hI hM1
      · exact hI.elim
    · exact h.elim
abbrev p_X1_isFirstMeeting (p : Nat) (t : Int) (M : Mem) : Prop := kdX p = 1 ∧ (0 ≤ t ∧ t < 144) ∧ 0 ≤ M (p + 1) t.toNat ∧ M (p + 1) t.toNat < 144
abbrev c_X1_isFirstMeeting (p : Nat) (t : Int) (M : Mem) (x : Int) (M' : Mem) : Prop := x = (if M (p + 5) (M (p + 1) t.toNat).toNat = 0 then 1 else 0) ∧ M' = up M (p + 5) (M (p + 1) t.toNat).toNat 1
def P_X1_isFirstMeeting (as : List AV) (M : Mem) : Prop := match as with
  | [.inr p, .inl t] => p_X1_isFirstMeeting p t M
  | _ => False
def C_X1_isFirstMeeting (as : List AV) (M : Mem) (x : Int) (M' : Mem) : Prop := match as with
  | [.inr p, .inl t] => c_X1_isFirstMeeting p t M x M'
  | _ => False
abbrev rm_X1_isFirstMeeting : Room := { frames := 0, cells := 0, slots := 0, locals := 0 }
abbrev OK_X1_isFirstMeeting (l : Launch) (D : va_G) (cy : Nat → ClassId) (ad : Nat → Nat) : Prop := MetA l D cy ad kdX lnX 46 yX1_isFirstMeeting cX1_isFirstMeeting 4 (some .boolean) rm_X1_isFirstMeeting 2 P_X1_isFirstMeeting C_X1_isFirstMeeting
theorem ca_X1_isFirstMeeting : CalV yX1_isFirstMeeting cX1_isFirstMeeting 4 (some .boolean) 1 := ⟨⟨wcX1_isFirstMeeting, wnX1, by decide +kernel, by decide +kernel, by decide +kernel⟩, wiX1_isFirstMeeting, wlX1_isFirstMeeting⟩
theorem rv_X1_isFirstMeeting : ∀ as M, P_X1_isFirstMeeting as M → ∃ a As q, as = .inr a :: As ∧ vwCl[kdX a]? = some q ∧ q.1 = yX1_isFirstMeeting.cls := by
  intro as M h
  unfold P_X1_isFirstMeeting at h
  split at h
  · exact ⟨_, _, (RX1, TX1, 9), rfl, by rw [h.1]; rfl, rfl⟩
  · exact h.elim
def ct_X1_isFirstMeeting : List (Nat × CS) := []
def J_X1_isFirstMeeting  (p : Nat) (t : Int) (M0 : Mem) : IT := fun pc ls st M μ => match pc, ls, st, M, μ with
  | _, _, _, _, _ => False
def JA_X1_isFirstMeeting  (as : List AV) (M0 : Mem) : IT := match as with
  | [.inr p, .inl t] => J_X1_isFirstMeeting  p t M0
  | _ => fun _ _ _ _ _ => False
set_option maxRecDepth 100000 in
set_option maxHeartbeats 4000000 in
theorem met_X1_isFirstMeeting {l : Launch} {D : va_G} {cy : Nat → ClassId} {ad : Nat → Nat} (hA : jA ad 46)  
    (hent : ∀ (p : Nat) (t : Int) (M0 : Mem), p_X1_isFirstMeeting p t M0 → okM M0 → inR t → kdX p = 1 ∧ (kdX (p + 1) = 21 ∧ (0 ≤ t ∧ t < ((lnX (p + 1) : Nat) : Int)) ∧ (kdX p = 1 ∧ (kdX (p + 5) = 22 ∧ (0 ≤ (M0 (p + 1) (t).toNat) ∧ (M0 (p + 1) (t).toNat) < ((lnX (p + 5) : Nat) : Int)) ∧ ((¬ (M0 (p + 5) (M0 (p + 1) (t).toNat).toNat) = (0 : Int) → (kdX p = 1 ∧ (kdX (p + 5) = 22 ∧ (0 ≤ (M0 (p + 1) (t).toNat) ∧ (M0 (p + 1) (t).toNat) < ((lnX (p + 5) : Nat) : Int)) ∧ ((1 : Int) = 0 ∨ (1 : Int) = 1) ∧ (((0 : Int) = 0 ∨ (0 : Int) = 1) ∧ c_X1_isFirstMeeting p t M0 0 (up M0 (p + 5) (M0 (p + 1) (t).toNat).toNat 1))))) ∧ (¬ (¬ (M0 (p + 5) (M0 (p + 1) (t).toNat).toNat) = (0 : Int)) → (kdX p = 1 ∧ (kdX (p + 5) = 22 ∧ (0 ≤ (M0 (p + 1) (t).toNat) ∧ (M0 (p + 1) (t).toNat) < ((lnX (p + 5) : Nat) : Int)) ∧ ((1 : Int) = 0 ∨ (1 : Int) = 1) ∧ (((1 : Int) = 0 ∨ (1 : Int) = 1) ∧ c_X1_isFirstMeeting p t M0 1 (up M0 (p + 5) (M0 (p + 1) (t).toNat).toNat 1))))))))))
    : OK_X1_isFirstMeeting l D cy ad := by
  refine met_of (tb := tbX1_isFirstMeeting) (ft := ftX1) (cst := cst0) (ct := ct_X1_isFirstMeeting) (cuts := []) 23 (JA_X1_isFirstMeeting ) hA jWX (by decide) tbX1_isFirstMeeting_ok (by decide) ftX1_ok cst0_ok (ldc_of (tb := tbX1_isFirstMeeting) (cst := cst0) (by decide)) rfl (fun q h => absurd h List.not_mem_nil) ?_ ?_ ?_
  · intro as M0 h
    unfold P_X1_isFirstMeeting at h
    split at h
    · exact Nat.le_of_ble_eq_true rfl
    · exact h.elim
  · intro as M0 h hM has
    unfold P_X1_isFirstMeeting at h
    split at h
    next p t => exact hent p t M0 h hM (has t (by simp))
    · exact h.elim
  · intro as M0 h hM has pc ls st M n hI hM1
    unfold P_X1_isFirstMeeting at h
    split at h
    · exact hI.elim
    · exact h.elim
abbrev p_X1_partsBeside (p : Nat) (f : Int) (M : Mem) : Prop := kdX p = 1 ∧ surf M ∧ lowL p f M ∧ ∀ t : Nat, t < nT (gX M) → 0 ≤ M (p + 1) t ∧ M (p + 1) t < nT (gX M)
abbrev c_X1_partsBeside (p : Nat) (f : Int) (M : Mem) (x : Int) (M' : Mem) : Prop := (∀ L, labR p M L → x = bsF L (gX M) f (nT (gX M) * 4) 0 0) ∧ (∀ b, b ≠ p + 5 → M' b = M b)
def P_X1_partsBeside (as : List AV) (M : Mem) : Prop := match as with
  | [.inr p, .inl f] => p_X1_partsBeside p f M
  | _ => False
def C_X1_partsBeside (as : List AV) (M : Mem) (x : Int) (M' : Mem) : Prop := match as with
  | [.inr p, .inl f] => c_X1_partsBeside p f M x M'
  | _ => False
abbrev rm_X1_partsBeside : Room := { frames := 2, cells := 0, slots := 0, locals := 45 }
abbrev OK_X1_partsBeside (l : Launch) (D : va_G) (cy : Nat → ClassId) (ad : Nat → Nat) : Prop := MetA l D cy ad kdX lnX 46 yX1_partsBeside cX1_partsBeside 5 (some .int) rm_X1_partsBeside 1 P_X1_partsBeside C_X1_partsBeside
theorem ca_X1_partsBeside : CalV yX1_partsBeside cX1_partsBeside 5 (some .int) 1 := ⟨⟨wcX1_partsBeside, wnX1, by decide +kernel, by decide +kernel, by decide +kernel⟩, wiX1_partsBeside, wlX1_partsBeside⟩
theorem rv_X1_partsBeside : ∀ as M, P_X1_partsBeside as M → ∃ a As q, as = .inr a :: As ∧ vwCl[kdX a]? = some q ∧ q.1 = yX1_partsBeside.cls := by
  intro as M h
  unfold P_X1_partsBeside at h
  split at h
  · exact ⟨_, _, (RX1, TX1, 9), rfl, by rw [h.1]; rfl, rfl⟩
  · exact h.elim
def ct_X1_partsBeside : List (Nat × CS) := [(7, (1, 1, P_X3_tiles, C_X3_tiles)), (35, (1, 1, P_X3_tiles, C_X3_tiles)), (64, (3, 2, P_X1_leadsOut, C_X1_leadsOut)), (78, (3, 1, P_X3_next, C_X3_next)), (81, (2, 2, P_X1_isFirstMeeting, C_X1_isFirstMeeting))]
def J_X1_partsBeside (I2 : Nat → Int → Mem → Int → Mem → Nat → Prop) (I30 : Nat → Int → Mem → Int → Int → Mem → Nat → Prop) (I44 : Nat → Int → Mem → Int → Int → Int → Mem → Nat → Prop) (p : Nat) (f : Int) (M0 : Mem) : IT := fun pc ls st M μ => match pc, ls, st, M, μ with
  | 2, [some (.inr p_), some (.inl f_), some (.inl t), _, _], [], M, μ => p = p_ ∧ f = f_ ∧ I2 p f M0 t M μ
  | 30, [some (.inr p_), some (.inl f_), some (.inl o), some (.inl t), _], [], M, μ => p = p_ ∧ f = f_ ∧ I30 p f M0 o t M μ
  | 44, [some (.inr p_), some (.inl f_), some (.inl o), some (.inl t), some (.inl d)], [], M, μ => p = p_ ∧ f = f_ ∧ I44 p f M0 o t d M μ
  | _, _, _, _, _ => False
def JA_X1_partsBeside (I2 : Nat → Int → Mem → Int → Mem → Nat → Prop) (I30 : Nat → Int → Mem → Int → Int → Mem → Nat → Prop) (I44 : Nat → Int → Mem → Int → Int → Int → Mem → Nat → Prop) (as : List AV) (M0 : Mem) : IT := match as with
  | [.inr p, .inl f] => J_X1_partsBeside I2 I30 I44 p f M0
  | _ => fun _ _ _ _ _ => False
theorem si_X1_partsBeside_7 {l : Launch} {D : va_G} {cy : Nat → ClassId} {ad : Nat → Nat} (o : OK_X3_tiles l D cy ad) : Site l D cy ad kdX lnX 46 yX1_partsBeside.cls tbX1_partsBeside rm_X1_partsBeside 7 (1, 1, P_X3_tiles, C_X3_tiles) := Or.inl ⟨46, 0, yX3_tiles, cX3_tiles, 1, (some .int), rm_X3_tiles, rfl, rfl, o, ca_X3_tiles, mkX1_46, ⟨rfl, rfl, by decide, by decide⟩, rv_X3_tiles⟩
theorem si_X1_partsBeside_35 {l : Launch} {D : va_G} {cy : Nat → ClassId} {ad : Nat → Nat} (o : OK_X3_tiles l D cy ad) : Site l D cy ad kdX lnX 46 yX1_partsBeside.cls tbX1_partsBeside rm_X1_partsBeside 35 (1, 1, P_X3_tiles, C_X3_tiles) := Or.inl ⟨46, 0, yX3_tiles, cX3_tiles, 1, (some .int), rm_X3_tiles, rfl, rfl, o, ca_X3_tiles, mkX1_46, ⟨rfl, rfl, by decide, by decide⟩, rv_X3_tiles⟩
theorem si_X1_partsBeside_64 {l : Launch} {D : va_G} {cy : Nat → ClassId} {ad : Nat → Nat} (o : OK_X1_leadsOut l D cy ad) : Site l D cy ad kdX lnX 46 yX1_partsBeside.cls tbX1_partsBeside rm_X1_partsBeside 64 (3, 2, P_X1_leadsOut, C_X1_leadsOut) := Or.inl ⟨101, 2, yX1_leadsOut, cX1_leadsOut, 4, (some .boolean), rm_X1_leadsOut, rfl, rfl, o, ca_X1_leadsOut, mkX1_101, ⟨rfl, rfl, by decide, by decide⟩, rv_X1_leadsOut⟩
theorem si_X1_partsBeside_78 {l : Launch} {D : va_G} {cy : Nat → ClassId} {ad : Nat → Nat} (o : OK_X3_next l D cy ad) : Site l D cy ad kdX lnX 46 yX1_partsBeside.cls tbX1_partsBeside rm_X1_partsBeside 78 (3, 1, P_X3_next, C_X3_next) := Or.inl ⟨75, 2, yX3_next, cX3_next, 3, (some .int), rm_X3_next, rfl, rfl, o, ca_X3_next, mkX1_75, ⟨rfl, rfl, by decide, by decide⟩, rv_X3_next⟩
theorem si_X1_partsBeside_81 {l : Launch} {D : va_G} {cy : Nat → ClassId} {ad : Nat → Nat} (o : OK_X1_isFirstMeeting l D cy ad) : Site l D cy ad kdX lnX 46 yX1_partsBeside.cls tbX1_partsBeside rm_X1_partsBeside 81 (2, 2, P_X1_isFirstMeeting, C_X1_isFirstMeeting) := Or.inl ⟨111, 1, yX1_isFirstMeeting, cX1_isFirstMeeting, 4, (some .boolean), rm_X1_isFirstMeeting, rfl, rfl, o, ca_X1_isFirstMeeting, mkX1_111, ⟨rfl, rfl, by decide, by decide⟩, rv_X1_isFirstMeeting⟩
set_option maxRecDepth 100000 in
set_option maxHeartbeats 4000000 in
theorem met_X1_partsBeside {l : Launch} {D : va_G} {cy : Nat → ClassId} {ad : Nat → Nat} (hA : jA ad 46) (o_X1_isFirstMeeting : OK_X1_isFirstMeeting l D cy ad) (o_X1_leadsOut : OK_X1_leadsOut l D cy ad) (o_X3_next : OK_X3_next l D cy ad) (o_X3_tiles : OK_X3_tiles l D cy ad) (I2 : Nat → Int → Mem → Int → Mem → Nat → Prop) (I30 : Nat → Int → Mem → Int → Int → Mem → Nat → Prop) (I44 : Nat → Int → Mem → Int → Int → Int → Mem → Nat → Prop)
    (hent : ∀ (p : Nat) (f : Int) (M0 : Mem), p_X1_partsBeside p f M0 → okM M0 → inR f → ∃ μ : Nat, p = p ∧ f = f ∧ I2 p f M0 0 M0 μ)
    (hc2 : ∀ (p : Nat) (f : Int) (M0 : Mem), p_X1_partsBeside p f M0 → okM M0 → inR f → ∀ (t : Int) (M : Mem) (n : Nat), I2 p f M0 t M n → okM M → kdX p = 1 ∧ (p_X3_tiles 1 M ∧ ∀ (x2 : Int) (M1 : Mem), inR x2 → okM M1 → c_X3_tiles 1 M x2 M1 → ((x2 ≤ t → (∃ μ : Nat, μ < n ∧ p = p ∧ f = f ∧ I30 p f M0 0 f M1 μ)) ∧ (¬ x2 ≤ t → (kdX p = 1 ∧ (kdX (p + 5) = 22 ∧ (0 ≤ t ∧ t < ((lnX (p + 5) : Nat) : Int)) ∧ ((0 : Int) = 0 ∨ (0 : Int) = 1) ∧ (inR (t + 1) ∧ (∃ μ : Nat, μ < n ∧ p = p ∧ f = f ∧ I2 p f M0 (t + 1) (up M1 (p + 5) (t).toNat 0) μ))))))))
    (hc30 : ∀ (p : Nat) (f : Int) (M0 : Mem), p_X1_partsBeside p f M0 → okM M0 → inR f → ∀ (o : Int) (t : Int) (M : Mem) (n : Nat), I30 p f M0 o t M n → okM M → kdX p = 1 ∧ (p_X3_tiles 1 M ∧ ∀ (x2 : Int) (M1 : Mem), inR x2 → okM M1 → c_X3_tiles 1 M x2 M1 → ((x2 ≤ t → ((True) ∧ c_X1_partsBeside p f M0 o M1)) ∧ (¬ x2 ≤ t → (∃ μ : Nat, μ < n ∧ p = p ∧ f = f ∧ I44 p f M0 o t 0 M1 μ)))))
    (hc44 : ∀ (p : Nat) (f : Int) (M0 : Mem), p_X1_partsBeside p f M0 → okM M0 → inR f → ∀ (o : Int) (t : Int) (d : Int) (M : Mem) (n : Nat), I44 p f M0 o t d M n → okM M → ((4 : Int) ≤ d → (inR (t + 1) ∧ (∃ μ : Nat, μ < n ∧ p = p ∧ f = f ∧ I30 p f M0 o (t + 1) M μ))) ∧ (¬ (4 : Int) ≤ d → (kdX p = 1 ∧ (kdX (p + 1) = 21 ∧ (0 ≤ t ∧ t < ((lnX (p + 1) : Nat) : Int)) ∧ ((¬ (M (p + 1) (t).toNat) = f → (inR (d + 1) ∧ (∃ μ : Nat, μ < n ∧ p = p ∧ f = f ∧ I44 p f M0 o t (d + 1) M μ))) ∧ (¬ (¬ (M (p + 1) (t).toNat) = f) → (p_X1_leadsOut p t d M ∧ ∀ (x2 : Int) (M1 : Mem), inR x2 → okM M1 → c_X1_leadsOut p t d M x2 M1 → ((x2 = (0 : Int) → (inR (d + 1) ∧ (∃ μ : Nat, μ < n ∧ p = p ∧ f = f ∧ I44 p f M0 o t (d + 1) M1 μ))) ∧ (¬ x2 = (0 : Int) → (kdX p = 1 ∧ (p_X3_next 1 t d M1 ∧ ∀ (x4 : Int) (M3 : Mem), inR x4 → okM M3 → c_X3_next 1 t d M1 x4 M3 → (p_X1_isFirstMeeting p x4 M3 ∧ ∀ (x6 : Int) (M5 : Mem), inR x6 → okM M5 → c_X1_isFirstMeeting p x4 M3 x6 M5 → ((x6 = (0 : Int) → (inR (d + 1) ∧ (∃ μ : Nat, μ < n ∧ p = p ∧ f = f ∧ I44 p f M0 o t (d + 1) M5 μ))) ∧ (¬ x6 = (0 : Int) → (inR (o + 1) ∧ (inR (d + 1) ∧ (∃ μ : Nat, μ < n ∧ p = p ∧ f = f ∧ I44 p f M0 (o + 1) t (d + 1) M5 μ)))))))))))))))))
    : OK_X1_partsBeside l D cy ad := by
  refine met_of (tb := tbX1_partsBeside) (ft := ftX1) (cst := cst0) (ct := ct_X1_partsBeside) (cuts := [2, 30, 44]) 56 (JA_X1_partsBeside I2 I30 I44) hA jWX (by decide) tbX1_partsBeside_ok (by decide) ftX1_ok cst0_ok (ldc_of (tb := tbX1_partsBeside) (cst := cst0) (by decide)) rfl (List.forall_mem_cons.mpr ⟨si_X1_partsBeside_7 o_X3_tiles, List.forall_mem_cons.mpr ⟨si_X1_partsBeside_35 o_X3_tiles, List.forall_mem_cons.mpr ⟨si_X1_partsBeside_64 o_X1_leadsOut, List.forall_mem_cons.mpr ⟨si_X1_partsBeside_78 o_X3_next, List.forall_mem_cons.mpr ⟨si_X1_partsBeside_81 o_X1_isFirstMeeting, fun q h => absurd h List.not_mem_nil⟩⟩⟩⟩⟩) ?_ ?_ ?_
  · intro as M0 h
    unfold P_X1_partsBeside at h
    split at h
    · exact Nat.le_of_ble_eq_true rfl
    · exact h.elim
  · intro as M0 h hM has
    unfold P_X1_partsBeside at h
    split at h
    next p f => exact hent p f M0 h hM (has f (by simp))
    · exact h.elim
  · intro as M0 h hM has pc ls st M n hI hM1
    unfold P_X1_partsBeside at h
    split at h
    next p f =>
      unfold JA_X1_partsBeside J_X1_partsBeside at hI
      dsimp only at hI
      split at hI
      ·
        obtain ⟨rfl, rfl, hI⟩ := hI
        exact hc2 _ _ _ h hM (has _ (by simp)) _ _ _ hI hM1
      ·
        obtain ⟨rfl, rfl, hI⟩ := hI
        exact hc30 _ _ _ h hM (has _ (by simp)) _ _ _ _ hI hM1
      ·
        obtain ⟨rfl, rfl, hI⟩ := hI
        exact hc44 _ _ _ h hM (has _ (by simp)) _ _ _ _ _ hI hM1
      · exact hI.elim
    · exact h.elim
abbrev p_X1_greatestDepth (p : Nat) (f : Int) (M : Mem) : Prop := kdX p = 1 ∧ surf M ∧ lowL p f M
abbrev c_X1_greatestDepth (p : Nat) (f : Int) (M : Mem) (x : Int) (M' : Mem) : Prop := (∀ L E, labR p M L → (∀ t : Nat, t < nT (gX M) → M (p + 3) t = E t) → x = gdF L E f (nT (gX M))) ∧ M' = M
def P_X1_greatestDepth (as : List AV) (M : Mem) : Prop := match as with
  | [.inr p, .inl f] => p_X1_greatestDepth p f M
  | _ => False
def C_X1_greatestDepth (as : List AV) (M : Mem) (x : Int) (M' : Mem) : Prop := match as with
  | [.inr p, .inl f] => c_X1_greatestDepth p f M x M'
  | _ => False
abbrev rm_X1_greatestDepth : Room := { frames := 1, cells := 0, slots := 0, locals := 20 }
abbrev OK_X1_greatestDepth (l : Launch) (D : va_G) (cy : Nat → ClassId) (ad : Nat → Nat) : Prop := MetA l D cy ad kdX lnX 46 yX1_greatestDepth cX1_greatestDepth 4 (some .int) rm_X1_greatestDepth 1 P_X1_greatestDepth C_X1_greatestDepth
theorem ca_X1_greatestDepth : CalV yX1_greatestDepth cX1_greatestDepth 4 (some .int) 1 := ⟨⟨wcX1_greatestDepth, wnX1, by decide +kernel, by decide +kernel, by decide +kernel⟩, wiX1_greatestDepth, wlX1_greatestDepth⟩
theorem rv_X1_greatestDepth : ∀ as M, P_X1_greatestDepth as M → ∃ a As q, as = .inr a :: As ∧ vwCl[kdX a]? = some q ∧ q.1 = yX1_greatestDepth.cls := by
  intro as M h
  unfold P_X1_greatestDepth at h
  split at h
  · exact ⟨_, _, (RX1, TX1, 9), rfl, by rw [h.1]; rfl, rfl⟩
  · exact h.elim
def ct_X1_greatestDepth : List (Nat × CS) := [(9, (1, 1, P_X3_tiles, C_X3_tiles))]
def J_X1_greatestDepth (I4 : Nat → Int → Mem → Int → Int → Mem → Nat → Prop) (p : Nat) (f : Int) (M0 : Mem) : IT := fun pc ls st M μ => match pc, ls, st, M, μ with
  | 4, [some (.inr p_), some (.inl f_), some (.inl o), some (.inl t)], [], M, μ => p = p_ ∧ f = f_ ∧ I4 p f M0 o t M μ
  | _, _, _, _, _ => False
def JA_X1_greatestDepth (I4 : Nat → Int → Mem → Int → Int → Mem → Nat → Prop) (as : List AV) (M0 : Mem) : IT := match as with
  | [.inr p, .inl f] => J_X1_greatestDepth I4 p f M0
  | _ => fun _ _ _ _ _ => False
theorem si_X1_greatestDepth_9 {l : Launch} {D : va_G} {cy : Nat → ClassId} {ad : Nat → Nat} (o : OK_X3_tiles l D cy ad) : Site l D cy ad kdX lnX 46 yX1_greatestDepth.cls tbX1_greatestDepth rm_X1_greatestDepth 9 (1, 1, P_X3_tiles, C_X3_tiles) := Or.inl ⟨46, 0, yX3_tiles, cX3_tiles, 1, (some .int), rm_X3_tiles, rfl, rfl, o, ca_X3_tiles, mkX1_46, ⟨rfl, rfl, by decide, by decide⟩, rv_X3_tiles⟩
set_option maxRecDepth 100000 in
set_option maxHeartbeats 4000000 in
theorem met_X1_greatestDepth {l : Launch} {D : va_G} {cy : Nat → ClassId} {ad : Nat → Nat} (hA : jA ad 46) (o_X3_tiles : OK_X3_tiles l D cy ad) (I4 : Nat → Int → Mem → Int → Int → Mem → Nat → Prop)
    (hent : ∀ (p : Nat) (f : Int) (M0 : Mem), p_X1_greatestDepth p f M0 → okM M0 → inR f → ∃ μ : Nat, p = p ∧ f = f ∧ I4 p f M0 0 f M0 μ)
    (hc4 : ∀ (p : Nat) (f : Int) (M0 : Mem), p_X1_greatestDepth p f M0 → okM M0 → inR f → ∀ (o : Int) (t : Int) (M : Mem) (n : Nat), I4 p f M0 o t M n → okM M → kdX p = 1 ∧ (p_X3_tiles 1 M ∧ ∀ (x2 : Int) (M1 : Mem), inR x2 → okM M1 → c_X3_tiles 1 M x2 M1 → ((x2 ≤ t → ((True) ∧ c_X1_greatestDepth p f M0 o M1)) ∧ (¬ x2 ≤ t → (kdX p = 1 ∧ (kdX (p + 1) = 21 ∧ (0 ≤ t ∧ t < ((lnX (p + 1) : Nat) : Int)) ∧ ((¬ (M1 (p + 1) (t).toNat) = f → (inR (t + 1) ∧ (∃ μ : Nat, μ < n ∧ p = p ∧ f = f ∧ I4 p f M0 o (t + 1) M1 μ))) ∧ (¬ (¬ (M1 (p + 1) (t).toNat) = f) → (kdX p = 1 ∧ (kdX (p + 3) = 21 ∧ (0 ≤ t ∧ t < ((lnX (p + 3) : Nat) : Int)) ∧ (((M1 (p + 3) (t).toNat) ≤ o → (inR (t + 1) ∧ (∃ μ : Nat, μ < n ∧ p = p ∧ f = f ∧ I4 p f M0 o (t + 1) M1 μ))) ∧ (¬ (M1 (p + 3) (t).toNat) ≤ o → (kdX p = 1 ∧ (kdX (p + 3) = 21 ∧ (0 ≤ t ∧ t < ((lnX (p + 3) : Nat) : Int)) ∧ (inR (t + 1) ∧ (∃ μ : Nat, μ < n ∧ p = p ∧ f = f ∧ I4 p f M0 (M1 (p + 3) (t).toNat) (t + 1) M1 μ))))))))))))))))
    : OK_X1_greatestDepth l D cy ad := by
  refine met_of (tb := tbX1_greatestDepth) (ft := ftX1) (cst := cst0) (ct := ct_X1_greatestDepth) (cuts := [4]) 32 (JA_X1_greatestDepth I4) hA jWX (by decide) tbX1_greatestDepth_ok (by decide) ftX1_ok cst0_ok (ldc_of (tb := tbX1_greatestDepth) (cst := cst0) (by decide)) rfl (List.forall_mem_cons.mpr ⟨si_X1_greatestDepth_9 o_X3_tiles, fun q h => absurd h List.not_mem_nil⟩) ?_ ?_ ?_
  · intro as M0 h
    unfold P_X1_greatestDepth at h
    split at h
    · exact Nat.le_of_ble_eq_true rfl
    · exact h.elim
  · intro as M0 h hM has
    unfold P_X1_greatestDepth at h
    split at h
    next p f => exact hent p f M0 h hM (has f (by simp))
    · exact h.elim
  · intro as M0 h hM has pc ls st M n hI hM1
    unfold P_X1_greatestDepth at h
    split at h
    next p f =>
      unfold JA_X1_greatestDepth J_X1_greatestDepth at hI
      dsimp only at hI
      split at hI
      ·
        obtain ⟨rfl, rfl, hI⟩ := hI
        exact hc4 _ _ _ h hM (has _ (by simp)) _ _ _ _ hI hM1
      · exact hI.elim
    · exact h.elim
abbrev p_X1_property (p : Nat) (f : Int) (w : Int) (M : Mem) : Prop := kdX p = 1 ∧ surf M ∧ (∃ κ, kin M κ ∧ partsOK p M (gX M) κ ∧ lab (gX M) κ f.toNat = f) ∧ (0 ≤ f ∧ f < nT (gX M)) ∧ 0 ≤ w ∧ w ≤ 7
abbrev c_X1_property (p : Nat) (f : Int) (w : Int) (M : Mem) (x : Int) (M' : Mem) : Prop := (∀ κ, kin M κ → partsOK p M (gX M) κ → x = propF (gX M) κ f w) ∧ (∀ b, b ≠ p + 5 → M' b = M b)
def P_X1_property (as : List AV) (M : Mem) : Prop := match as with
  | [.inr p, .inl f, .inl w] => p_X1_property p f w M
  | _ => False
def C_X1_property (as : List AV) (M : Mem) (x : Int) (M' : Mem) : Prop := match as with
  | [.inr p, .inl f, .inl w] => c_X1_property p f w M x M'
  | _ => False
abbrev rm_X1_property : Room := { frames := 3, cells := 0, slots := 0, locals := 69 }
abbrev OK_X1_property (l : Launch) (D : va_G) (cy : Nat → ClassId) (ad : Nat → Nat) : Prop := MetA l D cy ad kdX lnX 46 yX1_property cX1_property 3 (some .int) rm_X1_property 1 P_X1_property C_X1_property
theorem ca_X1_property : CalV yX1_property cX1_property 3 (some .int) 2 := ⟨⟨wcX1_property, wnX1, by decide +kernel, by decide +kernel, by decide +kernel⟩, wiX1_property, wlX1_property⟩
theorem rv_X1_property : ∀ as M, P_X1_property as M → ∃ a As q, as = .inr a :: As ∧ vwCl[kdX a]? = some q ∧ q.1 = yX1_property.cls := by
  intro as M h
  unfold P_X1_property at h
  split at h
  · exact ⟨_, _, (RX1, TX1, 9), rfl, by rw [h.1]; rfl, rfl⟩
  · exact h.elim
def ct_X1_property : List (Nat × CS) := [(60, (2, 1, P_X1_bordersToOthers, C_X1_bordersToOthers)), (66, (2, 1, P_X1_bordersToNothing, C_X1_bordersToNothing)), (72, (2, 1, P_X1_loops, C_X1_loops)), (78, (2, 2, P_X1_isOneSided, C_X1_isOneSided)), (92, (2, 1, P_X1_partsBeside, C_X1_partsBeside)), (98, (2, 1, P_X1_greatestDepth, C_X1_greatestDepth))]
def J_X1_property  (p : Nat) (f : Int) (w : Int) (M0 : Mem) : IT := fun pc ls st M μ => match pc, ls, st, M, μ with
  | _, _, _, _, _ => False
def JA_X1_property  (as : List AV) (M0 : Mem) : IT := match as with
  | [.inr p, .inl f, .inl w] => J_X1_property  p f w M0
  | _ => fun _ _ _ _ _ => False
theorem si_X1_property_60 {l : Launch} {D : va_G} {cy : Nat → ClassId} {ad : Nat → Nat} (o : OK_X1_bordersToOthers l D cy ad) : Site l D cy ad kdX lnX 46 yX1_property.cls tbX1_property rm_X1_property 60 (2, 1, P_X1_bordersToOthers, C_X1_bordersToOthers) := Or.inl ⟨82, 1, yX1_bordersToOthers, cX1_bordersToOthers, 5, (some .int), rm_X1_bordersToOthers, rfl, rfl, o, ca_X1_bordersToOthers, mkX1_82, ⟨rfl, rfl, by decide, by decide⟩, rv_X1_bordersToOthers⟩
theorem si_X1_property_66 {l : Launch} {D : va_G} {cy : Nat → ClassId} {ad : Nat → Nat} (o : OK_X1_bordersToNothing l D cy ad) : Site l D cy ad kdX lnX 46 yX1_property.cls tbX1_property rm_X1_property 66 (2, 1, P_X1_bordersToNothing, C_X1_bordersToNothing) := Or.inl ⟨85, 1, yX1_bordersToNothing, cX1_bordersToNothing, 5, (some .int), rm_X1_bordersToNothing, rfl, rfl, o, ca_X1_bordersToNothing, mkX1_85, ⟨rfl, rfl, by decide, by decide⟩, rv_X1_bordersToNothing⟩
theorem si_X1_property_72 {l : Launch} {D : va_G} {cy : Nat → ClassId} {ad : Nat → Nat} (o : OK_X1_loops l D cy ad) : Site l D cy ad kdX lnX 46 yX1_property.cls tbX1_property rm_X1_property 72 (2, 1, P_X1_loops, C_X1_loops) := Or.inl ⟨88, 1, yX1_loops, cX1_loops, 5, (some .int), rm_X1_loops, rfl, rfl, o, ca_X1_loops, mkX1_88, ⟨rfl, rfl, by decide, by decide⟩, rv_X1_loops⟩
theorem si_X1_property_78 {l : Launch} {D : va_G} {cy : Nat → ClassId} {ad : Nat → Nat} (o : OK_X1_isOneSided l D cy ad) : Site l D cy ad kdX lnX 46 yX1_property.cls tbX1_property rm_X1_property 78 (2, 2, P_X1_isOneSided, C_X1_isOneSided) := Or.inl ⟨91, 1, yX1_isOneSided, cX1_isOneSided, 4, (some .boolean), rm_X1_isOneSided, rfl, rfl, o, ca_X1_isOneSided, mkX1_91, ⟨rfl, rfl, by decide, by decide⟩, rv_X1_isOneSided⟩
theorem si_X1_property_92 {l : Launch} {D : va_G} {cy : Nat → ClassId} {ad : Nat → Nat} (o : OK_X1_partsBeside l D cy ad) : Site l D cy ad kdX lnX 46 yX1_property.cls tbX1_property rm_X1_property 92 (2, 1, P_X1_partsBeside, C_X1_partsBeside) := Or.inl ⟨95, 1, yX1_partsBeside, cX1_partsBeside, 5, (some .int), rm_X1_partsBeside, rfl, rfl, o, ca_X1_partsBeside, mkX1_95, ⟨rfl, rfl, by decide, by decide⟩, rv_X1_partsBeside⟩
theorem si_X1_property_98 {l : Launch} {D : va_G} {cy : Nat → ClassId} {ad : Nat → Nat} (o : OK_X1_greatestDepth l D cy ad) : Site l D cy ad kdX lnX 46 yX1_property.cls tbX1_property rm_X1_property 98 (2, 1, P_X1_greatestDepth, C_X1_greatestDepth) := Or.inl ⟨98, 1, yX1_greatestDepth, cX1_greatestDepth, 4, (some .int), rm_X1_greatestDepth, rfl, rfl, o, ca_X1_greatestDepth, mkX1_98, ⟨rfl, rfl, by decide, by decide⟩, rv_X1_greatestDepth⟩
set_option maxRecDepth 100000 in
set_option maxHeartbeats 4000000 in
theorem met_X1_property {l : Launch} {D : va_G} {cy : Nat → ClassId} {ad : Nat → Nat} (hA : jA ad 46) (o_X1_bordersToNothing : OK_X1_bordersToNothing l D cy ad) (o_X1_bordersToOthers : OK_X1_bordersToOthers l D cy ad) (o_X1_greatestDepth : OK_X1_greatestDepth l D cy ad) (o_X1_isOneSided : OK_X1_isOneSided l D cy ad) (o_X1_loops : OK_X1_loops l D cy ad) (o_X1_partsBeside : OK_X1_partsBeside l D cy ad) 
    (hent : ∀ (p : Nat) (f : Int) (w : Int) (M0 : Mem), p_X1_property p f w M0 → okM M0 → inR f → inR w → ((w < 0 ∨ 6 < w) → (p_X1_greatestDepth p f M0 ∧ ∀ (x2 : Int) (M1 : Mem), inR x2 → okM M1 → c_X1_greatestDepth p f M0 x2 M1 → ((True) ∧ c_X1_property p f w M0 x2 M1))) ∧ ((w = 0 → (kdX p = 1 ∧ (kdX 6 = 21 ∧ (0 ≤ f ∧ f < 144) ∧ ((True) ∧ c_X1_property p f w M0 (M0 6 (f).toNat) M0)))) ∧ ((w = 0 + 1 → (kdX p = 1 ∧ (kdX (p + 2) = 21 ∧ (0 ≤ f ∧ f < ((lnX (p + 2) : Nat) : Int)) ∧ ((True) ∧ c_X1_property p f w M0 (M0 (p + 2) (f).toNat) M0)))) ∧ ((w = 0 + 1 + 1 → (p_X1_bordersToOthers p f M0 ∧ ∀ (x4 : Int) (M3 : Mem), inR x4 → okM M3 → c_X1_bordersToOthers p f M0 x4 M3 → ((True) ∧ c_X1_property p f w M0 x4 M3))) ∧ ((w = 0 + 1 + 1 + 1 → (p_X1_bordersToNothing p f M0 ∧ ∀ (x6 : Int) (M5 : Mem), inR x6 → okM M5 → c_X1_bordersToNothing p f M0 x6 M5 → ((True) ∧ c_X1_property p f w M0 x6 M5))) ∧ ((w = 0 + 1 + 1 + 1 + 1 → (p_X1_loops p f M0 ∧ ∀ (x8 : Int) (M7 : Mem), inR x8 → okM M7 → c_X1_loops p f M0 x8 M7 → ((True) ∧ c_X1_property p f w M0 x8 M7))) ∧ ((w = 0 + 1 + 1 + 1 + 1 + 1 → (p_X1_isOneSided p f M0 ∧ ∀ (x10 : Int) (M9 : Mem), inR x10 → okM M9 → c_X1_isOneSided p f M0 x10 M9 → ((x10 = (0 : Int) → ((True) ∧ c_X1_property p f w M0 0 M9)) ∧ (¬ x10 = (0 : Int) → ((True) ∧ c_X1_property p f w M0 1 M9))))) ∧ ((w = 0 + 1 + 1 + 1 + 1 + 1 + 1 → (p_X1_partsBeside p f M0 ∧ ∀ (x12 : Int) (M11 : Mem), inR x12 → okM M11 → c_X1_partsBeside p f M0 x12 M11 → ((True) ∧ c_X1_property p f w M0 x12 M11))) ∧ (True)))))))))
    : OK_X1_property l D cy ad := by
  refine met_of (tb := tbX1_property) (ft := ftX1) (cst := cst0) (ct := ct_X1_property) (cuts := []) 42 (JA_X1_property ) hA jWX (by decide) tbX1_property_ok (by decide) ftX1_ok cst0_ok (ldc_of (tb := tbX1_property) (cst := cst0) (by decide)) rfl (List.forall_mem_cons.mpr ⟨si_X1_property_60 o_X1_bordersToOthers, List.forall_mem_cons.mpr ⟨si_X1_property_66 o_X1_bordersToNothing, List.forall_mem_cons.mpr ⟨si_X1_property_72 o_X1_loops, List.forall_mem_cons.mpr ⟨si_X1_property_78 o_X1_isOneSided, List.forall_mem_cons.mpr ⟨si_X1_property_92 o_X1_partsBeside, List.forall_mem_cons.mpr ⟨si_X1_property_98 o_X1_greatestDepth, fun q h => absurd h List.not_mem_nil⟩⟩⟩⟩⟩⟩) ?_ ?_ ?_
  · intro as M0 h
    unfold P_X1_property at h
    split at h
    · exact Nat.le_of_ble_eq_true rfl
    · exact h.elim
  · intro as M0 h hM has
    unfold P_X1_property at h
    split at h
    next p f w => exact hent p f w M0 h hM (has f (by simp)) (has w (by simp))
    · exact h.elim
  · intro as M0 h hM has pc ls st M n hI hM1
    unfold P_X1_property at h
    split at h
    · exact hI.elim
    · exact h.elim
