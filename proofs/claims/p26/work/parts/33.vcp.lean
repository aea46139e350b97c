abbrev p_X1_number (p : Nat) (M : Mem) : Prop := kdX p = 1
abbrev c_X1_number (p : Nat) (M : Mem) (x : Int) (M' : Mem) : Prop := x = M p 8 ∧ M' = M
def P_X1_number (as : List AV) (M : Mem) : Prop := match as with
  | [.inr p] => p_X1_number p M
  | _ => False
def C_X1_number (as : List AV) (M : Mem) (x : Int) (M' : Mem) : Prop := match as with
  | [.inr p] => c_X1_number p M x M'
  | _ => False
abbrev rm_X1_number : Room := { frames := 0, cells := 0, slots := 0, locals := 0 }
abbrev OK_X1_number (l : Launch) (D : va_G) (cy : Nat → ClassId) (ad : Nat → Nat) : Prop := MetA l D cy ad kdX lnX 46 yX1_number cX1_number 1 (some .int) rm_X1_number 1 P_X1_number C_X1_number
theorem ca_X1_number : CalV yX1_number cX1_number 1 (some .int) 0 := ⟨⟨wcX1_number, wnX1, by decide +kernel, by decide +kernel, by decide +kernel⟩, wiX1_number, wlX1_number⟩
theorem rv_X1_number : ∀ as M, P_X1_number as M → ∃ a As q, as = .inr a :: As ∧ vwCl[kdX a]? = some q ∧ q.1 = yX1_number.cls := by
  intro as M h
  unfold P_X1_number at h
  split at h
  · exact ⟨_, _, (RX1, TX1, 9), rfl, by rw [h]; rfl, rfl⟩
  · exact h.elim
def ct_X1_number : List (Nat × CS) := []
def J_X1_number  (p : Nat) (M0 : Mem) : IT := fun pc ls st M μ => match pc, ls, st, M, μ with
  | _, _, _, _, _ => False
def JA_X1_number  (as : List AV) (M0 : Mem) : IT := match as with
  | [.inr p] => J_X1_number  p M0
  | _ => fun _ _ _ _ _ => False
set_option maxRecDepth 100000 in
set_option maxHeartbeats 4000000 in
theorem met_X1_number {l : Launch} {D : va_G} {cy : Nat → ClassId} {ad : Nat → Nat} (hA : jA ad 46)  
    (hent : ∀ (p : Nat) (M0 : Mem), p_X1_number p M0 → okM M0 → kdX p = 1 ∧ ((True) ∧ c_X1_number p M0 (M0 p 8) M0))
    : OK_X1_number l D cy ad := by
  refine met_of (tb := tbX1_number) (ft := ftX1) (cst := cst0) (ct := ct_X1_number) (cuts := []) 5 (JA_X1_number ) hA jWX (by decide) tbX1_number_ok (by decide) ftX1_ok cst0_ok (ldc_of (tb := tbX1_number) (cst := cst0) (by decide)) rfl (fun q h => absurd h List.not_mem_nil) ?_ ?_ ?_
  · intro as M0 h
    unfold P_X1_number at h
    split at h
    · exact Nat.le_of_ble_eq_true rfl
    · exact h.elim
  · intro as M0 h hM has
    unfold P_X1_number at h
    split at h
    next p => exact hent p M0 h hM
    · exact h.elim
  · intro as M0 h hM has pc ls st M n hI hM1
    unfold P_X1_number at h
    split at h
    · exact hI.elim
    · exact h.elim
abbrev p_X1_labelOf (p : Nat) (t : Int) (M : Mem) : Prop := kdX p = 1 ∧ (0 ≤ t ∧ t < 144)
abbrev c_X1_labelOf (p : Nat) (t : Int) (M : Mem) (x : Int) (M' : Mem) : Prop := x = M (p + 1) t.toNat ∧ M' = M
def P_X1_labelOf (as : List AV) (M : Mem) : Prop := match as with
  | [.inr p, .inl t] => p_X1_labelOf p t M
  | _ => False
def C_X1_labelOf (as : List AV) (M : Mem) (x : Int) (M' : Mem) : Prop := match as with
  | [.inr p, .inl t] => c_X1_labelOf p t M x M'
  | _ => False
abbrev rm_X1_labelOf : Room := { frames := 0, cells := 0, slots := 0, locals := 0 }
abbrev OK_X1_labelOf (l : Launch) (D : va_G) (cy : Nat → ClassId) (ad : Nat → Nat) : Prop := MetA l D cy ad kdX lnX 46 yX1_labelOf cX1_labelOf 2 (some .int) rm_X1_labelOf 1 P_X1_labelOf C_X1_labelOf
theorem ca_X1_labelOf : CalV yX1_labelOf cX1_labelOf 2 (some .int) 1 := ⟨⟨wcX1_labelOf, wnX1, by decide +kernel, by decide +kernel, by decide +kernel⟩, wiX1_labelOf, wlX1_labelOf⟩
theorem rv_X1_labelOf : ∀ as M, P_X1_labelOf as M → ∃ a As q, as = .inr a :: As ∧ vwCl[kdX a]? = some q ∧ q.1 = yX1_labelOf.cls := by
  intro as M h
  unfold P_X1_labelOf at h
  split at h
  · exact ⟨_, _, (RX1, TX1, 9), rfl, by rw [h.1]; rfl, rfl⟩
  · exact h.elim
def ct_X1_labelOf : List (Nat × CS) := []
def J_X1_labelOf  (p : Nat) (t : Int) (M0 : Mem) : IT := fun pc ls st M μ => match pc, ls, st, M, μ with
  | _, _, _, _, _ => False
def JA_X1_labelOf  (as : List AV) (M0 : Mem) : IT := match as with
  | [.inr p, .inl t] => J_X1_labelOf  p t M0
  | _ => fun _ _ _ _ _ => False
set_option maxRecDepth 100000 in
set_option maxHeartbeats 4000000 in
theorem met_X1_labelOf {l : Launch} {D : va_G} {cy : Nat → ClassId} {ad : Nat → Nat} (hA : jA ad 46)  
    (hent : ∀ (p : Nat) (t : Int) (M0 : Mem), p_X1_labelOf p t M0 → okM M0 → inR t → kdX p = 1 ∧ (kdX (p + 1) = 21 ∧ (0 ≤ t ∧ t < ((lnX (p + 1) : Nat) : Int)) ∧ ((True) ∧ c_X1_labelOf p t M0 (M0 (p + 1) (t).toNat) M0)))
    : OK_X1_labelOf l D cy ad := by
  refine met_of (tb := tbX1_labelOf) (ft := ftX1) (cst := cst0) (ct := ct_X1_labelOf) (cuts := []) 7 (JA_X1_labelOf ) hA jWX (by decide) tbX1_labelOf_ok (by decide) ftX1_ok cst0_ok (ldc_of (tb := tbX1_labelOf) (cst := cst0) (by decide)) rfl (fun q h => absurd h List.not_mem_nil) ?_ ?_ ?_
  · intro as M0 h
    unfold P_X1_labelOf at h
    split at h
    · exact Nat.le_of_ble_eq_true rfl
    · exact h.elim
  · intro as M0 h hM has
    unfold P_X1_labelOf at h
    split at h
    next p t => exact hent p t M0 h hM (has t (by simp))
    · exact h.elim
  · intro as M0 h hM has pc ls st M n hI hM1
    unfold P_X1_labelOf at h
    split at h
    · exact hI.elim
    · exact h.elim
abbrev p_X1_sizeOf (p : Nat) (t : Int) (M : Mem) : Prop := kdX p = 1 ∧ (0 ≤ t ∧ t < 144)
abbrev c_X1_sizeOf (p : Nat) (t : Int) (M : Mem) (x : Int) (M' : Mem) : Prop := x = M (p + 2) t.toNat ∧ M' = M
def P_X1_sizeOf (as : List AV) (M : Mem) : Prop := match as with
  | [.inr p, .inl t] => p_X1_sizeOf p t M
  | _ => False
def C_X1_sizeOf (as : List AV) (M : Mem) (x : Int) (M' : Mem) : Prop := match as with
  | [.inr p, .inl t] => c_X1_sizeOf p t M x M'
  | _ => False
abbrev rm_X1_sizeOf : Room := { frames := 0, cells := 0, slots := 0, locals := 0 }
abbrev OK_X1_sizeOf (l : Launch) (D : va_G) (cy : Nat → ClassId) (ad : Nat → Nat) : Prop := MetA l D cy ad kdX lnX 46 yX1_sizeOf cX1_sizeOf 2 (some .int) rm_X1_sizeOf 1 P_X1_sizeOf C_X1_sizeOf
theorem ca_X1_sizeOf : CalV yX1_sizeOf cX1_sizeOf 2 (some .int) 1 := ⟨⟨wcX1_sizeOf, wnX1, by decide +kernel, by decide +kernel, by decide +kernel⟩, wiX1_sizeOf, wlX1_sizeOf⟩
theorem rv_X1_sizeOf : ∀ as M, P_X1_sizeOf as M → ∃ a As q, as = .inr a :: As ∧ vwCl[kdX a]? = some q ∧ q.1 = yX1_sizeOf.cls := by
  intro as M h
  unfold P_X1_sizeOf at h
  split at h
  · exact ⟨_, _, (RX1, TX1, 9), rfl, by rw [h.1]; rfl, rfl⟩
  · exact h.elim
def ct_X1_sizeOf : List (Nat × CS) := []
def J_X1_sizeOf  (p : Nat) (t : Int) (M0 : Mem) : IT := fun pc ls st M μ => match pc, ls, st, M, μ with
  | _, _, _, _, _ => False
def JA_X1_sizeOf  (as : List AV) (M0 : Mem) : IT := match as with
  | [.inr p, .inl t] => J_X1_sizeOf  p t M0
  | _ => fun _ _ _ _ _ => False
set_option maxRecDepth 100000 in
set_option maxHeartbeats 4000000 in
theorem met_X1_sizeOf {l : Launch} {D : va_G} {cy : Nat → ClassId} {ad : Nat → Nat} (hA : jA ad 46)  
    (hent : ∀ (p : Nat) (t : Int) (M0 : Mem), p_X1_sizeOf p t M0 → okM M0 → inR t → kdX p = 1 ∧ (kdX (p + 2) = 21 ∧ (0 ≤ t ∧ t < ((lnX (p + 2) : Nat) : Int)) ∧ ((True) ∧ c_X1_sizeOf p t M0 (M0 (p + 2) (t).toNat) M0)))
    : OK_X1_sizeOf l D cy ad := by
  refine met_of (tb := tbX1_sizeOf) (ft := ftX1) (cst := cst0) (ct := ct_X1_sizeOf) (cuts := []) 7 (JA_X1_sizeOf ) hA jWX (by decide) tbX1_sizeOf_ok (by decide) ftX1_ok cst0_ok (ldc_of (tb := tbX1_sizeOf) (cst := cst0) (by decide)) rfl (fun q h => absurd h List.not_mem_nil) ?_ ?_ ?_
  · intro as M0 h
    unfold P_X1_sizeOf at h
    split at h
    · exact Nat.le_of_ble_eq_true rfl
    · exact h.elim
  · intro as M0 h hM has
    unfold P_X1_sizeOf at h
    split at h
    next p t => exact hent p t M0 h hM (has t (by simp))
    · exact h.elim
  · intro as M0 h hM has pc ls st M n hI hM1
    unfold P_X1_sizeOf at h
    split at h
    · exact hI.elim
    · exact h.elim
abbrev p_X1_enter (p : Nat) (t : Int) (f : Int) (e : Int) (c : Int) (M : Mem) : Prop := kdX p = 1 ∧ (0 ≤ t ∧ t < 144) ∧ 0 ≤ M (p + 6) 1 ∧ M (p + 6) 1 < 144
abbrev c_X1_enter (p : Nat) (t : Int) (f : Int) (e : Int) (c : Int) (M : Mem) (x : Int) (M' : Mem) : Prop := M' = entM p t f e c M
def P_X1_enter (as : List AV) (M : Mem) : Prop := match as with
  | [.inr p, .inl t, .inl f, .inl e, .inl c] => p_X1_enter p t f e c M
  | _ => False
def C_X1_enter (as : List AV) (M : Mem) (x : Int) (M' : Mem) : Prop := match as with
  | [.inr p, .inl t, .inl f, .inl e, .inl c] => c_X1_enter p t f e c M x M'
  | _ => False
abbrev rm_X1_enter : Room := { frames := 1, cells := 0, slots := 0, locals := 21 }
abbrev OK_X1_enter (l : Launch) (D : va_G) (cy : Nat → ClassId) (ad : Nat → Nat) : Prop := MetA l D cy ad kdX lnX 46 yX1_enter cX1_enter 5 none rm_X1_enter 0 P_X1_enter C_X1_enter
theorem ca_X1_enter : CalV yX1_enter cX1_enter 5 none 4 := ⟨⟨wcX1_enter, wnX1, by decide +kernel, by decide +kernel, by decide +kernel⟩, wiX1_enter, wlX1_enter⟩
theorem rv_X1_enter : ∀ as M, P_X1_enter as M → ∃ a As q, as = .inr a :: As ∧ vwCl[kdX a]? = some q ∧ q.1 = yX1_enter.cls := by
  intro as M h
  unfold P_X1_enter at h
  split at h
  · exact ⟨_, _, (RX1, TX1, 9), rfl, by rw [h.1]; rfl, rfl⟩
  · exact h.elim
def ct_X1_enter : List (Nat × CS) := [(27, (2, 0, P_X5_add, C_X5_add))]
def J_X1_enter  (p : Nat) (t : Int) (f : Int) (e : Int) (c : Int) (M0 : Mem) : IT := fun pc ls st M μ => match pc, ls, st, M, μ with
  | _, _, _, _, _ => False
def JA_X1_enter  (as : List AV) (M0 : Mem) : IT := match as with
  | [.inr p, .inl t, .inl f, .inl e, .inl c] => J_X1_enter  p t f e c M0
  | _ => fun _ _ _ _ _ => False
theorem si_X1_enter_27 {l : Launch} {D : va_G} {cy : Nat → ClassId} {ad : Nat → Nat} (o : OK_X5_add l D cy ad) : Site l D cy ad kdX lnX 46 yX1_enter.cls tbX1_enter rm_X1_enter 27 (2, 0, P_X5_add, C_X5_add) := Or.inl ⟨72, 1, yX5_add, cX5_add, 2, none, rm_X5_add, rfl, rfl, o, ca_X5_add, mkX1_72, ⟨rfl, rfl, by decide, by decide⟩, rv_X5_add⟩
set_option maxRecDepth 100000 in
set_option maxHeartbeats 4000000 in
theorem met_X1_enter {l : Launch} {D : va_G} {cy : Nat → ClassId} {ad : Nat → Nat} (hA : jA ad 46) (o_X5_add : OK_X5_add l D cy ad) 
    (hent : ∀ (p : Nat) (t : Int) (f : Int) (e : Int) (c : Int) (M0 : Mem), p_X1_enter p t f e c M0 → okM M0 → inR t → inR f → inR e → inR c → kdX p = 1 ∧ (kdX (p + 1) = 21 ∧ (0 ≤ t ∧ t < ((lnX (p + 1) : Nat) : Int)) ∧ (kdX p = 1 ∧ (kdX (p + 3) = 21 ∧ (0 ≤ t ∧ t < ((lnX (p + 3) : Nat) : Int)) ∧ (kdX p = 1 ∧ (kdX (p + 4) = 21 ∧ (0 ≤ t ∧ t < ((lnX (p + 4) : Nat) : Int)) ∧ (kdX p = 1 ∧ (p_X5_add (p + 6) t (up (up (up M0 (p + 1) (t).toNat f) (p + 3) (t).toNat e) (p + 4) (t).toNat c) ∧ ∀ (x2 : Int) (M1 : Mem), inR x2 → okM M1 → c_X5_add (p + 6) t (up (up (up M0 (p + 1) (t).toNat f) (p + 3) (t).toNat e) (p + 4) (t).toNat c) x2 M1 → (0 = 0 ∧ c_X1_enter p t f e c M0 0 M1)))))))))
    : OK_X1_enter l D cy ad := by
  refine met_of (tb := tbX1_enter) (ft := ftX1) (cst := cst0) (ct := ct_X1_enter) (cuts := []) 22 (JA_X1_enter ) hA jWX (by decide) tbX1_enter_ok (by decide) ftX1_ok cst0_ok (ldc_of (tb := tbX1_enter) (cst := cst0) (by decide)) rfl (List.forall_mem_cons.mpr ⟨si_X1_enter_27 o_X5_add, fun q h => absurd h List.not_mem_nil⟩) ?_ ?_ ?_
  · intro as M0 h
    unfold P_X1_enter at h
    split at h
    · exact Nat.le_of_ble_eq_true rfl
    · exact h.elim
  · intro as M0 h hM has
    unfold P_X1_enter at h
    split at h
    next p t f e c => exact hent p t f e c M0 h hM (has t (by simp)) (has f (by simp)) (has e (by simp)) (has c (by simp))
    · exact h.elim
  · intro as M0 h hM has pc ls st M n hI hM1
    unfold P_X1_enter at h
    split at h
    · exact hI.elim
    · exact h.elim
abbrev p_X1_spread (p : Nat) (t : Int) (M : Mem) : Prop := kdX p = 1 ∧ surf M ∧ ∃ κ f k B, preSp p t M κ f k B
abbrev c_X1_spread (p : Nat) (t : Int) (M : Mem) (x : Int) (M' : Mem) : Prop := ∀ κ f k B, preSp p t M κ f k B → RX p M' (gX M) (bexp (gX M) κ f t 4 B) ∧ (∀ b, b ≠ p + 1 → b ≠ p + 3 → b ≠ p + 4 → b ≠ p + 6 → b ≠ p + 7 → M' b = M b)
def P_X1_spread (as : List AV) (M : Mem) : Prop := match as with
  | [.inr p, .inl t] => p_X1_spread p t M
  | _ => False
def C_X1_spread (as : List AV) (M : Mem) (x : Int) (M' : Mem) : Prop := match as with
  | [.inr p, .inl t] => c_X1_spread p t M x M'
  | _ => False
abbrev rm_X1_spread : Room := { frames := 2, cells := 0, slots := 0, locals := 45 }
abbrev OK_X1_spread (l : Launch) (D : va_G) (cy : Nat → ClassId) (ad : Nat → Nat) : Prop := MetA l D cy ad kdX lnX 46 yX1_spread cX1_spread 5 none rm_X1_spread 0 P_X1_spread C_X1_spread
theorem ca_X1_spread : CalV yX1_spread cX1_spread 5 none 1 := ⟨⟨wcX1_spread, wnX1, by decide +kernel, by decide +kernel, by decide +kernel⟩, wiX1_spread, wlX1_spread⟩
theorem rv_X1_spread : ∀ as M, P_X1_spread as M → ∃ a As q, as = .inr a :: As ∧ vwCl[kdX a]? = some q ∧ q.1 = yX1_spread.cls := by
  intro as M h
  unfold P_X1_spread at h
  split at h
  · exact ⟨_, _, (RX1, TX1, 9), rfl, by rw [h.1]; rfl, rfl⟩
  · exact h.elim
def ct_X1_spread : List (Nat × CS) := [(13, (3, 1, P_X3_next, C_X3_next)), (59, (3, 1, P_X3_crossing, C_X3_crossing)), (83, (5, 0, P_X1_enter, C_X1_enter))]
def J_X1_spread (I2 : Nat → Int → Mem → Int → Mem → Nat → Prop) (p : Nat) (t : Int) (M0 : Mem) : IT := fun pc ls st M μ => match pc, ls, st, M, μ with
  | 2, [some (.inr p_), some (.inl t_), some (.inl d), _, _], [], M, μ => p = p_ ∧ t = t_ ∧ I2 p t M0 d M μ
  | _, _, _, _, _ => False
def JA_X1_spread (I2 : Nat → Int → Mem → Int → Mem → Nat → Prop) (as : List AV) (M0 : Mem) : IT := match as with
  | [.inr p, .inl t] => J_X1_spread I2 p t M0
  | _ => fun _ _ _ _ _ => False
theorem si_X1_spread_13 {l : Launch} {D : va_G} {cy : Nat → ClassId} {ad : Nat → Nat} (o : OK_X3_next l D cy ad) : Site l D cy ad kdX lnX 46 yX1_spread.cls tbX1_spread rm_X1_spread 13 (3, 1, P_X3_next, C_X3_next) := Or.inl ⟨75, 2, yX3_next, cX3_next, 3, (some .int), rm_X3_next, rfl, rfl, o, ca_X3_next, mkX1_75, ⟨rfl, rfl, by decide, by decide⟩, rv_X3_next⟩
theorem si_X1_spread_59 {l : Launch} {D : va_G} {cy : Nat → ClassId} {ad : Nat → Nat} (o : OK_X3_crossing l D cy ad) : Site l D cy ad kdX lnX 46 yX1_spread.cls tbX1_spread rm_X1_spread 59 (3, 1, P_X3_crossing, C_X3_crossing) := Or.inl ⟨79, 2, yX3_crossing, cX3_crossing, 3, (some .int), rm_X3_crossing, rfl, rfl, o, ca_X3_crossing, mkX1_79, ⟨rfl, rfl, by decide, by decide⟩, rv_X3_crossing⟩
theorem si_X1_spread_83 {l : Launch} {D : va_G} {cy : Nat → ClassId} {ad : Nat → Nat} (o : OK_X1_enter l D cy ad) : Site l D cy ad kdX lnX 46 yX1_spread.cls tbX1_spread rm_X1_spread 83 (5, 0, P_X1_enter, C_X1_enter) := Or.inl ⟨59, 4, yX1_enter, cX1_enter, 5, none, rm_X1_enter, rfl, rfl, o, ca_X1_enter, mkX1_59, ⟨rfl, rfl, by decide, by decide⟩, rv_X1_enter⟩
set_option maxRecDepth 100000 in
set_option maxHeartbeats 4000000 in
theorem met_X1_spread {l : Launch} {D : va_G} {cy : Nat → ClassId} {ad : Nat → Nat} (hA : jA ad 46) (o_X1_enter : OK_X1_enter l D cy ad) (o_X3_crossing : OK_X3_crossing l D cy ad) (o_X3_next : OK_X3_next l D cy ad) (I2 : Nat → Int → Mem → Int → Mem → Nat → Prop)
    (hent : ∀ (p : Nat) (t : Int) (M0 : Mem), p_X1_spread p t M0 → okM M0 → inR t → ∃ μ : Nat, p = p ∧ t = t ∧ I2 p t M0 0 M0 μ)
    (hc2 : ∀ (p : Nat) (t : Int) (M0 : Mem), p_X1_spread p t M0 → okM M0 → inR t → ∀ (d : Int) (M : Mem) (n : Nat), I2 p t M0 d M n → okM M → ((4 : Int) ≤ d → (0 = 0 ∧ c_X1_spread p t M0 0 M)) ∧ (¬ (4 : Int) ≤ d → (kdX p = 1 ∧ (p_X3_next 1 t d M ∧ ∀ (x2 : Int) (M1 : Mem), inR x2 → okM M1 → c_X3_next 1 t d M x2 M1 → ((x2 < (0 : Int) → (inR (d + 1) ∧ (∃ μ : Nat, μ < n ∧ p = p ∧ t = t ∧ I2 p t M0 (d + 1) M1 μ))) ∧ (¬ x2 < (0 : Int) → (kdX p = 1 ∧ (kdX 6 = 21 ∧ (0 ≤ x2 ∧ x2 < 144) ∧ (kdX p = 1 ∧ (kdX 6 = 21 ∧ (0 ≤ t ∧ t < 144) ∧ ((¬ (M1 6 (x2).toNat) = (M1 6 (t).toNat) → (inR (d + 1) ∧ (∃ μ : Nat, μ < n ∧ p = p ∧ t = t ∧ I2 p t M0 (d + 1) M1 μ))) ∧ (¬ (¬ (M1 6 (x2).toNat) = (M1 6 (t).toNat)) → (kdX p = 1 ∧ (kdX (p + 1) = 21 ∧ (0 ≤ x2 ∧ x2 < ((lnX (p + 1) : Nat) : Int)) ∧ ((¬ (M1 (p + 1) (x2).toNat) = (-5 : Int) → (inR (d + 1) ∧ (∃ μ : Nat, μ < n ∧ p = p ∧ t = t ∧ I2 p t M0 (d + 1) M1 μ))) ∧ (¬ (¬ (M1 (p + 1) (x2).toNat) = (-5 : Int)) → (kdX p = 1 ∧ (kdX (p + 4) = 21 ∧ (0 ≤ t ∧ t < ((lnX (p + 4) : Nat) : Int)) ∧ (kdX p = 1 ∧ (p_X3_crossing 1 t d M1 ∧ ∀ (x4 : Int) (M3 : Mem), inR x4 → okM M3 → c_X3_crossing 1 t d M1 x4 M3 → (kdX p = 1 ∧ (kdX (p + 1) = 21 ∧ (0 ≤ t ∧ t < ((lnX (p + 1) : Nat) : Int)) ∧ (kdX p = 1 ∧ (kdX (p + 3) = 21 ∧ (0 ≤ t ∧ t < ((lnX (p + 3) : Nat) : Int)) ∧ (inR ((M3 (p + 3) (t).toNat) + 1) ∧ (p_X1_enter p x2 (M3 (p + 1) (t).toNat) ((M3 (p + 3) (t).toNat) + 1) (bXor (M1 (p + 4) (t).toNat) x4) M3 ∧ ∀ (x6 : Int) (M5 : Mem), inR x6 → okM M5 → c_X1_enter p x2 (M3 (p + 1) (t).toNat) ((M3 (p + 3) (t).toNat) + 1) (bXor (M1 (p + 4) (t).toNat) x4) M3 x6 M5 → (inR (d + 1) ∧ (∃ μ : Nat, μ < n ∧ p = p ∧ t = t ∧ I2 p t M0 (d + 1) M5 μ))))))))))))))))))))))))))))
    : OK_X1_spread l D cy ad := by
  refine met_of (tb := tbX1_spread) (ft := ftX1) (cst := cst0) (ct := ct_X1_spread) (cuts := [2]) 58 (JA_X1_spread I2) hA jWX (by decide) tbX1_spread_ok (by decide) ftX1_ok cst0_ok (ldc_of (tb := tbX1_spread) (cst := cst0) (by decide)) rfl (List.forall_mem_cons.mpr ⟨si_X1_spread_13 o_X3_next, List.forall_mem_cons.mpr ⟨si_X1_spread_59 o_X3_crossing, List.forall_mem_cons.mpr ⟨si_X1_spread_83 o_X1_enter, fun q h => absurd h List.not_mem_nil⟩⟩⟩) ?_ ?_ ?_
  · intro as M0 h
    unfold P_X1_spread at h
    split at h
    · exact Nat.le_of_ble_eq_true rfl
    · exact h.elim
  · intro as M0 h hM has
    unfold P_X1_spread at h
    split at h
    next p t => exact hent p t M0 h hM (has t (by simp))
    · exact h.elim
  · intro as M0 h hM has pc ls st M n hI hM1
    unfold P_X1_spread at h
    split at h
    next p t =>
      unfold JA_X1_spread J_X1_spread at hI
      dsimp only at hI
      split at hI
      ·
        obtain ⟨rfl, rfl, hI⟩ := hI
        exact hc2 _ _ _ h hM (has _ (by simp)) _ _ _ hI hM1
      · exact hI.elim
    · exact h.elim
abbrev p_X1_flood (p : Nat) (f : Int) (M : Mem) : Prop := kdX p = 1 ∧ surf M ∧ ∃ κ B, preFl p f M κ B
abbrev c_X1_flood (p : Nat) (f : Int) (M : Mem) (x : Int) (M' : Mem) : Prop := ∀ κ B, preFl p f M κ B → RXs p M' (gX M) (bfl (gX M) κ f B 144) ∧ M' (p + 2) = upR (M (p + 2)) f.toNat (bfl (gX M) κ f B 144 4 0) ∧ (∀ b, b ≠ p + 2 → b ≠ p + 1 → b ≠ p + 3 → b ≠ p + 4 → b ≠ p + 6 → b ≠ p + 7 → M' b = M b)
def P_X1_flood (as : List AV) (M : Mem) : Prop := match as with
  | [.inr p, .inl f] => p_X1_flood p f M
  | _ => False
def C_X1_flood (as : List AV) (M : Mem) (x : Int) (M' : Mem) : Prop := match as with
  | [.inr p, .inl f] => c_X1_flood p f M x M'
  | _ => False
abbrev rm_X1_flood : Room := { frames := 3, cells := 0, slots := 0, locals := 69 }
abbrev OK_X1_flood (l : Launch) (D : va_G) (cy : Nat → ClassId) (ad : Nat → Nat) : Prop := MetA l D cy ad kdX lnX 46 yX1_flood cX1_flood 3 none rm_X1_flood 0 P_X1_flood C_X1_flood
theorem ca_X1_flood : CalV yX1_flood cX1_flood 3 none 1 := ⟨⟨wcX1_flood, wnX1, by decide +kernel, by decide +kernel, by decide +kernel⟩, wiX1_flood, wlX1_flood⟩
theorem rv_X1_flood : ∀ as M, P_X1_flood as M → ∃ a As q, as = .inr a :: As ∧ vwCl[kdX a]? = some q ∧ q.1 = yX1_flood.cls := by
  intro as M h
  unfold P_X1_flood at h
  split at h
  · exact ⟨_, _, (RX1, TX1, 9), rfl, by rw [h.1]; rfl, rfl⟩
  · exact h.elim
def ct_X1_flood : List (Nat × CS) := [(4, (1, 0, P_X5_clear, C_X5_clear)), (12, (5, 0, P_X1_enter, C_X1_enter)), (29, (1, 1, P_X5_number, C_X5_number)), (41, (2, 1, P_X5_at, C_X5_at)), (44, (2, 0, P_X1_spread, C_X1_spread)), (62, (1, 1, P_X5_number, C_X5_number))]
def J_X1_flood (I17 : Nat → Int → Mem → Int → Mem → Nat → Prop) (p : Nat) (f : Int) (M0 : Mem) : IT := fun pc ls st M μ => match pc, ls, st, M, μ with
  | 17, [some (.inr p_), some (.inl f_), some (.inl k)], [], M, μ => p = p_ ∧ f = f_ ∧ I17 p f M0 k M μ
  | _, _, _, _, _ => False
def JA_X1_flood (I17 : Nat → Int → Mem → Int → Mem → Nat → Prop) (as : List AV) (M0 : Mem) : IT := match as with
  | [.inr p, .inl f] => J_X1_flood I17 p f M0
  | _ => fun _ _ _ _ _ => False
theorem si_X1_flood_4 {l : Launch} {D : va_G} {cy : Nat → ClassId} {ad : Nat → Nat} (o : OK_X5_clear l D cy ad) : Site l D cy ad kdX lnX 46 yX1_flood.cls tbX1_flood rm_X1_flood 4 (1, 0, P_X5_clear, C_X5_clear) := Or.inl ⟨56, 0, yX5_clear, cX5_clear, 1, none, rm_X5_clear, rfl, rfl, o, ca_X5_clear, mkX1_56, ⟨rfl, rfl, by decide, by decide⟩, rv_X5_clear⟩
theorem si_X1_flood_12 {l : Launch} {D : va_G} {cy : Nat → ClassId} {ad : Nat → Nat} (o : OK_X1_enter l D cy ad) : Site l D cy ad kdX lnX 46 yX1_flood.cls tbX1_flood rm_X1_flood 12 (5, 0, P_X1_enter, C_X1_enter) := Or.inl ⟨59, 4, yX1_enter, cX1_enter, 5, none, rm_X1_enter, rfl, rfl, o, ca_X1_enter, mkX1_59, ⟨rfl, rfl, by decide, by decide⟩, rv_X1_enter⟩
theorem si_X1_flood_29 {l : Launch} {D : va_G} {cy : Nat → ClassId} {ad : Nat → Nat} (o : OK_X5_number l D cy ad) : Site l D cy ad kdX lnX 46 yX1_flood.cls tbX1_flood rm_X1_flood 29 (1, 1, P_X5_number, C_X5_number) := Or.inl ⟨63, 0, yX5_number, cX5_number, 1, (some .int), rm_X5_number, rfl, rfl, o, ca_X5_number, mkX1_63, ⟨rfl, rfl, by decide, by decide⟩, rv_X5_number⟩
theorem si_X1_flood_41 {l : Launch} {D : va_G} {cy : Nat → ClassId} {ad : Nat → Nat} (o : OK_X5_at l D cy ad) : Site l D cy ad kdX lnX 46 yX1_flood.cls tbX1_flood rm_X1_flood 41 (2, 1, P_X5_at, C_X5_at) := Or.inl ⟨65, 1, yX5_at, cX5_at, 2, (some .int), rm_X5_at, rfl, rfl, o, ca_X5_at, mkX1_65, ⟨rfl, rfl, by decide, by decide⟩, rv_X5_at⟩
theorem si_X1_flood_44 {l : Launch} {D : va_G} {cy : Nat → ClassId} {ad : Nat → Nat} (o : OK_X1_spread l D cy ad) : Site l D cy ad kdX lnX 46 yX1_flood.cls tbX1_flood rm_X1_flood 44 (2, 0, P_X1_spread, C_X1_spread) := Or.inl ⟨69, 1, yX1_spread, cX1_spread, 5, none, rm_X1_spread, rfl, rfl, o, ca_X1_spread, mkX1_69, ⟨rfl, rfl, by decide, by decide⟩, rv_X1_spread⟩
theorem si_X1_flood_62 {l : Launch} {D : va_G} {cy : Nat → ClassId} {ad : Nat → Nat} (o : OK_X5_number l D cy ad) : Site l D cy ad kdX lnX 46 yX1_flood.cls tbX1_flood rm_X1_flood 62 (1, 1, P_X5_number, C_X5_number) := Or.inl ⟨63, 0, yX5_number, cX5_number, 1, (some .int), rm_X5_number, rfl, rfl, o, ca_X5_number, mkX1_63, ⟨rfl, rfl, by decide, by decide⟩, rv_X5_number⟩
set_option maxRecDepth 100000 in
set_option maxHeartbeats 4000000 in
theorem met_X1_flood {l : Launch} {D : va_G} {cy : Nat → ClassId} {ad : Nat → Nat} (hA : jA ad 46) (o_X1_enter : OK_X1_enter l D cy ad) (o_X1_spread : OK_X1_spread l D cy ad) (o_X5_at : OK_X5_at l D cy ad) (o_X5_clear : OK_X5_clear l D cy ad) (o_X5_number : OK_X5_number l D cy ad) (I17 : Nat → Int → Mem → Int → Mem → Nat → Prop)
    (hent : ∀ (p : Nat) (f : Int) (M0 : Mem), p_X1_flood p f M0 → okM M0 → inR f → kdX p = 1 ∧ (p_X5_clear (p + 6) M0 ∧ ∀ (x2 : Int) (M1 : Mem), inR x2 → okM M1 → c_X5_clear (p + 6) M0 x2 M1 → (p_X1_enter p f f 0 0 M1 ∧ ∀ (x4 : Int) (M3 : Mem), inR x4 → okM M3 → c_X1_enter p f f 0 0 M1 x4 M3 → (∃ μ : Nat, p = p ∧ f = f ∧ I17 p f M0 0 M3 μ))))
    (hc17 : ∀ (p : Nat) (f : Int) (M0 : Mem), p_X1_flood p f M0 → okM M0 → inR f → ∀ (k : Int) (M : Mem) (n : Nat), I17 p f M0 k M n → okM M → ((144 : Int) ≤ k → (kdX p = 1 ∧ (kdX p = 1 ∧ (p_X5_number (p + 6) M ∧ ∀ (x2 : Int) (M1 : Mem), inR x2 → okM M1 → c_X5_number (p + 6) M x2 M1 → (kdX (p + 2) = 21 ∧ (0 ≤ f ∧ f < ((lnX (p + 2) : Nat) : Int)) ∧ (0 = 0 ∧ c_X1_flood p f M0 0 (up M1 (p + 2) (f).toNat x2))))))) ∧ (¬ (144 : Int) ≤ k → (kdX p = 1 ∧ (p_X5_number (p + 6) M ∧ ∀ (x4 : Int) (M3 : Mem), inR x4 → okM M3 → c_X5_number (p + 6) M x4 M3 → ((x4 ≤ k → (kdX p = 1 ∧ (kdX p = 1 ∧ (p_X5_number (p + 6) M3 ∧ ∀ (x6 : Int) (M5 : Mem), inR x6 → okM M5 → c_X5_number (p + 6) M3 x6 M5 → (kdX (p + 2) = 21 ∧ (0 ≤ f ∧ f < ((lnX (p + 2) : Nat) : Int)) ∧ (0 = 0 ∧ c_X1_flood p f M0 0 (up M5 (p + 2) (f).toNat x6))))))) ∧ (¬ x4 ≤ k → (kdX p = 1 ∧ (p_X5_at (p + 6) k M3 ∧ ∀ (x8 : Int) (M7 : Mem), inR x8 → okM M7 → c_X5_at (p + 6) k M3 x8 M7 → (p_X1_spread p x8 M7 ∧ ∀ (x10 : Int) (M9 : Mem), inR x10 → okM M9 → c_X1_spread p x8 M7 x10 M9 → (inR (k + 1) ∧ (∃ μ : Nat, μ < n ∧ p = p ∧ f = f ∧ I17 p f M0 (k + 1) M9 μ)))))))))))
    : OK_X1_flood l D cy ad := by
  refine met_of (tb := tbX1_flood) (ft := ftX1) (cst := cst0) (ct := ct_X1_flood) (cuts := [17]) 37 (JA_X1_flood I17) hA jWX (by decide) tbX1_flood_ok (by decide) ftX1_ok cst0_ok (ldc_of (tb := tbX1_flood) (cst := cst0) (by decide)) rfl (List.forall_mem_cons.mpr ⟨si_X1_flood_4 o_X5_clear, List.forall_mem_cons.mpr ⟨si_X1_flood_12 o_X1_enter, List.forall_mem_cons.mpr ⟨si_X1_flood_29 o_X5_number, List.forall_mem_cons.mpr ⟨si_X1_flood_41 o_X5_at, List.forall_mem_cons.mpr ⟨si_X1_flood_44 o_X1_spread, List.forall_mem_cons.mpr ⟨si_X1_flood_62 o_X5_number, fun q h => absurd h List.not_mem_nil⟩⟩⟩⟩⟩⟩) ?_ ?_ ?_
  · intro as M0 h
    unfold P_X1_flood at h
    split at h
    · exact Nat.le_of_ble_eq_true rfl
    · exact h.elim
  · intro as M0 h hM has
    unfold P_X1_flood at h
    split at h
    next p f => exact hent p f M0 h hM (has f (by simp))
    · exact h.elim
  · intro as M0 h hM has pc ls st M n hI hM1
    unfold P_X1_flood at h
    split at h
    next p f =>
      unfold JA_X1_flood J_X1_flood at hI
      dsimp only at hI
      split at hI
      ·
        obtain ⟨rfl, rfl, hI⟩ := hI
        exact hc17 _ _ _ h hM (has _ (by simp)) _ _ _ hI hM1
      · exact hI.elim
    · exact h.elim
abbrev p_X1_find (p : Nat) (M : Mem) : Prop := kdX p = 1 ∧ surf M
abbrev c_X1_find (p : Nat) (M : Mem) (x : Int) (M' : Mem) : Prop := ∀ κ, kin M κ → partsOK p M' (gX M) κ ∧ (∀ b, b ≠ p → b ≠ p + 2 → b ≠ p + 1 → b ≠ p + 3 → b ≠ p + 4 → b ≠ p + 6 → b ≠ p + 7 → M' b = M b)
def P_X1_find (as : List AV) (M : Mem) : Prop := match as with
  | [.inr p] => p_X1_find p M
  | _ => False
def C_X1_find (as : List AV) (M : Mem) (x : Int) (M' : Mem) : Prop := match as with
  | [.inr p] => c_X1_find p M x M'
  | _ => False
abbrev rm_X1_find : Room := { frames := 4, cells := 0, slots := 0, locals := 91 }
abbrev OK_X1_find (l : Launch) (D : va_G) (cy : Nat → ClassId) (ad : Nat → Nat) : Prop := MetA l D cy ad kdX lnX 46 yX1_find cX1_find 2 none rm_X1_find 0 P_X1_find C_X1_find
theorem ca_X1_find : CalV yX1_find cX1_find 2 none 0 := ⟨⟨wcX1_find, wnX1, by decide +kernel, by decide +kernel, by decide +kernel⟩, wiX1_find, wlX1_find⟩
theorem rv_X1_find : ∀ as M, P_X1_find as M → ∃ a As q, as = .inr a :: As ∧ vwCl[kdX a]? = some q ∧ q.1 = yX1_find.cls := by
  intro as M h
  unfold P_X1_find at h
  split at h
  · exact ⟨_, _, (RX1, TX1, 9), rfl, by rw [h.1]; rfl, rfl⟩
  · exact h.elim
def ct_X1_find : List (Nat × CS) := [(7, (1, 1, P_X3_tiles, C_X3_tiles)), (39, (1, 1, P_X3_tiles, C_X3_tiles)), (58, (2, 0, P_X1_flood, C_X1_flood))]
def J_X1_find (I2 : Nat → Mem → Int → Mem → Nat → Prop) (I34 : Nat → Mem → Int → Mem → Nat → Prop) (p : Nat) (M0 : Mem) : IT := fun pc ls st M μ => match pc, ls, st, M, μ with
  | 2, [some (.inr p_), some (.inl i)], [], M, μ => p = p_ ∧ I2 p M0 i M μ
  | 34, [some (.inr p_), some (.inl i)], [], M, μ => p = p_ ∧ I34 p M0 i M μ
  | _, _, _, _, _ => False
def JA_X1_find (I2 : Nat → Mem → Int → Mem → Nat → Prop) (I34 : Nat → Mem → Int → Mem → Nat → Prop) (as : List AV) (M0 : Mem) : IT := match as with
  | [.inr p] => J_X1_find I2 I34 p M0
  | _ => fun _ _ _ _ _ => False
theorem si_X1_find_7 {l : Launch} {D : va_G} {cy : Nat → ClassId} {ad : Nat → Nat} (o : OK_X3_tiles l D cy ad) : Site l D cy ad kdX lnX 46 yX1_find.cls tbX1_find rm_X1_find 7 (1, 1, P_X3_tiles, C_X3_tiles) := Or.inl ⟨46, 0, yX3_tiles, cX3_tiles, 1, (some .int), rm_X3_tiles, rfl, rfl, o, ca_X3_tiles, mkX1_46, ⟨rfl, rfl, by decide, by decide⟩, rv_X3_tiles⟩
theorem si_X1_find_39 {l : Launch} {D : va_G} {cy : Nat → ClassId} {ad : Nat → Nat} (o : OK_X3_tiles l D cy ad) : Site l D cy ad kdX lnX 46 yX1_find.cls tbX1_find rm_X1_find 39 (1, 1, P_X3_tiles, C_X3_tiles) := Or.inl ⟨46, 0, yX3_tiles, cX3_tiles, 1, (some .int), rm_X3_tiles, rfl, rfl, o, ca_X3_tiles, mkX1_46, ⟨rfl, rfl, by decide, by decide⟩, rv_X3_tiles⟩
theorem si_X1_find_58 {l : Launch} {D : va_G} {cy : Nat → ClassId} {ad : Nat → Nat} (o : OK_X1_flood l D cy ad) : Site l D cy ad kdX lnX 46 yX1_find.cls tbX1_find rm_X1_find 58 (2, 0, P_X1_flood, C_X1_flood) := Or.inl ⟨52, 1, yX1_flood, cX1_flood, 3, none, rm_X1_flood, rfl, rfl, o, ca_X1_flood, mkX1_52, ⟨rfl, rfl, by decide, by decide⟩, rv_X1_flood⟩
set_option maxRecDepth 100000 in
set_option maxHeartbeats 4000000 in
theorem met_X1_find {l : Launch} {D : va_G} {cy : Nat → ClassId} {ad : Nat → Nat} (hA : jA ad 46) (o_X1_flood : OK_X1_flood l D cy ad) (o_X3_tiles : OK_X3_tiles l D cy ad) (I2 : Nat → Mem → Int → Mem → Nat → Prop) (I34 : Nat → Mem → Int → Mem → Nat → Prop)
    (hent : ∀ (p : Nat) (M0 : Mem), p_X1_find p M0 → okM M0 → ∃ μ : Nat, p = p ∧ I2 p M0 0 M0 μ)
    (hc2 : ∀ (p : Nat) (M0 : Mem), p_X1_find p M0 → okM M0 → ∀ (i : Int) (M : Mem) (n : Nat), I2 p M0 i M n → okM M → kdX p = 1 ∧ (p_X3_tiles 1 M ∧ ∀ (x2 : Int) (M1 : Mem), inR x2 → okM M1 → c_X3_tiles 1 M x2 M1 → ((x2 ≤ i → (kdX p = 1 ∧ (∃ μ : Nat, μ < n ∧ p = p ∧ I34 p M0 0 (up M1 p 8 0) μ))) ∧ (¬ x2 ≤ i → (kdX p = 1 ∧ (kdX (p + 1) = 21 ∧ (0 ≤ i ∧ i < ((lnX (p + 1) : Nat) : Int)) ∧ (inR (i + 1) ∧ (∃ μ : Nat, μ < n ∧ p = p ∧ I2 p M0 (i + 1) (up M1 (p + 1) (i).toNat (-5)) μ))))))))
    (hc34 : ∀ (p : Nat) (M0 : Mem), p_X1_find p M0 → okM M0 → ∀ (i : Int) (M : Mem) (n : Nat), I34 p M0 i M n → okM M → kdX p = 1 ∧ (p_X3_tiles 1 M ∧ ∀ (x2 : Int) (M1 : Mem), inR x2 → okM M1 → c_X3_tiles 1 M x2 M1 → ((x2 ≤ i → (0 = 0 ∧ c_X1_find p M0 0 M1)) ∧ (¬ x2 ≤ i → (kdX p = 1 ∧ (kdX (p + 1) = 21 ∧ (0 ≤ i ∧ i < ((lnX (p + 1) : Nat) : Int)) ∧ ((¬ (M1 (p + 1) (i).toNat) = (-5 : Int) → (inR (i + 1) ∧ (∃ μ : Nat, μ < n ∧ p = p ∧ I34 p M0 (i + 1) M1 μ))) ∧ (¬ (¬ (M1 (p + 1) (i).toNat) = (-5 : Int)) → (p_X1_flood p i M1 ∧ ∀ (x4 : Int) (M3 : Mem), inR x4 → okM M3 → c_X1_flood p i M1 x4 M3 → (kdX p = 1 ∧ (inR ((M3 p 8) + 1) ∧ (kdX p = 1 ∧ (inR (i + 1) ∧ (∃ μ : Nat, μ < n ∧ p = p ∧ I34 p M0 (i + 1) (up M3 p 8 ((M3 p 8) + 1)) μ))))))))))))))
    : OK_X1_find l D cy ad := by
  refine met_of (tb := tbX1_find) (ft := ftX1) (cst := cst0) (ct := ct_X1_find) (cuts := [2, 34]) 44 (JA_X1_find I2 I34) hA jWX (by decide) tbX1_find_ok (by decide) ftX1_ok cst0_ok (ldc_of (tb := tbX1_find) (cst := cst0) (by decide)) rfl (List.forall_mem_cons.mpr ⟨si_X1_find_7 o_X3_tiles, List.forall_mem_cons.mpr ⟨si_X1_find_39 o_X3_tiles, List.forall_mem_cons.mpr ⟨si_X1_find_58 o_X1_flood, fun q h => absurd h List.not_mem_nil⟩⟩⟩) ?_ ?_ ?_
  · intro as M0 h
    unfold P_X1_find at h
    split at h
    · exact Nat.le_of_ble_eq_true rfl
    · exact h.elim
  · intro as M0 h hM has
    unfold P_X1_find at h
    split at h
    next p => exact hent p M0 h hM
    · exact h.elim
  · intro as M0 h hM has pc ls st M n hI hM1
    unfold P_X1_find at h
    split at h
    next p =>
      unfold JA_X1_find J_X1_find at hI
      dsimp only at hI
      split at hI
      ·
        obtain ⟨rfl, hI⟩ := hI
        exact hc2 _ _ h hM _ _ _ hI hM1
      ·
        obtain ⟨rfl, hI⟩ := hI
        exact hc34 _ _ h hM _ _ _ hI hM1
      · exact hI.elim
    · exact h.elim
