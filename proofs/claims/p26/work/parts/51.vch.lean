abbrev p_X4_length (p : Nat) (M : Mem) : Prop := kdX p = 4 ∧ p = 12
abbrev c_X4_length (p : Nat) (M : Mem) (x : Int) (M' : Mem) : Prop := x = M 12 1 ∧ M' = M
def P_X4_length (as : List AV) (M : Mem) : Prop := match as with
  | [.inr p] => p_X4_length p M
  | _ => False
def C_X4_length (as : List AV) (M : Mem) (x : Int) (M' : Mem) : Prop := match as with
  | [.inr p] => c_X4_length p M x M'
  | _ => False
abbrev rm_X4_length : Room := { frames := 0, cells := 0, slots := 0, locals := 0 }
abbrev OK_X4_length (l : Launch) (D : va_G) (cy : Nat → ClassId) (ad : Nat → Nat) : Prop := MetA l D cy ad kdX lnX 46 yX4_length cX4_length 1 (some .int) rm_X4_length 1 P_X4_length C_X4_length
theorem ca_X4_length : CalV yX4_length cX4_length 1 (some .int) 0 := ⟨⟨wcX4_length, wnX4, by decide +kernel, by decide +kernel, by decide +kernel⟩, wiX4_length, wlX4_length⟩
theorem rv_X4_length : ∀ as M, P_X4_length as M → ∃ a As q, as = .inr a :: As ∧ vwCl[kdX a]? = some q ∧ q.1 = yX4_length.cls := by
  intro as M h
  unfold P_X4_length at h
  split at h
  · exact ⟨_, _, (RX4, TX4, 2), rfl, by rw [h.1]; rfl, rfl⟩
  · exact h.elim
def ct_X4_length : List (Nat × CS) := []
def J_X4_length  (p : Nat) (M0 : Mem) : IT := fun pc ls st M μ => match pc, ls, st, M, μ with
  | _, _, _, _, _ => False
def JA_X4_length  (as : List AV) (M0 : Mem) : IT := match as with
  | [.inr p] => J_X4_length  p M0
  | _ => fun _ _ _ _ _ => False
set_option maxRecDepth 100000 in
set_option maxHeartbeats 4000000 in
theorem met_X4_length {l : Launch} {D : va_G} {cy : Nat → ClassId} {ad : Nat → Nat} (hA : jA ad 46)  
    (hent : ∀ (p : Nat) (M0 : Mem), p_X4_length p M0 → okM M0 → kdX p = 4 ∧ ((True) ∧ c_X4_length p M0 (M0 p 1) M0))
    : OK_X4_length l D cy ad := by
  refine met_of (tb := tbX4_length) (ft := ftX4) (cst := cst0) (ct := ct_X4_length) (cuts := []) 5 (JA_X4_length ) hA jWX (by decide) tbX4_length_ok (by decide) ftX4_ok cst0_ok (ldc_of (tb := tbX4_length) (cst := cst0) (by decide)) rfl (fun q h => absurd h List.not_mem_nil) ?_ ?_ ?_
  · intro as M0 h
    unfold P_X4_length at h
    split at h
    · exact Nat.le_of_ble_eq_true rfl
    · exact h.elim
  · intro as M0 h hM has
    unfold P_X4_length at h
    split at h
    next p => exact hent p M0 h hM
    · exact h.elim
  · intro as M0 h hM has pc ls st M n hI hM1
    unfold P_X4_length at h
    split at h
    · exact hI.elim
    · exact h.elim
abbrev p_X4_at (p : Nat) (k : Int) (M : Mem) : Prop := kdX p = 4 ∧ p = 12 ∧ (0 ≤ k ∧ k < 160) ∧ 0 ≤ M 13 k.toNat ∧ M 13 k.toNat < 65536
abbrev c_X4_at (p : Nat) (k : Int) (M : Mem) (x : Int) (M' : Mem) : Prop := x = M 13 k.toNat ∧ M' = M
def P_X4_at (as : List AV) (M : Mem) : Prop := match as with
  | [.inr p, .inl k] => p_X4_at p k M
  | _ => False
def C_X4_at (as : List AV) (M : Mem) (x : Int) (M' : Mem) : Prop := match as with
  | [.inr p, .inl k] => c_X4_at p k M x M'
  | _ => False
abbrev rm_X4_at : Room := { frames := 0, cells := 0, slots := 0, locals := 0 }
abbrev OK_X4_at (l : Launch) (D : va_G) (cy : Nat → ClassId) (ad : Nat → Nat) : Prop := MetA l D cy ad kdX lnX 46 yX4_at cX4_at 2 (some .char) rm_X4_at 3 P_X4_at C_X4_at
theorem ca_X4_at : CalV yX4_at cX4_at 2 (some .char) 1 := ⟨⟨wcX4_at, wnX4, by decide +kernel, by decide +kernel, by decide +kernel⟩, wiX4_at, wlX4_at⟩
theorem rv_X4_at : ∀ as M, P_X4_at as M → ∃ a As q, as = .inr a :: As ∧ vwCl[kdX a]? = some q ∧ q.1 = yX4_at.cls := by
  intro as M h
  unfold P_X4_at at h
  split at h
  · exact ⟨_, _, (RX4, TX4, 2), rfl, by rw [h.1]; rfl, rfl⟩
  · exact h.elim
def ct_X4_at : List (Nat × CS) := []
def J_X4_at  (p : Nat) (k : Int) (M0 : Mem) : IT := fun pc ls st M μ => match pc, ls, st, M, μ with
  | _, _, _, _, _ => False
def JA_X4_at  (as : List AV) (M0 : Mem) : IT := match as with
  | [.inr p, .inl k] => J_X4_at  p k M0
  | _ => fun _ _ _ _ _ => False
set_option maxRecDepth 100000 in
set_option maxHeartbeats 4000000 in
theorem met_X4_at {l : Launch} {D : va_G} {cy : Nat → ClassId} {ad : Nat → Nat} (hA : jA ad 46)  
    (hent : ∀ (p : Nat) (k : Int) (M0 : Mem), p_X4_at p k M0 → okM M0 → inR k → kdX p = 4 ∧ (kdX 13 = 20 ∧ (0 ≤ k ∧ k < 160) ∧ ((0 ≤ (M0 13 (k).toNat) ∧ (M0 13 (k).toNat) < 65536) ∧ c_X4_at p k M0 (M0 13 (k).toNat) M0)))
    : OK_X4_at l D cy ad := by
  refine met_of (tb := tbX4_at) (ft := ftX4) (cst := cst0) (ct := ct_X4_at) (cuts := []) 7 (JA_X4_at ) hA jWX (by decide) tbX4_at_ok (by decide) ftX4_ok cst0_ok (ldc_of (tb := tbX4_at) (cst := cst0) (by decide)) rfl (fun q h => absurd h List.not_mem_nil) ?_ ?_ ?_
  · intro as M0 h
    unfold P_X4_at at h
    split at h
    · exact Nat.le_of_ble_eq_true rfl
    · exact h.elim
  · intro as M0 h hM has
    unfold P_X4_at at h
    split at h
    next p k => exact hent p k M0 h hM (has k (by simp))
    · exact h.elim
  · intro as M0 h hM has pc ls st M n hI hM1
    unfold P_X4_at at h
    split at h
    · exact hI.elim
    · exact h.elim
abbrev p_X4_append (p : Nat) (c : Int) (M : Mem) : Prop := kdX p = 4 ∧ p = 12 ∧ (0 ≤ M 12 1 ∧ M 12 1 ≤ 160) ∧ 0 ≤ c ∧ c < 65536
abbrev c_X4_append (p : Nat) (c : Int) (M : Mem) (x : Int) (M' : Mem) : Prop := (if M 12 1 = 160 then x = -3 ∧ M' = M else x = M 12 1 + 1 ∧ M' = up (up M 13 (M 12 1).toNat c) 12 1 (M 12 1 + 1))
def P_X4_append (as : List AV) (M : Mem) : Prop := match as with
  | [.inr p, .inl c] => p_X4_append p c M
  | _ => False
def C_X4_append (as : List AV) (M : Mem) (x : Int) (M' : Mem) : Prop := match as with
  | [.inr p, .inl c] => c_X4_append p c M x M'
  | _ => False
abbrev rm_X4_append : Room := { frames := 0, cells := 0, slots := 0, locals := 0 }
abbrev OK_X4_append (l : Launch) (D : va_G) (cy : Nat → ClassId) (ad : Nat → Nat) : Prop := MetA l D cy ad kdX lnX 46 yX4_append cX4_append 2 (some .int) rm_X4_append 1 P_X4_append C_X4_append
theorem ca_X4_append : CalV yX4_append cX4_append 2 (some .int) 1 := ⟨⟨wcX4_append, wnX4, by decide +kernel, by decide +kernel, by decide +kernel⟩, wiX4_append, wlX4_append⟩
theorem rv_X4_append : ∀ as M, P_X4_append as M → ∃ a As q, as = .inr a :: As ∧ vwCl[kdX a]? = some q ∧ q.1 = yX4_append.cls := by
  intro as M h
  unfold P_X4_append at h
  split at h
  · exact ⟨_, _, (RX4, TX4, 2), rfl, by rw [h.1]; rfl, rfl⟩
  · exact h.elim
def ct_X4_append : List (Nat × CS) := []
def J_X4_append  (p : Nat) (c : Int) (M0 : Mem) : IT := fun pc ls st M μ => match pc, ls, st, M, μ with
  | _, _, _, _, _ => False
def JA_X4_append  (as : List AV) (M0 : Mem) : IT := match as with
  | [.inr p, .inl c] => J_X4_append  p c M0
  | _ => fun _ _ _ _ _ => False
set_option maxRecDepth 100000 in
set_option maxHeartbeats 4000000 in
theorem met_X4_append {l : Launch} {D : va_G} {cy : Nat → ClassId} {ad : Nat → Nat} (hA : jA ad 46)  
    (hent : ∀ (p : Nat) (c : Int) (M0 : Mem), p_X4_append p c M0 → okM M0 → inR c → kdX p = 4 ∧ (((M0 p 1) < (160 : Int) → (kdX p = 4 ∧ (kdX p = 4 ∧ (kdX 13 = 20 ∧ (0 ≤ (M0 p 1) ∧ (M0 p 1) < 160) ∧ (0 ≤ c ∧ c < 65536) ∧ (kdX p = 4 ∧ (inR (((up M0 13 (M0 p 1).toNat c) p 1) + 1) ∧ (kdX p = 4 ∧ (kdX p = 4 ∧ ((True) ∧ c_X4_append p c M0 ((up (up M0 13 (M0 p 1).toNat c) p 1 (((up M0 13 (M0 p 1).toNat c) p 1) + 1)) p 1) (up (up M0 13 (M0 p 1).toNat c) p 1 (((up M0 13 (M0 p 1).toNat c) p 1) + 1))))))))))) ∧ (¬ (M0 p 1) < (160 : Int) → ((True) ∧ c_X4_append p c M0 (-3) M0))))
    : OK_X4_append l D cy ad := by
  refine met_of (tb := tbX4_append) (ft := ftX4) (cst := cst0) (ct := ct_X4_append) (cuts := []) 23 (JA_X4_append ) hA jWX (by decide) tbX4_append_ok (by decide) ftX4_ok cst0_ok (ldc_of (tb := tbX4_append) (cst := cst0) (by decide)) rfl (fun q h => absurd h List.not_mem_nil) ?_ ?_ ?_
  · intro as M0 h
    unfold P_X4_append at h
    split at h
    · exact Nat.le_of_ble_eq_true rfl
    · exact h.elim
  · intro as M0 h hM has
    unfold P_X4_append at h
    split at h
    next p c => exact hent p c M0 h hM (has c (by simp))
    · exact h.elim
  · intro as M0 h hM has pc ls st M n hI hM1
    unfold P_X4_append at h
    split at h
    · exact hI.elim
    · exact h.elim
abbrev p_X4_empty (p : Nat) (M : Mem) : Prop := kdX p = 4 ∧ p = 12
abbrev c_X4_empty (p : Nat) (M : Mem) (x : Int) (M' : Mem) : Prop := x = M 12 1 ∧ M' = up M 12 1 0
def P_X4_empty (as : List AV) (M : Mem) : Prop := match as with
  | [.inr p] => p_X4_empty p M
  | _ => False
def C_X4_empty (as : List AV) (M : Mem) (x : Int) (M' : Mem) : Prop := match as with
  | [.inr p] => c_X4_empty p M x M'
  | _ => False
abbrev rm_X4_empty : Room := { frames := 0, cells := 0, slots := 0, locals := 0 }
abbrev OK_X4_empty (l : Launch) (D : va_G) (cy : Nat → ClassId) (ad : Nat → Nat) : Prop := MetA l D cy ad kdX lnX 46 yX4_empty cX4_empty 2 (some .int) rm_X4_empty 1 P_X4_empty C_X4_empty
theorem ca_X4_empty : CalV yX4_empty cX4_empty 2 (some .int) 0 := ⟨⟨wcX4_empty, wnX4, by decide +kernel, by decide +kernel, by decide +kernel⟩, wiX4_empty, wlX4_empty⟩
theorem rv_X4_empty : ∀ as M, P_X4_empty as M → ∃ a As q, as = .inr a :: As ∧ vwCl[kdX a]? = some q ∧ q.1 = yX4_empty.cls := by
  intro as M h
  unfold P_X4_empty at h
  split at h
  · exact ⟨_, _, (RX4, TX4, 2), rfl, by rw [h.1]; rfl, rfl⟩
  · exact h.elim
def ct_X4_empty : List (Nat × CS) := []
def J_X4_empty  (p : Nat) (M0 : Mem) : IT := fun pc ls st M μ => match pc, ls, st, M, μ with
  | _, _, _, _, _ => False
def JA_X4_empty  (as : List AV) (M0 : Mem) : IT := match as with
  | [.inr p] => J_X4_empty  p M0
  | _ => fun _ _ _ _ _ => False
set_option maxRecDepth 100000 in
set_option maxHeartbeats 4000000 in
theorem met_X4_empty {l : Launch} {D : va_G} {cy : Nat → ClassId} {ad : Nat → Nat} (hA : jA ad 46)  
    (hent : ∀ (p : Nat) (M0 : Mem), p_X4_empty p M0 → okM M0 → kdX p = 4 ∧ (kdX p = 4 ∧ ((True) ∧ c_X4_empty p M0 (M0 p 1) (up M0 p 1 0))))
    : OK_X4_empty l D cy ad := by
  refine met_of (tb := tbX4_empty) (ft := ftX4) (cst := cst0) (ct := ct_X4_empty) (cuts := []) 10 (JA_X4_empty ) hA jWX (by decide) tbX4_empty_ok (by decide) ftX4_ok cst0_ok (ldc_of (tb := tbX4_empty) (cst := cst0) (by decide)) rfl (fun q h => absurd h List.not_mem_nil) ?_ ?_ ?_
  · intro as M0 h
    unfold P_X4_empty at h
    split at h
    · exact Nat.le_of_ble_eq_true rfl
    · exact h.elim
  · intro as M0 h hM has
    unfold P_X4_empty at h
    split at h
    next p => exact hent p M0 h hM
    · exact h.elim
  · intro as M0 h hM has pc ls st M n hI hM1
    unfold P_X4_empty at h
    split at h
    · exact hI.elim
    · exact h.elim
abbrev p_X4_isFitting (c : Int) (b : Int) (M : Mem) : Prop := True
abbrev c_X4_isFitting (c : Int) (b : Int) (M : Mem) (x : Int) (M' : Mem) : Prop := x = (if (if b = 0 then 48 ≤ c ∧ c ≤ 53 else c = 47) then 1 else 0) ∧ M' = M
def P_X4_isFitting (as : List AV) (M : Mem) : Prop := match as with
  | [.inl c, .inl b] => p_X4_isFitting c b M
  | _ => False
def C_X4_isFitting (as : List AV) (M : Mem) (x : Int) (M' : Mem) : Prop := match as with
  | [.inl c, .inl b] => c_X4_isFitting c b M x M'
  | _ => False
abbrev rm_X4_isFitting : Room := { frames := 0, cells := 0, slots := 0, locals := 0 }
abbrev OK_X4_isFitting (l : Launch) (D : va_G) (cy : Nat → ClassId) (ad : Nat → Nat) : Prop := MetA l D cy ad kdX lnX 46 yX4_isFitting cX4_isFitting 2 (some .boolean) rm_X4_isFitting 2 P_X4_isFitting C_X4_isFitting
theorem ca_X4_isFitting : CalS yX4_isFitting cX4_isFitting 2 (some .boolean) 2 := ⟨⟨wcX4_isFitting, wnX4, by decide +kernel, by decide +kernel, by decide +kernel⟩, wsX4_isFitting⟩
def ct_X4_isFitting : List (Nat × CS) := []
def J_X4_isFitting  (c : Int) (b : Int) (M0 : Mem) : IT := fun pc ls st M μ => match pc, ls, st, M, μ with
  | _, _, _, _, _ => False
def JA_X4_isFitting  (as : List AV) (M0 : Mem) : IT := match as with
  | [.inl c, .inl b] => J_X4_isFitting  c b M0
  | _ => fun _ _ _ _ _ => False
set_option maxRecDepth 100000 in
set_option maxHeartbeats 4000000 in
theorem met_X4_isFitting {l : Launch} {D : va_G} {cy : Nat → ClassId} {ad : Nat → Nat} (hA : jA ad 46)  
    (hent : ∀ (c : Int) (b : Int) (M0 : Mem), p_X4_isFitting c b M0 → okM M0 → inR c → inR b → (b = (0 : Int) → ((c < (48 : Int) → (((0 : Int) = 0 ∨ (0 : Int) = 1) ∧ c_X4_isFitting c b M0 0 M0)) ∧ (¬ c < (48 : Int) → (((53 : Int) < c → (((0 : Int) = 0 ∨ (0 : Int) = 1) ∧ c_X4_isFitting c b M0 0 M0)) ∧ (¬ (53 : Int) < c → (((1 : Int) = 0 ∨ (1 : Int) = 1) ∧ c_X4_isFitting c b M0 1 M0)))))) ∧ (¬ b = (0 : Int) → ((¬ c = (47 : Int) → (((0 : Int) = 0 ∨ (0 : Int) = 1) ∧ c_X4_isFitting c b M0 0 M0)) ∧ (¬ (¬ c = (47 : Int)) → (((1 : Int) = 0 ∨ (1 : Int) = 1) ∧ c_X4_isFitting c b M0 1 M0)))))
    : OK_X4_isFitting l D cy ad := by
  refine met_of (tb := tbX4_isFitting) (ft := ftX4) (cst := cst0) (ct := ct_X4_isFitting) (cuts := []) 21 (JA_X4_isFitting ) hA jWX (by decide) tbX4_isFitting_ok (by decide) ftX4_ok cst0_ok (ldc_of (tb := tbX4_isFitting) (cst := cst0) (by decide)) rfl (fun q h => absurd h List.not_mem_nil) ?_ ?_ ?_
  · intro as M0 h
    unfold P_X4_isFitting at h
    split at h
    · exact Nat.le_of_ble_eq_true rfl
    · exact h.elim
  · intro as M0 h hM has
    unfold P_X4_isFitting at h
    split at h
    next c b => exact hent c b M0 h hM (has c (by simp)) (has b (by simp))
    · exact h.elim
  · intro as M0 h hM has pc ls st M n hI hM1
    unfold P_X4_isFitting at h
    split at h
    · exact hI.elim
    · exact h.elim
abbrev p_X4_faultAsTiles (p : Nat) (a : Int) (b : Int) (M : Mem) : Prop := kdX p = 4 ∧ p = 12 ∧ (0 ≤ M 12 1 ∧ M 12 1 ≤ 160) ∧ (3 ≤ a ∧ a ≤ 12) ∧ 3 ≤ b ∧ b ≤ 12
abbrev c_X4_faultAsTiles (p : Nat) (a : Int) (b : Int) (M : Mem) (x : Int) (M' : Mem) : Prop := x = ftF a b (M 13) (M 12 1) ∧ M' = M
def P_X4_faultAsTiles (as : List AV) (M : Mem) : Prop := match as with
  | [.inr p, .inl a, .inl b] => p_X4_faultAsTiles p a b M
  | _ => False
def C_X4_faultAsTiles (as : List AV) (M : Mem) (x : Int) (M' : Mem) : Prop := match as with
  | [.inr p, .inl a, .inl b] => c_X4_faultAsTiles p a b M x M'
  | _ => False
abbrev rm_X4_faultAsTiles : Room := { frames := 1, cells := 0, slots := 0, locals := 21 }
abbrev OK_X4_faultAsTiles (l : Launch) (D : va_G) (cy : Nat → ClassId) (ad : Nat → Nat) : Prop := MetA l D cy ad kdX lnX 46 yX4_faultAsTiles cX4_faultAsTiles 6 (some .int) rm_X4_faultAsTiles 1 P_X4_faultAsTiles C_X4_faultAsTiles
theorem ca_X4_faultAsTiles : CalV yX4_faultAsTiles cX4_faultAsTiles 6 (some .int) 2 := ⟨⟨wcX4_faultAsTiles, wnX4, by decide +kernel, by decide +kernel, by decide +kernel⟩, wiX4_faultAsTiles, wlX4_faultAsTiles⟩
theorem rv_X4_faultAsTiles : ∀ as M, P_X4_faultAsTiles as M → ∃ a As q, as = .inr a :: As ∧ vwCl[kdX a]? = some q ∧ q.1 = yX4_faultAsTiles.cls := by
  intro as M h
  unfold P_X4_faultAsTiles at h
  split at h
  · exact ⟨_, _, (RX4, TX4, 2), rfl, by rw [h.1]; rfl, rfl⟩
  · exact h.elim
def ct_X4_faultAsTiles : List (Nat × CS) := [(47, (2, 2, P_X4_isFitting, C_X4_isFitting))]
def J_X4_faultAsTiles (I14 : Nat → Int → Int → Mem → Int → Int → Int → Mem → Nat → Prop) (p : Nat) (a : Int) (b : Int) (M0 : Mem) : IT := fun pc ls st M μ => match pc, ls, st, M, μ with
  | 14, [some (.inr p_), some (.inl a_), some (.inl b_), some (.inl u), some (.inl c), some (.inl k)], [], M, μ => p = p_ ∧ a = a_ ∧ b = b_ ∧ I14 p a b M0 u c k M μ
  | _, _, _, _, _ => False
def JA_X4_faultAsTiles (I14 : Nat → Int → Int → Mem → Int → Int → Int → Mem → Nat → Prop) (as : List AV) (M0 : Mem) : IT := match as with
  | [.inr p, .inl a, .inl b] => J_X4_faultAsTiles I14 p a b M0
  | _ => fun _ _ _ _ _ => False
theorem si_X4_faultAsTiles_47 {l : Launch} {D : va_G} {cy : Nat → ClassId} {ad : Nat → Nat} (o : OK_X4_isFitting l D cy ad) : Site l D cy ad kdX lnX 46 yX4_faultAsTiles.cls tbX4_faultAsTiles rm_X4_faultAsTiles 47 (2, 2, P_X4_isFitting, C_X4_isFitting) := Or.inr (Or.inl ⟨19, 2, yX4_isFitting, cX4_isFitting, 2, (some .boolean), rm_X4_isFitting, rfl, rfl, o, ca_X4_isFitting, mkX4_19, rfl, ⟨rfl, rfl, by decide, by decide⟩⟩)
set_option maxRecDepth 100000 in
set_option maxHeartbeats 4000000 in
theorem met_X4_faultAsTiles {l : Launch} {D : va_G} {cy : Nat → ClassId} {ad : Nat → Nat} (hA : jA ad 46) (o_X4_isFitting : OK_X4_isFitting l D cy ad) (I14 : Nat → Int → Int → Mem → Int → Int → Int → Mem → Nat → Prop)
    (hent : ∀ (p : Nat) (a : Int) (b : Int) (M0 : Mem), p_X4_faultAsTiles p a b M0 → okM M0 → inR a → inR b → inR (a + 1) ∧ (inR (b * (a + 1)) ∧ (inR ((b * (a + 1)) - 1) ∧ (∃ μ : Nat, p = p ∧ a = a ∧ b = b ∧ I14 p a b M0 ((b * (a + 1)) - 1) 0 0 M0 μ))))
    (hc14 : ∀ (p : Nat) (a : Int) (b : Int) (M0 : Mem), p_X4_faultAsTiles p a b M0 → okM M0 → inR a → inR b → ∀ (u : Int) (c : Int) (k : Int) (M : Mem) (n : Nat), I14 p a b M0 u c k M n → okM M → kdX p = 4 ∧ (((M p 1) ≤ k → (kdX p = 4 ∧ ((u ≤ (M p 1) → ((True) ∧ c_X4_faultAsTiles p a b M0 (-1) M)) ∧ (¬ u ≤ (M p 1) → (kdX p = 4 ∧ ((True) ∧ c_X4_faultAsTiles p a b M0 (M p 1) M)))))) ∧ (¬ (M p 1) ≤ k → ((u ≤ k → ((True) ∧ c_X4_faultAsTiles p a b M0 k M)) ∧ (¬ u ≤ k → (kdX p = 4 ∧ (kdX 13 = 20 ∧ (0 ≤ k ∧ k < 160) ∧ ((¬ c = a → (p_X4_isFitting (M 13 (k).toNat) 0 M ∧ ∀ (x2 : Int) (M1 : Mem), inR x2 → okM M1 → c_X4_isFitting (M 13 (k).toNat) 0 M x2 M1 → ((¬ x2 = (0 : Int) → ((¬ c = a → (inR (c + 1) ∧ (inR (k + 1) ∧ (∃ μ : Nat, μ < n ∧ p = p ∧ a = a ∧ b = b ∧ I14 p a b M0 u (c + 1) (k + 1) M1 μ)))) ∧ (¬ (¬ c = a) → (inR (k + 1) ∧ (∃ μ : Nat, μ < n ∧ p = p ∧ a = a ∧ b = b ∧ I14 p a b M0 u 0 (k + 1) M1 μ))))) ∧ (¬ (¬ x2 = (0 : Int)) → ((True) ∧ c_X4_faultAsTiles p a b M0 k M1))))) ∧ (¬ (¬ c = a) → (p_X4_isFitting (M 13 (k).toNat) 1 M ∧ ∀ (x4 : Int) (M3 : Mem), inR x4 → okM M3 → c_X4_isFitting (M 13 (k).toNat) 1 M x4 M3 → ((¬ x4 = (0 : Int) → ((¬ c = a → (inR (c + 1) ∧ (inR (k + 1) ∧ (∃ μ : Nat, μ < n ∧ p = p ∧ a = a ∧ b = b ∧ I14 p a b M0 u (c + 1) (k + 1) M3 μ)))) ∧ (¬ (¬ c = a) → (inR (k + 1) ∧ (∃ μ : Nat, μ < n ∧ p = p ∧ a = a ∧ b = b ∧ I14 p a b M0 u 0 (k + 1) M3 μ))))) ∧ (¬ (¬ x4 = (0 : Int)) → ((True) ∧ c_X4_faultAsTiles p a b M0 k M3)))))))))))))
    : OK_X4_faultAsTiles l D cy ad := by
  refine met_of (tb := tbX4_faultAsTiles) (ft := ftX4) (cst := cst0) (ct := ct_X4_faultAsTiles) (cuts := [14]) 55 (JA_X4_faultAsTiles I14) hA jWX (by decide) tbX4_faultAsTiles_ok (by decide) ftX4_ok cst0_ok (ldc_of (tb := tbX4_faultAsTiles) (cst := cst0) (by decide)) rfl (List.forall_mem_cons.mpr ⟨si_X4_faultAsTiles_47 o_X4_isFitting, fun q h => absurd h List.not_mem_nil⟩) ?_ ?_ ?_
  · intro as M0 h
    unfold P_X4_faultAsTiles at h
    split at h
    · exact Nat.le_of_ble_eq_true rfl
    · exact h.elim
  · intro as M0 h hM has
    unfold P_X4_faultAsTiles at h
    split at h
    next p a b => exact hent p a b M0 h hM (has a (by simp)) (has b (by simp))
    · exact h.elim
  · intro as M0 h hM has pc ls st M n hI hM1
    unfold P_X4_faultAsTiles at h
    split at h
    next p a b =>
      unfold JA_X4_faultAsTiles J_X4_faultAsTiles at hI
      dsimp only at hI
      split at hI
      ·
        obtain ⟨rfl, rfl, rfl, hI⟩ := hI
        exact hc14 _ _ _ _ h hM (has _ (by simp)) (has _ (by simp)) _ _ _ _ _ hI hM1
      · exact hI.elim
    · exact h.elim
abbrev p_X4_kindAt (p : Nat) (c : Int) (r : Int) (a : Int) (M : Mem) : Prop := kdX p = 4 ∧ p = 12 ∧ (0 ≤ c ∧ c < a) ∧ (0 ≤ r ∧ r < 12) ∧ (3 ≤ a ∧ a ≤ 12) ∧ r * (a + 1) + c < 160 ∧ 0 ≤ M 13 (r * (a + 1) + c).toNat
abbrev c_X4_kindAt (p : Nat) (c : Int) (r : Int) (a : Int) (M : Mem) (x : Int) (M' : Mem) : Prop := x = M 13 (r * (a + 1) + c).toNat - 48 ∧ M' = M
def P_X4_kindAt (as : List AV) (M : Mem) : Prop := match as with
  | [.inr p, .inl c, .inl r, .inl a] => p_X4_kindAt p c r a M
  | _ => False
def C_X4_kindAt (as : List AV) (M : Mem) (x : Int) (M' : Mem) : Prop := match as with
  | [.inr p, .inl c, .inl r, .inl a] => c_X4_kindAt p c r a M x M'
  | _ => False
abbrev rm_X4_kindAt : Room := { frames := 0, cells := 0, slots := 0, locals := 0 }
abbrev OK_X4_kindAt (l : Launch) (D : va_G) (cy : Nat → ClassId) (ad : Nat → Nat) : Prop := MetA l D cy ad kdX lnX 46 yX4_kindAt cX4_kindAt 4 (some .int) rm_X4_kindAt 1 P_X4_kindAt C_X4_kindAt
theorem ca_X4_kindAt : CalV yX4_kindAt cX4_kindAt 4 (some .int) 3 := ⟨⟨wcX4_kindAt, wnX4, by decide +kernel, by decide +kernel, by decide +kernel⟩, wiX4_kindAt, wlX4_kindAt⟩
theorem rv_X4_kindAt : ∀ as M, P_X4_kindAt as M → ∃ a As q, as = .inr a :: As ∧ vwCl[kdX a]? = some q ∧ q.1 = yX4_kindAt.cls := by
  intro as M h
  unfold P_X4_kindAt at h
  split at h
  · exact ⟨_, _, (RX4, TX4, 2), rfl, by rw [h.1]; rfl, rfl⟩
  · exact h.elim
def ct_X4_kindAt : List (Nat × CS) := []
def J_X4_kindAt  (p : Nat) (c : Int) (r : Int) (a : Int) (M0 : Mem) : IT := fun pc ls st M μ => match pc, ls, st, M, μ with
  | _, _, _, _, _ => False
def JA_X4_kindAt  (as : List AV) (M0 : Mem) : IT := match as with
  | [.inr p, .inl c, .inl r, .inl a] => J_X4_kindAt  p c r a M0
  | _ => fun _ _ _ _ _ => False
set_option maxRecDepth 100000 in
set_option maxHeartbeats 4000000 in
theorem met_X4_kindAt {l : Launch} {D : va_G} {cy : Nat → ClassId} {ad : Nat → Nat} (hA : jA ad 46)  
    (hent : ∀ (p : Nat) (c : Int) (r : Int) (a : Int) (M0 : Mem), p_X4_kindAt p c r a M0 → okM M0 → inR c → inR r → inR a → kdX p = 4 ∧ (inR (a + 1) ∧ (inR (r * (a + 1)) ∧ (inR ((r * (a + 1)) + c) ∧ (kdX 13 = 20 ∧ (0 ≤ ((r * (a + 1)) + c) ∧ ((r * (a + 1)) + c) < 160) ∧ (inR ((M0 13 ((r * (a + 1)) + c).toNat) - 48) ∧ ((True) ∧ c_X4_kindAt p c r a M0 ((M0 13 ((r * (a + 1)) + c).toNat) - 48) M0)))))))
    : OK_X4_kindAt l D cy ad := by
  refine met_of (tb := tbX4_kindAt) (ft := ftX4) (cst := cst0) (ct := ct_X4_kindAt) (cuts := []) 15 (JA_X4_kindAt ) hA jWX (by decide) tbX4_kindAt_ok (by decide) ftX4_ok cst0_ok (ldc_of (tb := tbX4_kindAt) (cst := cst0) (by decide)) rfl (fun q h => absurd h List.not_mem_nil) ?_ ?_ ?_
  · intro as M0 h
    unfold P_X4_kindAt at h
    split at h
    · exact Nat.le_of_ble_eq_true rfl
    · exact h.elim
  · intro as M0 h hM has
    unfold P_X4_kindAt at h
    split at h
    next p c r a => exact hent p c r a M0 h hM (has c (by simp)) (has r (by simp)) (has a (by simp))
    · exact h.elim
  · intro as M0 h hM has pc ls st M n hI hM1
    unfold P_X4_kindAt at h
    split at h
    · exact hI.elim
    · exact h.elim
abbrev p_X4_faultAsWalk (p : Nat) (M : Mem) : Prop := kdX p = 4 ∧ p = 12 ∧ 0 ≤ M 12 1 ∧ M 12 1 ≤ 160
abbrev c_X4_faultAsWalk (p : Nat) (M : Mem) (x : Int) (M' : Mem) : Prop := x = ffF (badW (M 13)) (M 12 1).toNat ∧ M' = M
def P_X4_faultAsWalk (as : List AV) (M : Mem) : Prop := match as with
  | [.inr p] => p_X4_faultAsWalk p M
  | _ => False
def C_X4_faultAsWalk (as : List AV) (M : Mem) (x : Int) (M' : Mem) : Prop := match as with
  | [.inr p] => c_X4_faultAsWalk p M x M'
  | _ => False
abbrev rm_X4_faultAsWalk : Room := { frames := 0, cells := 0, slots := 0, locals := 0 }
abbrev OK_X4_faultAsWalk (l : Launch) (D : va_G) (cy : Nat → ClassId) (ad : Nat → Nat) : Prop := MetA l D cy ad kdX lnX 46 yX4_faultAsWalk cX4_faultAsWalk 3 (some .int) rm_X4_faultAsWalk 1 P_X4_faultAsWalk C_X4_faultAsWalk
theorem ca_X4_faultAsWalk : CalV yX4_faultAsWalk cX4_faultAsWalk 3 (some .int) 0 := ⟨⟨wcX4_faultAsWalk, wnX4, by decide +kernel, by decide +kernel, by decide +kernel⟩, wiX4_faultAsWalk, wlX4_faultAsWalk⟩
theorem rv_X4_faultAsWalk : ∀ as M, P_X4_faultAsWalk as M → ∃ a As q, as = .inr a :: As ∧ vwCl[kdX a]? = some q ∧ q.1 = yX4_faultAsWalk.cls := by
  intro as M h
  unfold P_X4_faultAsWalk at h
  split at h
  · exact ⟨_, _, (RX4, TX4, 2), rfl, by rw [h.1]; rfl, rfl⟩
  · exact h.elim
def ct_X4_faultAsWalk : List (Nat × CS) := []
def J_X4_faultAsWalk (I2 : Nat → Mem → Int → Mem → Nat → Prop) (p : Nat) (M0 : Mem) : IT := fun pc ls st M μ => match pc, ls, st, M, μ with
  | 2, [some (.inr p_), some (.inl k), _], [], M, μ => p = p_ ∧ I2 p M0 k M μ
  | _, _, _, _, _ => False
def JA_X4_faultAsWalk (I2 : Nat → Mem → Int → Mem → Nat → Prop) (as : List AV) (M0 : Mem) : IT := match as with
  | [.inr p] => J_X4_faultAsWalk I2 p M0
  | _ => fun _ _ _ _ _ => False
set_option maxRecDepth 100000 in
set_option maxHeartbeats 4000000 in
theorem met_X4_faultAsWalk {l : Launch} {D : va_G} {cy : Nat → ClassId} {ad : Nat → Nat} (hA : jA ad 46)  (I2 : Nat → Mem → Int → Mem → Nat → Prop)
    (hent : ∀ (p : Nat) (M0 : Mem), p_X4_faultAsWalk p M0 → okM M0 → ∃ μ : Nat, p = p ∧ I2 p M0 0 M0 μ)
    (hc2 : ∀ (p : Nat) (M0 : Mem), p_X4_faultAsWalk p M0 → okM M0 → ∀ (k : Int) (M : Mem) (n : Nat), I2 p M0 k M n → okM M → kdX p = 4 ∧ (((M p 1) ≤ k → ((True) ∧ c_X4_faultAsWalk p M0 (-1) M)) ∧ (¬ (M p 1) ≤ k → (kdX p = 4 ∧ (kdX 13 = 20 ∧ (0 ≤ k ∧ k < 160) ∧ (((M 13 (k).toNat) = (102 : Int) → (inR (k + 1) ∧ (∃ μ : Nat, μ < n ∧ p = p ∧ I2 p M0 (k + 1) M μ))) ∧ (¬ (M 13 (k).toNat) = (102 : Int) → (((M 13 (k).toNat) = (114 : Int) → (inR (k + 1) ∧ (∃ μ : Nat, μ < n ∧ p = p ∧ I2 p M0 (k + 1) M μ))) ∧ (¬ (M 13 (k).toNat) = (114 : Int) → (((M 13 (k).toNat) = (108 : Int) → (inR (k + 1) ∧ (∃ μ : Nat, μ < n ∧ p = p ∧ I2 p M0 (k + 1) M μ))) ∧ (¬ (M 13 (k).toNat) = (108 : Int) → ((True) ∧ c_X4_faultAsWalk p M0 k M))))))))))))
    : OK_X4_faultAsWalk l D cy ad := by
  refine met_of (tb := tbX4_faultAsWalk) (ft := ftX4) (cst := cst0) (ct := ct_X4_faultAsWalk) (cuts := [2]) 28 (JA_X4_faultAsWalk I2) hA jWX (by decide) tbX4_faultAsWalk_ok (by decide) ftX4_ok cst0_ok (ldc_of (tb := tbX4_faultAsWalk) (cst := cst0) (by decide)) rfl (fun q h => absurd h List.not_mem_nil) ?_ ?_ ?_
  · intro as M0 h
    unfold P_X4_faultAsWalk at h
    split at h
    · exact Nat.le_of_ble_eq_true rfl
    · exact h.elim
  · intro as M0 h hM has
    unfold P_X4_faultAsWalk at h
    split at h
    next p => exact hent p M0 h hM
    · exact h.elim
  · intro as M0 h hM has pc ls st M n hI hM1
    unfold P_X4_faultAsWalk at h
    split at h
    next p =>
      unfold JA_X4_faultAsWalk J_X4_faultAsWalk at hI
      dsimp only at hI
      split at hI
      ·
        obtain ⟨rfl, hI⟩ := hI
        exact hc2 _ _ h hM _ _ _ hI hM1
      · exact hI.elim
    · exact h.elim
abbrev p_X6_enter (p : Nat) (t : Int) (M : Mem) : Prop := kdX p = 6 ∧ p = 14 ∧ (0 ≤ t ∧ t < 144) ∧ 0 ≤ M 14 6 ∧ M 14 6 ≤ 1000
abbrev c_X6_enter (p : Nat) (t : Int) (M : Mem) (x : Int) (M' : Mem) : Prop := (∀ S, WR M S → WR M' (entW S t)) ∧ (∀ b, b ≠ 14 → b ≠ 15 → M' b = M b)
def P_X6_enter (as : List AV) (M : Mem) : Prop := match as with
  | [.inr p, .inl t] => p_X6_enter p t M
  | _ => False
def C_X6_enter (as : List AV) (M : Mem) (x : Int) (M' : Mem) : Prop := match as with
  | [.inr p, .inl t] => c_X6_enter p t M x M'
  | _ => False
abbrev rm_X6_enter : Room := { frames := 0, cells := 0, slots := 0, locals := 0 }
abbrev OK_X6_enter (l : Launch) (D : va_G) (cy : Nat → ClassId) (ad : Nat → Nat) : Prop := MetA l D cy ad kdX lnX 46 yX6_enter cX6_enter 2 none rm_X6_enter 0 P_X6_enter C_X6_enter
theorem ca_X6_enter : CalV yX6_enter cX6_enter 2 none 1 := ⟨⟨wcX6_enter, wnX6, by decide +kernel, by decide +kernel, by decide +kernel⟩, wiX6_enter, wlX6_enter⟩
theorem rv_X6_enter : ∀ as M, P_X6_enter as M → ∃ a As q, as = .inr a :: As ∧ vwCl[kdX a]? = some q ∧ q.1 = yX6_enter.cls := by
  intro as M h
  unfold P_X6_enter at h
  split at h
  · exact ⟨_, _, (RX6, TX6, 7), rfl, by rw [h.1]; rfl, rfl⟩
  · exact h.elim
def ct_X6_enter : List (Nat × CS) := []
def J_X6_enter  (p : Nat) (t : Int) (M0 : Mem) : IT := fun pc ls st M μ => match pc, ls, st, M, μ with
  | _, _, _, _, _ => False
def JA_X6_enter  (as : List AV) (M0 : Mem) : IT := match as with
  | [.inr p, .inl t] => J_X6_enter  p t M0
  | _ => fun _ _ _ _ _ => False
set_option maxRecDepth 100000 in
set_option maxHeartbeats 4000000 in
theorem met_X6_enter {l : Launch} {D : va_G} {cy : Nat → ClassId} {ad : Nat → Nat} (hA : jA ad 46)  
    (hent : ∀ (p : Nat) (t : Int) (M0 : Mem), p_X6_enter p t M0 → okM M0 → inR t → kdX p = 6 ∧ (kdX p = 6 ∧ (kdX 15 = 22 ∧ (0 ≤ t ∧ t < 144) ∧ ((¬ ((up M0 p 2 t) 15 (t).toNat) = (0 : Int) → (0 = 0 ∧ c_X6_enter p t M0 0 (up M0 p 2 t))) ∧ (¬ (¬ ((up M0 p 2 t) 15 (t).toNat) = (0 : Int)) → (kdX p = 6 ∧ (kdX 15 = 22 ∧ (0 ≤ t ∧ t < 144) ∧ ((1 : Int) = 0 ∨ (1 : Int) = 1) ∧ (kdX p = 6 ∧ (inR (((up (up M0 p 2 t) 15 (t).toNat 1) p 6) + 1) ∧ (kdX p = 6 ∧ (0 = 0 ∧ c_X6_enter p t M0 0 (up (up (up M0 p 2 t) 15 (t).toNat 1) p 6 (((up (up M0 p 2 t) 15 (t).toNat 1) p 6) + 1)))))))))))))
    : OK_X6_enter l D cy ad := by
  refine met_of (tb := tbX6_enter) (ft := ftX6) (cst := cst0) (ct := ct_X6_enter) (cuts := []) 22 (JA_X6_enter ) hA jWX (by decide) tbX6_enter_ok (by decide) ftX6_ok cst0_ok (ldc_of (tb := tbX6_enter) (cst := cst0) (by decide)) rfl (fun q h => absurd h List.not_mem_nil) ?_ ?_ ?_
  · intro as M0 h
    unfold P_X6_enter at h
    split at h
    · exact Nat.le_of_ble_eq_true rfl
    · exact h.elim
  · intro as M0 h hM has
    unfold P_X6_enter at h
    split at h
    next p t => exact hent p t M0 h hM (has t (by simp))
    · exact h.elim
  · intro as M0 h hM has pc ls st M n hI hM1
    unfold P_X6_enter at h
    split at h
    · exact hI.elim
    · exact h.elim
abbrev p_X6_begin (p : Nat) (t : Int) (y : Int) (M : Mem) : Prop := kdX p = 6 ∧ p = 14 ∧ 0 ≤ t ∧ t < 144
abbrev c_X6_begin (p : Nat) (t : Int) (y : Int) (M : Mem) (x : Int) (M' : Mem) : Prop := WR M' (wlk (gX M) (M 13) t y 0) ∧ (∀ b, b ≠ 14 → b ≠ 15 → M' b = M b)
def P_X6_begin (as : List AV) (M : Mem) : Prop := match as with
  | [.inr p, .inl t, .inl y] => p_X6_begin p t y M
  | _ => False
def C_X6_begin (as : List AV) (M : Mem) (x : Int) (M' : Mem) : Prop := match as with
  | [.inr p, .inl t, .inl y] => c_X6_begin p t y M x M'
  | _ => False
abbrev rm_X6_begin : Room := { frames := 1, cells := 0, slots := 0, locals := 21 }
abbrev OK_X6_begin (l : Launch) (D : va_G) (cy : Nat → ClassId) (ad : Nat → Nat) : Prop := MetA l D cy ad kdX lnX 46 yX6_begin cX6_begin 4 none rm_X6_begin 0 P_X6_begin C_X6_begin
theorem ca_X6_begin : CalV yX6_begin cX6_begin 4 none 2 := ⟨⟨wcX6_begin, wnX6, by decide +kernel, by decide +kernel, by decide +kernel⟩, wiX6_begin, wlX6_begin⟩
theorem rv_X6_begin : ∀ as M, P_X6_begin as M → ∃ a As q, as = .inr a :: As ∧ vwCl[kdX a]? = some q ∧ q.1 = yX6_begin.cls := by
  intro as M h
  unfold P_X6_begin at h
  split at h
  · exact ⟨_, _, (RX6, TX6, 7), rfl, by rw [h.1]; rfl, rfl⟩
  · exact h.elim
def ct_X6_begin : List (Nat × CS) := [(44, (2, 0, P_X6_enter, C_X6_enter))]
def J_X6_begin (I2 : Nat → Int → Int → Mem → Int → Mem → Nat → Prop) (p : Nat) (t : Int) (y : Int) (M0 : Mem) : IT := fun pc ls st M μ => match pc, ls, st, M, μ with
  | 2, [some (.inr p_), some (.inl t_), some (.inl y_), some (.inl k)], [], M, μ => p = p_ ∧ t = t_ ∧ y = y_ ∧ I2 p t y M0 k M μ
  | _, _, _, _, _ => False
def JA_X6_begin (I2 : Nat → Int → Int → Mem → Int → Mem → Nat → Prop) (as : List AV) (M0 : Mem) : IT := match as with
  | [.inr p, .inl t, .inl y] => J_X6_begin I2 p t y M0
  | _ => fun _ _ _ _ _ => False
theorem si_X6_begin_44 {l : Launch} {D : va_G} {cy : Nat → ClassId} {ad : Nat → Nat} (o : OK_X6_enter l D cy ad) : Site l D cy ad kdX lnX 46 yX6_begin.cls tbX6_begin rm_X6_begin 44 (2, 0, P_X6_enter, C_X6_enter) := Or.inl ⟨50, 1, yX6_enter, cX6_enter, 2, none, rm_X6_enter, rfl, rfl, o, ca_X6_enter, mkX6_50, ⟨rfl, rfl, by decide, by decide⟩, rv_X6_enter⟩
set_option maxRecDepth 100000 in
set_option maxHeartbeats 4000000 in
theorem met_X6_begin {l : Launch} {D : va_G} {cy : Nat → ClassId} {ad : Nat → Nat} (hA : jA ad 46) (o_X6_enter : OK_X6_enter l D cy ad) (I2 : Nat → Int → Int → Mem → Int → Mem → Nat → Prop)
    (hent : ∀ (p : Nat) (t : Int) (y : Int) (M0 : Mem), p_X6_begin p t y M0 → okM M0 → inR t → inR y → ∃ μ : Nat, p = p ∧ t = t ∧ y = y ∧ I2 p t y M0 0 M0 μ)
    (hc2 : ∀ (p : Nat) (t : Int) (y : Int) (M0 : Mem), p_X6_begin p t y M0 → okM M0 → inR t → inR y → ∀ (k : Int) (M : Mem) (n : Nat), I2 p t y M0 k M n → okM M → ((144 : Int) ≤ k → (kdX p = 6 ∧ (kdX p = 6 ∧ (kdX p = 6 ∧ (kdX p = 6 ∧ (p_X6_enter p t (up (up (up (up M p 3 y) p 4 0) p 5 0) p 6 0) ∧ ∀ (x2 : Int) (M1 : Mem), inR x2 → okM M1 → c_X6_enter p t (up (up (up (up M p 3 y) p 4 0) p 5 0) p 6 0) x2 M1 → (0 = 0 ∧ c_X6_begin p t y M0 0 M1))))))) ∧ (¬ (144 : Int) ≤ k → (kdX p = 6 ∧ (kdX 15 = 22 ∧ (0 ≤ k ∧ k < 144) ∧ ((0 : Int) = 0 ∨ (0 : Int) = 1) ∧ (inR (k + 1) ∧ (∃ μ : Nat, μ < n ∧ p = p ∧ t = t ∧ y = y ∧ I2 p t y M0 (k + 1) (up M 15 (k).toNat 0) μ))))))
    : OK_X6_begin l D cy ad := by
  refine met_of (tb := tbX6_begin) (ft := ftX6) (cst := cst0) (ct := ct_X6_begin) (cuts := [2]) 30 (JA_X6_begin I2) hA jWX (by decide) tbX6_begin_ok (by decide) ftX6_ok cst0_ok (ldc_of (tb := tbX6_begin) (cst := cst0) (by decide)) rfl (List.forall_mem_cons.mpr ⟨si_X6_begin_44 o_X6_enter, fun q h => absurd h List.not_mem_nil⟩) ?_ ?_ ?_
  · intro as M0 h
    unfold P_X6_begin at h
    split at h
    · exact Nat.le_of_ble_eq_true rfl
    · exact h.elim
  · intro as M0 h hM has
    unfold P_X6_begin at h
    split at h
    next p t y => exact hent p t y M0 h hM (has t (by simp)) (has y (by simp))
    · exact h.elim
  · intro as M0 h hM has pc ls st M n hI hM1
    unfold P_X6_begin at h
    split at h
    next p t y =>
      unfold JA_X6_begin J_X6_begin at hI
      dsimp only at hI
      split at hI
      ·
        obtain ⟨rfl, rfl, rfl, hI⟩ := hI
        exact hc2 _ _ _ _ h hM (has _ (by simp)) (has _ (by simp)) _ _ _ hI hM1
      · exact hI.elim
    · exact h.elim
abbrev p_X6_turn (p : Nat) (c : Int) (M : Mem) : Prop := kdX p = 6 ∧ p = 14 ∧ (c = 0 ∨ c = 1) ∧ (0 ≤ M 14 3 ∧ M 14 3 < 4)
abbrev c_X6_turn (p : Nat) (c : Int) (M : Mem) (x : Int) (M' : Mem) : Prop := M' = up M 14 3 (trn (decide (c ≠ 0)) (M 14 4) (M 14 3))
def P_X6_turn (as : List AV) (M : Mem) : Prop := match as with
  | [.inr p, .inl c] => p_X6_turn p c M
  | _ => False
def C_X6_turn (as : List AV) (M : Mem) (x : Int) (M' : Mem) : Prop := match as with
  | [.inr p, .inl c] => c_X6_turn p c M x M'
  | _ => False
abbrev rm_X6_turn : Room := { frames := 0, cells := 0, slots := 0, locals := 0 }
abbrev OK_X6_turn (l : Launch) (D : va_G) (cy : Nat → ClassId) (ad : Nat → Nat) : Prop := MetA l D cy ad kdX lnX 46 yX6_turn cX6_turn 3 none rm_X6_turn 0 P_X6_turn C_X6_turn
theorem ca_X6_turn : CalV yX6_turn cX6_turn 3 none 1 := ⟨⟨wcX6_turn, wnX6, by decide +kernel, by decide +kernel, by decide +kernel⟩, wiX6_turn, wlX6_turn⟩
theorem rv_X6_turn : ∀ as M, P_X6_turn as M → ∃ a As q, as = .inr a :: As ∧ vwCl[kdX a]? = some q ∧ q.1 = yX6_turn.cls := by
  intro as M h
  unfold P_X6_turn at h
  split at h
  · exact ⟨_, _, (RX6, TX6, 7), rfl, by rw [h.1]; rfl, rfl⟩
  · exact h.elim
def ct_X6_turn : List (Nat × CS) := []
def J_X6_turn  (p : Nat) (c : Int) (M0 : Mem) : IT := fun pc ls st M μ => match pc, ls, st, M, μ with
  | _, _, _, _, _ => False
def JA_X6_turn  (as : List AV) (M0 : Mem) : IT := match as with
  | [.inr p, .inl c] => J_X6_turn  p c M0
  | _ => fun _ _ _ _ _ => False
set_option maxRecDepth 100000 in
set_option maxHeartbeats 4000000 in
theorem met_X6_turn {l : Launch} {D : va_G} {cy : Nat → ClassId} {ad : Nat → Nat} (hA : jA ad 46)  
    (hent : ∀ (p : Nat) (c : Int) (M0 : Mem), p_X6_turn p c M0 → okM M0 → inR c → kdX p = 6 ∧ ((¬ (M0 p 4) = (0 : Int) → ((¬ c = (0 : Int) → (((0 : Int) = (0 : Int) → (kdX p = 6 ∧ ((¬ (M0 p 3) = (0 : Int) → (kdX p = 6 ∧ (inR ((M0 p 3) - 1) ∧ (kdX p = 6 ∧ (0 = 0 ∧ c_X6_turn p c M0 0 (up M0 p 3 ((M0 p 3) - 1))))))) ∧ (¬ (¬ (M0 p 3) = (0 : Int)) → (kdX p = 6 ∧ (0 = 0 ∧ c_X6_turn p c M0 0 (up M0 p 3 3))))))) ∧ (¬ (0 : Int) = (0 : Int) → (kdX p = 6 ∧ ((¬ (M0 p 3) = (3 : Int) → (kdX p = 6 ∧ (inR ((M0 p 3) + 1) ∧ (kdX p = 6 ∧ (0 = 0 ∧ c_X6_turn p c M0 0 (up M0 p 3 ((M0 p 3) + 1))))))) ∧ (¬ (¬ (M0 p 3) = (3 : Int)) → (kdX p = 6 ∧ (0 = 0 ∧ c_X6_turn p c M0 0 (up M0 p 3 0))))))))) ∧ (¬ (¬ c = (0 : Int)) → (((1 : Int) = (0 : Int) → (kdX p = 6 ∧ ((¬ (M0 p 3) = (0 : Int) → (kdX p = 6 ∧ (inR ((M0 p 3) - 1) ∧ (kdX p = 6 ∧ (0 = 0 ∧ c_X6_turn p c M0 0 (up M0 p 3 ((M0 p 3) - 1))))))) ∧ (¬ (¬ (M0 p 3) = (0 : Int)) → (kdX p = 6 ∧ (0 = 0 ∧ c_X6_turn p c M0 0 (up M0 p 3 3))))))) ∧ (¬ (1 : Int) = (0 : Int) → (kdX p = 6 ∧ ((¬ (M0 p 3) = (3 : Int) → (kdX p = 6 ∧ (inR ((M0 p 3) + 1) ∧ (kdX p = 6 ∧ (0 = 0 ∧ c_X6_turn p c M0 0 (up M0 p 3 ((M0 p 3) + 1))))))) ∧ (¬ (¬ (M0 p 3) = (3 : Int)) → (kdX p = 6 ∧ (0 = 0 ∧ c_X6_turn p c M0 0 (up M0 p 3 0))))))))))) ∧ (¬ (¬ (M0 p 4) = (0 : Int)) → ((¬ c = (1 : Int) → (((0 : Int) = (0 : Int) → (kdX p = 6 ∧ ((¬ (M0 p 3) = (0 : Int) → (kdX p = 6 ∧ (inR ((M0 p 3) - 1) ∧ (kdX p = 6 ∧ (0 = 0 ∧ c_X6_turn p c M0 0 (up M0 p 3 ((M0 p 3) - 1))))))) ∧ (¬ (¬ (M0 p 3) = (0 : Int)) → (kdX p = 6 ∧ (0 = 0 ∧ c_X6_turn p c M0 0 (up M0 p 3 3))))))) ∧ (¬ (0 : Int) = (0 : Int) → (kdX p = 6 ∧ ((¬ (M0 p 3) = (3 : Int) → (kdX p = 6 ∧ (inR ((M0 p 3) + 1) ∧ (kdX p = 6 ∧ (0 = 0 ∧ c_X6_turn p c M0 0 (up M0 p 3 ((M0 p 3) + 1))))))) ∧ (¬ (¬ (M0 p 3) = (3 : Int)) → (kdX p = 6 ∧ (0 = 0 ∧ c_X6_turn p c M0 0 (up M0 p 3 0))))))))) ∧ (¬ (¬ c = (1 : Int)) → (((1 : Int) = (0 : Int) → (kdX p = 6 ∧ ((¬ (M0 p 3) = (0 : Int) → (kdX p = 6 ∧ (inR ((M0 p 3) - 1) ∧ (kdX p = 6 ∧ (0 = 0 ∧ c_X6_turn p c M0 0 (up M0 p 3 ((M0 p 3) - 1))))))) ∧ (¬ (¬ (M0 p 3) = (0 : Int)) → (kdX p = 6 ∧ (0 = 0 ∧ c_X6_turn p c M0 0 (up M0 p 3 3))))))) ∧ (¬ (1 : Int) = (0 : Int) → (kdX p = 6 ∧ ((¬ (M0 p 3) = (3 : Int) → (kdX p = 6 ∧ (inR ((M0 p 3) + 1) ∧ (kdX p = 6 ∧ (0 = 0 ∧ c_X6_turn p c M0 0 (up M0 p 3 ((M0 p 3) + 1))))))) ∧ (¬ (¬ (M0 p 3) = (3 : Int)) → (kdX p = 6 ∧ (0 = 0 ∧ c_X6_turn p c M0 0 (up M0 p 3 0)))))))))))))
    : OK_X6_turn l D cy ad := by
  refine met_of (tb := tbX6_turn) (ft := ftX6) (cst := cst0) (ct := ct_X6_turn) (cuts := []) 41 (JA_X6_turn ) hA jWX (by decide) tbX6_turn_ok (by decide) ftX6_ok cst0_ok (ldc_of (tb := tbX6_turn) (cst := cst0) (by decide)) rfl (fun q h => absurd h List.not_mem_nil) ?_ ?_ ?_
  · intro as M0 h
    unfold P_X6_turn at h
    split at h
    · exact Nat.le_of_ble_eq_true rfl
    · exact h.elim
  · intro as M0 h hM has
    unfold P_X6_turn at h
    split at h
    next p c => exact hent p c M0 h hM (has c (by simp))
    · exact h.elim
  · intro as M0 h hM has pc ls st M n hI hM1
    unfold P_X6_turn at h
    split at h
    · exact hI.elim
    · exact h.elim
abbrev p_X6_step (p : Nat) (M : Mem) : Prop := kdX p = 6 ∧ p = 14 ∧ surf M ∧ ∃ S n, preWk M S n
abbrev c_X6_step (p : Nat) (M : Mem) (x : Int) (M' : Mem) : Prop := (∀ S n, preWk M S n → WR M' (stW (gX M) 102 S) ∧ x = stW (gX M) 102 S 5) ∧ (∀ b, b ≠ 14 → b ≠ 15 → M' b = M b)
def P_X6_step (as : List AV) (M : Mem) : Prop := match as with
  | [.inr p] => p_X6_step p M
  | _ => False
def C_X6_step (as : List AV) (M : Mem) (x : Int) (M' : Mem) : Prop := match as with
  | [.inr p] => c_X6_step p M x M'
  | _ => False
abbrev rm_X6_step : Room := { frames := 1, cells := 0, slots := 0, locals := 22 }
abbrev OK_X6_step (l : Launch) (D : va_G) (cy : Nat → ClassId) (ad : Nat → Nat) : Prop := MetA l D cy ad kdX lnX 46 yX6_step cX6_step 2 (some .boolean) rm_X6_step 2 P_X6_step C_X6_step
theorem ca_X6_step : CalV yX6_step cX6_step 2 (some .boolean) 0 := ⟨⟨wcX6_step, wnX6, by decide +kernel, by decide +kernel, by decide +kernel⟩, wiX6_step, wlX6_step⟩
theorem rv_X6_step : ∀ as M, P_X6_step as M → ∃ a As q, as = .inr a :: As ∧ vwCl[kdX a]? = some q ∧ q.1 = yX6_step.cls := by
  intro as M h
  unfold P_X6_step at h
  split at h
  · exact ⟨_, _, (RX6, TX6, 7), rfl, by rw [h.1]; rfl, rfl⟩
  · exact h.elim
def ct_X6_step : List (Nat × CS) := [(12, (3, 1, P_X3_next, C_X3_next)), (34, (3, 1, P_X3_crossing, C_X3_crossing)), (64, (2, 0, P_X6_enter, C_X6_enter))]
def J_X6_step  (p : Nat) (M0 : Mem) : IT := fun pc ls st M μ => match pc, ls, st, M, μ with
  | _, _, _, _, _ => False
def JA_X6_step  (as : List AV) (M0 : Mem) : IT := match as with
  | [.inr p] => J_X6_step  p M0
  | _ => fun _ _ _ _ _ => False
theorem si_X6_step_12 {l : Launch} {D : va_G} {cy : Nat → ClassId} {ad : Nat → Nat} (o : OK_X3_next l D cy ad) : Site l D cy ad kdX lnX 46 yX6_step.cls tbX6_step rm_X6_step 12 (3, 1, P_X3_next, C_X3_next) := Or.inl ⟨65, 2, yX3_next, cX3_next, 3, (some .int), rm_X3_next, rfl, rfl, o, ca_X3_next, mkX6_65, ⟨rfl, rfl, by decide, by decide⟩, rv_X3_next⟩
theorem si_X6_step_34 {l : Launch} {D : va_G} {cy : Nat → ClassId} {ad : Nat → Nat} (o : OK_X3_crossing l D cy ad) : Site l D cy ad kdX lnX 46 yX6_step.cls tbX6_step rm_X6_step 34 (3, 1, P_X3_crossing, C_X3_crossing) := Or.inl ⟨71, 2, yX3_crossing, cX3_crossing, 3, (some .int), rm_X3_crossing, rfl, rfl, o, ca_X3_crossing, mkX6_71, ⟨rfl, rfl, by decide, by decide⟩, rv_X3_crossing⟩
theorem si_X6_step_64 {l : Launch} {D : va_G} {cy : Nat → ClassId} {ad : Nat → Nat} (o : OK_X6_enter l D cy ad) : Site l D cy ad kdX lnX 46 yX6_step.cls tbX6_step rm_X6_step 64 (2, 0, P_X6_enter, C_X6_enter) := Or.inl ⟨50, 1, yX6_enter, cX6_enter, 2, none, rm_X6_enter, rfl, rfl, o, ca_X6_enter, mkX6_50, ⟨rfl, rfl, by decide, by decide⟩, rv_X6_enter⟩
set_option maxRecDepth 100000 in
set_option maxHeartbeats 4000000 in
theorem met_X6_step {l : Launch} {D : va_G} {cy : Nat → ClassId} {ad : Nat → Nat} (hA : jA ad 46) (o_X3_crossing : OK_X3_crossing l D cy ad) (o_X3_next : OK_X3_next l D cy ad) (o_X6_enter : OK_X6_enter l D cy ad) 
    (hent : ∀ (p : Nat) (M0 : Mem), p_X6_step p M0 → okM M0 → kdX p = 6 ∧ (kdX p = 6 ∧ (kdX p = 6 ∧ (p_X3_next 1 (M0 p 2) (M0 p 3) M0 ∧ ∀ (x2 : Int) (M1 : Mem), inR x2 → okM M1 → c_X3_next 1 (M0 p 2) (M0 p 3) M0 x2 M1 → (((0 : Int) ≤ x2 → (kdX p = 6 ∧ (kdX p = 6 ∧ (kdX p = 6 ∧ (p_X3_crossing 1 (M1 p 2) (M1 p 3) M1 ∧ ∀ (x4 : Int) (M3 : Mem), inR x4 → okM M3 → c_X3_crossing 1 (M1 p 2) (M1 p 3) M1 x4 M3 → (((bAnd x4 4) = (0 : Int) → (kdX p = 6 ∧ (inR ((M3 p 5) + 1) ∧ (kdX p = 6 ∧ (p_X6_enter p x2 (up M3 p 5 ((M3 p 5) + 1)) ∧ ∀ (x6 : Int) (M5 : Mem), inR x6 → okM M5 → c_X6_enter p x2 (up M3 p 5 ((M3 p 5) + 1)) x6 M5 → (((1 : Int) = 0 ∨ (1 : Int) = 1) ∧ c_X6_step p M0 1 M5)))))) ∧ (¬ (bAnd x4 4) = (0 : Int) → (kdX p = 6 ∧ (inR (1 - (M3 p 4)) ∧ (kdX p = 6 ∧ (kdX p = 6 ∧ (inR (((up M3 p 4 (1 - (M3 p 4))) p 5) + 1) ∧ (kdX p = 6 ∧ (p_X6_enter p x2 (up (up M3 p 4 (1 - (M3 p 4))) p 5 (((up M3 p 4 (1 - (M3 p 4))) p 5) + 1)) ∧ ∀ (x8 : Int) (M7 : Mem), inR x8 → okM M7 → c_X6_enter p x2 (up (up M3 p 4 (1 - (M3 p 4))) p 5 (((up M3 p 4 (1 - (M3 p 4))) p 5) + 1)) x8 M7 → (((1 : Int) = 0 ∨ (1 : Int) = 1) ∧ c_X6_step p M0 1 M7))))))))))))))) ∧ (¬ (0 : Int) ≤ x2 → (((0 : Int) = 0 ∨ (0 : Int) = 1) ∧ c_X6_step p M0 0 M1)))))))
    : OK_X6_step l D cy ad := by
  refine met_of (tb := tbX6_step) (ft := ftX6) (cst := cst0) (ct := ct_X6_step) (cuts := []) 41 (JA_X6_step ) hA jWX (by decide) tbX6_step_ok (by decide) ftX6_ok cst0_ok (ldc_of (tb := tbX6_step) (cst := cst0) (by decide)) rfl (List.forall_mem_cons.mpr ⟨si_X6_step_12 o_X3_next, List.forall_mem_cons.mpr ⟨si_X6_step_34 o_X3_crossing, List.forall_mem_cons.mpr ⟨si_X6_step_64 o_X6_enter, fun q h => absurd h List.not_mem_nil⟩⟩⟩) ?_ ?_ ?_
  · intro as M0 h
    unfold P_X6_step at h
    split at h
    · exact Nat.le_of_ble_eq_true rfl
    · exact h.elim
  · intro as M0 h hM has
    unfold P_X6_step at h
    split at h
    next p => exact hent p M0 h hM
    · exact h.elim
  · intro as M0 h hM has pc ls st M n hI hM1
    unfold P_X6_step at h
    split at h
    · exact hI.elim
    · exact h.elim
abbrev p_X6_obey (p : Nat) (c : Int) (M : Mem) : Prop := kdX p = 6 ∧ p = 14 ∧ (0 ≤ c ∧ c < 65536) ∧ surf M ∧ ∃ S n, preWk M S n
abbrev c_X6_obey (p : Nat) (c : Int) (M : Mem) (x : Int) (M' : Mem) : Prop := (∀ S n, preWk M S n → WR M' (stW (gX M) c S) ∧ x = stW (gX M) c S 5) ∧ (∀ b, b ≠ 14 → b ≠ 15 → M' b = M b)
def P_X6_obey (as : List AV) (M : Mem) : Prop := match as with
  | [.inr p, .inl c] => p_X6_obey p c M
  | _ => False
def C_X6_obey (as : List AV) (M : Mem) (x : Int) (M' : Mem) : Prop := match as with
  | [.inr p, .inl c] => c_X6_obey p c M x M'
  | _ => False
abbrev rm_X6_obey : Room := { frames := 2, cells := 0, slots := 0, locals := 43 }
abbrev OK_X6_obey (l : Launch) (D : va_G) (cy : Nat → ClassId) (ad : Nat → Nat) : Prop := MetA l D cy ad kdX lnX 46 yX6_obey cX6_obey 2 (some .boolean) rm_X6_obey 2 P_X6_obey C_X6_obey
theorem ca_X6_obey : CalV yX6_obey cX6_obey 2 (some .boolean) 1 := ⟨⟨wcX6_obey, wnX6, by decide +kernel, by decide +kernel, by decide +kernel⟩, wiX6_obey, wlX6_obey⟩
theorem rv_X6_obey : ∀ as M, P_X6_obey as M → ∃ a As q, as = .inr a :: As ∧ vwCl[kdX a]? = some q ∧ q.1 = yX6_obey.cls := by
  intro as M h
  unfold P_X6_obey at h
  split at h
  · exact ⟨_, _, (RX6, TX6, 7), rfl, by rw [h.1]; rfl, rfl⟩
  · exact h.elim
def ct_X6_obey : List (Nat × CS) := [(7, (1, 2, P_X6_step, C_X6_step)), (23, (2, 0, P_X6_turn, C_X6_turn))]
def J_X6_obey  (p : Nat) (c : Int) (M0 : Mem) : IT := fun pc ls st M μ => match pc, ls, st, M, μ with
  | _, _, _, _, _ => False
def JA_X6_obey  (as : List AV) (M0 : Mem) : IT := match as with
  | [.inr p, .inl c] => J_X6_obey  p c M0
  | _ => fun _ _ _ _ _ => False
theorem si_X6_obey_7 {l : Launch} {D : va_G} {cy : Nat → ClassId} {ad : Nat → Nat} (o : OK_X6_step l D cy ad) : Site l D cy ad kdX lnX 46 yX6_obey.cls tbX6_obey rm_X6_obey 7 (1, 2, P_X6_step, C_X6_step) := Or.inl ⟨54, 0, yX6_step, cX6_step, 2, (some .boolean), rm_X6_step, rfl, rfl, o, ca_X6_step, mkX6_54, ⟨rfl, rfl, by decide, by decide⟩, rv_X6_step⟩
theorem si_X6_obey_23 {l : Launch} {D : va_G} {cy : Nat → ClassId} {ad : Nat → Nat} (o : OK_X6_turn l D cy ad) : Site l D cy ad kdX lnX 46 yX6_obey.cls tbX6_obey rm_X6_obey 23 (2, 0, P_X6_turn, C_X6_turn) := Or.inl ⟨58, 1, yX6_turn, cX6_turn, 3, none, rm_X6_turn, rfl, rfl, o, ca_X6_turn, mkX6_58, ⟨rfl, rfl, by decide, by decide⟩, rv_X6_turn⟩
set_option maxRecDepth 100000 in
set_option maxHeartbeats 4000000 in
theorem met_X6_obey {l : Launch} {D : va_G} {cy : Nat → ClassId} {ad : Nat → Nat} (hA : jA ad 46) (o_X6_step : OK_X6_step l D cy ad) (o_X6_turn : OK_X6_turn l D cy ad) 
    (hent : ∀ (p : Nat) (c : Int) (M0 : Mem), p_X6_obey p c M0 → okM M0 → inR c → (¬ c = (102 : Int) → ((¬ c = (114 : Int) → (p_X6_turn p 0 M0 ∧ ∀ (x2 : Int) (M1 : Mem), inR x2 → okM M1 → c_X6_turn p 0 M0 x2 M1 → (((1 : Int) = 0 ∨ (1 : Int) = 1) ∧ c_X6_obey p c M0 1 M1))) ∧ (¬ (¬ c = (114 : Int)) → (p_X6_turn p 1 M0 ∧ ∀ (x4 : Int) (M3 : Mem), inR x4 → okM M3 → c_X6_turn p 1 M0 x4 M3 → (((1 : Int) = 0 ∨ (1 : Int) = 1) ∧ c_X6_obey p c M0 1 M3))))) ∧ (¬ (¬ c = (102 : Int)) → (p_X6_step p M0 ∧ ∀ (x6 : Int) (M5 : Mem), inR x6 → okM M5 → c_X6_step p M0 x6 M5 → ((x6 = 0 ∨ x6 = 1) ∧ c_X6_obey p c M0 x6 M5))))
    : OK_X6_obey l D cy ad := by
  refine met_of (tb := tbX6_obey) (ft := ftX6) (cst := cst0) (ct := ct_X6_obey) (cuts := []) 18 (JA_X6_obey ) hA jWX (by decide) tbX6_obey_ok (by decide) ftX6_ok cst0_ok (ldc_of (tb := tbX6_obey) (cst := cst0) (by decide)) rfl (List.forall_mem_cons.mpr ⟨si_X6_obey_7 o_X6_step, List.forall_mem_cons.mpr ⟨si_X6_obey_23 o_X6_turn, fun q h => absurd h List.not_mem_nil⟩⟩) ?_ ?_ ?_
  · intro as M0 h
    unfold P_X6_obey at h
    split at h
    · exact Nat.le_of_ble_eq_true rfl
    · exact h.elim
  · intro as M0 h hM has
    unfold P_X6_obey at h
    split at h
    next p c => exact hent p c M0 h hM (has c (by simp))
    · exact h.elim
  · intro as M0 h hM has pc ls st M n hI hM1
    unfold P_X6_obey at h
    split at h
    · exact hI.elim
    · exact h.elim
abbrev p_X6_follow (p : Nat) (q : Nat) (t : Int) (y : Int) (M : Mem) : Prop := kdX p = 6 ∧ p = 14 ∧ q = 12 ∧ surf M ∧ (0 ≤ M 12 1 ∧ M 12 1 ≤ 160) ∧ (∀ j : Nat, (j : Int) < M 12 1 → 0 ≤ M 13 j ∧ M 13 j < 65536) ∧ (0 ≤ t ∧ t < nT (gX M)) ∧ 0 ≤ y ∧ y < 4
abbrev c_X6_follow (p : Nat) (q : Nat) (t : Int) (y : Int) (M : Mem) (x : Int) (M' : Mem) : Prop := WR M' (wlk (gX M) (M 13) t y (M 12 1).toNat) ∧ (∀ b, b ≠ 14 → b ≠ 15 → M' b = M b)
def P_X6_follow (as : List AV) (M : Mem) : Prop := match as with
  | [.inr p, .inr q, .inl t, .inl y] => p_X6_follow p q t y M
  | _ => False
def C_X6_follow (as : List AV) (M : Mem) (x : Int) (M' : Mem) : Prop := match as with
  | [.inr p, .inr q, .inl t, .inl y] => c_X6_follow p q t y M x M'
  | _ => False
abbrev rm_X6_follow : Room := { frames := 3, cells := 0, slots := 0, locals := 64 }
abbrev OK_X6_follow (l : Launch) (D : va_G) (cy : Nat → ClassId) (ad : Nat → Nat) : Prop := MetA l D cy ad kdX lnX 46 yX6_follow cX6_follow 6 none rm_X6_follow 0 P_X6_follow C_X6_follow
theorem ca_X6_follow : CalV yX6_follow cX6_follow 6 none 3 := ⟨⟨wcX6_follow, wnX6, by decide +kernel, by decide +kernel, by decide +kernel⟩, wiX6_follow, wlX6_follow⟩
theorem rv_X6_follow : ∀ as M, P_X6_follow as M → ∃ a As q, as = .inr a :: As ∧ vwCl[kdX a]? = some q ∧ q.1 = yX6_follow.cls := by
  intro as M h
  unfold P_X6_follow at h
  split at h
  · exact ⟨_, _, (RX6, TX6, 7), rfl, by rw [h.1]; rfl, rfl⟩
  · exact h.elim
def ct_X6_follow : List (Nat × CS) := [(3, (3, 0, P_X6_begin, C_X6_begin)), (15, (1, 1, P_X4_length, C_X4_length)), (30, (2, 3, P_X4_at, C_X4_at)), (33, (2, 2, P_X6_obey, C_X6_obey))]
def J_X6_follow (I12 : Nat → Nat → Int → Int → Mem → Int → Int → Mem → Nat → Prop) (p : Nat) (q : Nat) (t : Int) (y : Int) (M0 : Mem) : IT := fun pc ls st M μ => match pc, ls, st, M, μ with
  | 12, [some (.inr p_), some (.inr q_), some (.inl t_), some (.inl y_), some (.inl g), some (.inl k)], [], M, μ => p = p_ ∧ q = q_ ∧ t = t_ ∧ y = y_ ∧ I12 p q t y M0 g k M μ
  | _, _, _, _, _ => False
def JA_X6_follow (I12 : Nat → Nat → Int → Int → Mem → Int → Int → Mem → Nat → Prop) (as : List AV) (M0 : Mem) : IT := match as with
  | [.inr p, .inr q, .inl t, .inl y] => J_X6_follow I12 p q t y M0
  | _ => fun _ _ _ _ _ => False
theorem si_X6_follow_3 {l : Launch} {D : va_G} {cy : Nat → ClassId} {ad : Nat → Nat} (o : OK_X6_begin l D cy ad) : Site l D cy ad kdX lnX 46 yX6_follow.cls tbX6_follow rm_X6_follow 3 (3, 0, P_X6_begin, C_X6_begin) := Or.inl ⟨19, 2, yX6_begin, cX6_begin, 4, none, rm_X6_begin, rfl, rfl, o, ca_X6_begin, mkX6_19, ⟨rfl, rfl, by decide, by decide⟩, rv_X6_begin⟩
theorem si_X6_follow_15 {l : Launch} {D : va_G} {cy : Nat → ClassId} {ad : Nat → Nat} (o : OK_X4_length l D cy ad) : Site l D cy ad kdX lnX 46 yX6_follow.cls tbX6_follow rm_X6_follow 15 (1, 1, P_X4_length, C_X4_length) := Or.inl ⟨23, 0, yX4_length, cX4_length, 1, (some .int), rm_X4_length, rfl, rfl, o, ca_X4_length, mkX6_23, ⟨rfl, rfl, by decide, by decide⟩, rv_X4_length⟩
theorem si_X6_follow_30 {l : Launch} {D : va_G} {cy : Nat → ClassId} {ad : Nat → Nat} (o : OK_X4_at l D cy ad) : Site l D cy ad kdX lnX 46 yX6_follow.cls tbX6_follow rm_X6_follow 30 (2, 3, P_X4_at, C_X4_at) := Or.inl ⟨29, 1, yX4_at, cX4_at, 2, (some .char), rm_X4_at, rfl, rfl, o, ca_X4_at, mkX6_29, ⟨rfl, rfl, by decide, by decide⟩, rv_X4_at⟩
theorem si_X6_follow_33 {l : Launch} {D : va_G} {cy : Nat → ClassId} {ad : Nat → Nat} (o : OK_X6_obey l D cy ad) : Site l D cy ad kdX lnX 46 yX6_follow.cls tbX6_follow rm_X6_follow 33 (2, 2, P_X6_obey, C_X6_obey) := Or.inl ⟨33, 1, yX6_obey, cX6_obey, 2, (some .boolean), rm_X6_obey, rfl, rfl, o, ca_X6_obey, mkX6_33, ⟨rfl, rfl, by decide, by decide⟩, rv_X6_obey⟩
set_option maxRecDepth 100000 in
set_option maxHeartbeats 4000000 in
theorem met_X6_follow {l : Launch} {D : va_G} {cy : Nat → ClassId} {ad : Nat → Nat} (hA : jA ad 46) (o_X4_at : OK_X4_at l D cy ad) (o_X4_length : OK_X4_length l D cy ad) (o_X6_begin : OK_X6_begin l D cy ad) (o_X6_obey : OK_X6_obey l D cy ad) (I12 : Nat → Nat → Int → Int → Mem → Int → Int → Mem → Nat → Prop)
    (hent : ∀ (p : Nat) (q : Nat) (t : Int) (y : Int) (M0 : Mem), p_X6_follow p q t y M0 → okM M0 → inR t → inR y → p_X6_begin p t y M0 ∧ ∀ (x2 : Int) (M1 : Mem), inR x2 → okM M1 → c_X6_begin p t y M0 x2 M1 → (∃ μ : Nat, p = p ∧ q = q ∧ t = t ∧ y = y ∧ I12 p q t y M0 1 0 M1 μ))
    (hc12 : ∀ (p : Nat) (q : Nat) (t : Int) (y : Int) (M0 : Mem), p_X6_follow p q t y M0 → okM M0 → inR t → inR y → ∀ (g : Int) (k : Int) (M : Mem) (n : Nat), I12 p q t y M0 g k M n → okM M → p_X4_length q M ∧ ∀ (x2 : Int) (M1 : Mem), inR x2 → okM M1 → c_X4_length q M x2 M1 → ((x2 ≤ k → (0 = 0 ∧ c_X6_follow p q t y M0 0 M1)) ∧ (¬ x2 ≤ k → ((g = (0 : Int) → (0 = 0 ∧ c_X6_follow p q t y M0 0 M1)) ∧ (¬ g = (0 : Int) → (p_X4_at q k M1 ∧ ∀ (x4 : Int) (M3 : Mem), inR x4 → okM M3 → c_X4_at q k M1 x4 M3 → (p_X6_obey p x4 M3 ∧ ∀ (x6 : Int) (M5 : Mem), inR x6 → okM M5 → c_X6_obey p x4 M3 x6 M5 → (inR (k + 1) ∧ (∃ μ : Nat, μ < n ∧ p = p ∧ q = q ∧ t = t ∧ y = y ∧ I12 p q t y M0 x6 (k + 1) M5 μ)))))))))
    : OK_X6_follow l D cy ad := by
  refine met_of (tb := tbX6_follow) (ft := ftX6) (cst := cst0) (ct := ct_X6_follow) (cuts := [12]) 25 (JA_X6_follow I12) hA jWX (by decide) tbX6_follow_ok (by decide) ftX6_ok cst0_ok (ldc_of (tb := tbX6_follow) (cst := cst0) (by decide)) rfl (List.forall_mem_cons.mpr ⟨si_X6_follow_3 o_X6_begin, List.forall_mem_cons.mpr ⟨si_X6_follow_15 o_X4_length, List.forall_mem_cons.mpr ⟨si_X6_follow_30 o_X4_at, List.forall_mem_cons.mpr ⟨si_X6_follow_33 o_X6_obey, fun q h => absurd h List.not_mem_nil⟩⟩⟩⟩) ?_ ?_ ?_
  · intro as M0 h
    unfold P_X6_follow at h
    split at h
    · exact Nat.le_of_ble_eq_true rfl
    · exact h.elim
  · intro as M0 h hM has
    unfold P_X6_follow at h
    split at h
    next p q t y => exact hent p q t y M0 h hM (has t (by simp)) (has y (by simp))
    · exact h.elim
  · intro as M0 h hM has pc ls st M n hI hM1
    unfold P_X6_follow at h
    split at h
    next p q t y =>
      unfold JA_X6_follow J_X6_follow at hI
      dsimp only at hI
      split at hI
      ·
        obtain ⟨rfl, rfl, rfl, rfl, hI⟩ := hI
        exact hc12 _ _ _ _ _ h hM (has _ (by simp)) (has _ (by simp)) _ _ _ _ hI hM1
      · exact hI.elim
    · exact h.elim
abbrev p_X6_tell (p : Nat) (w : Int) (M : Mem) : Prop := kdX p = 6 ∧ p = 14 ∧ 0 ≤ w ∧ w ≤ 4
abbrev c_X6_tell (p : Nat) (w : Int) (M : Mem) (x : Int) (M' : Mem) : Prop := (∀ S, WR M S → x = S w.toNat) ∧ M' = M
def P_X6_tell (as : List AV) (M : Mem) : Prop := match as with
  | [.inr p, .inl w] => p_X6_tell p w M
  | _ => False
def C_X6_tell (as : List AV) (M : Mem) (x : Int) (M' : Mem) : Prop := match as with
  | [.inr p, .inl w] => c_X6_tell p w M x M'
  | _ => False
abbrev rm_X6_tell : Room := { frames := 0, cells := 0, slots := 0, locals := 0 }
abbrev OK_X6_tell (l : Launch) (D : va_G) (cy : Nat → ClassId) (ad : Nat → Nat) : Prop := MetA l D cy ad kdX lnX 46 yX6_tell cX6_tell 2 (some .int) rm_X6_tell 1 P_X6_tell C_X6_tell
theorem ca_X6_tell : CalV yX6_tell cX6_tell 2 (some .int) 1 := ⟨⟨wcX6_tell, wnX6, by decide +kernel, by decide +kernel, by decide +kernel⟩, wiX6_tell, wlX6_tell⟩
theorem rv_X6_tell : ∀ as M, P_X6_tell as M → ∃ a As q, as = .inr a :: As ∧ vwCl[kdX a]? = some q ∧ q.1 = yX6_tell.cls := by
  intro as M h
  unfold P_X6_tell at h
  split at h
  · exact ⟨_, _, (RX6, TX6, 7), rfl, by rw [h.1]; rfl, rfl⟩
  · exact h.elim
def ct_X6_tell : List (Nat × CS) := []
def J_X6_tell  (p : Nat) (w : Int) (M0 : Mem) : IT := fun pc ls st M μ => match pc, ls, st, M, μ with
  | _, _, _, _, _ => False
def JA_X6_tell  (as : List AV) (M0 : Mem) : IT := match as with
  | [.inr p, .inl w] => J_X6_tell  p w M0
  | _ => fun _ _ _ _ _ => False
set_option maxRecDepth 100000 in
set_option maxHeartbeats 4000000 in
theorem met_X6_tell {l : Launch} {D : va_G} {cy : Nat → ClassId} {ad : Nat → Nat} (hA : jA ad 46)  
    (hent : ∀ (p : Nat) (w : Int) (M0 : Mem), p_X6_tell p w M0 → okM M0 → inR w → ((w < 0 ∨ 3 < w) → (kdX p = 6 ∧ ((True) ∧ c_X6_tell p w M0 (M0 p 6) M0))) ∧ ((w = 0 → (kdX p = 6 ∧ ((True) ∧ c_X6_tell p w M0 (M0 p 2) M0))) ∧ ((w = 0 + 1 → (kdX p = 6 ∧ ((True) ∧ c_X6_tell p w M0 (M0 p 3) M0))) ∧ ((w = 0 + 1 + 1 → (kdX p = 6 ∧ ((True) ∧ c_X6_tell p w M0 (M0 p 4) M0))) ∧ ((w = 0 + 1 + 1 + 1 → (kdX p = 6 ∧ ((True) ∧ c_X6_tell p w M0 (M0 p 5) M0))) ∧ (True))))))
    : OK_X6_tell l D cy ad := by
  refine met_of (tb := tbX6_tell) (ft := ftX6) (cst := cst0) (ct := ct_X6_tell) (cuts := []) 19 (JA_X6_tell ) hA jWX (by decide) tbX6_tell_ok (by decide) ftX6_ok cst0_ok (ldc_of (tb := tbX6_tell) (cst := cst0) (by decide)) rfl (fun q h => absurd h List.not_mem_nil) ?_ ?_ ?_
  · intro as M0 h
    unfold P_X6_tell at h
    split at h
    · exact Nat.le_of_ble_eq_true rfl
    · exact h.elim
  · intro as M0 h hM has
    unfold P_X6_tell at h
    split at h
    next p w => exact hent p w M0 h hM (has w (by simp))
    · exact h.elim
  · intro as M0 h hM has pc ls st M n hI hM1
    unfold P_X6_tell at h
    split at h
    · exact hI.elim
    · exact h.elim
abbrev p_X0_size (p : Nat) (M : Mem) : Prop := kdX p = 0 ∧ p = 16
abbrev c_X0_size (p : Nat) (M : Mem) (x : Int) (M' : Mem) : Prop := x = M 16 2 ∧ M' = M
def P_X0_size (as : List AV) (M : Mem) : Prop := match as with
  | [.inr p] => p_X0_size p M
  | _ => False
def C_X0_size (as : List AV) (M : Mem) (x : Int) (M' : Mem) : Prop := match as with
  | [.inr p] => c_X0_size p M x M'
  | _ => False
abbrev rm_X0_size : Room := { frames := 0, cells := 0, slots := 0, locals := 0 }
abbrev OK_X0_size (l : Launch) (D : va_G) (cy : Nat → ClassId) (ad : Nat → Nat) : Prop := MetA l D cy ad kdX lnX 46 yX0_size cX0_size 1 (some .int) rm_X0_size 1 P_X0_size C_X0_size
theorem ca_X0_size : CalV yX0_size cX0_size 1 (some .int) 0 := ⟨⟨wcX0_size, wnX0, by decide +kernel, by decide +kernel, by decide +kernel⟩, wiX0_size, wlX0_size⟩
theorem rv_X0_size : ∀ as M, P_X0_size as M → ∃ a As q, as = .inr a :: As ∧ vwCl[kdX a]? = some q ∧ q.1 = yX0_size.cls := by
  intro as M h
  unfold P_X0_size at h
  split at h
  · exact ⟨_, _, (RX0, TX0, 3), rfl, by rw [h.1]; rfl, rfl⟩
  · exact h.elim
def ct_X0_size : List (Nat × CS) := []
def J_X0_size  (p : Nat) (M0 : Mem) : IT := fun pc ls st M μ => match pc, ls, st, M, μ with
  | _, _, _, _, _ => False
def JA_X0_size  (as : List AV) (M0 : Mem) : IT := match as with
  | [.inr p] => J_X0_size  p M0
  | _ => fun _ _ _ _ _ => False
set_option maxRecDepth 100000 in
set_option maxHeartbeats 4000000 in
theorem met_X0_size {l : Launch} {D : va_G} {cy : Nat → ClassId} {ad : Nat → Nat} (hA : jA ad 46)  
    (hent : ∀ (p : Nat) (M0 : Mem), p_X0_size p M0 → okM M0 → kdX p = 0 ∧ ((True) ∧ c_X0_size p M0 (M0 p 2) M0))
    : OK_X0_size l D cy ad := by
  refine met_of (tb := tbX0_size) (ft := ftX0) (cst := cst0) (ct := ct_X0_size) (cuts := []) 5 (JA_X0_size ) hA jWX (by decide) tbX0_size_ok (by decide) ftX0_ok cst0_ok (ldc_of (tb := tbX0_size) (cst := cst0) (by decide)) rfl (fun q h => absurd h List.not_mem_nil) ?_ ?_ ?_
  · intro as M0 h
    unfold P_X0_size at h
    split at h
    · exact Nat.le_of_ble_eq_true rfl
    · exact h.elim
  · intro as M0 h hM has
    unfold P_X0_size at h
    split at h
    next p => exact hent p M0 h hM
    · exact h.elim
  · intro as M0 h hM has pc ls st M n hI hM1
    unfold P_X0_size at h
    split at h
    · exact hI.elim
    · exact h.elim
abbrev p_X0_forget (p : Nat) (M : Mem) : Prop := kdX p = 0 ∧ p = 16
abbrev c_X0_forget (p : Nat) (M : Mem) (x : Int) (M' : Mem) : Prop := M' = up (up M 16 1 0) 16 2 0
def P_X0_forget (as : List AV) (M : Mem) : Prop := match as with
  | [.inr p] => p_X0_forget p M
  | _ => False
def C_X0_forget (as : List AV) (M : Mem) (x : Int) (M' : Mem) : Prop := match as with
  | [.inr p] => c_X0_forget p M x M'
  | _ => False
abbrev rm_X0_forget : Room := { frames := 0, cells := 0, slots := 0, locals := 0 }
abbrev OK_X0_forget (l : Launch) (D : va_G) (cy : Nat → ClassId) (ad : Nat → Nat) : Prop := MetA l D cy ad kdX lnX 46 yX0_forget cX0_forget 1 none rm_X0_forget 0 P_X0_forget C_X0_forget
theorem ca_X0_forget : CalV yX0_forget cX0_forget 1 none 0 := ⟨⟨wcX0_forget, wnX0, by decide +kernel, by decide +kernel, by decide +kernel⟩, wiX0_forget, wlX0_forget⟩
theorem rv_X0_forget : ∀ as M, P_X0_forget as M → ∃ a As q, as = .inr a :: As ∧ vwCl[kdX a]? = some q ∧ q.1 = yX0_forget.cls := by
  intro as M h
  unfold P_X0_forget at h
  split at h
  · exact ⟨_, _, (RX0, TX0, 3), rfl, by rw [h.1]; rfl, rfl⟩
  · exact h.elim
def ct_X0_forget : List (Nat × CS) := []
def J_X0_forget  (p : Nat) (M0 : Mem) : IT := fun pc ls st M μ => match pc, ls, st, M, μ with
  | _, _, _, _, _ => False
def JA_X0_forget  (as : List AV) (M0 : Mem) : IT := match as with
  | [.inr p] => J_X0_forget  p M0
  | _ => fun _ _ _ _ _ => False
set_option maxRecDepth 100000 in
set_option maxHeartbeats 4000000 in
theorem met_X0_forget {l : Launch} {D : va_G} {cy : Nat → ClassId} {ad : Nat → Nat} (hA : jA ad 46)  
    (hent : ∀ (p : Nat) (M0 : Mem), p_X0_forget p M0 → okM M0 → kdX p = 0 ∧ (kdX p = 0 ∧ (0 = 0 ∧ c_X0_forget p M0 0 (up (up M0 p 1 0) p 2 0))))
    : OK_X0_forget l D cy ad := by
  refine met_of (tb := tbX0_forget) (ft := ftX0) (cst := cst0) (ct := ct_X0_forget) (cuts := []) 9 (JA_X0_forget ) hA jWX (by decide) tbX0_forget_ok (by decide) ftX0_ok cst0_ok (ldc_of (tb := tbX0_forget) (cst := cst0) (by decide)) rfl (fun q h => absurd h List.not_mem_nil) ?_ ?_ ?_
  · intro as M0 h
    unfold P_X0_forget at h
    split at h
    · exact Nat.le_of_ble_eq_true rfl
    · exact h.elim
  · intro as M0 h hM has
    unfold P_X0_forget at h
    split at h
    next p => exact hent p M0 h hM
    · exact h.elim
  · intro as M0 h hM has pc ls st M n hI hM1
    unfold P_X0_forget at h
    split at h
    · exact hI.elim
    · exact h.elim
abbrev p_X0_place (p : Nat) (a : Int) (M : Mem) : Prop := kdX p = 0 ∧ p = 16 ∧ (0 ≤ M 16 1 ∧ M 16 1 < 12) ∧ 0 ≤ a ∧ a ≤ 12
abbrev c_X0_place (p : Nat) (a : Int) (M : Mem) (x : Int) (M' : Mem) : Prop := x = plc (M 16 1) a ∧ M' = M
def P_X0_place (as : List AV) (M : Mem) : Prop := match as with
  | [.inr p, .inl a] => p_X0_place p a M
  | _ => False
def C_X0_place (as : List AV) (M : Mem) (x : Int) (M' : Mem) : Prop := match as with
  | [.inr p, .inl a] => c_X0_place p a M x M'
  | _ => False
abbrev rm_X0_place : Room := { frames := 0, cells := 0, slots := 0, locals := 0 }
abbrev OK_X0_place (l : Launch) (D : va_G) (cy : Nat → ClassId) (ad : Nat → Nat) : Prop := MetA l D cy ad kdX lnX 46 yX0_place cX0_place 3 (some .int) rm_X0_place 1 P_X0_place C_X0_place
theorem ca_X0_place : CalV yX0_place cX0_place 3 (some .int) 1 := ⟨⟨wcX0_place, wnX0, by decide +kernel, by decide +kernel, by decide +kernel⟩, wiX0_place, wlX0_place⟩
theorem rv_X0_place : ∀ as M, P_X0_place as M → ∃ a As q, as = .inr a :: As ∧ vwCl[kdX a]? = some q ∧ q.1 = yX0_place.cls := by
  intro as M h
  unfold P_X0_place at h
  split at h
  · exact ⟨_, _, (RX0, TX0, 3), rfl, by rw [h.1]; rfl, rfl⟩
  · exact h.elim
def ct_X0_place : List (Nat × CS) := []
def J_X0_place  (p : Nat) (a : Int) (M0 : Mem) : IT := fun pc ls st M μ => match pc, ls, st, M, μ with
  | _, _, _, _, _ => False
def JA_X0_place  (as : List AV) (M0 : Mem) : IT := match as with
  | [.inr p, .inl a] => J_X0_place  p a M0
  | _ => fun _ _ _ _ _ => False
set_option maxRecDepth 100000 in
set_option maxHeartbeats 4000000 in
theorem met_X0_place {l : Launch} {D : va_G} {cy : Nat → ClassId} {ad : Nat → Nat} (hA : jA ad 46)  
    (hent : ∀ (p : Nat) (a : Int) (M0 : Mem), p_X0_place p a M0 → okM M0 → inR a → kdX p = 0 ∧ (inR ((M0 p 1) + a) ∧ (((12 : Int) ≤ ((M0 p 1) + a) → (inR (((M0 p 1) + a) - 12) ∧ ((True) ∧ c_X0_place p a M0 (((M0 p 1) + a) - 12) M0))) ∧ (¬ (12 : Int) ≤ ((M0 p 1) + a) → ((True) ∧ c_X0_place p a M0 ((M0 p 1) + a) M0)))))
    : OK_X0_place l D cy ad := by
  refine met_of (tb := tbX0_place) (ft := ftX0) (cst := cst0) (ct := ct_X0_place) (cuts := []) 16 (JA_X0_place ) hA jWX (by decide) tbX0_place_ok (by decide) ftX0_ok cst0_ok (ldc_of (tb := tbX0_place) (cst := cst0) (by decide)) rfl (fun q h => absurd h List.not_mem_nil) ?_ ?_ ?_
  · intro as M0 h
    unfold P_X0_place at h
    split at h
    · exact Nat.le_of_ble_eq_true rfl
    · exact h.elim
  · intro as M0 h hM has
    unfold P_X0_place at h
    split at h
    next p a => exact hent p a M0 h hM (has a (by simp))
    · exact h.elim
  · intro as M0 h hM has pc ls st M n hI hM1
    unfold P_X0_place at h
    split at h
    · exact hI.elim
    · exact h.elim
abbrev p_X0_record (p : Nat) (q : Nat) (M : Mem) : Prop := kdX p = 0 ∧ p = 16 ∧ q = 6 ∧ ∃ H n, HR M H n
abbrev c_X0_record (p : Nat) (q : Nat) (M : Mem) (x : Int) (M' : Mem) : Prop := (∀ H n, HR M H n → HR M' (kpH H n (M 6)) (if n = 12 then 12 else n + 1)) ∧ (∀ b, b ≠ 16 → (b < 18 ∨ 29 < b) → M' b = M b)
def P_X0_record (as : List AV) (M : Mem) : Prop := match as with
  | [.inr p, .inr q] => p_X0_record p q M
  | _ => False
def C_X0_record (as : List AV) (M : Mem) (x : Int) (M' : Mem) : Prop := match as with
  | [.inr p, .inr q] => c_X0_record p q M x M'
  | _ => False
abbrev rm_X0_record : Room := { frames := 1, cells := 0, slots := 0, locals := 26 }
abbrev OK_X0_record (l : Launch) (D : va_G) (cy : Nat → ClassId) (ad : Nat → Nat) : Prop := MetA l D cy ad kdX lnX 46 yX0_record cX0_record 2 none rm_X0_record 0 P_X0_record C_X0_record
theorem ca_X0_record : CalV yX0_record cX0_record 2 none 1 := ⟨⟨wcX0_record, wnX0, by decide +kernel, by decide +kernel, by decide +kernel⟩, wiX0_record, wlX0_record⟩
theorem rv_X0_record : ∀ as M, P_X0_record as M → ∃ a As q, as = .inr a :: As ∧ vwCl[kdX a]? = some q ∧ q.1 = yX0_record.cls := by
  intro as M h
  unfold P_X0_record at h
  split at h
  · exact ⟨_, _, (RX0, TX0, 3), rfl, by rw [h.1]; rfl, rfl⟩
  · exact h.elim
def ct_X0_record : List (Nat × CS) := [(12, (2, 1, P_X0_place, C_X0_place)), (39, (2, 1, P_X0_place, C_X0_place)), (47, (5, 0, cpP kdX lnX, cpC))]
def J_X0_record  (p : Nat) (q : Nat) (M0 : Mem) : IT := fun pc ls st M μ => match pc, ls, st, M, μ with
  | _, _, _, _, _ => False
def JA_X0_record  (as : List AV) (M0 : Mem) : IT := match as with
  | [.inr p, .inr q] => J_X0_record  p q M0
  | _ => fun _ _ _ _ _ => False
theorem si_X0_record_12 {l : Launch} {D : va_G} {cy : Nat → ClassId} {ad : Nat → Nat} (o : OK_X0_place l D cy ad) : Site l D cy ad kdX lnX 46 yX0_record.cls tbX0_record rm_X0_record 12 (2, 1, P_X0_place, C_X0_place) := Or.inl ⟨23, 1, yX0_place, cX0_place, 3, (some .int), rm_X0_place, rfl, rfl, o, ca_X0_place, mkX0_23, ⟨rfl, rfl, by decide, by decide⟩, rv_X0_place⟩
theorem si_X0_record_39 {l : Launch} {D : va_G} {cy : Nat → ClassId} {ad : Nat → Nat} (o : OK_X0_place l D cy ad) : Site l D cy ad kdX lnX 46 yX0_record.cls tbX0_record rm_X0_record 39 (2, 1, P_X0_place, C_X0_place) := Or.inl ⟨23, 1, yX0_place, cX0_place, 3, (some .int), rm_X0_place, rfl, rfl, o, ca_X0_place, mkX0_23, ⟨rfl, rfl, by decide, by decide⟩, rv_X0_place⟩
theorem si_X0_record_47 {l : Launch} {D : va_G} {cy : Nat → ClassId} {ad : Nat → Nat} : Site l D cy ad kdX lnX 46 yX0_record.cls tbX0_record rm_X0_record 47 (5, 0, cpP kdX lnX, cpC) := Or.inr (Or.inr ⟨27, rfl, rfl, mem_at 416 (by decide +kernel), mem_at 418 (by decide +kernel), mem_at 417 (by decide +kernel), mem_at 42 (by decide +kernel), by decide, by decide⟩)
set_option maxRecDepth 100000 in
set_option maxHeartbeats 4000000 in
theorem met_X0_record {l : Launch} {D : va_G} {cy : Nat → ClassId} {ad : Nat → Nat} (hA : jA ad 46) (o_X0_place : OK_X0_place l D cy ad) 
    (hent : ∀ (p : Nat) (q : Nat) (M0 : Mem), p_X0_record p q M0 → okM M0 → kdX p = 0 ∧ ((¬ (M0 p 2) = (12 : Int) → (kdX p = 0 ∧ (kdX p = 0 ∧ (p_X0_place p (M0 p 2) M0 ∧ ∀ (x2 : Int) (M1 : Mem), inR x2 → okM M1 → c_X0_place p (M0 p 2) M0 x2 M1 → (kdX 17 = 23 ∧ (0 ≤ x2 ∧ x2 < 12) ∧ (cpP kdX lnX [.inr q, .inl 0, .inr ((17 + 1 + (x2).toNat)), .inl 0, .inl 144] M1 ∧ ∀ (x4 : Int) (M3 : Mem), inR x4 → okM M3 → cpC [.inr q, .inl 0, .inr ((17 + 1 + (x2).toNat)), .inl 0, .inl 144] M1 x4 M3 → (kdX p = 0 ∧ (inR ((M3 p 2) + 1) ∧ (kdX p = 0 ∧ (0 = 0 ∧ c_X0_record p q M0 0 (up M3 p 2 ((M3 p 2) + 1)))))))))))) ∧ (¬ (¬ (M0 p 2) = (12 : Int)) → (p_X0_place p 1 M0 ∧ ∀ (x6 : Int) (M5 : Mem), inR x6 → okM M5 → c_X0_place p 1 M0 x6 M5 → (kdX p = 0 ∧ (kdX p = 0 ∧ (inR (((up M5 p 1 x6) p 2) - 1) ∧ (kdX p = 0 ∧ (kdX p = 0 ∧ (kdX p = 0 ∧ (p_X0_place p ((up (up M5 p 1 x6) p 2 (((up M5 p 1 x6) p 2) - 1)) p 2) (up (up M5 p 1 x6) p 2 (((up M5 p 1 x6) p 2) - 1)) ∧ ∀ (x8 : Int) (M7 : Mem), inR x8 → okM M7 → c_X0_place p ((up (up M5 p 1 x6) p 2 (((up M5 p 1 x6) p 2) - 1)) p 2) (up (up M5 p 1 x6) p 2 (((up M5 p 1 x6) p 2) - 1)) x8 M7 → (kdX 17 = 23 ∧ (0 ≤ x8 ∧ x8 < 12) ∧ (cpP kdX lnX [.inr q, .inl 0, .inr ((17 + 1 + (x8).toNat)), .inl 0, .inl 144] M7 ∧ ∀ (x10 : Int) (M9 : Mem), inR x10 → okM M9 → cpC [.inr q, .inl 0, .inr ((17 + 1 + (x8).toNat)), .inl 0, .inl 144] M7 x10 M9 → (kdX p = 0 ∧ (inR ((M9 p 2) + 1) ∧ (kdX p = 0 ∧ (0 = 0 ∧ c_X0_record p q M0 0 (up M9 p 2 ((M9 p 2) + 1)))))))))))))))))))
    : OK_X0_record l D cy ad := by
  refine met_of (tb := tbX0_record) (ft := ftX0) (cst := cst0) (ct := ct_X0_record) (cuts := []) 36 (JA_X0_record ) hA jWX (by decide) tbX0_record_ok (by decide) ftX0_ok cst0_ok (ldc_of (tb := tbX0_record) (cst := cst0) (by decide)) rfl (List.forall_mem_cons.mpr ⟨si_X0_record_12 o_X0_place, List.forall_mem_cons.mpr ⟨si_X0_record_39 o_X0_place, List.forall_mem_cons.mpr ⟨si_X0_record_47, fun q h => absurd h List.not_mem_nil⟩⟩⟩) ?_ ?_ ?_
  · intro as M0 h
    unfold P_X0_record at h
    split at h
    · exact Nat.le_of_ble_eq_true rfl
    · exact h.elim
  · intro as M0 h hM has
    unfold P_X0_record at h
    split at h
    next p q => exact hent p q M0 h hM
    · exact h.elim
  · intro as M0 h hM has pc ls st M n hI hM1
    unfold P_X0_record at h
    split at h
    · exact hI.elim
    · exact h.elim
abbrev p_X0_restore (p : Nat) (q : Nat) (M : Mem) : Prop := kdX p = 0 ∧ p = 16 ∧ q = 6 ∧ ∃ H n, HR M H n ∧ 0 < n
abbrev c_X0_restore (p : Nat) (q : Nat) (M : Mem) (x : Int) (M' : Mem) : Prop := (∀ H n, HR M H n → HR M' H (n - 1) ∧ ∀ t : Nat, t < 144 → M' 6 t = H ((144 * (n - 1)).toNat + t)) ∧ (∀ b, b ≠ 16 → b ≠ 6 → M' b = M b)
def P_X0_restore (as : List AV) (M : Mem) : Prop := match as with
  | [.inr p, .inr q] => p_X0_restore p q M
  | _ => False
def C_X0_restore (as : List AV) (M : Mem) (x : Int) (M' : Mem) : Prop := match as with
  | [.inr p, .inr q] => c_X0_restore p q M x M'
  | _ => False
abbrev rm_X0_restore : Room := { frames := 1, cells := 0, slots := 0, locals := 26 }
abbrev OK_X0_restore (l : Launch) (D : va_G) (cy : Nat → ClassId) (ad : Nat → Nat) : Prop := MetA l D cy ad kdX lnX 46 yX0_restore cX0_restore 2 none rm_X0_restore 0 P_X0_restore C_X0_restore
theorem ca_X0_restore : CalV yX0_restore cX0_restore 2 none 1 := ⟨⟨wcX0_restore, wnX0, by decide +kernel, by decide +kernel, by decide +kernel⟩, wiX0_restore, wlX0_restore⟩
theorem rv_X0_restore : ∀ as M, P_X0_restore as M → ∃ a As q, as = .inr a :: As ∧ vwCl[kdX a]? = some q ∧ q.1 = yX0_restore.cls := by
  intro as M h
  unfold P_X0_restore at h
  split at h
  · exact ⟨_, _, (RX0, TX0, 3), rfl, by rw [h.1]; rfl, rfl⟩
  · exact h.elim
def ct_X0_restore : List (Nat × CS) := [(26, (2, 1, P_X0_place, C_X0_place)), (36, (5, 0, cpP kdX lnX, cpC))]
def J_X0_restore  (p : Nat) (q : Nat) (M0 : Mem) : IT := fun pc ls st M μ => match pc, ls, st, M, μ with
  | _, _, _, _, _ => False
def JA_X0_restore  (as : List AV) (M0 : Mem) : IT := match as with
  | [.inr p, .inr q] => J_X0_restore  p q M0
  | _ => fun _ _ _ _ _ => False
theorem si_X0_restore_26 {l : Launch} {D : va_G} {cy : Nat → ClassId} {ad : Nat → Nat} (o : OK_X0_place l D cy ad) : Site l D cy ad kdX lnX 46 yX0_restore.cls tbX0_restore rm_X0_restore 26 (2, 1, P_X0_place, C_X0_place) := Or.inl ⟨23, 1, yX0_place, cX0_place, 3, (some .int), rm_X0_place, rfl, rfl, o, ca_X0_place, mkX0_23, ⟨rfl, rfl, by decide, by decide⟩, rv_X0_place⟩
theorem si_X0_restore_36 {l : Launch} {D : va_G} {cy : Nat → ClassId} {ad : Nat → Nat} : Site l D cy ad kdX lnX 46 yX0_restore.cls tbX0_restore rm_X0_restore 36 (5, 0, cpP kdX lnX, cpC) := Or.inr (Or.inr ⟨27, rfl, rfl, mem_at 416 (by decide +kernel), mem_at 418 (by decide +kernel), mem_at 417 (by decide +kernel), mem_at 42 (by decide +kernel), by decide, by decide⟩)
set_option maxRecDepth 100000 in
set_option maxHeartbeats 4000000 in
theorem met_X0_restore {l : Launch} {D : va_G} {cy : Nat → ClassId} {ad : Nat → Nat} (hA : jA ad 46) (o_X0_place : OK_X0_place l D cy ad) 
    (hent : ∀ (p : Nat) (q : Nat) (M0 : Mem), p_X0_restore p q M0 → okM M0 → kdX p = 0 ∧ (((M0 p 2) ≤ (0 : Int) → (0 = 0 ∧ c_X0_restore p q M0 0 M0)) ∧ (¬ (M0 p 2) ≤ (0 : Int) → (kdX p = 0 ∧ (inR ((M0 p 2) - 1) ∧ (kdX p = 0 ∧ (kdX p = 0 ∧ (kdX p = 0 ∧ (p_X0_place p ((up M0 p 2 ((M0 p 2) - 1)) p 2) (up M0 p 2 ((M0 p 2) - 1)) ∧ ∀ (x2 : Int) (M1 : Mem), inR x2 → okM M1 → c_X0_place p ((up M0 p 2 ((M0 p 2) - 1)) p 2) (up M0 p 2 ((M0 p 2) - 1)) x2 M1 → (kdX 17 = 23 ∧ (0 ≤ x2 ∧ x2 < 12) ∧ (cpP kdX lnX [.inr ((17 + 1 + (x2).toNat)), .inl 0, .inr q, .inl 0, .inl 144] M1 ∧ ∀ (x4 : Int) (M3 : Mem), inR x4 → okM M3 → cpC [.inr ((17 + 1 + (x2).toNat)), .inl 0, .inr q, .inl 0, .inl 144] M1 x4 M3 → (0 = 0 ∧ c_X0_restore p q M0 0 M3))))))))))))
    : OK_X0_restore l D cy ad := by
  refine met_of (tb := tbX0_restore) (ft := ftX0) (cst := cst0) (ct := ct_X0_restore) (cuts := []) 24 (JA_X0_restore ) hA jWX (by decide) tbX0_restore_ok (by decide) ftX0_ok cst0_ok (ldc_of (tb := tbX0_restore) (cst := cst0) (by decide)) rfl (List.forall_mem_cons.mpr ⟨si_X0_restore_26 o_X0_place, List.forall_mem_cons.mpr ⟨si_X0_restore_36, fun q h => absurd h List.not_mem_nil⟩⟩) ?_ ?_ ?_
  · intro as M0 h
    unfold P_X0_restore at h
    split at h
    · exact Nat.le_of_ble_eq_true rfl
    · exact h.elim
  · intro as M0 h hM has
    unfold P_X0_restore at h
    split at h
    next p q => exact hent p q M0 h hM
    · exact h.elim
  · intro as M0 h hM has pc ls st M n hI hM1
    unfold P_X0_restore at h
    split at h
    · exact hI.elim
    · exact h.elim
