theorem cst0_ok {own : String} : ∀ j, (fun _ : Nat => (0 : Int)) j ≠ 0 → Cond.constant own j (I32 ((fun _ : Nat => (0 : Int)) j)) ∈ wtb ∧ inR ((fun _ : Nat => (0 : Int)) j) := fun _ h => absurd rfl h
abbrev cst0 : Nat → Int := fun _ => 0
def ldcB (tb : TB) (cst : Nat → Int) : Bool := tb.all fun q => match q.2.1 with
  | .ldc j => decide (cst j ≠ 0)
  | _ => true
theorem ldc_of {tb : TB} {cst : Nat → Int} (h : ldcB tb cst = true) : ∀ pc j n ts, tb.lookup pc = some (.ldc j, n, ts) → cst j ≠ 0 := by
  intro pc j n ts hl
  have := List.all_eq_true.mp h _ (lookup_mem hl)
  simpa using this
def cstL (j : Nat) : Int := bif j == 7 then 4390007 else bif j == 8 then 2147483647 else 0
theorem cstL_ok : ∀ j, cstL j ≠ 0 → Cond.constant RL j (I32 (cstL j)) ∈ wtb ∧ inR (cstL j) := by
  intro j h
  by_cases e : j = 7
  · subst e
    exact ⟨wtb_in (mem_at 433 (by decide +kernel)) rfl, ⟨by decide, by decide⟩⟩
  · by_cases e2 : j = 8
    · subst e2
      exact ⟨wtb_in (mem_at 437 (by decide +kernel)) rfl, ⟨by decide, by decide⟩⟩
    · exact absurd (by unfold cstL; rw [show (j == 7) = false from by simpa using e, show (j == 8) = false from by simpa using e2]; rfl) h
def ftL : List (Nat × Nat × Nat × Nat) := []
theorem ftL_ok : ftOK RL ftL = true := rfl
abbrev p_X5_number (p : Nat) (M : Mem) : Prop := kdX p = 5
abbrev c_X5_number (p : Nat) (M : Mem) (x : Int) (M' : Mem) : Prop := x = M p 1 ∧ M' = M
def P_X5_number (as : List AV) (M : Mem) : Prop := match as with
  | [.inr p] => p_X5_number p M
  | _ => False
def C_X5_number (as : List AV) (M : Mem) (x : Int) (M' : Mem) : Prop := match as with
  | [.inr p] => c_X5_number p M x M'
  | _ => False
abbrev rm_X5_number : Room := { frames := 0, cells := 0, slots := 0, locals := 0 }
abbrev OK_X5_number (l : Launch) (D : va_G) (cy : Nat → ClassId) (ad : Nat → Nat) : Prop := MetA l D cy ad kdX lnX 46 yX5_number cX5_number 1 (some .int) rm_X5_number 1 P_X5_number C_X5_number
theorem ca_X5_number : CalV yX5_number cX5_number 1 (some .int) 0 := ⟨⟨wcX5_number, wnX5, by decide +kernel, by decide +kernel, by decide +kernel⟩, wiX5_number, wlX5_number⟩
theorem rv_X5_number : ∀ as M, P_X5_number as M → ∃ a As q, as = .inr a :: As ∧ vwCl[kdX a]? = some q ∧ q.1 = yX5_number.cls := by
  intro as M h
  unfold P_X5_number at h
  split at h
  · exact ⟨_, _, (RX5, TX5, 2), rfl, by rw [h]; rfl, rfl⟩
  · exact h.elim
def ct_X5_number : List (Nat × CS) := []
def J_X5_number  (p : Nat) (M0 : Mem) : IT := fun pc ls st M μ => match pc, ls, st, M, μ with
  | _, _, _, _, _ => False
def JA_X5_number  (as : List AV) (M0 : Mem) : IT := match as with
  | [.inr p] => J_X5_number  p M0
  | _ => fun _ _ _ _ _ => False
set_option maxRecDepth 100000 in
set_option maxHeartbeats 4000000 in
theorem met_X5_number {l : Launch} {D : va_G} {cy : Nat → ClassId} {ad : Nat → Nat} (hA : jA ad 46)  
    (hent : ∀ (p : Nat) (M0 : Mem), p_X5_number p M0 → okM M0 → kdX p = 5 ∧ ((True) ∧ c_X5_number p M0 (M0 p 1) M0))
    : OK_X5_number l D cy ad := by
  refine met_of (tb := tbX5_number) (ft := ftX5) (cst := cst0) (ct := ct_X5_number) (cuts := []) 5 (JA_X5_number ) hA jWX (by decide) tbX5_number_ok (by decide) ftX5_ok cst0_ok (ldc_of (tb := tbX5_number) (cst := cst0) (by decide)) rfl (fun q h => absurd h List.not_mem_nil) ?_ ?_ ?_
  · intro as M0 h
    unfold P_X5_number at h
    split at h
    · exact Nat.le_of_ble_eq_true rfl
    · exact h.elim
  · intro as M0 h hM has
    unfold P_X5_number at h
    split at h
    next p => exact hent p M0 h hM
    · exact h.elim
  · intro as M0 h hM has pc ls st M n hI hM1
    unfold P_X5_number at h
    split at h
    · exact hI.elim
    · exact h.elim
abbrev p_X5_at (p : Nat) (k : Int) (M : Mem) : Prop := kdX p = 5 ∧ (0 ≤ k ∧ k < 144)
abbrev c_X5_at (p : Nat) (k : Int) (M : Mem) (x : Int) (M' : Mem) : Prop := x = M (p + 1) k.toNat ∧ M' = M
def P_X5_at (as : List AV) (M : Mem) : Prop := match as with
  | [.inr p, .inl k] => p_X5_at p k M
  | _ => False
def C_X5_at (as : List AV) (M : Mem) (x : Int) (M' : Mem) : Prop := match as with
  | [.inr p, .inl k] => c_X5_at p k M x M'
  | _ => False
abbrev rm_X5_at : Room := { frames := 0, cells := 0, slots := 0, locals := 0 }
abbrev OK_X5_at (l : Launch) (D : va_G) (cy : Nat → ClassId) (ad : Nat → Nat) : Prop := MetA l D cy ad kdX lnX 46 yX5_at cX5_at 2 (some .int) rm_X5_at 1 P_X5_at C_X5_at
theorem ca_X5_at : CalV yX5_at cX5_at 2 (some .int) 1 := ⟨⟨wcX5_at, wnX5, by decide +kernel, by decide +kernel, by decide +kernel⟩, wiX5_at, wlX5_at⟩
theorem rv_X5_at : ∀ as M, P_X5_at as M → ∃ a As q, as = .inr a :: As ∧ vwCl[kdX a]? = some q ∧ q.1 = yX5_at.cls := by
  intro as M h
  unfold P_X5_at at h
  split at h
  · exact ⟨_, _, (RX5, TX5, 2), rfl, by rw [h.1]; rfl, rfl⟩
  · exact h.elim
def ct_X5_at : List (Nat × CS) := []
def J_X5_at  (p : Nat) (k : Int) (M0 : Mem) : IT := fun pc ls st M μ => match pc, ls, st, M, μ with
  | _, _, _, _, _ => False
def JA_X5_at  (as : List AV) (M0 : Mem) : IT := match as with
  | [.inr p, .inl k] => J_X5_at  p k M0
  | _ => fun _ _ _ _ _ => False
set_option maxRecDepth 100000 in
set_option maxHeartbeats 4000000 in
theorem met_X5_at {l : Launch} {D : va_G} {cy : Nat → ClassId} {ad : Nat → Nat} (hA : jA ad 46)  
    (hent : ∀ (p : Nat) (k : Int) (M0 : Mem), p_X5_at p k M0 → okM M0 → inR k → kdX p = 5 ∧ (kdX (p + 1) = 21 ∧ (0 ≤ k ∧ k < ((lnX (p + 1) : Nat) : Int)) ∧ ((True) ∧ c_X5_at p k M0 (M0 (p + 1) (k).toNat) M0)))
    : OK_X5_at l D cy ad := by
  refine met_of (tb := tbX5_at) (ft := ftX5) (cst := cst0) (ct := ct_X5_at) (cuts := []) 7 (JA_X5_at ) hA jWX (by decide) tbX5_at_ok (by decide) ftX5_ok cst0_ok (ldc_of (tb := tbX5_at) (cst := cst0) (by decide)) rfl (fun q h => absurd h List.not_mem_nil) ?_ ?_ ?_
  · intro as M0 h
    unfold P_X5_at at h
    split at h
    · exact Nat.le_of_ble_eq_true rfl
    · exact h.elim
  · intro as M0 h hM has
    unfold P_X5_at at h
    split at h
    next p k => exact hent p k M0 h hM (has k (by simp))
    · exact h.elim
  · intro as M0 h hM has pc ls st M n hI hM1
    unfold P_X5_at at h
    split at h
    · exact hI.elim
    · exact h.elim
abbrev p_X5_clear (p : Nat) (M : Mem) : Prop := kdX p = 5
abbrev c_X5_clear (p : Nat) (M : Mem) (x : Int) (M' : Mem) : Prop := M' = up M p 1 0
def P_X5_clear (as : List AV) (M : Mem) : Prop := match as with
  | [.inr p] => p_X5_clear p M
  | _ => False
def C_X5_clear (as : List AV) (M : Mem) (x : Int) (M' : Mem) : Prop := match as with
  | [.inr p] => c_X5_clear p M x M'
  | _ => False
abbrev rm_X5_clear : Room := { frames := 0, cells := 0, slots := 0, locals := 0 }
abbrev OK_X5_clear (l : Launch) (D : va_G) (cy : Nat → ClassId) (ad : Nat → Nat) : Prop := MetA l D cy ad kdX lnX 46 yX5_clear cX5_clear 1 none rm_X5_clear 0 P_X5_clear C_X5_clear
theorem ca_X5_clear : CalV yX5_clear cX5_clear 1 none 0 := ⟨⟨wcX5_clear, wnX5, by decide +kernel, by decide +kernel, by decide +kernel⟩, wiX5_clear, wlX5_clear⟩
theorem rv_X5_clear : ∀ as M, P_X5_clear as M → ∃ a As q, as = .inr a :: As ∧ vwCl[kdX a]? = some q ∧ q.1 = yX5_clear.cls := by
  intro as M h
  unfold P_X5_clear at h
  split at h
  · exact ⟨_, _, (RX5, TX5, 2), rfl, by rw [h]; rfl, rfl⟩
  · exact h.elim
def ct_X5_clear : List (Nat × CS) := []
def J_X5_clear  (p : Nat) (M0 : Mem) : IT := fun pc ls st M μ => match pc, ls, st, M, μ with
  | _, _, _, _, _ => False
def JA_X5_clear  (as : List AV) (M0 : Mem) : IT := match as with
  | [.inr p] => J_X5_clear  p M0
  | _ => fun _ _ _ _ _ => False
set_option maxRecDepth 100000 in
set_option maxHeartbeats 4000000 in
theorem met_X5_clear {l : Launch} {D : va_G} {cy : Nat → ClassId} {ad : Nat → Nat} (hA : jA ad 46)  
    (hent : ∀ (p : Nat) (M0 : Mem), p_X5_clear p M0 → okM M0 → kdX p = 5 ∧ (0 = 0 ∧ c_X5_clear p M0 0 (up M0 p 1 0)))
    : OK_X5_clear l D cy ad := by
  refine met_of (tb := tbX5_clear) (ft := ftX5) (cst := cst0) (ct := ct_X5_clear) (cuts := []) 6 (JA_X5_clear ) hA jWX (by decide) tbX5_clear_ok (by decide) ftX5_ok cst0_ok (ldc_of (tb := tbX5_clear) (cst := cst0) (by decide)) rfl (fun q h => absurd h List.not_mem_nil) ?_ ?_ ?_
  · intro as M0 h
    unfold P_X5_clear at h
    split at h
    · exact Nat.le_of_ble_eq_true rfl
    · exact h.elim
  · intro as M0 h hM has
    unfold P_X5_clear at h
    split at h
    next p => exact hent p M0 h hM
    · exact h.elim
  · intro as M0 h hM has pc ls st M n hI hM1
    unfold P_X5_clear at h
    split at h
    · exact hI.elim
    · exact h.elim
abbrev p_X5_add (p : Nat) (t : Int) (M : Mem) : Prop := kdX p = 5 ∧ (0 ≤ M p 1 ∧ M p 1 < 144)
abbrev c_X5_add (p : Nat) (t : Int) (M : Mem) (x : Int) (M' : Mem) : Prop := M' = up (up M (p + 1) (M p 1).toNat t) p 1 (M p 1 + 1)
def P_X5_add (as : List AV) (M : Mem) : Prop := match as with
  | [.inr p, .inl t] => p_X5_add p t M
  | _ => False
def C_X5_add (as : List AV) (M : Mem) (x : Int) (M' : Mem) : Prop := match as with
  | [.inr p, .inl t] => c_X5_add p t M x M'
  | _ => False
abbrev rm_X5_add : Room := { frames := 0, cells := 0, slots := 0, locals := 0 }
abbrev OK_X5_add (l : Launch) (D : va_G) (cy : Nat → ClassId) (ad : Nat → Nat) : Prop := MetA l D cy ad kdX lnX 46 yX5_add cX5_add 2 none rm_X5_add 0 P_X5_add C_X5_add
theorem ca_X5_add : CalV yX5_add cX5_add 2 none 1 := ⟨⟨wcX5_add, wnX5, by decide +kernel, by decide +kernel, by decide +kernel⟩, wiX5_add, wlX5_add⟩
theorem rv_X5_add : ∀ as M, P_X5_add as M → ∃ a As q, as = .inr a :: As ∧ vwCl[kdX a]? = some q ∧ q.1 = yX5_add.cls := by
  intro as M h
  unfold P_X5_add at h
  split at h
  · exact ⟨_, _, (RX5, TX5, 2), rfl, by rw [h.1]; rfl, rfl⟩
  · exact h.elim
def ct_X5_add : List (Nat × CS) := []
def J_X5_add  (p : Nat) (t : Int) (M0 : Mem) : IT := fun pc ls st M μ => match pc, ls, st, M, μ with
  | _, _, _, _, _ => False
def JA_X5_add  (as : List AV) (M0 : Mem) : IT := match as with
  | [.inr p, .inl t] => J_X5_add  p t M0
  | _ => fun _ _ _ _ _ => False
set_option maxRecDepth 100000 in
set_option maxHeartbeats 4000000 in
theorem met_X5_add {l : Launch} {D : va_G} {cy : Nat → ClassId} {ad : Nat → Nat} (hA : jA ad 46)  
    (hent : ∀ (p : Nat) (t : Int) (M0 : Mem), p_X5_add p t M0 → okM M0 → inR t → kdX p = 5 ∧ (((144 : Int) ≤ (M0 p 1) → (0 = 0 ∧ c_X5_add p t M0 0 M0)) ∧ (¬ (144 : Int) ≤ (M0 p 1) → (kdX p = 5 ∧ (kdX p = 5 ∧ (kdX (p + 1) = 21 ∧ (0 ≤ (M0 p 1) ∧ (M0 p 1) < ((lnX (p + 1) : Nat) : Int)) ∧ (kdX p = 5 ∧ (inR (((up M0 (p + 1) (M0 p 1).toNat t) p 1) + 1) ∧ (kdX p = 5 ∧ (0 = 0 ∧ c_X5_add p t M0 0 (up (up M0 (p + 1) (M0 p 1).toNat t) p 1 (((up M0 (p + 1) (M0 p 1).toNat t) p 1) + 1))))))))))))
    : OK_X5_add l D cy ad := by
  refine met_of (tb := tbX5_add) (ft := ftX5) (cst := cst0) (ct := ct_X5_add) (cuts := []) 19 (JA_X5_add ) hA jWX (by decide) tbX5_add_ok (by decide) ftX5_ok cst0_ok (ldc_of (tb := tbX5_add) (cst := cst0) (by decide)) rfl (fun q h => absurd h List.not_mem_nil) ?_ ?_ ?_
  · intro as M0 h
    unfold P_X5_add at h
    split at h
    · exact Nat.le_of_ble_eq_true rfl
    · exact h.elim
  · intro as M0 h hM has
    unfold P_X5_add at h
    split at h
    next p t => exact hent p t M0 h hM (has t (by simp))
    · exact h.elim
  · intro as M0 h hM has pc ls st M n hI hM1
    unfold P_X5_add at h
    split at h
    · exact hI.elim
    · exact h.elim
abbrev p_X5_takeOut (p : Nat) (k : Int) (M : Mem) : Prop := kdX p = 5 ∧ (0 ≤ k ∧ k < M p 1) ∧ M p 1 ≤ 144
abbrev c_X5_takeOut (p : Nat) (k : Int) (M : Mem) (x : Int) (M' : Mem) : Prop := x = M (p + 1) k.toNat ∧ M' = up (up M p 1 (M p 1 - 1)) (p + 1) k.toNat (M (p + 1) (M p 1 - 1).toNat)
def P_X5_takeOut (as : List AV) (M : Mem) : Prop := match as with
  | [.inr p, .inl k] => p_X5_takeOut p k M
  | _ => False
def C_X5_takeOut (as : List AV) (M : Mem) (x : Int) (M' : Mem) : Prop := match as with
  | [.inr p, .inl k] => c_X5_takeOut p k M x M'
  | _ => False
abbrev rm_X5_takeOut : Room := { frames := 0, cells := 0, slots := 0, locals := 0 }
abbrev OK_X5_takeOut (l : Launch) (D : va_G) (cy : Nat → ClassId) (ad : Nat → Nat) : Prop := MetA l D cy ad kdX lnX 46 yX5_takeOut cX5_takeOut 3 (some .int) rm_X5_takeOut 1 P_X5_takeOut C_X5_takeOut
theorem ca_X5_takeOut : CalV yX5_takeOut cX5_takeOut 3 (some .int) 1 := ⟨⟨wcX5_takeOut, wnX5, by decide +kernel, by decide +kernel, by decide +kernel⟩, wiX5_takeOut, wlX5_takeOut⟩
theorem rv_X5_takeOut : ∀ as M, P_X5_takeOut as M → ∃ a As q, as = .inr a :: As ∧ vwCl[kdX a]? = some q ∧ q.1 = yX5_takeOut.cls := by
  intro as M h
  unfold P_X5_takeOut at h
  split at h
  · exact ⟨_, _, (RX5, TX5, 2), rfl, by rw [h.1]; rfl, rfl⟩
  · exact h.elim
def ct_X5_takeOut : List (Nat × CS) := []
def J_X5_takeOut  (p : Nat) (k : Int) (M0 : Mem) : IT := fun pc ls st M μ => match pc, ls, st, M, μ with
  | _, _, _, _, _ => False
def JA_X5_takeOut  (as : List AV) (M0 : Mem) : IT := match as with
  | [.inr p, .inl k] => J_X5_takeOut  p k M0
  | _ => fun _ _ _ _ _ => False
set_option maxRecDepth 100000 in
set_option maxHeartbeats 4000000 in
theorem met_X5_takeOut {l : Launch} {D : va_G} {cy : Nat → ClassId} {ad : Nat → Nat} (hA : jA ad 46)  
    (hent : ∀ (p : Nat) (k : Int) (M0 : Mem), p_X5_takeOut p k M0 → okM M0 → inR k → kdX p = 5 ∧ (kdX (p + 1) = 21 ∧ (0 ≤ k ∧ k < ((lnX (p + 1) : Nat) : Int)) ∧ (kdX p = 5 ∧ (inR ((M0 p 1) - 1) ∧ (kdX p = 5 ∧ (kdX p = 5 ∧ (kdX p = 5 ∧ (kdX p = 5 ∧ (kdX (p + 1) = 21 ∧ (0 ≤ ((up M0 p 1 ((M0 p 1) - 1)) p 1) ∧ ((up M0 p 1 ((M0 p 1) - 1)) p 1) < ((lnX (p + 1) : Nat) : Int)) ∧ (kdX (p + 1) = 21 ∧ (0 ≤ k ∧ k < ((lnX (p + 1) : Nat) : Int)) ∧ ((True) ∧ c_X5_takeOut p k M0 (M0 (p + 1) (k).toNat) (up (up M0 p 1 ((M0 p 1) - 1)) (p + 1) (k).toNat ((up M0 p 1 ((M0 p 1) - 1)) (p + 1) ((up M0 p 1 ((M0 p 1) - 1)) p 1).toNat)))))))))))))
    : OK_X5_takeOut l D cy ad := by
  refine met_of (tb := tbX5_takeOut) (ft := ftX5) (cst := cst0) (ct := ct_X5_takeOut) (cuts := []) 24 (JA_X5_takeOut ) hA jWX (by decide) tbX5_takeOut_ok (by decide) ftX5_ok cst0_ok (ldc_of (tb := tbX5_takeOut) (cst := cst0) (by decide)) rfl (fun q h => absurd h List.not_mem_nil) ?_ ?_ ?_
  · intro as M0 h
    unfold P_X5_takeOut at h
    split at h
    · exact Nat.le_of_ble_eq_true rfl
    · exact h.elim
  · intro as M0 h hM has
    unfold P_X5_takeOut at h
    split at h
    next p k => exact hent p k M0 h hM (has k (by simp))
    · exact h.elim
  · intro as M0 h hM has pc ls st M n hI hM1
    unfold P_X5_takeOut at h
    split at h
    · exact hI.elim
    · exact h.elim
abbrev p_X2_style (p : Nat) (M : Mem) : Prop := kdX p = 2
abbrev c_X2_style (p : Nat) (M : Mem) (x : Int) (M' : Mem) : Prop := x = M p 0 ∧ M' = M
def P_X2_style (as : List AV) (M : Mem) : Prop := match as with
  | [.inr p] => p_X2_style p M
  | _ => False
def C_X2_style (as : List AV) (M : Mem) (x : Int) (M' : Mem) : Prop := match as with
  | [.inr p] => c_X2_style p M x M'
  | _ => False
abbrev rm_X2_style : Room := { frames := 0, cells := 0, slots := 0, locals := 0 }
abbrev OK_X2_style (l : Launch) (D : va_G) (cy : Nat → ClassId) (ad : Nat → Nat) : Prop := MetA l D cy ad kdX lnX 46 yX2_style cX2_style 1 (some .int) rm_X2_style 1 P_X2_style C_X2_style
theorem ca_X2_style : CalV yX2_style cX2_style 1 (some .int) 0 := ⟨⟨wcX2_style, wnX2, by decide +kernel, by decide +kernel, by decide +kernel⟩, wiX2_style, wlX2_style⟩
theorem rv_X2_style : ∀ as M, P_X2_style as M → ∃ a As q, as = .inr a :: As ∧ vwCl[kdX a]? = some q ∧ q.1 = yX2_style.cls := by
  intro as M h
  unfold P_X2_style at h
  split at h
  · exact ⟨_, _, (RX2, TX2, 2), rfl, by rw [h]; rfl, rfl⟩
  · exact h.elim
def ct_X2_style : List (Nat × CS) := []
def J_X2_style  (p : Nat) (M0 : Mem) : IT := fun pc ls st M μ => match pc, ls, st, M, μ with
  | _, _, _, _, _ => False
def JA_X2_style  (as : List AV) (M0 : Mem) : IT := match as with
  | [.inr p] => J_X2_style  p M0
  | _ => fun _ _ _ _ _ => False
set_option maxRecDepth 100000 in
set_option maxHeartbeats 4000000 in
theorem met_X2_style {l : Launch} {D : va_G} {cy : Nat → ClassId} {ad : Nat → Nat} (hA : jA ad 46)  
    (hent : ∀ (p : Nat) (M0 : Mem), p_X2_style p M0 → okM M0 → kdX p = 2 ∧ ((True) ∧ c_X2_style p M0 (M0 p 0) M0))
    : OK_X2_style l D cy ad := by
  refine met_of (tb := tbX2_style) (ft := ftX2) (cst := cst0) (ct := ct_X2_style) (cuts := []) 5 (JA_X2_style ) hA jWX (by decide) tbX2_style_ok (by decide) ftX2_ok cst0_ok (ldc_of (tb := tbX2_style) (cst := cst0) (by decide)) rfl (fun q h => absurd h List.not_mem_nil) ?_ ?_ ?_
  · intro as M0 h
    unfold P_X2_style at h
    split at h
    · exact Nat.le_of_ble_eq_true rfl
    · exact h.elim
  · intro as M0 h hM has
    unfold P_X2_style at h
    split at h
    next p => exact hent p M0 h hM
    · exact h.elim
  · intro as M0 h hM has pc ls st M n hI hM1
    unfold P_X2_style at h
    split at h
    · exact hI.elim
    · exact h.elim
abbrev p_X2_offset (p : Nat) (M : Mem) : Prop := kdX p = 2
abbrev c_X2_offset (p : Nat) (M : Mem) (x : Int) (M' : Mem) : Prop := x = M p 1 ∧ M' = M
def P_X2_offset (as : List AV) (M : Mem) : Prop := match as with
  | [.inr p] => p_X2_offset p M
  | _ => False
def C_X2_offset (as : List AV) (M : Mem) (x : Int) (M' : Mem) : Prop := match as with
  | [.inr p] => c_X2_offset p M x M'
  | _ => False
abbrev rm_X2_offset : Room := { frames := 0, cells := 0, slots := 0, locals := 0 }
abbrev OK_X2_offset (l : Launch) (D : va_G) (cy : Nat → ClassId) (ad : Nat → Nat) : Prop := MetA l D cy ad kdX lnX 46 yX2_offset cX2_offset 1 (some .int) rm_X2_offset 1 P_X2_offset C_X2_offset
theorem ca_X2_offset : CalV yX2_offset cX2_offset 1 (some .int) 0 := ⟨⟨wcX2_offset, wnX2, by decide +kernel, by decide +kernel, by decide +kernel⟩, wiX2_offset, wlX2_offset⟩
theorem rv_X2_offset : ∀ as M, P_X2_offset as M → ∃ a As q, as = .inr a :: As ∧ vwCl[kdX a]? = some q ∧ q.1 = yX2_offset.cls := by
  intro as M h
  unfold P_X2_offset at h
  split at h
  · exact ⟨_, _, (RX2, TX2, 2), rfl, by rw [h]; rfl, rfl⟩
  · exact h.elim
def ct_X2_offset : List (Nat × CS) := []
def J_X2_offset  (p : Nat) (M0 : Mem) : IT := fun pc ls st M μ => match pc, ls, st, M, μ with
  | _, _, _, _, _ => False
def JA_X2_offset  (as : List AV) (M0 : Mem) : IT := match as with
  | [.inr p] => J_X2_offset  p M0
  | _ => fun _ _ _ _ _ => False
set_option maxRecDepth 100000 in
set_option maxHeartbeats 4000000 in
theorem met_X2_offset {l : Launch} {D : va_G} {cy : Nat → ClassId} {ad : Nat → Nat} (hA : jA ad 46)  
    (hent : ∀ (p : Nat) (M0 : Mem), p_X2_offset p M0 → okM M0 → kdX p = 2 ∧ ((True) ∧ c_X2_offset p M0 (M0 p 1) M0))
    : OK_X2_offset l D cy ad := by
  refine met_of (tb := tbX2_offset) (ft := ftX2) (cst := cst0) (ct := ct_X2_offset) (cuts := []) 5 (JA_X2_offset ) hA jWX (by decide) tbX2_offset_ok (by decide) ftX2_ok cst0_ok (ldc_of (tb := tbX2_offset) (cst := cst0) (by decide)) rfl (fun q h => absurd h List.not_mem_nil) ?_ ?_ ?_
  · intro as M0 h
    unfold P_X2_offset at h
    split at h
    · exact Nat.le_of_ble_eq_true rfl
    · exact h.elim
  · intro as M0 h hM has
    unfold P_X2_offset at h
    split at h
    next p => exact hent p M0 h hM
    · exact h.elim
  · intro as M0 h hM has pc ls st M n hI hM1
    unfold P_X2_offset at h
    split at h
    · exact hI.elim
    · exact h.elim
abbrev p_X2_change (p : Nat) (k : Int) (s : Int) (M : Mem) : Prop := kdX p = 2
abbrev c_X2_change (p : Nat) (k : Int) (s : Int) (M : Mem) (x : Int) (M' : Mem) : Prop := M' = up (up M p 0 k) p 1 s ∧ x = (if M p 0 = k ∧ M p 1 = s then 0 else 1)
def P_X2_change (as : List AV) (M : Mem) : Prop := match as with
  | [.inr p, .inl k, .inl s] => p_X2_change p k s M
  | _ => False
def C_X2_change (as : List AV) (M : Mem) (x : Int) (M' : Mem) : Prop := match as with
  | [.inr p, .inl k, .inl s] => c_X2_change p k s M x M'
  | _ => False
abbrev rm_X2_change : Room := { frames := 0, cells := 0, slots := 0, locals := 0 }
abbrev OK_X2_change (l : Launch) (D : va_G) (cy : Nat → ClassId) (ad : Nat → Nat) : Prop := MetA l D cy ad kdX lnX 46 yX2_change cX2_change 4 (some .boolean) rm_X2_change 2 P_X2_change C_X2_change
theorem ca_X2_change : CalV yX2_change cX2_change 4 (some .boolean) 2 := ⟨⟨wcX2_change, wnX2, by decide +kernel, by decide +kernel, by decide +kernel⟩, wiX2_change, wlX2_change⟩
theorem rv_X2_change : ∀ as M, P_X2_change as M → ∃ a As q, as = .inr a :: As ∧ vwCl[kdX a]? = some q ∧ q.1 = yX2_change.cls := by
  intro as M h
  unfold P_X2_change at h
  split at h
  · exact ⟨_, _, (RX2, TX2, 2), rfl, by rw [h]; rfl, rfl⟩
  · exact h.elim
def ct_X2_change : List (Nat × CS) := []
def J_X2_change  (p : Nat) (k : Int) (s : Int) (M0 : Mem) : IT := fun pc ls st M μ => match pc, ls, st, M, μ with
  | _, _, _, _, _ => False
def JA_X2_change  (as : List AV) (M0 : Mem) : IT := match as with
  | [.inr p, .inl k, .inl s] => J_X2_change  p k s M0
  | _ => fun _ _ _ _ _ => False
set_option maxRecDepth 100000 in
set_option maxHeartbeats 4000000 in
theorem met_X2_change {l : Launch} {D : va_G} {cy : Nat → ClassId} {ad : Nat → Nat} (hA : jA ad 46)  
    (hent : ∀ (p : Nat) (k : Int) (s : Int) (M0 : Mem), p_X2_change p k s M0 → okM M0 → inR k → inR s → kdX p = 2 ∧ ((¬ (M0 p 0) = k → (kdX p = 2 ∧ (kdX p = 2 ∧ (((1 : Int) = 0 ∨ (1 : Int) = 1) ∧ c_X2_change p k s M0 1 (up (up M0 p 0 k) p 1 s))))) ∧ (¬ (¬ (M0 p 0) = k) → (kdX p = 2 ∧ (((M0 p 1) = s → (kdX p = 2 ∧ (kdX p = 2 ∧ (((0 : Int) = 0 ∨ (0 : Int) = 1) ∧ c_X2_change p k s M0 0 (up (up M0 p 0 k) p 1 s))))) ∧ (¬ (M0 p 1) = s → (kdX p = 2 ∧ (kdX p = 2 ∧ (((1 : Int) = 0 ∨ (1 : Int) = 1) ∧ c_X2_change p k s M0 1 (up (up M0 p 0 k) p 1 s))))))))))
    : OK_X2_change l D cy ad := by
  refine met_of (tb := tbX2_change) (ft := ftX2) (cst := cst0) (ct := ct_X2_change) (cuts := []) 22 (JA_X2_change ) hA jWX (by decide) tbX2_change_ok (by decide) ftX2_ok cst0_ok (ldc_of (tb := tbX2_change) (cst := cst0) (by decide)) rfl (fun q h => absurd h List.not_mem_nil) ?_ ?_ ?_
  · intro as M0 h
    unfold P_X2_change at h
    split at h
    · exact Nat.le_of_ble_eq_true rfl
    · exact h.elim
  · intro as M0 h hM has
    unfold P_X2_change at h
    split at h
    next p k s => exact hent p k s M0 h hM (has k (by simp)) (has s (by simp))
    · exact h.elim
  · intro as M0 h hM has pc ls st M n hI hM1
    unfold P_X2_change at h
    split at h
    · exact hI.elim
    · exact h.elim
abbrev p_X2_crossing (p : Nat) (b : Int) (M : Mem) : Prop := kdX p = 2 ∧ (b = 1 ∨ b = 2)
abbrev c_X2_crossing (p : Nat) (b : Int) (M : Mem) (x : Int) (M' : Mem) : Prop := x = (if M p 0 = 2 then b + 4 else b) ∧ M' = M
def P_X2_crossing (as : List AV) (M : Mem) : Prop := match as with
  | [.inr p, .inl b] => p_X2_crossing p b M
  | _ => False
def C_X2_crossing (as : List AV) (M : Mem) (x : Int) (M' : Mem) : Prop := match as with
  | [.inr p, .inl b] => c_X2_crossing p b M x M'
  | _ => False
abbrev rm_X2_crossing : Room := { frames := 0, cells := 0, slots := 0, locals := 0 }
abbrev OK_X2_crossing (l : Launch) (D : va_G) (cy : Nat → ClassId) (ad : Nat → Nat) : Prop := MetA l D cy ad kdX lnX 46 yX2_crossing cX2_crossing 2 (some .int) rm_X2_crossing 1 P_X2_crossing C_X2_crossing
theorem ca_X2_crossing : CalV yX2_crossing cX2_crossing 2 (some .int) 1 := ⟨⟨wcX2_crossing, wnX2, by decide +kernel, by decide +kernel, by decide +kernel⟩, wiX2_crossing, wlX2_crossing⟩
theorem rv_X2_crossing : ∀ as M, P_X2_crossing as M → ∃ a As q, as = .inr a :: As ∧ vwCl[kdX a]? = some q ∧ q.1 = yX2_crossing.cls := by
  intro as M h
  unfold P_X2_crossing at h
  split at h
  · exact ⟨_, _, (RX2, TX2, 2), rfl, by rw [h.1]; rfl, rfl⟩
  · exact h.elim
def ct_X2_crossing : List (Nat × CS) := []
def J_X2_crossing  (p : Nat) (b : Int) (M0 : Mem) : IT := fun pc ls st M μ => match pc, ls, st, M, μ with
  | _, _, _, _, _ => False
def JA_X2_crossing  (as : List AV) (M0 : Mem) : IT := match as with
  | [.inr p, .inl b] => J_X2_crossing  p b M0
  | _ => fun _ _ _ _ _ => False
set_option maxRecDepth 100000 in
set_option maxHeartbeats 4000000 in
theorem met_X2_crossing {l : Launch} {D : va_G} {cy : Nat → ClassId} {ad : Nat → Nat} (hA : jA ad 46)  
    (hent : ∀ (p : Nat) (b : Int) (M0 : Mem), p_X2_crossing p b M0 → okM M0 → inR b → kdX p = 2 ∧ ((¬ (M0 p 0) = (2 : Int) → ((True) ∧ c_X2_crossing p b M0 b M0)) ∧ (¬ (¬ (M0 p 0) = (2 : Int)) → ((True) ∧ c_X2_crossing p b M0 (bOr b 4) M0))))
    : OK_X2_crossing l D cy ad := by
  refine met_of (tb := tbX2_crossing) (ft := ftX2) (cst := cst0) (ct := ct_X2_crossing) (cuts := []) 12 (JA_X2_crossing ) hA jWX (by decide) tbX2_crossing_ok (by decide) ftX2_ok cst0_ok (ldc_of (tb := tbX2_crossing) (cst := cst0) (by decide)) rfl (fun q h => absurd h List.not_mem_nil) ?_ ?_ ?_
  · intro as M0 h
    unfold P_X2_crossing at h
    split at h
    · exact Nat.le_of_ble_eq_true rfl
    · exact h.elim
  · intro as M0 h hM has
    unfold P_X2_crossing at h
    split at h
    next p b => exact hent p b M0 h hM (has b (by simp))
    · exact h.elim
  · intro as M0 h hM has pc ls st M n hI hM1
    unfold P_X2_crossing at h
    split at h
    · exact hI.elim
    · exact h.elim
abbrev p_X2_modulo (a : Int) (b : Int) (M : Mem) : Prop := (-200 ≤ a ∧ a ≤ 200) ∧ 0 ≤ b ∧ b ≤ 200
abbrev c_X2_modulo (a : Int) (b : Int) (M : Mem) (x : Int) (M' : Mem) : Prop := x = md a b ∧ M' = M
def P_X2_modulo (as : List AV) (M : Mem) : Prop := match as with
  | [.inl a, .inl b] => p_X2_modulo a b M
  | _ => False
def C_X2_modulo (as : List AV) (M : Mem) (x : Int) (M' : Mem) : Prop := match as with
  | [.inl a, .inl b] => c_X2_modulo a b M x M'
  | _ => False
abbrev rm_X2_modulo : Room := { frames := 0, cells := 0, slots := 0, locals := 0 }
abbrev OK_X2_modulo (l : Launch) (D : va_G) (cy : Nat → ClassId) (ad : Nat → Nat) : Prop := MetA l D cy ad kdX lnX 46 yX2_modulo cX2_modulo 2 (some .int) rm_X2_modulo 1 P_X2_modulo C_X2_modulo
theorem ca_X2_modulo : CalS yX2_modulo cX2_modulo 2 (some .int) 2 := ⟨⟨wcX2_modulo, wnX2, by decide +kernel, by decide +kernel, by decide +kernel⟩, wsX2_modulo⟩
def ct_X2_modulo : List (Nat × CS) := []
def J_X2_modulo  (a : Int) (b : Int) (M0 : Mem) : IT := fun pc ls st M μ => match pc, ls, st, M, μ with
  | _, _, _, _, _ => False
def JA_X2_modulo  (as : List AV) (M0 : Mem) : IT := match as with
  | [.inl a, .inl b] => J_X2_modulo  a b M0
  | _ => fun _ _ _ _ _ => False
set_option maxRecDepth 100000 in
set_option maxHeartbeats 4000000 in
theorem met_X2_modulo {l : Launch} {D : va_G} {cy : Nat → ClassId} {ad : Nat → Nat} (hA : jA ad 46)  
    (hent : ∀ (a : Int) (b : Int) (M0 : Mem), p_X2_modulo a b M0 → okM M0 → inR a → inR b → ((0 : Int) ≤ a → ((b ≤ a → (inR (a - b) ∧ ((True) ∧ c_X2_modulo a b M0 (a - b) M0))) ∧ (¬ b ≤ a → ((True) ∧ c_X2_modulo a b M0 a M0)))) ∧ (¬ (0 : Int) ≤ a → (inR (a + b) ∧ ((True) ∧ c_X2_modulo a b M0 (a + b) M0))))
    : OK_X2_modulo l D cy ad := by
  refine met_of (tb := tbX2_modulo) (ft := ftX2) (cst := cst0) (ct := ct_X2_modulo) (cuts := []) 17 (JA_X2_modulo ) hA jWX (by decide) tbX2_modulo_ok (by decide) ftX2_ok cst0_ok (ldc_of (tb := tbX2_modulo) (cst := cst0) (by decide)) rfl (fun q h => absurd h List.not_mem_nil) ?_ ?_ ?_
  · intro as M0 h
    unfold P_X2_modulo at h
    split at h
    · exact Nat.le_of_ble_eq_true rfl
    · exact h.elim
  · intro as M0 h hM has
    unfold P_X2_modulo at h
    split at h
    next a b => exact hent a b M0 h hM (has a (by simp)) (has b (by simp))
    · exact h.elim
  · intro as M0 h hM has pc ls st M n hI hM1
    unfold P_X2_modulo at h
    split at h
    · exact hI.elim
    · exact h.elim
abbrev p_X2_placeBeyond (p : Nat) (a : Int) (b : Int) (M : Mem) : Prop := kdX p = 2 ∧ (0 ≤ a ∧ a < b) ∧ b ≤ 12 ∧ 0 ≤ M p 1 ∧ M p 1 < b
abbrev c_X2_placeBeyond (p : Nat) (a : Int) (b : Int) (M : Mem) (x : Int) (M' : Mem) : Prop := x = ac (M p 0) (M p 1) a b true ∧ M' = M
def P_X2_placeBeyond (as : List AV) (M : Mem) : Prop := match as with
  | [.inr p, .inl a, .inl b] => p_X2_placeBeyond p a b M
  | _ => False
def C_X2_placeBeyond (as : List AV) (M : Mem) (x : Int) (M' : Mem) : Prop := match as with
  | [.inr p, .inl a, .inl b] => c_X2_placeBeyond p a b M x M'
  | _ => False
abbrev rm_X2_placeBeyond : Room := { frames := 1, cells := 0, slots := 0, locals := 21 }
abbrev OK_X2_placeBeyond (l : Launch) (D : va_G) (cy : Nat → ClassId) (ad : Nat → Nat) : Prop := MetA l D cy ad kdX lnX 46 yX2_placeBeyond cX2_placeBeyond 3 (some .int) rm_X2_placeBeyond 1 P_X2_placeBeyond C_X2_placeBeyond
theorem ca_X2_placeBeyond : CalV yX2_placeBeyond cX2_placeBeyond 3 (some .int) 2 := ⟨⟨wcX2_placeBeyond, wnX2, by decide +kernel, by decide +kernel, by decide +kernel⟩, wiX2_placeBeyond, wlX2_placeBeyond⟩
theorem rv_X2_placeBeyond : ∀ as M, P_X2_placeBeyond as M → ∃ a As q, as = .inr a :: As ∧ vwCl[kdX a]? = some q ∧ q.1 = yX2_placeBeyond.cls := by
  intro as M h
  unfold P_X2_placeBeyond at h
  split at h
  · exact ⟨_, _, (RX2, TX2, 2), rfl, by rw [h.1]; rfl, rfl⟩
  · exact h.elim
def ct_X2_placeBeyond : List (Nat × CS) := [(24, (2, 1, P_X2_modulo, C_X2_modulo))]
def J_X2_placeBeyond  (p : Nat) (a : Int) (b : Int) (M0 : Mem) : IT := fun pc ls st M μ => match pc, ls, st, M, μ with
  | _, _, _, _, _ => False
def JA_X2_placeBeyond  (as : List AV) (M0 : Mem) : IT := match as with
  | [.inr p, .inl a, .inl b] => J_X2_placeBeyond  p a b M0
  | _ => fun _ _ _ _ _ => False
theorem si_X2_placeBeyond_24 {l : Launch} {D : va_G} {cy : Nat → ClassId} {ad : Nat → Nat} (o : OK_X2_modulo l D cy ad) : Site l D cy ad kdX lnX 46 yX2_placeBeyond.cls tbX2_placeBeyond rm_X2_placeBeyond 24 (2, 1, P_X2_modulo, C_X2_modulo) := Or.inr (Or.inl ⟨18, 2, yX2_modulo, cX2_modulo, 2, (some .int), rm_X2_modulo, rfl, rfl, o, ca_X2_modulo, mkX2_18, rfl, ⟨rfl, rfl, by decide, by decide⟩⟩)
set_option maxRecDepth 100000 in
set_option maxHeartbeats 4000000 in
theorem met_X2_placeBeyond {l : Launch} {D : va_G} {cy : Nat → ClassId} {ad : Nat → Nat} (hA : jA ad 46) (o_X2_modulo : OK_X2_modulo l D cy ad) 
    (hent : ∀ (p : Nat) (a : Int) (b : Int) (M0 : Mem), p_X2_placeBeyond p a b M0 → okM M0 → inR a → inR b → kdX p = 2 ∧ ((¬ (M0 p 0) = (2 : Int) → (kdX p = 2 ∧ (inR (a + (M0 p 1)) ∧ (p_X2_modulo (a + (M0 p 1)) b M0 ∧ ∀ (x2 : Int) (M1 : Mem), inR x2 → okM M1 → c_X2_modulo (a + (M0 p 1)) b M0 x2 M1 → ((True) ∧ c_X2_placeBeyond p a b M0 x2 M1))))) ∧ (¬ (¬ (M0 p 0) = (2 : Int)) → (kdX p = 2 ∧ (inR ((M0 p 1) - a) ∧ (p_X2_modulo ((M0 p 1) - a) b M0 ∧ ∀ (x4 : Int) (M3 : Mem), inR x4 → okM M3 → c_X2_modulo ((M0 p 1) - a) b M0 x4 M3 → ((True) ∧ c_X2_placeBeyond p a b M0 x4 M3)))))))
    : OK_X2_placeBeyond l D cy ad := by
  refine met_of (tb := tbX2_placeBeyond) (ft := ftX2) (cst := cst0) (ct := ct_X2_placeBeyond) (cuts := []) 18 (JA_X2_placeBeyond ) hA jWX (by decide) tbX2_placeBeyond_ok (by decide) ftX2_ok cst0_ok (ldc_of (tb := tbX2_placeBeyond) (cst := cst0) (by decide)) rfl (List.forall_mem_cons.mpr ⟨si_X2_placeBeyond_24 o_X2_modulo, fun q h => absurd h List.not_mem_nil⟩) ?_ ?_ ?_
  · intro as M0 h
    unfold P_X2_placeBeyond at h
    split at h
    · exact Nat.le_of_ble_eq_true rfl
    · exact h.elim
  · intro as M0 h hM has
    unfold P_X2_placeBeyond at h
    split at h
    next p a b => exact hent p a b M0 h hM (has a (by simp)) (has b (by simp))
    · exact h.elim
  · intro as M0 h hM has pc ls st M n hI hM1
    unfold P_X2_placeBeyond at h
    split at h
    · exact hI.elim
    · exact h.elim
abbrev p_X3_columns (p : Nat) (M : Mem) : Prop := kdX p = 3 ∧ p = 1
abbrev c_X3_columns (p : Nat) (M : Mem) (x : Int) (M' : Mem) : Prop := x = M 1 4 ∧ M' = M
def P_X3_columns (as : List AV) (M : Mem) : Prop := match as with
  | [.inr p] => p_X3_columns p M
  | _ => False
def C_X3_columns (as : List AV) (M : Mem) (x : Int) (M' : Mem) : Prop := match as with
  | [.inr p] => c_X3_columns p M x M'
  | _ => False
abbrev rm_X3_columns : Room := { frames := 0, cells := 0, slots := 0, locals := 0 }
abbrev OK_X3_columns (l : Launch) (D : va_G) (cy : Nat → ClassId) (ad : Nat → Nat) : Prop := MetA l D cy ad kdX lnX 46 yX3_columns cX3_columns 1 (some .int) rm_X3_columns 1 P_X3_columns C_X3_columns
theorem ca_X3_columns : CalV yX3_columns cX3_columns 1 (some .int) 0 := ⟨⟨wcX3_columns, wnX3, by decide +kernel, by decide +kernel, by decide +kernel⟩, wiX3_columns, wlX3_columns⟩
theorem rv_X3_columns : ∀ as M, P_X3_columns as M → ∃ a As q, as = .inr a :: As ∧ vwCl[kdX a]? = some q ∧ q.1 = yX3_columns.cls := by
  intro as M h
  unfold P_X3_columns at h
  split at h
  · exact ⟨_, _, (RX3, TX3, 6), rfl, by rw [h.1]; rfl, rfl⟩
  · exact h.elim
def ct_X3_columns : List (Nat × CS) := []
def J_X3_columns  (p : Nat) (M0 : Mem) : IT := fun pc ls st M μ => match pc, ls, st, M, μ with
  | _, _, _, _, _ => False
def JA_X3_columns  (as : List AV) (M0 : Mem) : IT := match as with
  | [.inr p] => J_X3_columns  p M0
  | _ => fun _ _ _ _ _ => False
set_option maxRecDepth 100000 in
set_option maxHeartbeats 4000000 in
theorem met_X3_columns {l : Launch} {D : va_G} {cy : Nat → ClassId} {ad : Nat → Nat} (hA : jA ad 46)  
    (hent : ∀ (p : Nat) (M0 : Mem), p_X3_columns p M0 → okM M0 → kdX p = 3 ∧ ((True) ∧ c_X3_columns p M0 (M0 p 4) M0))
    : OK_X3_columns l D cy ad := by
  refine met_of (tb := tbX3_columns) (ft := ftX3) (cst := cst0) (ct := ct_X3_columns) (cuts := []) 5 (JA_X3_columns ) hA jWX (by decide) tbX3_columns_ok (by decide) ftX3_ok cst0_ok (ldc_of (tb := tbX3_columns) (cst := cst0) (by decide)) rfl (fun q h => absurd h List.not_mem_nil) ?_ ?_ ?_
  · intro as M0 h
    unfold P_X3_columns at h
    split at h
    · exact Nat.le_of_ble_eq_true rfl
    · exact h.elim
  · intro as M0 h hM has
    unfold P_X3_columns at h
    split at h
    next p => exact hent p M0 h hM
    · exact h.elim
  · intro as M0 h hM has pc ls st M n hI hM1
    unfold P_X3_columns at h
    split at h
    · exact hI.elim
    · exact h.elim
abbrev p_X3_rows (p : Nat) (M : Mem) : Prop := kdX p = 3 ∧ p = 1
abbrev c_X3_rows (p : Nat) (M : Mem) (x : Int) (M' : Mem) : Prop := x = M 1 5 ∧ M' = M
def P_X3_rows (as : List AV) (M : Mem) : Prop := match as with
  | [.inr p] => p_X3_rows p M
  | _ => False
def C_X3_rows (as : List AV) (M : Mem) (x : Int) (M' : Mem) : Prop := match as with
  | [.inr p] => c_X3_rows p M x M'
  | _ => False
abbrev rm_X3_rows : Room := { frames := 0, cells := 0, slots := 0, locals := 0 }
abbrev OK_X3_rows (l : Launch) (D : va_G) (cy : Nat → ClassId) (ad : Nat → Nat) : Prop := MetA l D cy ad kdX lnX 46 yX3_rows cX3_rows 1 (some .int) rm_X3_rows 1 P_X3_rows C_X3_rows
theorem ca_X3_rows : CalV yX3_rows cX3_rows 1 (some .int) 0 := ⟨⟨wcX3_rows, wnX3, by decide +kernel, by decide +kernel, by decide +kernel⟩, wiX3_rows, wlX3_rows⟩
theorem rv_X3_rows : ∀ as M, P_X3_rows as M → ∃ a As q, as = .inr a :: As ∧ vwCl[kdX a]? = some q ∧ q.1 = yX3_rows.cls := by
  intro as M h
  unfold P_X3_rows at h
  split at h
  · exact ⟨_, _, (RX3, TX3, 6), rfl, by rw [h.1]; rfl, rfl⟩
  · exact h.elim
def ct_X3_rows : List (Nat × CS) := []
def J_X3_rows  (p : Nat) (M0 : Mem) : IT := fun pc ls st M μ => match pc, ls, st, M, μ with
  | _, _, _, _, _ => False
def JA_X3_rows  (as : List AV) (M0 : Mem) : IT := match as with
  | [.inr p] => J_X3_rows  p M0
  | _ => fun _ _ _ _ _ => False
set_option maxRecDepth 100000 in
set_option maxHeartbeats 4000000 in
theorem met_X3_rows {l : Launch} {D : va_G} {cy : Nat → ClassId} {ad : Nat → Nat} (hA : jA ad 46)  
    (hent : ∀ (p : Nat) (M0 : Mem), p_X3_rows p M0 → okM M0 → kdX p = 3 ∧ ((True) ∧ c_X3_rows p M0 (M0 p 5) M0))
    : OK_X3_rows l D cy ad := by
  refine met_of (tb := tbX3_rows) (ft := ftX3) (cst := cst0) (ct := ct_X3_rows) (cuts := []) 5 (JA_X3_rows ) hA jWX (by decide) tbX3_rows_ok (by decide) ftX3_ok cst0_ok (ldc_of (tb := tbX3_rows) (cst := cst0) (by decide)) rfl (fun q h => absurd h List.not_mem_nil) ?_ ?_ ?_
  · intro as M0 h
    unfold P_X3_rows at h
    split at h
    · exact Nat.le_of_ble_eq_true rfl
    · exact h.elim
  · intro as M0 h hM has
    unfold P_X3_rows at h
    split at h
    next p => exact hent p M0 h hM
    · exact h.elim
  · intro as M0 h hM has pc ls st M n hI hM1
    unfold P_X3_rows at h
    split at h
    · exact hI.elim
    · exact h.elim
abbrev p_X3_tiles (p : Nat) (M : Mem) : Prop := kdX p = 3 ∧ p = 1 ∧ gB M
abbrev c_X3_tiles (p : Nat) (M : Mem) (x : Int) (M' : Mem) : Prop := x = M 1 4 * M 1 5 ∧ M' = M
def P_X3_tiles (as : List AV) (M : Mem) : Prop := match as with
  | [.inr p] => p_X3_tiles p M
  | _ => False
def C_X3_tiles (as : List AV) (M : Mem) (x : Int) (M' : Mem) : Prop := match as with
  | [.inr p] => c_X3_tiles p M x M'
  | _ => False
abbrev rm_X3_tiles : Room := { frames := 0, cells := 0, slots := 0, locals := 0 }
abbrev OK_X3_tiles (l : Launch) (D : va_G) (cy : Nat → ClassId) (ad : Nat → Nat) : Prop := MetA l D cy ad kdX lnX 46 yX3_tiles cX3_tiles 1 (some .int) rm_X3_tiles 1 P_X3_tiles C_X3_tiles
theorem ca_X3_tiles : CalV yX3_tiles cX3_tiles 1 (some .int) 0 := ⟨⟨wcX3_tiles, wnX3, by decide +kernel, by decide +kernel, by decide +kernel⟩, wiX3_tiles, wlX3_tiles⟩
theorem rv_X3_tiles : ∀ as M, P_X3_tiles as M → ∃ a As q, as = .inr a :: As ∧ vwCl[kdX a]? = some q ∧ q.1 = yX3_tiles.cls := by
  intro as M h
  unfold P_X3_tiles at h
  split at h
  · exact ⟨_, _, (RX3, TX3, 6), rfl, by rw [h.1]; rfl, rfl⟩
  · exact h.elim
def ct_X3_tiles : List (Nat × CS) := []
def J_X3_tiles  (p : Nat) (M0 : Mem) : IT := fun pc ls st M μ => match pc, ls, st, M, μ with
  | _, _, _, _, _ => False
def JA_X3_tiles  (as : List AV) (M0 : Mem) : IT := match as with
  | [.inr p] => J_X3_tiles  p M0
  | _ => fun _ _ _ _ _ => False
set_option maxRecDepth 100000 in
set_option maxHeartbeats 4000000 in
theorem met_X3_tiles {l : Launch} {D : va_G} {cy : Nat → ClassId} {ad : Nat → Nat} (hA : jA ad 46)  
    (hent : ∀ (p : Nat) (M0 : Mem), p_X3_tiles p M0 → okM M0 → kdX p = 3 ∧ (kdX p = 3 ∧ (inR ((M0 p 4) * (M0 p 5)) ∧ ((True) ∧ c_X3_tiles p M0 ((M0 p 4) * (M0 p 5)) M0))))
    : OK_X3_tiles l D cy ad := by
  refine met_of (tb := tbX3_tiles) (ft := ftX3) (cst := cst0) (ct := ct_X3_tiles) (cuts := []) 8 (JA_X3_tiles ) hA jWX (by decide) tbX3_tiles_ok (by decide) ftX3_ok cst0_ok (ldc_of (tb := tbX3_tiles) (cst := cst0) (by decide)) rfl (fun q h => absurd h List.not_mem_nil) ?_ ?_ ?_
  · intro as M0 h
    unfold P_X3_tiles at h
    split at h
    · exact Nat.le_of_ble_eq_true rfl
    · exact h.elim
  · intro as M0 h hM has
    unfold P_X3_tiles at h
    split at h
    next p => exact hent p M0 h hM
    · exact h.elim
  · intro as M0 h hM has pc ls st M n hI hM1
    unfold P_X3_tiles at h
    split at h
    · exact hI.elim
    · exact h.elim
abbrev p_X3_sideSeam (p : Nat) (M : Mem) : Prop := kdX p = 3 ∧ p = 1
abbrev c_X3_sideSeam (p : Nat) (M : Mem) (x : Int) (M' : Mem) : Prop := x = 2 ∧ M' = M
def P_X3_sideSeam (as : List AV) (M : Mem) : Prop := match as with
  | [.inr p] => p_X3_sideSeam p M
  | _ => False
def C_X3_sideSeam (as : List AV) (M : Mem) (x : Int) (M' : Mem) : Prop := match as with
  | [.inr p] => c_X3_sideSeam p M x M'
  | _ => False
abbrev rm_X3_sideSeam : Room := { frames := 0, cells := 0, slots := 0, locals := 0 }
abbrev OK_X3_sideSeam (l : Launch) (D : va_G) (cy : Nat → ClassId) (ad : Nat → Nat) : Prop := MetA l D cy ad kdX lnX 46 yX3_sideSeam cX3_sideSeam 1 (some (.object "SeamMap$Seam")) rm_X3_sideSeam 4 P_X3_sideSeam C_X3_sideSeam
theorem ca_X3_sideSeam : CalV yX3_sideSeam cX3_sideSeam 1 (some (.object "SeamMap$Seam")) 0 := ⟨⟨wcX3_sideSeam, wnX3, by decide +kernel, by decide +kernel, by decide +kernel⟩, wiX3_sideSeam, wlX3_sideSeam⟩
theorem rv_X3_sideSeam : ∀ as M, P_X3_sideSeam as M → ∃ a As q, as = .inr a :: As ∧ vwCl[kdX a]? = some q ∧ q.1 = yX3_sideSeam.cls := by
  intro as M h
  unfold P_X3_sideSeam at h
  split at h
  · exact ⟨_, _, (RX3, TX3, 6), rfl, by rw [h.1]; rfl, rfl⟩
  · exact h.elim
def ct_X3_sideSeam : List (Nat × CS) := []
def J_X3_sideSeam  (p : Nat) (M0 : Mem) : IT := fun pc ls st M μ => match pc, ls, st, M, μ with
  | _, _, _, _, _ => False
def JA_X3_sideSeam  (as : List AV) (M0 : Mem) : IT := match as with
  | [.inr p] => J_X3_sideSeam  p M0
  | _ => fun _ _ _ _ _ => False
set_option maxRecDepth 100000 in
set_option maxHeartbeats 4000000 in
theorem met_X3_sideSeam {l : Launch} {D : va_G} {cy : Nat → ClassId} {ad : Nat → Nat} (hA : jA ad 46)  
    (hent : ∀ (p : Nat) (M0 : Mem), p_X3_sideSeam p M0 → okM M0 → kdX p = 3 ∧ (4 = 4 ∧ 2 < 1000 ∧ c_X3_sideSeam p M0 ((2 : Nat) : Int) M0))
    : OK_X3_sideSeam l D cy ad := by
  refine met_of (tb := tbX3_sideSeam) (ft := ftX3) (cst := cst0) (ct := ct_X3_sideSeam) (cuts := []) 5 (JA_X3_sideSeam ) hA jWX (by decide) tbX3_sideSeam_ok (by decide) ftX3_ok cst0_ok (ldc_of (tb := tbX3_sideSeam) (cst := cst0) (by decide)) ⟨_, rfl⟩ (fun q h => absurd h List.not_mem_nil) ?_ ?_ ?_
  · intro as M0 h
    unfold P_X3_sideSeam at h
    split at h
    · exact Nat.le_of_ble_eq_true rfl
    · exact h.elim
  · intro as M0 h hM has
    unfold P_X3_sideSeam at h
    split at h
    next p => exact hent p M0 h hM
    · exact h.elim
  · intro as M0 h hM has pc ls st M n hI hM1
    unfold P_X3_sideSeam at h
    split at h
    · exact hI.elim
    · exact h.elim
abbrev p_X3_endSeam (p : Nat) (M : Mem) : Prop := kdX p = 3 ∧ p = 1
abbrev c_X3_endSeam (p : Nat) (M : Mem) (x : Int) (M' : Mem) : Prop := x = 3 ∧ M' = M
def P_X3_endSeam (as : List AV) (M : Mem) : Prop := match as with
  | [.inr p] => p_X3_endSeam p M
  | _ => False
def C_X3_endSeam (as : List AV) (M : Mem) (x : Int) (M' : Mem) : Prop := match as with
  | [.inr p] => c_X3_endSeam p M x M'
  | _ => False
abbrev rm_X3_endSeam : Room := { frames := 0, cells := 0, slots := 0, locals := 0 }
abbrev OK_X3_endSeam (l : Launch) (D : va_G) (cy : Nat → ClassId) (ad : Nat → Nat) : Prop := MetA l D cy ad kdX lnX 46 yX3_endSeam cX3_endSeam 1 (some (.object "SeamMap$Seam")) rm_X3_endSeam 4 P_X3_endSeam C_X3_endSeam
theorem ca_X3_endSeam : CalV yX3_endSeam cX3_endSeam 1 (some (.object "SeamMap$Seam")) 0 := ⟨⟨wcX3_endSeam, wnX3, by decide +kernel, by decide +kernel, by decide +kernel⟩, wiX3_endSeam, wlX3_endSeam⟩
theorem rv_X3_endSeam : ∀ as M, P_X3_endSeam as M → ∃ a As q, as = .inr a :: As ∧ vwCl[kdX a]? = some q ∧ q.1 = yX3_endSeam.cls := by
  intro as M h
  unfold P_X3_endSeam at h
  split at h
  · exact ⟨_, _, (RX3, TX3, 6), rfl, by rw [h.1]; rfl, rfl⟩
  · exact h.elim
def ct_X3_endSeam : List (Nat × CS) := []
def J_X3_endSeam  (p : Nat) (M0 : Mem) : IT := fun pc ls st M μ => match pc, ls, st, M, μ with
  | _, _, _, _, _ => False
def JA_X3_endSeam  (as : List AV) (M0 : Mem) : IT := match as with
  | [.inr p] => J_X3_endSeam  p M0
  | _ => fun _ _ _ _ _ => False
set_option maxRecDepth 100000 in
set_option maxHeartbeats 4000000 in
theorem met_X3_endSeam {l : Launch} {D : va_G} {cy : Nat → ClassId} {ad : Nat → Nat} (hA : jA ad 46)  
    (hent : ∀ (p : Nat) (M0 : Mem), p_X3_endSeam p M0 → okM M0 → kdX p = 3 ∧ (4 = 4 ∧ 3 < 1000 ∧ c_X3_endSeam p M0 ((3 : Nat) : Int) M0))
    : OK_X3_endSeam l D cy ad := by
  refine met_of (tb := tbX3_endSeam) (ft := ftX3) (cst := cst0) (ct := ct_X3_endSeam) (cuts := []) 5 (JA_X3_endSeam ) hA jWX (by decide) tbX3_endSeam_ok (by decide) ftX3_ok cst0_ok (ldc_of (tb := tbX3_endSeam) (cst := cst0) (by decide)) ⟨_, rfl⟩ (fun q h => absurd h List.not_mem_nil) ?_ ?_ ?_
  · intro as M0 h
    unfold P_X3_endSeam at h
    split at h
    · exact Nat.le_of_ble_eq_true rfl
    · exact h.elim
  · intro as M0 h hM has
    unfold P_X3_endSeam at h
    split at h
    next p => exact hent p M0 h hM
    · exact h.elim
  · intro as M0 h hM has pc ls st M n hI hM1
    unfold P_X3_endSeam at h
    split at h
    · exact hI.elim
    · exact h.elim
abbrev p_X3_has (p : Nat) (t : Int) (M : Mem) : Prop := kdX p = 3 ∧ p = 1 ∧ gB M
abbrev c_X3_has (p : Nat) (t : Int) (M : Mem) (x : Int) (M' : Mem) : Prop := x = (if 0 ≤ t ∧ t < M 1 4 * M 1 5 then 1 else 0) ∧ M' = M
def P_X3_has (as : List AV) (M : Mem) : Prop := match as with
  | [.inr p, .inl t] => p_X3_has p t M
  | _ => False
def C_X3_has (as : List AV) (M : Mem) (x : Int) (M' : Mem) : Prop := match as with
  | [.inr p, .inl t] => c_X3_has p t M x M'
  | _ => False
abbrev rm_X3_has : Room := { frames := 1, cells := 0, slots := 0, locals := 20 }
abbrev OK_X3_has (l : Launch) (D : va_G) (cy : Nat → ClassId) (ad : Nat → Nat) : Prop := MetA l D cy ad kdX lnX 46 yX3_has cX3_has 2 (some .boolean) rm_X3_has 2 P_X3_has C_X3_has
theorem ca_X3_has : CalV yX3_has cX3_has 2 (some .boolean) 1 := ⟨⟨wcX3_has, wnX3, by decide +kernel, by decide +kernel, by decide +kernel⟩, wiX3_has, wlX3_has⟩
theorem rv_X3_has : ∀ as M, P_X3_has as M → ∃ a As q, as = .inr a :: As ∧ vwCl[kdX a]? = some q ∧ q.1 = yX3_has.cls := by
  intro as M h
  unfold P_X3_has at h
  split at h
  · exact ⟨_, _, (RX3, TX3, 6), rfl, by rw [h.1]; rfl, rfl⟩
  · exact h.elim
def ct_X3_has : List (Nat × CS) := [(6, (1, 1, P_X3_tiles, C_X3_tiles))]
def J_X3_has  (p : Nat) (t : Int) (M0 : Mem) : IT := fun pc ls st M μ => match pc, ls, st, M, μ with
  | _, _, _, _, _ => False
def JA_X3_has  (as : List AV) (M0 : Mem) : IT := match as with
  | [.inr p, .inl t] => J_X3_has  p t M0
  | _ => fun _ _ _ _ _ => False
theorem si_X3_has_6 {l : Launch} {D : va_G} {cy : Nat → ClassId} {ad : Nat → Nat} (o : OK_X3_tiles l D cy ad) : Site l D cy ad kdX lnX 46 yX3_has.cls tbX3_has rm_X3_has 6 (1, 1, P_X3_tiles, C_X3_tiles) := Or.inl ⟨35, 0, yX3_tiles, cX3_tiles, 1, (some .int), rm_X3_tiles, rfl, rfl, o, ca_X3_tiles, mkX3_35, ⟨rfl, rfl, by decide, by decide⟩, rv_X3_tiles⟩
set_option maxRecDepth 100000 in
set_option maxHeartbeats 4000000 in
theorem met_X3_has {l : Launch} {D : va_G} {cy : Nat → ClassId} {ad : Nat → Nat} (hA : jA ad 46) (o_X3_tiles : OK_X3_tiles l D cy ad) 
    (hent : ∀ (p : Nat) (t : Int) (M0 : Mem), p_X3_has p t M0 → okM M0 → inR t → (t < (0 : Int) → (((0 : Int) = 0 ∨ (0 : Int) = 1) ∧ c_X3_has p t M0 0 M0)) ∧ (¬ t < (0 : Int) → (p_X3_tiles p M0 ∧ ∀ (x2 : Int) (M1 : Mem), inR x2 → okM M1 → c_X3_tiles p M0 x2 M1 → ((x2 ≤ t → (((0 : Int) = 0 ∨ (0 : Int) = 1) ∧ c_X3_has p t M0 0 M1)) ∧ (¬ x2 ≤ t → (((1 : Int) = 0 ∨ (1 : Int) = 1) ∧ c_X3_has p t M0 1 M1))))))
    : OK_X3_has l D cy ad := by
  refine met_of (tb := tbX3_has) (ft := ftX3) (cst := cst0) (ct := ct_X3_has) (cuts := []) 12 (JA_X3_has ) hA jWX (by decide) tbX3_has_ok (by decide) ftX3_ok cst0_ok (ldc_of (tb := tbX3_has) (cst := cst0) (by decide)) rfl (List.forall_mem_cons.mpr ⟨si_X3_has_6 o_X3_tiles, fun q h => absurd h List.not_mem_nil⟩) ?_ ?_ ?_
  · intro as M0 h
    unfold P_X3_has at h
    split at h
    · exact Nat.le_of_ble_eq_true rfl
    · exact h.elim
  · intro as M0 h hM has
    unfold P_X3_has at h
    split at h
    next p t => exact hent p t M0 h hM (has t (by simp))
    · exact h.elim
  · intro as M0 h hM has pc ls st M n hI hM1
    unfold P_X3_has at h
    split at h
    · exact hI.elim
    · exact h.elim
abbrev p_X3_next (p : Nat) (t : Int) (d : Int) (M : Mem) : Prop := kdX p = 3 ∧ p = 1 ∧ (0 ≤ t ∧ t < 144) ∧ 0 ≤ d ∧ d < 4
abbrev c_X3_next (p : Nat) (t : Int) (d : Int) (M : Mem) (x : Int) (M' : Mem) : Prop := x = M 4 (t * 4 + d).toNat ∧ M' = M
def P_X3_next (as : List AV) (M : Mem) : Prop := match as with
  | [.inr p, .inl t, .inl d] => p_X3_next p t d M
  | _ => False
def C_X3_next (as : List AV) (M : Mem) (x : Int) (M' : Mem) : Prop := match as with
  | [.inr p, .inl t, .inl d] => c_X3_next p t d M x M'
  | _ => False
abbrev rm_X3_next : Room := { frames := 0, cells := 0, slots := 0, locals := 0 }
abbrev OK_X3_next (l : Launch) (D : va_G) (cy : Nat → ClassId) (ad : Nat → Nat) : Prop := MetA l D cy ad kdX lnX 46 yX3_next cX3_next 3 (some .int) rm_X3_next 1 P_X3_next C_X3_next
theorem ca_X3_next : CalV yX3_next cX3_next 3 (some .int) 2 := ⟨⟨wcX3_next, wnX3, by decide +kernel, by decide +kernel, by decide +kernel⟩, wiX3_next, wlX3_next⟩
theorem rv_X3_next : ∀ as M, P_X3_next as M → ∃ a As q, as = .inr a :: As ∧ vwCl[kdX a]? = some q ∧ q.1 = yX3_next.cls := by
  intro as M h
  unfold P_X3_next at h
  split at h
  · exact ⟨_, _, (RX3, TX3, 6), rfl, by rw [h.1]; rfl, rfl⟩
  · exact h.elim
def ct_X3_next : List (Nat × CS) := []
def J_X3_next  (p : Nat) (t : Int) (d : Int) (M0 : Mem) : IT := fun pc ls st M μ => match pc, ls, st, M, μ with
  | _, _, _, _, _ => False
def JA_X3_next  (as : List AV) (M0 : Mem) : IT := match as with
  | [.inr p, .inl t, .inl d] => J_X3_next  p t d M0
  | _ => fun _ _ _ _ _ => False
set_option maxRecDepth 100000 in
set_option maxHeartbeats 4000000 in
theorem met_X3_next {l : Launch} {D : va_G} {cy : Nat → ClassId} {ad : Nat → Nat} (hA : jA ad 46)  
    (hent : ∀ (p : Nat) (t : Int) (d : Int) (M0 : Mem), p_X3_next p t d M0 → okM M0 → inR t → inR d → kdX p = 3 ∧ (inR (t * 4) ∧ (inR ((t * 4) + d) ∧ (kdX 4 = 21 ∧ (0 ≤ ((t * 4) + d) ∧ ((t * 4) + d) < 576) ∧ ((True) ∧ c_X3_next p t d M0 (M0 4 ((t * 4) + d).toNat) M0)))))
    : OK_X3_next l D cy ad := by
  refine met_of (tb := tbX3_next) (ft := ftX3) (cst := cst0) (ct := ct_X3_next) (cuts := []) 11 (JA_X3_next ) hA jWX (by decide) tbX3_next_ok (by decide) ftX3_ok cst0_ok (ldc_of (tb := tbX3_next) (cst := cst0) (by decide)) rfl (fun q h => absurd h List.not_mem_nil) ?_ ?_ ?_
  · intro as M0 h
    unfold P_X3_next at h
    split at h
    · exact Nat.le_of_ble_eq_true rfl
    · exact h.elim
  · intro as M0 h hM has
    unfold P_X3_next at h
    split at h
    next p t d => exact hent p t d M0 h hM (has t (by simp)) (has d (by simp))
    · exact h.elim
  · intro as M0 h hM has pc ls st M n hI hM1
    unfold P_X3_next at h
    split at h
    · exact hI.elim
    · exact h.elim
abbrev p_X3_crossing (p : Nat) (t : Int) (d : Int) (M : Mem) : Prop := kdX p = 3 ∧ p = 1 ∧ (0 ≤ t ∧ t < 144) ∧ 0 ≤ d ∧ d < 4
abbrev c_X3_crossing (p : Nat) (t : Int) (d : Int) (M : Mem) (x : Int) (M' : Mem) : Prop := x = M 5 (t * 4 + d).toNat ∧ M' = M
def P_X3_crossing (as : List AV) (M : Mem) : Prop := match as with
  | [.inr p, .inl t, .inl d] => p_X3_crossing p t d M
  | _ => False
def C_X3_crossing (as : List AV) (M : Mem) (x : Int) (M' : Mem) : Prop := match as with
  | [.inr p, .inl t, .inl d] => c_X3_crossing p t d M x M'
  | _ => False
abbrev rm_X3_crossing : Room := { frames := 0, cells := 0, slots := 0, locals := 0 }
abbrev OK_X3_crossing (l : Launch) (D : va_G) (cy : Nat → ClassId) (ad : Nat → Nat) : Prop := MetA l D cy ad kdX lnX 46 yX3_crossing cX3_crossing 3 (some .int) rm_X3_crossing 1 P_X3_crossing C_X3_crossing
theorem ca_X3_crossing : CalV yX3_crossing cX3_crossing 3 (some .int) 2 := ⟨⟨wcX3_crossing, wnX3, by decide +kernel, by decide +kernel, by decide +kernel⟩, wiX3_crossing, wlX3_crossing⟩
theorem rv_X3_crossing : ∀ as M, P_X3_crossing as M → ∃ a As q, as = .inr a :: As ∧ vwCl[kdX a]? = some q ∧ q.1 = yX3_crossing.cls := by
  intro as M h
  unfold P_X3_crossing at h
  split at h
  · exact ⟨_, _, (RX3, TX3, 6), rfl, by rw [h.1]; rfl, rfl⟩
  · exact h.elim
def ct_X3_crossing : List (Nat × CS) := []
def J_X3_crossing  (p : Nat) (t : Int) (d : Int) (M0 : Mem) : IT := fun pc ls st M μ => match pc, ls, st, M, μ with
  | _, _, _, _, _ => False
def JA_X3_crossing  (as : List AV) (M0 : Mem) : IT := match as with
  | [.inr p, .inl t, .inl d] => J_X3_crossing  p t d M0
  | _ => fun _ _ _ _ _ => False
set_option maxRecDepth 100000 in
set_option maxHeartbeats 4000000 in
theorem met_X3_crossing {l : Launch} {D : va_G} {cy : Nat → ClassId} {ad : Nat → Nat} (hA : jA ad 46)  
    (hent : ∀ (p : Nat) (t : Int) (d : Int) (M0 : Mem), p_X3_crossing p t d M0 → okM M0 → inR t → inR d → kdX p = 3 ∧ (inR (t * 4) ∧ (inR ((t * 4) + d) ∧ (kdX 5 = 21 ∧ (0 ≤ ((t * 4) + d) ∧ ((t * 4) + d) < 576) ∧ ((True) ∧ c_X3_crossing p t d M0 (M0 5 ((t * 4) + d).toNat) M0)))))
    : OK_X3_crossing l D cy ad := by
  refine met_of (tb := tbX3_crossing) (ft := ftX3) (cst := cst0) (ct := ct_X3_crossing) (cuts := []) 11 (JA_X3_crossing ) hA jWX (by decide) tbX3_crossing_ok (by decide) ftX3_ok cst0_ok (ldc_of (tb := tbX3_crossing) (cst := cst0) (by decide)) rfl (fun q h => absurd h List.not_mem_nil) ?_ ?_ ?_
  · intro as M0 h
    unfold P_X3_crossing at h
    split at h
    · exact Nat.le_of_ble_eq_true rfl
    · exact h.elim
  · intro as M0 h hM has
    unfold P_X3_crossing at h
    split at h
    next p t d => exact hent p t d M0 h hM (has t (by simp)) (has d (by simp))
    · exact h.elim
  · intro as M0 h hM has pc ls st M n hI hM1
    unfold P_X3_crossing at h
    split at h
    · exact hI.elim
    · exact h.elim
abbrev p_X3_openBorders (p : Nat) (M : Mem) : Prop := kdX p = 3 ∧ p = 1 ∧ gB M
abbrev c_X3_openBorders (p : Nat) (M : Mem) (x : Int) (M' : Mem) : Prop := x = sumF (fun k => if M 4 k = -5 then 0 else 1) (M 1 4 * M 1 5 * 4).toNat ∧ M' = M
def P_X3_openBorders (as : List AV) (M : Mem) : Prop := match as with
  | [.inr p] => p_X3_openBorders p M
  | _ => False
def C_X3_openBorders (as : List AV) (M : Mem) (x : Int) (M' : Mem) : Prop := match as with
  | [.inr p] => c_X3_openBorders p M x M'
  | _ => False
abbrev rm_X3_openBorders : Room := { frames := 1, cells := 0, slots := 0, locals := 20 }
abbrev OK_X3_openBorders (l : Launch) (D : va_G) (cy : Nat → ClassId) (ad : Nat → Nat) : Prop := MetA l D cy ad kdX lnX 46 yX3_openBorders cX3_openBorders 3 (some .int) rm_X3_openBorders 1 P_X3_openBorders C_X3_openBorders
theorem ca_X3_openBorders : CalV yX3_openBorders cX3_openBorders 3 (some .int) 0 := ⟨⟨wcX3_openBorders, wnX3, by decide +kernel, by decide +kernel, by decide +kernel⟩, wiX3_openBorders, wlX3_openBorders⟩
theorem rv_X3_openBorders : ∀ as M, P_X3_openBorders as M → ∃ a As q, as = .inr a :: As ∧ vwCl[kdX a]? = some q ∧ q.1 = yX3_openBorders.cls := by
  intro as M h
  unfold P_X3_openBorders at h
  split at h
  · exact ⟨_, _, (RX3, TX3, 6), rfl, by rw [h.1]; rfl, rfl⟩
  · exact h.elim
def ct_X3_openBorders : List (Nat × CS) := [(6, (1, 1, P_X3_tiles, C_X3_tiles))]
def J_X3_openBorders (I4 : Nat → Mem → Int → Int → Mem → Nat → Prop) (p : Nat) (M0 : Mem) : IT := fun pc ls st M μ => match pc, ls, st, M, μ with
  | 4, [some (.inr p_), some (.inl o), some (.inl k)], [], M, μ => p = p_ ∧ I4 p M0 o k M μ
  | _, _, _, _, _ => False
def JA_X3_openBorders (I4 : Nat → Mem → Int → Int → Mem → Nat → Prop) (as : List AV) (M0 : Mem) : IT := match as with
  | [.inr p] => J_X3_openBorders I4 p M0
  | _ => fun _ _ _ _ _ => False
theorem si_X3_openBorders_6 {l : Launch} {D : va_G} {cy : Nat → ClassId} {ad : Nat → Nat} (o : OK_X3_tiles l D cy ad) : Site l D cy ad kdX lnX 46 yX3_openBorders.cls tbX3_openBorders rm_X3_openBorders 6 (1, 1, P_X3_tiles, C_X3_tiles) := Or.inl ⟨35, 0, yX3_tiles, cX3_tiles, 1, (some .int), rm_X3_tiles, rfl, rfl, o, ca_X3_tiles, mkX3_35, ⟨rfl, rfl, by decide, by decide⟩, rv_X3_tiles⟩
set_option maxRecDepth 100000 in
set_option maxHeartbeats 4000000 in
theorem met_X3_openBorders {l : Launch} {D : va_G} {cy : Nat → ClassId} {ad : Nat → Nat} (hA : jA ad 46) (o_X3_tiles : OK_X3_tiles l D cy ad) (I4 : Nat → Mem → Int → Int → Mem → Nat → Prop)
    (hent : ∀ (p : Nat) (M0 : Mem), p_X3_openBorders p M0 → okM M0 → ∃ μ : Nat, p = p ∧ I4 p M0 0 0 M0 μ)
    (hc4 : ∀ (p : Nat) (M0 : Mem), p_X3_openBorders p M0 → okM M0 → ∀ (o : Int) (k : Int) (M : Mem) (n : Nat), I4 p M0 o k M n → okM M → p_X3_tiles p M ∧ ∀ (x2 : Int) (M1 : Mem), inR x2 → okM M1 → c_X3_tiles p M x2 M1 → (inR (x2 * 4) ∧ (((x2 * 4) ≤ k → ((True) ∧ c_X3_openBorders p M0 o M1)) ∧ (¬ (x2 * 4) ≤ k → (kdX p = 3 ∧ (kdX 4 = 21 ∧ (0 ≤ k ∧ k < 576) ∧ (((M1 4 (k).toNat) = (-5 : Int) → (inR (k + 1) ∧ (∃ μ : Nat, μ < n ∧ p = p ∧ I4 p M0 o (k + 1) M1 μ))) ∧ (¬ (M1 4 (k).toNat) = (-5 : Int) → (inR (o + 1) ∧ (inR (k + 1) ∧ (∃ μ : Nat, μ < n ∧ p = p ∧ I4 p M0 (o + 1) (k + 1) M1 μ)))))))))))
    : OK_X3_openBorders l D cy ad := by
  refine met_of (tb := tbX3_openBorders) (ft := ftX3) (cst := cst0) (ct := ct_X3_openBorders) (cuts := [4]) 23 (JA_X3_openBorders I4) hA jWX (by decide) tbX3_openBorders_ok (by decide) ftX3_ok cst0_ok (ldc_of (tb := tbX3_openBorders) (cst := cst0) (by decide)) rfl (List.forall_mem_cons.mpr ⟨si_X3_openBorders_6 o_X3_tiles, fun q h => absurd h List.not_mem_nil⟩) ?_ ?_ ?_
  · intro as M0 h
    unfold P_X3_openBorders at h
    split at h
    · exact Nat.le_of_ble_eq_true rfl
    · exact h.elim
  · intro as M0 h hM has
    unfold P_X3_openBorders at h
    split at h
    next p => exact hent p M0 h hM
    · exact h.elim
  · intro as M0 h hM has pc ls st M n hI hM1
    unfold P_X3_openBorders at h
    split at h
    next p =>
      unfold JA_X3_openBorders J_X3_openBorders at hI
      dsimp only at hI
      split at hI
      ·
        obtain ⟨rfl, hI⟩ := hI
        exact hc4 _ _ h hM _ _ _ _ hI hM1
      · exact hI.elim
    · exact h.elim
abbrev p_X3_join (p : Nat) (t : Int) (a : Int) (u : Int) (c : Int) (M : Mem) : Prop := kdX p = 3 ∧ p = 1 ∧ (0 ≤ t ∧ t < 144) ∧ (a = 0 ∨ a = 1) ∧ 0 ≤ u ∧ u < 144
abbrev c_X3_join (p : Nat) (t : Int) (a : Int) (u : Int) (c : Int) (M : Mem) (x : Int) (M' : Mem) : Prop := M' = up (up (up (up M 4 (t * 4 + a).toNat u) 4 (u * 4 + (a + 2)).toNat t) 5 (t * 4 + a).toNat c) 5 (u * 4 + (a + 2)).toNat c
def P_X3_join (as : List AV) (M : Mem) : Prop := match as with
  | [.inr p, .inl t, .inl a, .inl u, .inl c] => p_X3_join p t a u c M
  | _ => False
def C_X3_join (as : List AV) (M : Mem) (x : Int) (M' : Mem) : Prop := match as with
  | [.inr p, .inl t, .inl a, .inl u, .inl c] => c_X3_join p t a u c M x M'
  | _ => False
abbrev rm_X3_join : Room := { frames := 0, cells := 0, slots := 0, locals := 0 }
abbrev OK_X3_join (l : Launch) (D : va_G) (cy : Nat → ClassId) (ad : Nat → Nat) : Prop := MetA l D cy ad kdX lnX 46 yX3_join cX3_join 7 none rm_X3_join 0 P_X3_join C_X3_join
theorem ca_X3_join : CalV yX3_join cX3_join 7 none 4 := ⟨⟨wcX3_join, wnX3, by decide +kernel, by decide +kernel, by decide +kernel⟩, wiX3_join, wlX3_join⟩
theorem rv_X3_join : ∀ as M, P_X3_join as M → ∃ a As q, as = .inr a :: As ∧ vwCl[kdX a]? = some q ∧ q.1 = yX3_join.cls := by
  intro as M h
  unfold P_X3_join at h
  split at h
  · exact ⟨_, _, (RX3, TX3, 6), rfl, by rw [h.1]; rfl, rfl⟩
  · exact h.elim
def ct_X3_join : List (Nat × CS) := []
def J_X3_join  (p : Nat) (t : Int) (a : Int) (u : Int) (c : Int) (M0 : Mem) : IT := fun pc ls st M μ => match pc, ls, st, M, μ with
  | _, _, _, _, _ => False
def JA_X3_join  (as : List AV) (M0 : Mem) : IT := match as with
  | [.inr p, .inl t, .inl a, .inl u, .inl c] => J_X3_join  p t a u c M0
  | _ => fun _ _ _ _ _ => False
set_option maxRecDepth 100000 in
set_option maxHeartbeats 4000000 in
theorem met_X3_join {l : Launch} {D : va_G} {cy : Nat → ClassId} {ad : Nat → Nat} (hA : jA ad 46)  
    (hent : ∀ (p : Nat) (t : Int) (a : Int) (u : Int) (c : Int) (M0 : Mem), p_X3_join p t a u c M0 → okM M0 → inR t → inR a → inR u → inR c → inR (t * 4) ∧ (inR ((t * 4) + a) ∧ (inR (u * 4) ∧ ((¬ a = (0 : Int) → (inR ((u * 4) + 3) ∧ (kdX p = 3 ∧ (kdX 4 = 21 ∧ (0 ≤ ((t * 4) + a) ∧ ((t * 4) + a) < 576) ∧ (kdX p = 3 ∧ (kdX 4 = 21 ∧ (0 ≤ ((u * 4) + 3) ∧ ((u * 4) + 3) < 576) ∧ (kdX p = 3 ∧ (kdX 5 = 21 ∧ (0 ≤ ((t * 4) + a) ∧ ((t * 4) + a) < 576) ∧ (kdX p = 3 ∧ (kdX 5 = 21 ∧ (0 ≤ ((u * 4) + 3) ∧ ((u * 4) + 3) < 576) ∧ (0 = 0 ∧ c_X3_join p t a u c M0 0 (up (up (up (up M0 4 ((t * 4) + a).toNat u) 4 ((u * 4) + 3).toNat t) 5 ((t * 4) + a).toNat c) 5 ((u * 4) + 3).toNat c)))))))))))) ∧ (¬ (¬ a = (0 : Int)) → (inR ((u * 4) + 2) ∧ (kdX p = 3 ∧ (kdX 4 = 21 ∧ (0 ≤ ((t * 4) + a) ∧ ((t * 4) + a) < 576) ∧ (kdX p = 3 ∧ (kdX 4 = 21 ∧ (0 ≤ ((u * 4) + 2) ∧ ((u * 4) + 2) < 576) ∧ (kdX p = 3 ∧ (kdX 5 = 21 ∧ (0 ≤ ((t * 4) + a) ∧ ((t * 4) + a) < 576) ∧ (kdX p = 3 ∧ (kdX 5 = 21 ∧ (0 ≤ ((u * 4) + 2) ∧ ((u * 4) + 2) < 576) ∧ (0 = 0 ∧ c_X3_join p t a u c M0 0 (up (up (up (up M0 4 ((t * 4) + a).toNat u) 4 ((u * 4) + 2).toNat t) 5 ((t * 4) + a).toNat c) 5 ((u * 4) + 2).toNat c))))))))))))))))
    : OK_X3_join l D cy ad := by
  refine met_of (tb := tbX3_join) (ft := ftX3) (cst := cst0) (ct := ct_X3_join) (cuts := []) 39 (JA_X3_join ) hA jWX (by decide) tbX3_join_ok (by decide) ftX3_ok cst0_ok (ldc_of (tb := tbX3_join) (cst := cst0) (by decide)) rfl (fun q h => absurd h List.not_mem_nil) ?_ ?_ ?_
  · intro as M0 h
    unfold P_X3_join at h
    split at h
    · exact Nat.le_of_ble_eq_true rfl
    · exact h.elim
  · intro as M0 h hM has
    unfold P_X3_join at h
    split at h
    next p t a u c => exact hent p t a u c M0 h hM (has t (by simp)) (has a (by simp)) (has u (by simp)) (has c (by simp))
    · exact h.elim
  · intro as M0 h hM has pc ls st M n hI hM1
    unfold P_X3_join at h
    split at h
    · exact hI.elim
    · exact h.elim
abbrev p_X3_joinInside (p : Nat) (M : Mem) : Prop := kdX p = 3 ∧ p = 1 ∧ gOK (gX M) ∧ tabS (gX M) (fun _ _ => false) M
abbrev c_X3_joinInside (p : Nat) (M : Mem) (x : Int) (M' : Mem) : Prop := tabS (gX M) (Sin (gX M)) M' ∧ (∀ b, b ≠ 4 → b ≠ 5 → M' b = M b)
def P_X3_joinInside (as : List AV) (M : Mem) : Prop := match as with
  | [.inr p] => p_X3_joinInside p M
  | _ => False
def C_X3_joinInside (as : List AV) (M : Mem) (x : Int) (M' : Mem) : Prop := match as with
  | [.inr p] => c_X3_joinInside p M x M'
  | _ => False
abbrev rm_X3_joinInside : Room := { frames := 1, cells := 0, slots := 0, locals := 26 }
abbrev OK_X3_joinInside (l : Launch) (D : va_G) (cy : Nat → ClassId) (ad : Nat → Nat) : Prop := MetA l D cy ad kdX lnX 46 yX3_joinInside cX3_joinInside 4 none rm_X3_joinInside 0 P_X3_joinInside C_X3_joinInside
theorem ca_X3_joinInside : CalV yX3_joinInside cX3_joinInside 4 none 0 := ⟨⟨wcX3_joinInside, wnX3, by decide +kernel, by decide +kernel, by decide +kernel⟩, wiX3_joinInside, wlX3_joinInside⟩
theorem rv_X3_joinInside : ∀ as M, P_X3_joinInside as M → ∃ a As q, as = .inr a :: As ∧ vwCl[kdX a]? = some q ∧ q.1 = yX3_joinInside.cls := by
  intro as M h
  unfold P_X3_joinInside at h
  split at h
  · exact ⟨_, _, (RX3, TX3, 6), rfl, by rw [h.1]; rfl, rfl⟩
  · exact h.elim
def ct_X3_joinInside : List (Nat × CS) := [(46, (5, 0, P_X3_join, C_X3_join)), (69, (5, 0, P_X3_join, C_X3_join))]
def J_X3_joinInside (I2 : Nat → Mem → Int → Mem → Nat → Prop) (I12 : Nat → Mem → Int → Int → Mem → Nat → Prop) (p : Nat) (M0 : Mem) : IT := fun pc ls st M μ => match pc, ls, st, M, μ with
  | 2, [some (.inr p_), some (.inl r), _, _], [], M, μ => p = p_ ∧ I2 p M0 r M μ
  | 12, [some (.inr p_), some (.inl r), some (.inl c), _], [], M, μ => p = p_ ∧ I12 p M0 r c M μ
  | _, _, _, _, _ => False
def JA_X3_joinInside (I2 : Nat → Mem → Int → Mem → Nat → Prop) (I12 : Nat → Mem → Int → Int → Mem → Nat → Prop) (as : List AV) (M0 : Mem) : IT := match as with
  | [.inr p] => J_X3_joinInside I2 I12 p M0
  | _ => fun _ _ _ _ _ => False
theorem si_X3_joinInside_46 {l : Launch} {D : va_G} {cy : Nat → ClassId} {ad : Nat → Nat} (o : OK_X3_join l D cy ad) : Site l D cy ad kdX lnX 46 yX3_joinInside.cls tbX3_joinInside rm_X3_joinInside 46 (5, 0, P_X3_join, C_X3_join) := Or.inl ⟨55, 4, yX3_join, cX3_join, 7, none, rm_X3_join, rfl, rfl, o, ca_X3_join, mkX3_55, ⟨rfl, rfl, by decide, by decide⟩, rv_X3_join⟩
theorem si_X3_joinInside_69 {l : Launch} {D : va_G} {cy : Nat → ClassId} {ad : Nat → Nat} (o : OK_X3_join l D cy ad) : Site l D cy ad kdX lnX 46 yX3_joinInside.cls tbX3_joinInside rm_X3_joinInside 69 (5, 0, P_X3_join, C_X3_join) := Or.inl ⟨55, 4, yX3_join, cX3_join, 7, none, rm_X3_join, rfl, rfl, o, ca_X3_join, mkX3_55, ⟨rfl, rfl, by decide, by decide⟩, rv_X3_join⟩
set_option maxRecDepth 100000 in
set_option maxHeartbeats 4000000 in
theorem met_X3_joinInside {l : Launch} {D : va_G} {cy : Nat → ClassId} {ad : Nat → Nat} (hA : jA ad 46) (o_X3_join : OK_X3_join l D cy ad) (I2 : Nat → Mem → Int → Mem → Nat → Prop) (I12 : Nat → Mem → Int → Int → Mem → Nat → Prop)
    (hent : ∀ (p : Nat) (M0 : Mem), p_X3_joinInside p M0 → okM M0 → ∃ μ : Nat, p = p ∧ I2 p M0 0 M0 μ)
    (hc2 : ∀ (p : Nat) (M0 : Mem), p_X3_joinInside p M0 → okM M0 → ∀ (r : Int) (M : Mem) (n : Nat), I2 p M0 r M n → okM M → kdX p = 3 ∧ (((M p 5) ≤ r → (0 = 0 ∧ c_X3_joinInside p M0 0 M)) ∧ (¬ (M p 5) ≤ r → (∃ μ : Nat, μ < n ∧ p = p ∧ I12 p M0 r 0 M μ))))
    (hc12 : ∀ (p : Nat) (M0 : Mem), p_X3_joinInside p M0 → okM M0 → ∀ (r : Int) (c : Int) (M : Mem) (n : Nat), I12 p M0 r c M n → okM M → kdX p = 3 ∧ (((M p 4) ≤ c → (inR (r + 1) ∧ (∃ μ : Nat, μ < n ∧ p = p ∧ I2 p M0 (r + 1) M μ))) ∧ (¬ (M p 4) ≤ c → (kdX p = 3 ∧ (inR (r * (M p 4)) ∧ (inR ((r * (M p 4)) + c) ∧ (kdX p = 3 ∧ (inR ((M p 4) - 1) ∧ ((((M p 4) - 1) ≤ c → (kdX p = 3 ∧ (inR ((M p 5) - 1) ∧ ((((M p 5) - 1) ≤ r → (inR (c + 1) ∧ (∃ μ : Nat, μ < n ∧ p = p ∧ I12 p M0 r (c + 1) M μ))) ∧ (¬ ((M p 5) - 1) ≤ r → (kdX p = 3 ∧ (inR (((r * (M p 4)) + c) + (M p 4)) ∧ (p_X3_join p ((r * (M p 4)) + c) 1 (((r * (M p 4)) + c) + (M p 4)) 0 M ∧ ∀ (x2 : Int) (M1 : Mem), inR x2 → okM M1 → c_X3_join p ((r * (M p 4)) + c) 1 (((r * (M p 4)) + c) + (M p 4)) 0 M x2 M1 → (inR (c + 1) ∧ (∃ μ : Nat, μ < n ∧ p = p ∧ I12 p M0 r (c + 1) M1 μ)))))))))) ∧ (¬ ((M p 4) - 1) ≤ c → (inR (((r * (M p 4)) + c) + 1) ∧ (p_X3_join p ((r * (M p 4)) + c) 0 (((r * (M p 4)) + c) + 1) 0 M ∧ ∀ (x4 : Int) (M3 : Mem), inR x4 → okM M3 → c_X3_join p ((r * (M p 4)) + c) 0 (((r * (M p 4)) + c) + 1) 0 M x4 M3 → (kdX p = 3 ∧ (inR ((M3 p 5) - 1) ∧ ((((M3 p 5) - 1) ≤ r → (inR (c + 1) ∧ (∃ μ : Nat, μ < n ∧ p = p ∧ I12 p M0 r (c + 1) M3 μ))) ∧ (¬ ((M3 p 5) - 1) ≤ r → (kdX p = 3 ∧ (inR (((r * (M p 4)) + c) + (M3 p 4)) ∧ (p_X3_join p ((r * (M p 4)) + c) 1 (((r * (M p 4)) + c) + (M3 p 4)) 0 M3 ∧ ∀ (x6 : Int) (M5 : Mem), inR x6 → okM M5 → c_X3_join p ((r * (M p 4)) + c) 1 (((r * (M p 4)) + c) + (M3 p 4)) 0 M3 x6 M5 → (inR (c + 1) ∧ (∃ μ : Nat, μ < n ∧ p = p ∧ I12 p M0 r (c + 1) M5 μ)))))))))))))))))))))
    : OK_X3_joinInside l D cy ad := by
  refine met_of (tb := tbX3_joinInside) (ft := ftX3) (cst := cst0) (ct := ct_X3_joinInside) (cuts := [2, 12]) 55 (JA_X3_joinInside I2 I12) hA jWX (by decide) tbX3_joinInside_ok (by decide) ftX3_ok cst0_ok (ldc_of (tb := tbX3_joinInside) (cst := cst0) (by decide)) rfl (List.forall_mem_cons.mpr ⟨si_X3_joinInside_46 o_X3_join, List.forall_mem_cons.mpr ⟨si_X3_joinInside_69 o_X3_join, fun q h => absurd h List.not_mem_nil⟩⟩) ?_ ?_ ?_
  · intro as M0 h
    unfold P_X3_joinInside at h
    split at h
    · exact Nat.le_of_ble_eq_true rfl
    · exact h.elim
  · intro as M0 h hM has
    unfold P_X3_joinInside at h
    split at h
    next p => exact hent p M0 h hM
    · exact h.elim
  · intro as M0 h hM has pc ls st M n hI hM1
    unfold P_X3_joinInside at h
    split at h
    next p =>
      unfold JA_X3_joinInside J_X3_joinInside at hI
      dsimp only at hI
      split at hI
      ·
        obtain ⟨rfl, hI⟩ := hI
        exact hc2 _ _ h hM _ _ _ hI hM1
      ·
        obtain ⟨rfl, hI⟩ := hI
        exact hc12 _ _ h hM _ _ _ _ hI hM1
      · exact hI.elim
    · exact h.elim
abbrev p_X3_joinSide (p : Nat) (M : Mem) : Prop := kdX p = 3 ∧ p = 1 ∧ gOK (gX M) ∧ tabS (gX M) (Sin (gX M)) M
abbrev c_X3_joinSide (p : Nat) (M : Mem) (x : Int) (M' : Mem) : Prop := tabS (gX M) (Ssd (gX M)) M' ∧ (∀ b, b ≠ 4 → b ≠ 5 → M' b = M b)
def P_X3_joinSide (as : List AV) (M : Mem) : Prop := match as with
  | [.inr p] => p_X3_joinSide p M
  | _ => False
def C_X3_joinSide (as : List AV) (M : Mem) (x : Int) (M' : Mem) : Prop := match as with
  | [.inr p] => c_X3_joinSide p M x M'
  | _ => False
abbrev rm_X3_joinSide : Room := { frames := 2, cells := 0, slots := 0, locals := 43 }
abbrev OK_X3_joinSide (l : Launch) (D : va_G) (cy : Nat → ClassId) (ad : Nat → Nat) : Prop := MetA l D cy ad kdX lnX 46 yX3_joinSide cX3_joinSide 4 none rm_X3_joinSide 0 P_X3_joinSide C_X3_joinSide
theorem ca_X3_joinSide : CalV yX3_joinSide cX3_joinSide 4 none 0 := ⟨⟨wcX3_joinSide, wnX3, by decide +kernel, by decide +kernel, by decide +kernel⟩, wiX3_joinSide, wlX3_joinSide⟩
theorem rv_X3_joinSide : ∀ as M, P_X3_joinSide as M → ∃ a As q, as = .inr a :: As ∧ vwCl[kdX a]? = some q ∧ q.1 = yX3_joinSide.cls := by
  intro as M h
  unfold P_X3_joinSide at h
  split at h
  · exact ⟨_, _, (RX3, TX3, 6), rfl, by rw [h.1]; rfl, rfl⟩
  · exact h.elim
def ct_X3_joinSide : List (Nat × CS) := [(4, (1, 1, P_X2_style, C_X2_style)), (44, (3, 1, P_X2_placeBeyond, C_X2_placeBeyond)), (62, (2, 1, P_X2_crossing, C_X2_crossing)), (65, (5, 0, P_X3_join, C_X3_join))]
def J_X3_joinSide (I13 : Nat → Mem → Int → Mem → Nat → Prop) (p : Nat) (M0 : Mem) : IT := fun pc ls st M μ => match pc, ls, st, M, μ with
  | 13, [some (.inr p_), some (.inl r), _, _], [], M, μ => p = p_ ∧ I13 p M0 r M μ
  | _, _, _, _, _ => False
def JA_X3_joinSide (I13 : Nat → Mem → Int → Mem → Nat → Prop) (as : List AV) (M0 : Mem) : IT := match as with
  | [.inr p] => J_X3_joinSide I13 p M0
  | _ => fun _ _ _ _ _ => False
theorem si_X3_joinSide_4 {l : Launch} {D : va_G} {cy : Nat → ClassId} {ad : Nat → Nat} (o : OK_X2_style l D cy ad) : Site l D cy ad kdX lnX 46 yX3_joinSide.cls tbX3_joinSide rm_X3_joinSide 4 (1, 1, P_X2_style, C_X2_style) := Or.inl ⟨59, 0, yX2_style, cX2_style, 1, (some .int), rm_X2_style, rfl, rfl, o, ca_X2_style, mkX3_59, ⟨rfl, rfl, by decide, by decide⟩, rv_X2_style⟩
theorem si_X3_joinSide_44 {l : Launch} {D : va_G} {cy : Nat → ClassId} {ad : Nat → Nat} (o : OK_X2_placeBeyond l D cy ad) : Site l D cy ad kdX lnX 46 yX3_joinSide.cls tbX3_joinSide rm_X3_joinSide 44 (3, 1, P_X2_placeBeyond, C_X2_placeBeyond) := Or.inl ⟨62, 2, yX2_placeBeyond, cX2_placeBeyond, 3, (some .int), rm_X2_placeBeyond, rfl, rfl, o, ca_X2_placeBeyond, mkX3_62, ⟨rfl, rfl, by decide, by decide⟩, rv_X2_placeBeyond⟩
theorem si_X3_joinSide_62 {l : Launch} {D : va_G} {cy : Nat → ClassId} {ad : Nat → Nat} (o : OK_X2_crossing l D cy ad) : Site l D cy ad kdX lnX 46 yX3_joinSide.cls tbX3_joinSide rm_X3_joinSide 62 (2, 1, P_X2_crossing, C_X2_crossing) := Or.inl ⟨66, 1, yX2_crossing, cX2_crossing, 2, (some .int), rm_X2_crossing, rfl, rfl, o, ca_X2_crossing, mkX3_66, ⟨rfl, rfl, by decide, by decide⟩, rv_X2_crossing⟩
theorem si_X3_joinSide_65 {l : Launch} {D : va_G} {cy : Nat → ClassId} {ad : Nat → Nat} (o : OK_X3_join l D cy ad) : Site l D cy ad kdX lnX 46 yX3_joinSide.cls tbX3_joinSide rm_X3_joinSide 65 (5, 0, P_X3_join, C_X3_join) := Or.inl ⟨55, 4, yX3_join, cX3_join, 7, none, rm_X3_join, rfl, rfl, o, ca_X3_join, mkX3_55, ⟨rfl, rfl, by decide, by decide⟩, rv_X3_join⟩
set_option maxRecDepth 100000 in
set_option maxHeartbeats 4000000 in
theorem met_X3_joinSide {l : Launch} {D : va_G} {cy : Nat → ClassId} {ad : Nat → Nat} (hA : jA ad 46) (o_X2_crossing : OK_X2_crossing l D cy ad) (o_X2_placeBeyond : OK_X2_placeBeyond l D cy ad) (o_X2_style : OK_X2_style l D cy ad) (o_X3_join : OK_X3_join l D cy ad) (I13 : Nat → Mem → Int → Mem → Nat → Prop)
    (hent : ∀ (p : Nat) (M0 : Mem), p_X3_joinSide p M0 → okM M0 → kdX p = 3 ∧ (p_X2_style 2 M0 ∧ ∀ (x2 : Int) (M1 : Mem), inR x2 → okM M1 → c_X2_style 2 M0 x2 M1 → ((¬ x2 = (0 : Int) → (∃ μ : Nat, p = p ∧ I13 p M0 0 M1 μ)) ∧ (¬ (¬ x2 = (0 : Int)) → (0 = 0 ∧ c_X3_joinSide p M0 0 M1)))))
    (hc13 : ∀ (p : Nat) (M0 : Mem), p_X3_joinSide p M0 → okM M0 → ∀ (r : Int) (M : Mem) (n : Nat), I13 p M0 r M n → okM M → kdX p = 3 ∧ (((M p 5) ≤ r → (0 = 0 ∧ c_X3_joinSide p M0 0 M)) ∧ (¬ (M p 5) ≤ r → (kdX p = 3 ∧ (inR (r * (M p 4)) ∧ (kdX p = 3 ∧ (inR ((r * (M p 4)) + (M p 4)) ∧ (inR (((r * (M p 4)) + (M p 4)) - 1) ∧ (kdX p = 3 ∧ (kdX p = 3 ∧ (p_X2_placeBeyond 2 r (M p 5) M ∧ ∀ (x2 : Int) (M1 : Mem), inR x2 → okM M1 → c_X2_placeBeyond 2 r (M p 5) M x2 M1 → (kdX p = 3 ∧ (inR (x2 * (M1 p 4)) ∧ (kdX p = 3 ∧ (p_X2_crossing 2 1 M1 ∧ ∀ (x4 : Int) (M3 : Mem), inR x4 → okM M3 → c_X2_crossing 2 1 M1 x4 M3 → (p_X3_join p (((r * (M p 4)) + (M p 4)) - 1) 0 (x2 * (M1 p 4)) x4 M3 ∧ ∀ (x6 : Int) (M5 : Mem), inR x6 → okM M5 → c_X3_join p (((r * (M p 4)) + (M p 4)) - 1) 0 (x2 * (M1 p 4)) x4 M3 x6 M5 → (inR (r + 1) ∧ (∃ μ : Nat, μ < n ∧ p = p ∧ I13 p M0 (r + 1) M5 μ))))))))))))))))))
    : OK_X3_joinSide l D cy ad := by
  refine met_of (tb := tbX3_joinSide) (ft := ftX3) (cst := cst0) (ct := ct_X3_joinSide) (cuts := [13]) 45 (JA_X3_joinSide I13) hA jWX (by decide) tbX3_joinSide_ok (by decide) ftX3_ok cst0_ok (ldc_of (tb := tbX3_joinSide) (cst := cst0) (by decide)) rfl (List.forall_mem_cons.mpr ⟨si_X3_joinSide_4 o_X2_style, List.forall_mem_cons.mpr ⟨si_X3_joinSide_44 o_X2_placeBeyond, List.forall_mem_cons.mpr ⟨si_X3_joinSide_62 o_X2_crossing, List.forall_mem_cons.mpr ⟨si_X3_joinSide_65 o_X3_join, fun q h => absurd h List.not_mem_nil⟩⟩⟩⟩) ?_ ?_ ?_
  · intro as M0 h
    unfold P_X3_joinSide at h
    split at h
    · exact Nat.le_of_ble_eq_true rfl
    · exact h.elim
  · intro as M0 h hM has
    unfold P_X3_joinSide at h
    split at h
    next p => exact hent p M0 h hM
    · exact h.elim
  · intro as M0 h hM has pc ls st M n hI hM1
    unfold P_X3_joinSide at h
    split at h
    next p =>
      unfold JA_X3_joinSide J_X3_joinSide at hI
      dsimp only at hI
      split at hI
      ·
        obtain ⟨rfl, hI⟩ := hI
        exact hc13 _ _ h hM _ _ _ hI hM1
      · exact hI.elim
    · exact h.elim
abbrev p_X3_joinEnd (p : Nat) (M : Mem) : Prop := kdX p = 3 ∧ p = 1 ∧ gOK (gX M) ∧ tabS (gX M) (Ssd (gX M)) M
abbrev c_X3_joinEnd (p : Nat) (M : Mem) (x : Int) (M' : Mem) : Prop := tabS (gX M) (fun _ _ => true) M' ∧ (∀ b, b ≠ 4 → b ≠ 5 → M' b = M b)
def P_X3_joinEnd (as : List AV) (M : Mem) : Prop := match as with
  | [.inr p] => p_X3_joinEnd p M
  | _ => False
def C_X3_joinEnd (as : List AV) (M : Mem) (x : Int) (M' : Mem) : Prop := match as with
  | [.inr p] => c_X3_joinEnd p M x M'
  | _ => False
abbrev rm_X3_joinEnd : Room := { frames := 2, cells := 0, slots := 0, locals := 43 }
abbrev OK_X3_joinEnd (l : Launch) (D : va_G) (cy : Nat → ClassId) (ad : Nat → Nat) : Prop := MetA l D cy ad kdX lnX 46 yX3_joinEnd cX3_joinEnd 4 none rm_X3_joinEnd 0 P_X3_joinEnd C_X3_joinEnd
theorem ca_X3_joinEnd : CalV yX3_joinEnd cX3_joinEnd 4 none 0 := ⟨⟨wcX3_joinEnd, wnX3, by decide +kernel, by decide +kernel, by decide +kernel⟩, wiX3_joinEnd, wlX3_joinEnd⟩
theorem rv_X3_joinEnd : ∀ as M, P_X3_joinEnd as M → ∃ a As q, as = .inr a :: As ∧ vwCl[kdX a]? = some q ∧ q.1 = yX3_joinEnd.cls := by
  intro as M h
  unfold P_X3_joinEnd at h
  split at h
  · exact ⟨_, _, (RX3, TX3, 6), rfl, by rw [h.1]; rfl, rfl⟩
  · exact h.elim
def ct_X3_joinEnd : List (Nat × CS) := [(4, (1, 1, P_X2_style, C_X2_style)), (44, (3, 1, P_X2_placeBeyond, C_X2_placeBeyond)), (57, (2, 1, P_X2_crossing, C_X2_crossing)), (60, (5, 0, P_X3_join, C_X3_join))]
def J_X3_joinEnd (I13 : Nat → Mem → Int → Mem → Nat → Prop) (p : Nat) (M0 : Mem) : IT := fun pc ls st M μ => match pc, ls, st, M, μ with
  | 13, [some (.inr p_), some (.inl r), _, _], [], M, μ => p = p_ ∧ I13 p M0 r M μ
  | _, _, _, _, _ => False
def JA_X3_joinEnd (I13 : Nat → Mem → Int → Mem → Nat → Prop) (as : List AV) (M0 : Mem) : IT := match as with
  | [.inr p] => J_X3_joinEnd I13 p M0
  | _ => fun _ _ _ _ _ => False
theorem si_X3_joinEnd_4 {l : Launch} {D : va_G} {cy : Nat → ClassId} {ad : Nat → Nat} (o : OK_X2_style l D cy ad) : Site l D cy ad kdX lnX 46 yX3_joinEnd.cls tbX3_joinEnd rm_X3_joinEnd 4 (1, 1, P_X2_style, C_X2_style) := Or.inl ⟨59, 0, yX2_style, cX2_style, 1, (some .int), rm_X2_style, rfl, rfl, o, ca_X2_style, mkX3_59, ⟨rfl, rfl, by decide, by decide⟩, rv_X2_style⟩
theorem si_X3_joinEnd_44 {l : Launch} {D : va_G} {cy : Nat → ClassId} {ad : Nat → Nat} (o : OK_X2_placeBeyond l D cy ad) : Site l D cy ad kdX lnX 46 yX3_joinEnd.cls tbX3_joinEnd rm_X3_joinEnd 44 (3, 1, P_X2_placeBeyond, C_X2_placeBeyond) := Or.inl ⟨62, 2, yX2_placeBeyond, cX2_placeBeyond, 3, (some .int), rm_X2_placeBeyond, rfl, rfl, o, ca_X2_placeBeyond, mkX3_62, ⟨rfl, rfl, by decide, by decide⟩, rv_X2_placeBeyond⟩
theorem si_X3_joinEnd_57 {l : Launch} {D : va_G} {cy : Nat → ClassId} {ad : Nat → Nat} (o : OK_X2_crossing l D cy ad) : Site l D cy ad kdX lnX 46 yX3_joinEnd.cls tbX3_joinEnd rm_X3_joinEnd 57 (2, 1, P_X2_crossing, C_X2_crossing) := Or.inl ⟨66, 1, yX2_crossing, cX2_crossing, 2, (some .int), rm_X2_crossing, rfl, rfl, o, ca_X2_crossing, mkX3_66, ⟨rfl, rfl, by decide, by decide⟩, rv_X2_crossing⟩
theorem si_X3_joinEnd_60 {l : Launch} {D : va_G} {cy : Nat → ClassId} {ad : Nat → Nat} (o : OK_X3_join l D cy ad) : Site l D cy ad kdX lnX 46 yX3_joinEnd.cls tbX3_joinEnd rm_X3_joinEnd 60 (5, 0, P_X3_join, C_X3_join) := Or.inl ⟨55, 4, yX3_join, cX3_join, 7, none, rm_X3_join, rfl, rfl, o, ca_X3_join, mkX3_55, ⟨rfl, rfl, by decide, by decide⟩, rv_X3_join⟩
set_option maxRecDepth 100000 in
set_option maxHeartbeats 4000000 in
theorem met_X3_joinEnd {l : Launch} {D : va_G} {cy : Nat → ClassId} {ad : Nat → Nat} (hA : jA ad 46) (o_X2_crossing : OK_X2_crossing l D cy ad) (o_X2_placeBeyond : OK_X2_placeBeyond l D cy ad) (o_X2_style : OK_X2_style l D cy ad) (o_X3_join : OK_X3_join l D cy ad) (I13 : Nat → Mem → Int → Mem → Nat → Prop)
    (hent : ∀ (p : Nat) (M0 : Mem), p_X3_joinEnd p M0 → okM M0 → kdX p = 3 ∧ (p_X2_style 3 M0 ∧ ∀ (x2 : Int) (M1 : Mem), inR x2 → okM M1 → c_X2_style 3 M0 x2 M1 → ((¬ x2 = (0 : Int) → (∃ μ : Nat, p = p ∧ I13 p M0 0 M1 μ)) ∧ (¬ (¬ x2 = (0 : Int)) → (0 = 0 ∧ c_X3_joinEnd p M0 0 M1)))))
    (hc13 : ∀ (p : Nat) (M0 : Mem), p_X3_joinEnd p M0 → okM M0 → ∀ (r : Int) (M : Mem) (n : Nat), I13 p M0 r M n → okM M → kdX p = 3 ∧ (((M p 4) ≤ r → (0 = 0 ∧ c_X3_joinEnd p M0 0 M)) ∧ (¬ (M p 4) ≤ r → (kdX p = 3 ∧ (inR ((M p 5) - 1) ∧ (kdX p = 3 ∧ (inR (((M p 5) - 1) * (M p 4)) ∧ (inR ((((M p 5) - 1) * (M p 4)) + r) ∧ (kdX p = 3 ∧ (kdX p = 3 ∧ (p_X2_placeBeyond 3 r (M p 4) M ∧ ∀ (x2 : Int) (M1 : Mem), inR x2 → okM M1 → c_X2_placeBeyond 3 r (M p 4) M x2 M1 → (kdX p = 3 ∧ (p_X2_crossing 3 2 M1 ∧ ∀ (x4 : Int) (M3 : Mem), inR x4 → okM M3 → c_X2_crossing 3 2 M1 x4 M3 → (p_X3_join p ((((M p 5) - 1) * (M p 4)) + r) 1 x2 x4 M3 ∧ ∀ (x6 : Int) (M5 : Mem), inR x6 → okM M5 → c_X3_join p ((((M p 5) - 1) * (M p 4)) + r) 1 x2 x4 M3 x6 M5 → (inR (r + 1) ∧ (∃ μ : Nat, μ < n ∧ p = p ∧ I13 p M0 (r + 1) M5 μ))))))))))))))))
    : OK_X3_joinEnd l D cy ad := by
  refine met_of (tb := tbX3_joinEnd) (ft := ftX3) (cst := cst0) (ct := ct_X3_joinEnd) (cuts := [13]) 42 (JA_X3_joinEnd I13) hA jWX (by decide) tbX3_joinEnd_ok (by decide) ftX3_ok cst0_ok (ldc_of (tb := tbX3_joinEnd) (cst := cst0) (by decide)) rfl (List.forall_mem_cons.mpr ⟨si_X3_joinEnd_4 o_X2_style, List.forall_mem_cons.mpr ⟨si_X3_joinEnd_44 o_X2_placeBeyond, List.forall_mem_cons.mpr ⟨si_X3_joinEnd_57 o_X2_crossing, List.forall_mem_cons.mpr ⟨si_X3_joinEnd_60 o_X3_join, fun q h => absurd h List.not_mem_nil⟩⟩⟩⟩) ?_ ?_ ?_
  · intro as M0 h
    unfold P_X3_joinEnd at h
    split at h
    · exact Nat.le_of_ble_eq_true rfl
    · exact h.elim
  · intro as M0 h hM has
    unfold P_X3_joinEnd at h
    split at h
    next p => exact hent p M0 h hM
    · exact h.elim
  · intro as M0 h hM has pc ls st M n hI hM1
    unfold P_X3_joinEnd at h
    split at h
    next p =>
      unfold JA_X3_joinEnd J_X3_joinEnd at hI
      dsimp only at hI
      split at hI
      ·
        obtain ⟨rfl, hI⟩ := hI
        exact hc13 _ _ h hM _ _ _ hI hM1
      · exact hI.elim
    · exact h.elim
abbrev p_X3_joinTiles (p : Nat) (M : Mem) : Prop := kdX p = 3 ∧ p = 1 ∧ gOK (gX M)
abbrev c_X3_joinTiles (p : Nat) (M : Mem) (x : Int) (M' : Mem) : Prop := tab (gX M) M' ∧ (∀ b, b ≠ 4 → b ≠ 5 → M' b = M b)
def P_X3_joinTiles (as : List AV) (M : Mem) : Prop := match as with
  | [.inr p] => p_X3_joinTiles p M
  | _ => False
def C_X3_joinTiles (as : List AV) (M : Mem) (x : Int) (M' : Mem) : Prop := match as with
  | [.inr p] => c_X3_joinTiles p M x M'
  | _ => False
abbrev rm_X3_joinTiles : Room := { frames := 3, cells := 0, slots := 0, locals := 66 }
abbrev OK_X3_joinTiles (l : Launch) (D : va_G) (cy : Nat → ClassId) (ad : Nat → Nat) : Prop := MetA l D cy ad kdX lnX 46 yX3_joinTiles cX3_joinTiles 2 none rm_X3_joinTiles 0 P_X3_joinTiles C_X3_joinTiles
theorem ca_X3_joinTiles : CalV yX3_joinTiles cX3_joinTiles 2 none 0 := ⟨⟨wcX3_joinTiles, wnX3, by decide +kernel, by decide +kernel, by decide +kernel⟩, wiX3_joinTiles, wlX3_joinTiles⟩
theorem rv_X3_joinTiles : ∀ as M, P_X3_joinTiles as M → ∃ a As q, as = .inr a :: As ∧ vwCl[kdX a]? = some q ∧ q.1 = yX3_joinTiles.cls := by
  intro as M h
  unfold P_X3_joinTiles at h
  split at h
  · exact ⟨_, _, (RX3, TX3, 6), rfl, by rw [h.1]; rfl, rfl⟩
  · exact h.elim
def ct_X3_joinTiles : List (Nat × CS) := [(4, (1, 1, P_X3_tiles, C_X3_tiles)), (34, (1, 0, P_X3_joinInside, C_X3_joinInside)), (38, (1, 0, P_X3_joinSide, C_X3_joinSide)), (42, (1, 0, P_X3_joinEnd, C_X3_joinEnd))]
def J_X3_joinTiles (I2 : Nat → Mem → Int → Mem → Nat → Prop) (p : Nat) (M0 : Mem) : IT := fun pc ls st M μ => match pc, ls, st, M, μ with
  | 2, [some (.inr p_), some (.inl k)], [], M, μ => p = p_ ∧ I2 p M0 k M μ
  | _, _, _, _, _ => False
def JA_X3_joinTiles (I2 : Nat → Mem → Int → Mem → Nat → Prop) (as : List AV) (M0 : Mem) : IT := match as with
  | [.inr p] => J_X3_joinTiles I2 p M0
  | _ => fun _ _ _ _ _ => False
theorem si_X3_joinTiles_4 {l : Launch} {D : va_G} {cy : Nat → ClassId} {ad : Nat → Nat} (o : OK_X3_tiles l D cy ad) : Site l D cy ad kdX lnX 46 yX3_joinTiles.cls tbX3_joinTiles rm_X3_joinTiles 4 (1, 1, P_X3_tiles, C_X3_tiles) := Or.inl ⟨35, 0, yX3_tiles, cX3_tiles, 1, (some .int), rm_X3_tiles, rfl, rfl, o, ca_X3_tiles, mkX3_35, ⟨rfl, rfl, by decide, by decide⟩, rv_X3_tiles⟩
theorem si_X3_joinTiles_34 {l : Launch} {D : va_G} {cy : Nat → ClassId} {ad : Nat → Nat} (o : OK_X3_joinInside l D cy ad) : Site l D cy ad kdX lnX 46 yX3_joinTiles.cls tbX3_joinTiles rm_X3_joinTiles 34 (1, 0, P_X3_joinInside, C_X3_joinInside) := Or.inl ⟨46, 0, yX3_joinInside, cX3_joinInside, 4, none, rm_X3_joinInside, rfl, rfl, o, ca_X3_joinInside, mkX3_46, ⟨rfl, rfl, by decide, by decide⟩, rv_X3_joinInside⟩
theorem si_X3_joinTiles_38 {l : Launch} {D : va_G} {cy : Nat → ClassId} {ad : Nat → Nat} (o : OK_X3_joinSide l D cy ad) : Site l D cy ad kdX lnX 46 yX3_joinTiles.cls tbX3_joinTiles rm_X3_joinTiles 38 (1, 0, P_X3_joinSide, C_X3_joinSide) := Or.inl ⟨49, 0, yX3_joinSide, cX3_joinSide, 4, none, rm_X3_joinSide, rfl, rfl, o, ca_X3_joinSide, mkX3_49, ⟨rfl, rfl, by decide, by decide⟩, rv_X3_joinSide⟩
theorem si_X3_joinTiles_42 {l : Launch} {D : va_G} {cy : Nat → ClassId} {ad : Nat → Nat} (o : OK_X3_joinEnd l D cy ad) : Site l D cy ad kdX lnX 46 yX3_joinTiles.cls tbX3_joinTiles rm_X3_joinTiles 42 (1, 0, P_X3_joinEnd, C_X3_joinEnd) := Or.inl ⟨52, 0, yX3_joinEnd, cX3_joinEnd, 4, none, rm_X3_joinEnd, rfl, rfl, o, ca_X3_joinEnd, mkX3_52, ⟨rfl, rfl, by decide, by decide⟩, rv_X3_joinEnd⟩
set_option maxRecDepth 100000 in
set_option maxHeartbeats 4000000 in
theorem met_X3_joinTiles {l : Launch} {D : va_G} {cy : Nat → ClassId} {ad : Nat → Nat} (hA : jA ad 46) (o_X3_joinEnd : OK_X3_joinEnd l D cy ad) (o_X3_joinInside : OK_X3_joinInside l D cy ad) (o_X3_joinSide : OK_X3_joinSide l D cy ad) (o_X3_tiles : OK_X3_tiles l D cy ad) (I2 : Nat → Mem → Int → Mem → Nat → Prop)
    (hent : ∀ (p : Nat) (M0 : Mem), p_X3_joinTiles p M0 → okM M0 → ∃ μ : Nat, p = p ∧ I2 p M0 0 M0 μ)
    (hc2 : ∀ (p : Nat) (M0 : Mem), p_X3_joinTiles p M0 → okM M0 → ∀ (k : Int) (M : Mem) (n : Nat), I2 p M0 k M n → okM M → p_X3_tiles p M ∧ ∀ (x2 : Int) (M1 : Mem), inR x2 → okM M1 → c_X3_tiles p M x2 M1 → (inR (x2 * 4) ∧ (((x2 * 4) ≤ k → (p_X3_joinInside p M1 ∧ ∀ (x4 : Int) (M3 : Mem), inR x4 → okM M3 → c_X3_joinInside p M1 x4 M3 → (p_X3_joinSide p M3 ∧ ∀ (x6 : Int) (M5 : Mem), inR x6 → okM M5 → c_X3_joinSide p M3 x6 M5 → (p_X3_joinEnd p M5 ∧ ∀ (x8 : Int) (M7 : Mem), inR x8 → okM M7 → c_X3_joinEnd p M5 x8 M7 → (0 = 0 ∧ c_X3_joinTiles p M0 0 M7))))) ∧ (¬ (x2 * 4) ≤ k → (kdX p = 3 ∧ (kdX 4 = 21 ∧ (0 ≤ k ∧ k < 576) ∧ (kdX p = 3 ∧ (kdX 5 = 21 ∧ (0 ≤ k ∧ k < 576) ∧ (inR (k + 1) ∧ (∃ μ : Nat, μ < n ∧ p = p ∧ I2 p M0 (k + 1) (up (up M1 4 (k).toNat (-5)) 5 (k).toNat 0) μ))))))))))
    : OK_X3_joinTiles l D cy ad := by
  refine met_of (tb := tbX3_joinTiles) (ft := ftX3) (cst := cst0) (ct := ct_X3_joinTiles) (cuts := [2]) 29 (JA_X3_joinTiles I2) hA jWX (by decide) tbX3_joinTiles_ok (by decide) ftX3_ok cst0_ok (ldc_of (tb := tbX3_joinTiles) (cst := cst0) (by decide)) rfl (List.forall_mem_cons.mpr ⟨si_X3_joinTiles_4 o_X3_tiles, List.forall_mem_cons.mpr ⟨si_X3_joinTiles_34 o_X3_joinInside, List.forall_mem_cons.mpr ⟨si_X3_joinTiles_38 o_X3_joinSide, List.forall_mem_cons.mpr ⟨si_X3_joinTiles_42 o_X3_joinEnd, fun q h => absurd h List.not_mem_nil⟩⟩⟩⟩) ?_ ?_ ?_
  · intro as M0 h
    unfold P_X3_joinTiles at h
    split at h
    · exact Nat.le_of_ble_eq_true rfl
    · exact h.elim
  · intro as M0 h hM has
    unfold P_X3_joinTiles at h
    split at h
    next p => exact hent p M0 h hM
    · exact h.elim
  · intro as M0 h hM has pc ls st M n hI hM1
    unfold P_X3_joinTiles at h
    split at h
    next p =>
      unfold JA_X3_joinTiles J_X3_joinTiles at hI
      dsimp only at hI
      split at hI
      ·
        obtain ⟨rfl, hI⟩ := hI
        exact hc2 _ _ h hM _ _ _ hI hM1
      · exact hI.elim
    · exact h.elim
abbrev p_X3_begin (p : Nat) (a : Int) (b : Int) (M : Mem) : Prop := kdX p = 3 ∧ p = 1 ∧ (3 ≤ a ∧ a ≤ 12) ∧ 3 ≤ b ∧ b ≤ 12
abbrev c_X3_begin (p : Nat) (a : Int) (b : Int) (M : Mem) (x : Int) (M' : Mem) : Prop := tab (gX M') M' ∧ gOK (gX M') ∧ (gX M' 0 = a ∧ gX M' 1 = b ∧ gX M' 2 = 0 ∧ gX M' 3 = 0 ∧ gX M' 4 = 0 ∧ gX M' 5 = 0) ∧ (∀ b, b ≠ 1 → b ≠ 2 → b ≠ 3 → b ≠ 4 → b ≠ 5 → M' b = M b)
def P_X3_begin (as : List AV) (M : Mem) : Prop := match as with
  | [.inr p, .inl a, .inl b] => p_X3_begin p a b M
  | _ => False
def C_X3_begin (as : List AV) (M : Mem) (x : Int) (M' : Mem) : Prop := match as with
  | [.inr p, .inl a, .inl b] => c_X3_begin p a b M x M'
  | _ => False
abbrev rm_X3_begin : Room := { frames := 4, cells := 0, slots := 0, locals := 87 }
abbrev OK_X3_begin (l : Launch) (D : va_G) (cy : Nat → ClassId) (ad : Nat → Nat) : Prop := MetA l D cy ad kdX lnX 46 yX3_begin cX3_begin 3 none rm_X3_begin 0 P_X3_begin C_X3_begin
theorem ca_X3_begin : CalV yX3_begin cX3_begin 3 none 2 := ⟨⟨wcX3_begin, wnX3, by decide +kernel, by decide +kernel, by decide +kernel⟩, wiX3_begin, wlX3_begin⟩
theorem rv_X3_begin : ∀ as M, P_X3_begin as M → ∃ a As q, as = .inr a :: As ∧ vwCl[kdX a]? = some q ∧ q.1 = yX3_begin.cls := by
  intro as M h
  unfold P_X3_begin at h
  split at h
  · exact ⟨_, _, (RX3, TX3, 6), rfl, by rw [h.1]; rfl, rfl⟩
  · exact h.elim
def ct_X3_begin : List (Nat × CS) := [(16, (3, 2, P_X2_change, C_X2_change)), (26, (3, 2, P_X2_change, C_X2_change)), (31, (1, 0, P_X3_joinTiles, C_X3_joinTiles))]
def J_X3_begin  (p : Nat) (a : Int) (b : Int) (M0 : Mem) : IT := fun pc ls st M μ => match pc, ls, st, M, μ with
  | _, _, _, _, _ => False
def JA_X3_begin  (as : List AV) (M0 : Mem) : IT := match as with
  | [.inr p, .inl a, .inl b] => J_X3_begin  p a b M0
  | _ => fun _ _ _ _ _ => False
theorem si_X3_begin_16 {l : Launch} {D : va_G} {cy : Nat → ClassId} {ad : Nat → Nat} (o : OK_X2_change l D cy ad) : Site l D cy ad kdX lnX 46 yX3_begin.cls tbX3_begin rm_X3_begin 16 (3, 2, P_X2_change, C_X2_change) := Or.inl ⟨39, 2, yX2_change, cX2_change, 4, (some .boolean), rm_X2_change, rfl, rfl, o, ca_X2_change, mkX3_39, ⟨rfl, rfl, by decide, by decide⟩, rv_X2_change⟩
theorem si_X3_begin_26 {l : Launch} {D : va_G} {cy : Nat → ClassId} {ad : Nat → Nat} (o : OK_X2_change l D cy ad) : Site l D cy ad kdX lnX 46 yX3_begin.cls tbX3_begin rm_X3_begin 26 (3, 2, P_X2_change, C_X2_change) := Or.inl ⟨39, 2, yX2_change, cX2_change, 4, (some .boolean), rm_X2_change, rfl, rfl, o, ca_X2_change, mkX3_39, ⟨rfl, rfl, by decide, by decide⟩, rv_X2_change⟩
theorem si_X3_begin_31 {l : Launch} {D : va_G} {cy : Nat → ClassId} {ad : Nat → Nat} (o : OK_X3_joinTiles l D cy ad) : Site l D cy ad kdX lnX 46 yX3_begin.cls tbX3_begin rm_X3_begin 31 (1, 0, P_X3_joinTiles, C_X3_joinTiles) := Or.inl ⟨43, 0, yX3_joinTiles, cX3_joinTiles, 2, none, rm_X3_joinTiles, rfl, rfl, o, ca_X3_joinTiles, mkX3_43, ⟨rfl, rfl, by decide, by decide⟩, rv_X3_joinTiles⟩
set_option maxRecDepth 100000 in
set_option maxHeartbeats 4000000 in
theorem met_X3_begin {l : Launch} {D : va_G} {cy : Nat → ClassId} {ad : Nat → Nat} (hA : jA ad 46) (o_X2_change : OK_X2_change l D cy ad) (o_X3_joinTiles : OK_X3_joinTiles l D cy ad) 
    (hent : ∀ (p : Nat) (a : Int) (b : Int) (M0 : Mem), p_X3_begin p a b M0 → okM M0 → inR a → inR b → kdX p = 3 ∧ (kdX p = 3 ∧ (kdX p = 3 ∧ (p_X2_change 2 0 0 (up (up M0 p 4 a) p 5 b) ∧ ∀ (x2 : Int) (M1 : Mem), inR x2 → okM M1 → c_X2_change 2 0 0 (up (up M0 p 4 a) p 5 b) x2 M1 → (kdX p = 3 ∧ (p_X2_change 3 0 0 M1 ∧ ∀ (x4 : Int) (M3 : Mem), inR x4 → okM M3 → c_X2_change 3 0 0 M1 x4 M3 → (p_X3_joinTiles p M3 ∧ ∀ (x6 : Int) (M5 : Mem), inR x6 → okM M5 → c_X3_joinTiles p M3 x6 M5 → (0 = 0 ∧ c_X3_begin p a b M0 0 M5))))))))
    : OK_X3_begin l D cy ad := by
  refine met_of (tb := tbX3_begin) (ft := ftX3) (cst := cst0) (ct := ct_X3_begin) (cuts := []) 23 (JA_X3_begin ) hA jWX (by decide) tbX3_begin_ok (by decide) ftX3_ok cst0_ok (ldc_of (tb := tbX3_begin) (cst := cst0) (by decide)) rfl (List.forall_mem_cons.mpr ⟨si_X3_begin_16 o_X2_change, List.forall_mem_cons.mpr ⟨si_X3_begin_26 o_X2_change, List.forall_mem_cons.mpr ⟨si_X3_begin_31 o_X3_joinTiles, fun q h => absurd h List.not_mem_nil⟩⟩⟩) ?_ ?_ ?_
  · intro as M0 h
    unfold P_X3_begin at h
    split at h
    · exact Nat.le_of_ble_eq_true rfl
    · exact h.elim
  · intro as M0 h hM has
    unfold P_X3_begin at h
    split at h
    next p a b => exact hent p a b M0 h hM (has a (by simp)) (has b (by simp))
    · exact h.elim
  · intro as M0 h hM has pc ls st M n hI hM1
    unfold P_X3_begin at h
    split at h
    · exact hI.elim
    · exact h.elim
abbrev p_X3_changeSeam (p : Nat) (e : Int) (k : Int) (s : Int) (M : Mem) : Prop := kdX p = 3 ∧ p = 1 ∧ gOK (gX M) ∧ tab (gX M) M ∧ (0 ≤ k ∧ k ≤ 2) ∧ 0 ≤ s ∧ (if e = 0 then s < gX M 1 else s < gX M 0)
abbrev c_X3_changeSeam (p : Nat) (e : Int) (k : Int) (s : Int) (M : Mem) (x : Int) (M' : Mem) : Prop := tab (gX M') M' ∧ x = (if (if e = 0 then gX M 2 = k ∧ gX M 3 = s else gX M 4 = k ∧ gX M 5 = s) then 0 else 1) ∧ (gX M' 0 = gX M 0 ∧ gX M' 1 = gX M 1 ∧ gX M' 2 = (if e = 0 then k else gX M 2) ∧ gX M' 3 = (if e = 0 then s else gX M 3) ∧ gX M' 4 = (if e = 0 then gX M 4 else k) ∧ gX M' 5 = (if e = 0 then gX M 5 else s)) ∧ (∀ b, b ≠ 2 → b ≠ 3 → b ≠ 4 → b ≠ 5 → M' b = M b)
def P_X3_changeSeam (as : List AV) (M : Mem) : Prop := match as with
  | [.inr p, .inl e, .inl k, .inl s] => p_X3_changeSeam p e k s M
  | _ => False
def C_X3_changeSeam (as : List AV) (M : Mem) (x : Int) (M' : Mem) : Prop := match as with
  | [.inr p, .inl e, .inl k, .inl s] => c_X3_changeSeam p e k s M x M'
  | _ => False
abbrev rm_X3_changeSeam : Room := { frames := 4, cells := 0, slots := 0, locals := 87 }
abbrev OK_X3_changeSeam (l : Launch) (D : va_G) (cy : Nat → ClassId) (ad : Nat → Nat) : Prop := MetA l D cy ad kdX lnX 46 yX3_changeSeam cX3_changeSeam 5 (some .boolean) rm_X3_changeSeam 2 P_X3_changeSeam C_X3_changeSeam
theorem ca_X3_changeSeam : CalV yX3_changeSeam cX3_changeSeam 5 (some .boolean) 3 := ⟨⟨wcX3_changeSeam, wnX3, by decide +kernel, by decide +kernel, by decide +kernel⟩, wiX3_changeSeam, wlX3_changeSeam⟩
theorem rv_X3_changeSeam : ∀ as M, P_X3_changeSeam as M → ∃ a As q, as = .inr a :: As ∧ vwCl[kdX a]? = some q ∧ q.1 = yX3_changeSeam.cls := by
  intro as M h
  unfold P_X3_changeSeam at h
  split at h
  · exact ⟨_, _, (RX3, TX3, 6), rfl, by rw [h.1]; rfl, rfl⟩
  · exact h.elim
def ct_X3_changeSeam : List (Nat × CS) := [(21, (3, 2, P_X2_change, C_X2_change)), (30, (1, 0, P_X3_joinTiles, C_X3_joinTiles))]
def J_X3_changeSeam  (p : Nat) (e : Int) (k : Int) (s : Int) (M0 : Mem) : IT := fun pc ls st M μ => match pc, ls, st, M, μ with
  | _, _, _, _, _ => False
def JA_X3_changeSeam  (as : List AV) (M0 : Mem) : IT := match as with
  | [.inr p, .inl e, .inl k, .inl s] => J_X3_changeSeam  p e k s M0
  | _ => fun _ _ _ _ _ => False
theorem si_X3_changeSeam_21 {l : Launch} {D : va_G} {cy : Nat → ClassId} {ad : Nat → Nat} (o : OK_X2_change l D cy ad) : Site l D cy ad kdX lnX 46 yX3_changeSeam.cls tbX3_changeSeam rm_X3_changeSeam 21 (3, 2, P_X2_change, C_X2_change) := Or.inl ⟨39, 2, yX2_change, cX2_change, 4, (some .boolean), rm_X2_change, rfl, rfl, o, ca_X2_change, mkX3_39, ⟨rfl, rfl, by decide, by decide⟩, rv_X2_change⟩
theorem si_X3_changeSeam_30 {l : Launch} {D : va_G} {cy : Nat → ClassId} {ad : Nat → Nat} (o : OK_X3_joinTiles l D cy ad) : Site l D cy ad kdX lnX 46 yX3_changeSeam.cls tbX3_changeSeam rm_X3_changeSeam 30 (1, 0, P_X3_joinTiles, C_X3_joinTiles) := Or.inl ⟨43, 0, yX3_joinTiles, cX3_joinTiles, 2, none, rm_X3_joinTiles, rfl, rfl, o, ca_X3_joinTiles, mkX3_43, ⟨rfl, rfl, by decide, by decide⟩, rv_X3_joinTiles⟩
set_option maxRecDepth 100000 in
set_option maxHeartbeats 4000000 in
theorem met_X3_changeSeam {l : Launch} {D : va_G} {cy : Nat → ClassId} {ad : Nat → Nat} (hA : jA ad 46) (o_X2_change : OK_X2_change l D cy ad) (o_X3_joinTiles : OK_X3_joinTiles l D cy ad) 
    (hent : ∀ (p : Nat) (e : Int) (k : Int) (s : Int) (M0 : Mem), p_X3_changeSeam p e k s M0 → okM M0 → inR e → inR k → inR s → (e = (0 : Int) → (kdX p = 3 ∧ (p_X2_change 2 k s M0 ∧ ∀ (x2 : Int) (M1 : Mem), inR x2 → okM M1 → c_X2_change 2 k s M0 x2 M1 → ((¬ x2 = (0 : Int) → (p_X3_joinTiles p M1 ∧ ∀ (x4 : Int) (M3 : Mem), inR x4 → okM M3 → c_X3_joinTiles p M1 x4 M3 → (((1 : Int) = 0 ∨ (1 : Int) = 1) ∧ c_X3_changeSeam p e k s M0 1 M3))) ∧ (¬ (¬ x2 = (0 : Int)) → (((0 : Int) = 0 ∨ (0 : Int) = 1) ∧ c_X3_changeSeam p e k s M0 0 M1)))))) ∧ (¬ e = (0 : Int) → (kdX p = 3 ∧ (p_X2_change 3 k s M0 ∧ ∀ (x6 : Int) (M5 : Mem), inR x6 → okM M5 → c_X2_change 3 k s M0 x6 M5 → ((¬ x6 = (0 : Int) → (p_X3_joinTiles p M5 ∧ ∀ (x8 : Int) (M7 : Mem), inR x8 → okM M7 → c_X3_joinTiles p M5 x8 M7 → (((1 : Int) = 0 ∨ (1 : Int) = 1) ∧ c_X3_changeSeam p e k s M0 1 M7))) ∧ (¬ (¬ x6 = (0 : Int)) → (((0 : Int) = 0 ∨ (0 : Int) = 1) ∧ c_X3_changeSeam p e k s M0 0 M5)))))))
    : OK_X3_changeSeam l D cy ad := by
  refine met_of (tb := tbX3_changeSeam) (ft := ftX3) (cst := cst0) (ct := ct_X3_changeSeam) (cuts := []) 21 (JA_X3_changeSeam ) hA jWX (by decide) tbX3_changeSeam_ok (by decide) ftX3_ok cst0_ok (ldc_of (tb := tbX3_changeSeam) (cst := cst0) (by decide)) rfl (List.forall_mem_cons.mpr ⟨si_X3_changeSeam_21 o_X2_change, List.forall_mem_cons.mpr ⟨si_X3_changeSeam_30 o_X3_joinTiles, fun q h => absurd h List.not_mem_nil⟩⟩) ?_ ?_ ?_
  · intro as M0 h
    unfold P_X3_changeSeam at h
    split at h
    · exact Nat.le_of_ble_eq_true rfl
    · exact h.elim
  · intro as M0 h hM has
    unfold P_X3_changeSeam at h
    split at h
    next p e k s => exact hent p e k s M0 h hM (has e (by simp)) (has k (by simp)) (has s (by simp))
    · exact h.elim
  · intro as M0 h hM has pc ls st M n hI hM1
    unfold P_X3_changeSeam at h
    split at h
    · exact hI.elim
    · exact h.elim
