theorem cst0_ok {own : String} : ∀ j, (fun _ : Nat => (0 : Int)) j ≠ 0 → Cond.constant own j (I32 ((fun _ : Nat => (0 : Int)) j)) ∈ wtb ∧ inR ((fun _ : Nat => (0 : Int)) j) := fun _ h => absurd rfl h
abbrev cst0 : Nat → Int := fun _ => 0
def ldcB (tb : TB) (cst : Nat → Int) : Bool := tb.all fun q => match q.2.1 with
  | .ldc j => decide (cst j ≠ 0)
  | _ => true
theorem ldc_of {tb : TB} {cst : Nat → Int} (h : ldcB tb cst = true) : ∀ pc j n ts, tb.lookup pc = some (.ldc j, n, ts) → cst j ≠ 0 := by
  intro pc j n ts hl
  have := List.all_eq_true.mp h _ (lookup_mem hl)
  simpa using this
def cstY (j : Nat) : Int := bif j == 139 then 1000000 else 0
theorem cstY_ok : ∀ j, cstY j ≠ 0 → Cond.constant RX9 j (I32 (cstY j)) ∈ wtb ∧ inR (cstY j) := by
  intro j h
  by_cases e : j = 139
  · subst e
    exact ⟨wtb_in (mem_at 938 (by decide +kernel)) rfl, ⟨by decide, by decide⟩⟩
  · exact absurd (by unfold cstY; rw [show (j == 139) = false from by simpa using e]; rfl) h

abbrev p_X5_number (p : Nat) (M : Mem) : Prop := kdX p = 5
abbrev c_X5_number (p : Nat) (M : Mem) (x : Int) (M' : Mem) : Prop := x = M p 1 ∧ M' = M
def P_X5_number (as : List AV) (M : Mem) : Prop := match as with
  | [.inr p] => p_X5_number p M
  | _ => False
def C_X5_number (as : List AV) (M : Mem) (x : Int) (M' : Mem) : Prop := match as with
  | [.inr p] => c_X5_number p M x M'
  | _ => False
abbrev rm_X5_number : Room := { frames := 0, cells := 0, slots := 0, locals := 0 }
abbrev OK_X5_number (l : Launch) (D : va_G) (cy : Nat → ClassId) (ad : Nat → Nat) : Prop := MetA l D cy ad kdX lnX 46 yX5_number cX5_number 1 (some .int) rm_X5_number 1 P_X5_number C_X5_number
theorem ca_X5_number : CalV yX5_number cX5_number 1 (some .int) 0 := ⟨⟨wcX5_number, wnX5, by decide +kernel, by decide +kernel, by decide +kernel⟩, wiX5_number, wlX5_number⟩
theorem rv_X5_number : ∀ as M, P_X5_number as M → ∃ a As q, as = .inr a :: As ∧ vwCl[kdX a]? = some q ∧ q.1 = yX5_number.cls := by
  intro as M h
  unfold P_X5_number at h
  split at h
  · exact ⟨_, _, (RX5, TX5, 2), rfl, by rw [h]; rfl, rfl⟩
  · exact h.elim
def ct_X5_number : List (Nat × CS) := []
def J_X5_number  (p : Nat) (M0 : Mem) : IT := fun pc ls st M μ => match pc, ls, st, M, μ with
  | _, _, _, _, _ => False
def JA_X5_number  (as : List AV) (M0 : Mem) : IT := match as with
  | [.inr p] => J_X5_number  p M0
  | _ => fun _ _ _ _ _ => False
set_option maxRecDepth 100000 in
set_option maxHeartbeats 4000000 in
theorem met_X5_number {l : Launch} {D : va_G} {cy : Nat → ClassId} {ad : Nat → Nat} (hA : jA ad 46)  
    (hent : ∀ (p : Nat) (M0 : Mem), p_X5_number p M0 → okM M0 → kdX p = 5 ∧ ((True) ∧ c_X5_number p M0 (M0 p 1) M0))
    : OK_X5_number l D cy ad := by
  refine met_of (tb := tbX5_number) (ft := ftX5) (cst := cst0) (ct := ct_X5_number) (cuts := []) 5 (JA_X5_number ) hA jWX (by decide) tbX5_number_ok (by decide) ftX5_ok cst0_ok (ldc_of (tb := tbX5_number) (cst := cst0) (by decide)) rfl (fun q h => absurd h List.not_mem_nil) ?_ ?_ ?_
  · intro as M0 h
    unfold P_X5_number at h
    split at h
    · exact Nat.le_of_ble_eq_true rfl
    · exact h.elim
  · intro as M0 h hM has
    unfold P_X5_number at h
    split at h
    next p => exact hent p M0 h hM
    · exact h.elim
  · intro as M0 h hM has pc ls st M n hI hM1
    unfold P_X5_number at h
    split at h
    · exact hI.elim
    · exact h.elim
abbrev p_X5_at (p : Nat) (k : Int) (M : Mem) : Prop := kdX p = 5 ∧ (0 ≤ k ∧ k < 144)
abbrev c_X5_at (p : Nat) (k : Int) (M : Mem) (x : Int) (M' : Mem) : Prop := x = M (p + 1) k.toNat ∧ M' = M
def P_X5_at (as : List AV) (M : Mem) : Prop := match as with
  | [.inr p, .inl k] => p_X5_at p k M
  | _ => False
def C_X5_at (as : List AV) (M : Mem) (x : Int) (M' : Mem) : Prop := match as with
  | [.inr p, .inl k] => c_X5_at p k M x M'
  | _ => False
abbrev rm_X5_at : Room := { frames := 0, cells := 0, slots := 0, locals := 0 }
abbrev OK_X5_at (l : Launch) (D : va_G) (cy : Nat → ClassId) (ad : Nat → Nat) : Prop := MetA l D cy ad kdX lnX 46 yX5_at cX5_at 2 (some .int) rm_X5_at 1 P_X5_at C_X5_at
theorem ca_X5_at : CalV yX5_at cX5_at 2 (some .int) 1 := ⟨⟨wcX5_at, wnX5, by decide +kernel, by decide +kernel, by decide +kernel⟩, wiX5_at, wlX5_at⟩
theorem rv_X5_at : ∀ as M, P_X5_at as M → ∃ a As q, as = .inr a :: As ∧ vwCl[kdX a]? = some q ∧ q.1 = yX5_at.cls := by
  intro as M h
  unfold P_X5_at at h
  split at h
  · exact ⟨_, _, (RX5, TX5, 2), rfl, by rw [h.1]; rfl, rfl⟩
  · exact h.elim
def ct_X5_at : List (Nat × CS) := []
def J_X5_at  (p : Nat) (k : Int) (M0 : Mem) : IT := fun pc ls st M μ => match pc, ls, st, M, μ with
  | _, _, _, _, _ => False
def JA_X5_at  (as : List AV) (M0 : Mem) : IT := match as with
  | [.inr p, .inl k] => J_X5_at  p k M0
  | _ => fun _ _ _ _ _ => False
set_option maxRecDepth 100000 in
set_option maxHeartbeats 4000000 in
theorem met_X5_at {l : Launch} {D : va_G} {cy : Nat → ClassId} {ad : Nat → Nat} (hA : jA ad 46)  
    (hent : ∀ (p : Nat) (k : Int) (M0 : Mem), p_X5_at p k M0 → okM M0 → inR k → kdX p = 5 ∧ (kdX (p + 1) = 21 ∧ (0 ≤ k ∧ k < ((lnX (p + 1) : Nat) : Int)) ∧ ((True) ∧ c_X5_at p k M0 (M0 (p + 1) (k).toNat) M0)))
    : OK_X5_at l D cy ad := by
  refine met_of (tb := tbX5_at) (ft := ftX5) (cst := cst0) (ct := ct_X5_at) (cuts := []) 7 (JA_X5_at ) hA jWX (by decide) tbX5_at_ok (by decide) ftX5_ok cst0_ok (ldc_of (tb := tbX5_at) (cst := cst0) (by decide)) rfl (fun q h => absurd h List.not_mem_nil) ?_ ?_ ?_
  · intro as M0 h
    unfold P_X5_at at h
    split at h
    · exact Nat.le_of_ble_eq_true rfl
    · exact h.elim
  · intro as M0 h hM has
    unfold P_X5_at at h
    split at h
    next p k => exact hent p k M0 h hM (has k (by simp))
    · exact h.elim
  · intro as M0 h hM has pc ls st M n hI hM1
    unfold P_X5_at at h
    split at h
    · exact hI.elim
    · exact h.elim
abbrev p_X5_clear (p : Nat) (M : Mem) : Prop := kdX p = 5
abbrev c_X5_clear (p : Nat) (M : Mem) (x : Int) (M' : Mem) : Prop := M' = up M p 1 0
def P_X5_clear (as : List AV) (M : Mem) : Prop := match as with
  | [.inr p] => p_X5_clear p M
  | _ => False
def C_X5_clear (as : List AV) (M : Mem) (x : Int) (M' : Mem) : Prop := match as with
  | [.inr p] => c_X5_clear p M x M'
  | _ => False
abbrev rm_X5_clear : Room := { frames := 0, cells := 0, slots := 0, locals := 0 }
abbrev OK_X5_clear (l : Launch) (D : va_G) (cy : Nat → ClassId) (ad : Nat → Nat) : Prop := MetA l D cy ad kdX lnX 46 yX5_clear cX5_clear 1 none rm_X5_clear 0 P_X5_clear C_X5_clear
theorem ca_X5_clear : CalV yX5_clear cX5_clear 1 none 0 := ⟨⟨wcX5_clear, wnX5, by decide +kernel, by decide +kernel, by decide +kernel⟩, wiX5_clear, wlX5_clear⟩
theorem rv_X5_clear : ∀ as M, P_X5_clear as M → ∃ a As q, as = .inr a :: As ∧ vwCl[kdX a]? = some q ∧ q.1 = yX5_clear.cls := by
  intro as M h
  unfold P_X5_clear at h
  split at h
  · exact ⟨_, _, (RX5, TX5, 2), rfl, by rw [h]; rfl, rfl⟩
  · exact h.elim
def ct_X5_clear : List (Nat × CS) := []
def J_X5_clear  (p : Nat) (M0 : Mem) : IT := fun pc ls st M μ => match pc, ls, st, M, μ with
  | _, _, _, _, _ => False
def JA_X5_clear  (as : List AV) (M0 : Mem) : IT := match as with
  | [.inr p] => J_X5_clear  p M0
  | _ => fun _ _ _ _ _ => False
set_option maxRecDepth 100000 in
set_option maxHeartbeats 4000000 in
theorem met_X5_clear {l : Launch} {D : va_G} {cy : Nat → ClassId} {ad : Nat → Nat} (hA : jA ad 46)  
    (hent : ∀ (p : Nat) (M0 : Mem), p_X5_clear p M0 → okM M0 → kdX p = 5 ∧ (0 = 0 ∧ c_X5_clear p M0 0 (up M0 p 1 0)))
    : OK_X5_clear l D cy ad := by
  refine met_of (tb := tbX5_clear) (ft := ftX5) (cst := cst0) (ct := ct_X5_clear) (cuts := []) 6 (JA_X5_clear ) hA jWX (by decide) tbX5_clear_ok (by decide) ftX5_ok cst0_ok (ldc_of (tb := tbX5_clear) (cst := cst0) (by decide)) rfl (fun q h => absurd h List.not_mem_nil) ?_ ?_ ?_
  · intro as M0 h
    unfold P_X5_clear at h
    split at h
    · exact Nat.le_of_ble_eq_true rfl
    · exact h.elim
  · intro as M0 h hM has
    unfold P_X5_clear at h
    split at h
    next p => exact hent p M0 h hM
    · exact h.elim
  · intro as M0 h hM has pc ls st M n hI hM1
    unfold P_X5_clear at h
    split at h
    · exact hI.elim
    · exact h.elim
abbrev p_X5_add (p : Nat) (t : Int) (M : Mem) : Prop := kdX p = 5 ∧ (0 ≤ M p 1 ∧ M p 1 < 144)
abbrev c_X5_add (p : Nat) (t : Int) (M : Mem) (x : Int) (M' : Mem) : Prop := M' = up (up M (p + 1) (M p 1).toNat t) p 1 (M p 1 + 1)
def P_X5_add (as : List AV) (M : Mem) : Prop := match as with
  | [.inr p, .inl t] => p_X5_add p t M
  | _ => False
def C_X5_add (as : List AV) (M : Mem) (x : Int) (M' : Mem) : Prop := match as with
  | [.inr p, .inl t] => c_X5_add p t M x M'
  | _ => False
abbrev rm_X5_add : Room := { frames := 0, cells := 0, slots := 0, locals := 0 }
abbrev OK_X5_add (l : Launch) (D : va_G) (cy : Nat → ClassId) (ad : Nat → Nat) : Prop := MetA l D cy ad kdX lnX 46 yX5_add cX5_add 2 none rm_X5_add 0 P_X5_add C_X5_add
theorem ca_X5_add : CalV yX5_add cX5_add 2 none 1 := ⟨⟨wcX5_add, wnX5, by decide +kernel, by decide +kernel, by decide +kernel⟩, wiX5_add, wlX5_add⟩
theorem rv_X5_add : ∀ as M, P_X5_add as M → ∃ a As q, as = .inr a :: As ∧ vwCl[kdX a]? = some q ∧ q.1 = yX5_add.cls := by
  intro as M h
  unfold P_X5_add at h
  split at h
  · exact ⟨_, _, (RX5, TX5, 2), rfl, by rw [h.1]; rfl, rfl⟩
  · exact h.elim
def ct_X5_add : List (Nat × CS) := []
def J_X5_add  (p : Nat) (t : Int) (M0 : Mem) : IT := fun pc ls st M μ => match pc, ls, st, M, μ with
  | _, _, _, _, _ => False
def JA_X5_add  (as : List AV) (M0 : Mem) : IT := match as with
  | [.inr p, .inl t] => J_X5_add  p t M0
  | _ => fun _ _ _ _ _ => False
set_option maxRecDepth 100000 in
set_option maxHeartbeats 4000000 in
theorem met_X5_add {l : Launch} {D : va_G} {cy : Nat → ClassId} {ad : Nat → Nat} (hA : jA ad 46)  
    (hent : ∀ (p : Nat) (t : Int) (M0 : Mem), p_X5_add p t M0 → okM M0 → inR t → kdX p = 5 ∧ ((144 ≤ (M0 p 1) → (0 = 0 ∧ c_X5_add p t M0 0 M0)) ∧ (¬ 144 ≤ (M0 p 1) → (kdX p = 5 ∧ (kdX p = 5 ∧ (kdX (p + 1) = 21 ∧ (0 ≤ (M0 p 1) ∧ (M0 p 1) < ((lnX (p + 1) : Nat) : Int)) ∧ (kdX p = 5 ∧ (inR (((up M0 (p + 1) (M0 p 1).toNat t) p 1) + 1) ∧ (kdX p = 5 ∧ (0 = 0 ∧ c_X5_add p t M0 0 (up (up M0 (p + 1) (M0 p 1).toNat t) p 1 (((up M0 (p + 1) (M0 p 1).toNat t) p 1) + 1))))))))))))
    : OK_X5_add l D cy ad := by
  refine met_of (tb := tbX5_add) (ft := ftX5) (cst := cst0) (ct := ct_X5_add) (cuts := []) 19 (JA_X5_add ) hA jWX (by decide) tbX5_add_ok (by decide) ftX5_ok cst0_ok (ldc_of (tb := tbX5_add) (cst := cst0) (by decide)) rfl (fun q h => absurd h List.not_mem_nil) ?_ ?_ ?_
  · intro as M0 h
    unfold P_X5_add at h
    split at h
    · exact Nat.le_of_ble_eq_true rfl
    · exact h.elim
  · intro as M0 h hM has
    unfold P_X5_add at h
    split at h
    next p t => exact hent p t M0 h hM (has t (by simp))
    · exact h.elim
  · intro as M0 h hM has pc ls st M n hI hM1
    unfold P_X5_add at h
    split at h
    · exact hI.elim
    · exact h.elim
abbrev p_X5_takeOut (p : Nat) (k : Int) (M : Mem) : Prop := kdX p = 5 ∧ (0 ≤ k ∧ k < M p 1) ∧ M p 1 ≤ 144
abbrev c_X5_takeOut (p : Nat) (k : Int) (M : Mem) (x : Int) (M' : Mem) : Prop := x = M (p + 1) k.toNat ∧ M' = up (up M p 1 (M p 1 - 1)) (p + 1) k.toNat (M (p + 1) (M p 1 - 1).toNat)
def P_X5_takeOut (as : List AV) (M : Mem) : Prop := match as with
  | [.inr p, .inl k] => p_X5_takeOut p k M
  | _ => False
def C_X5_takeOut (as : List AV) (M : Mem) (x : Int) (M' : Mem) : Prop := match as with
  | [.inr p, .inl k] => c_X5_takeOut p k M x M'
  | _ => False
abbrev rm_X5_takeOut : Room := { frames := 0, cells := 0, slots := 0, locals := 0 }
abbrev OK_X5_takeOut (l : Launch) (D : va_G) (cy : Nat → ClassId) (ad : Nat → Nat) : Prop := MetA l D cy ad kdX lnX 46 yX5_takeOut cX5_takeOut 3 (some .int) rm_X5_takeOut 1 P_X5_takeOut C_X5_takeOut
theorem ca_X5_takeOut : CalV yX5_takeOut cX5_takeOut 3 (some .int) 1 := ⟨⟨wcX5_takeOut, wnX5, by decide +kernel, by decide +kernel, by decide +kernel⟩, wiX5_takeOut, wlX5_takeOut⟩
theorem rv_X5_takeOut : ∀ as M, P_X5_takeOut as M → ∃ a As q, as = .inr a :: As ∧ vwCl[kdX a]? = some q ∧ q.1 = yX5_takeOut.cls := by
  intro as M h
  unfold P_X5_takeOut at h
  split at h
  · exact ⟨_, _, (RX5, TX5, 2), rfl, by rw [h.1]; rfl, rfl⟩
  · exact h.elim
def ct_X5_takeOut : List (Nat × CS) := []
def J_X5_takeOut  (p : Nat) (k : Int) (M0 : Mem) : IT := fun pc ls st M μ => match pc, ls, st, M, μ with
  | _, _, _, _, _ => False
def JA_X5_takeOut  (as : List AV) (M0 : Mem) : IT := match as with
  | [.inr p, .inl k] => J_X5_takeOut  p k M0
  | _ => fun _ _ _ _ _ => False
set_option maxRecDepth 100000 in
set_option maxHeartbeats 4000000 in
theorem met_X5_takeOut {l : Launch} {D : va_G} {cy : Nat → ClassId} {ad : Nat → Nat} (hA : jA ad 46)  
    (hent : ∀ (p : Nat) (k : Int) (M0 : Mem), p_X5_takeOut p k M0 → okM M0 → inR k → kdX p = 5 ∧ (kdX (p + 1) = 21 ∧ (0 ≤ k ∧ k < ((lnX (p + 1) : Nat) : Int)) ∧ (kdX p = 5 ∧ (inR ((M0 p 1) - 1) ∧ (kdX p = 5 ∧ (kdX p = 5 ∧ (kdX p = 5 ∧ (kdX p = 5 ∧ (kdX (p + 1) = 21 ∧ (0 ≤ ((up M0 p 1 ((M0 p 1) - 1)) p 1) ∧ ((up M0 p 1 ((M0 p 1) - 1)) p 1) < ((lnX (p + 1) : Nat) : Int)) ∧ (kdX (p + 1) = 21 ∧ (0 ≤ k ∧ k < ((lnX (p + 1) : Nat) : Int)) ∧ ((True) ∧ c_X5_takeOut p k M0 (M0 (p + 1) (k).toNat) (up (up M0 p 1 ((M0 p 1) - 1)) (p + 1) (k).toNat ((up M0 p 1 ((M0 p 1) - 1)) (p + 1) ((up M0 p 1 ((M0 p 1) - 1)) p 1).toNat)))))))))))))
    : OK_X5_takeOut l D cy ad := by
  refine met_of (tb := tbX5_takeOut) (ft := ftX5) (cst := cst0) (ct := ct_X5_takeOut) (cuts := []) 24 (JA_X5_takeOut ) hA jWX (by decide) tbX5_takeOut_ok (by decide) ftX5_ok cst0_ok (ldc_of (tb := tbX5_takeOut) (cst := cst0) (by decide)) rfl (fun q h => absurd h List.not_mem_nil) ?_ ?_ ?_
  · intro as M0 h
    unfold P_X5_takeOut at h
    split at h
    · exact Nat.le_of_ble_eq_true rfl
    · exact h.elim
  · intro as M0 h hM has
    unfold P_X5_takeOut at h
    split at h
    next p k => exact hent p k M0 h hM (has k (by simp))
    · exact h.elim
  · intro as M0 h hM has pc ls st M n hI hM1
    unfold P_X5_takeOut at h
    split at h
    · exact hI.elim
    · exact h.elim
abbrev p_X3_tiles (p : Nat) (M : Mem) : Prop := kdX p = 3 ∧ p = 1 ∧ gB M
abbrev c_X3_tiles (p : Nat) (M : Mem) (x : Int) (M' : Mem) : Prop := x = M 1 4 * M 1 5 ∧ M' = M
def P_X3_tiles (as : List AV) (M : Mem) : Prop := match as with
  | [.inr p] => p_X3_tiles p M
  | _ => False
def C_X3_tiles (as : List AV) (M : Mem) (x : Int) (M' : Mem) : Prop := match as with
  | [.inr p] => c_X3_tiles p M x M'
  | _ => False
abbrev rm_X3_tiles : Room := { frames := 0, cells := 0, slots := 0, locals := 0 }
abbrev OK_X3_tiles (l : Launch) (D : va_G) (cy : Nat → ClassId) (ad : Nat → Nat) : Prop := MetA l D cy ad kdX lnX 46 yX3_tiles cX3_tiles 1 (some .int) rm_X3_tiles 1 P_X3_tiles C_X3_tiles
theorem ca_X3_tiles : CalV yX3_tiles cX3_tiles 1 (some .int) 0 := ⟨⟨wcX3_tiles, wnX3, by decide +kernel, by decide +kernel, by decide +kernel⟩, wiX3_tiles, wlX3_tiles⟩
theorem rv_X3_tiles : ∀ as M, P_X3_tiles as M → ∃ a As q, as = .inr a :: As ∧ vwCl[kdX a]? = some q ∧ q.1 = yX3_tiles.cls := by
  intro as M h
  unfold P_X3_tiles at h
  split at h
  · exact ⟨_, _, (RX3, TX3, 6), rfl, by rw [h.1]; rfl, rfl⟩
  · exact h.elim
def ct_X3_tiles : List (Nat × CS) := []
def J_X3_tiles  (p : Nat) (M0 : Mem) : IT := fun pc ls st M μ => match pc, ls, st, M, μ with
  | _, _, _, _, _ => False
def JA_X3_tiles  (as : List AV) (M0 : Mem) : IT := match as with
  | [.inr p] => J_X3_tiles  p M0
  | _ => fun _ _ _ _ _ => False
set_option maxRecDepth 100000 in
set_option maxHeartbeats 4000000 in
theorem met_X3_tiles {l : Launch} {D : va_G} {cy : Nat → ClassId} {ad : Nat → Nat} (hA : jA ad 46)  
    (hent : ∀ (p : Nat) (M0 : Mem), p_X3_tiles p M0 → okM M0 → kdX p = 3 ∧ (kdX p = 3 ∧ (inR ((M0 p 4) * (M0 p 5)) ∧ ((True) ∧ c_X3_tiles p M0 ((M0 p 4) * (M0 p 5)) M0))))
    : OK_X3_tiles l D cy ad := by
  refine met_of (tb := tbX3_tiles) (ft := ftX3) (cst := cst0) (ct := ct_X3_tiles) (cuts := []) 8 (JA_X3_tiles ) hA jWX (by decide) tbX3_tiles_ok (by decide) ftX3_ok cst0_ok (ldc_of (tb := tbX3_tiles) (cst := cst0) (by decide)) rfl (fun q h => absurd h List.not_mem_nil) ?_ ?_ ?_
  · intro as M0 h
    unfold P_X3_tiles at h
    split at h
    · exact Nat.le_of_ble_eq_true rfl
    · exact h.elim
  · intro as M0 h hM has
    unfold P_X3_tiles at h
    split at h
    next p => exact hent p M0 h hM
    · exact h.elim
  · intro as M0 h hM has pc ls st M n hI hM1
    unfold P_X3_tiles at h
    split at h
    · exact hI.elim
    · exact h.elim
