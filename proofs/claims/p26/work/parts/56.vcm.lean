abbrev p_X8_isSize (a : Int) (M : Mem) : Prop := True
abbrev c_X8_isSize (a : Int) (M : Mem) (x : Int) (M' : Mem) : Prop := x = (if 3 ≤ a ∧ a ≤ 12 then 1 else 0) ∧ M' = M
def P_X8_isSize (as : List AV) (M : Mem) : Prop := match as with
  | [.inl a] => p_X8_isSize a M
  | _ => False
def C_X8_isSize (as : List AV) (M : Mem) (x : Int) (M' : Mem) : Prop := match as with
  | [.inl a] => c_X8_isSize a M x M'
  | _ => False
abbrev rm_X8_isSize : Room := { frames := 0, cells := 0, slots := 0, locals := 0 }
abbrev OK_X8_isSize (l : Launch) (D : va_G) (cy : Nat → ClassId) (ad : Nat → Nat) : Prop := MetA l D cy ad kdX lnX 46 yX8_isSize cX8_isSize 1 (some .boolean) rm_X8_isSize 2 P_X8_isSize C_X8_isSize
theorem ca_X8_isSize : CalS yX8_isSize cX8_isSize 1 (some .boolean) 1 := ⟨⟨wcX8_isSize, wnX8, by decide +kernel, by decide +kernel, by decide +kernel⟩, wsX8_isSize⟩
def ct_X8_isSize : List (Nat × CS) := []
def J_X8_isSize  (a : Int) (M0 : Mem) : IT := fun pc ls st M μ => match pc, ls, st, M, μ with
  | _, _, _, _, _ => False
def JA_X8_isSize  (as : List AV) (M0 : Mem) : IT := match as with
  | [.inl a] => J_X8_isSize  a M0
  | _ => fun _ _ _ _ _ => False
set_option maxRecDepth 100000 in
set_option maxHeartbeats 4000000 in
theorem met_X8_isSize {l : Launch} {D : va_G} {cy : Nat → ClassId} {ad : Nat → Nat} (hA : jA ad 46)  
    (hent : ∀ (a : Int) (M0 : Mem), p_X8_isSize a M0 → okM M0 → inR a → (a < (3 : Int) → (((0 : Int) = 0 ∨ (0 : Int) = 1) ∧ c_X8_isSize a M0 0 M0)) ∧ (¬ a < (3 : Int) → (((12 : Int) < a → (((0 : Int) = 0 ∨ (0 : Int) = 1) ∧ c_X8_isSize a M0 0 M0)) ∧ (¬ (12 : Int) < a → (((1 : Int) = 0 ∨ (1 : Int) = 1) ∧ c_X8_isSize a M0 1 M0)))))
    : OK_X8_isSize l D cy ad := by
  refine met_of (tb := tbX8_isSize) (ft := ftX8) (cst := cst0) (ct := ct_X8_isSize) (cuts := []) 12 (JA_X8_isSize ) hA jWX (by decide) tbX8_isSize_ok (by decide) ftX8_ok cst0_ok (ldc_of (tb := tbX8_isSize) (cst := cst0) (by decide)) rfl (fun q h => absurd h List.not_mem_nil) ?_ ?_ ?_
  · intro as M0 h
    unfold P_X8_isSize at h
    split at h
    · exact Nat.le_of_ble_eq_true rfl
    · exact h.elim
  · intro as M0 h hM has
    unfold P_X8_isSize at h
    split at h
    next a => exact hent a M0 h hM (has a (by simp))
    · exact h.elim
  · intro as M0 h hM has pc ls st M n hI hM1
    unfold P_X8_isSize at h
    split at h
    · exact hI.elim
    · exact h.elim
abbrev p_X8_isKind (k : Int) (M : Mem) : Prop := True
abbrev c_X8_isKind (k : Int) (M : Mem) (x : Int) (M' : Mem) : Prop := x = (if 0 ≤ k ∧ k ≤ 5 then 1 else 0) ∧ M' = M
def P_X8_isKind (as : List AV) (M : Mem) : Prop := match as with
  | [.inl k] => p_X8_isKind k M
  | _ => False
def C_X8_isKind (as : List AV) (M : Mem) (x : Int) (M' : Mem) : Prop := match as with
  | [.inl k] => c_X8_isKind k M x M'
  | _ => False
abbrev rm_X8_isKind : Room := { frames := 0, cells := 0, slots := 0, locals := 0 }
abbrev OK_X8_isKind (l : Launch) (D : va_G) (cy : Nat → ClassId) (ad : Nat → Nat) : Prop := MetA l D cy ad kdX lnX 46 yX8_isKind cX8_isKind 1 (some .boolean) rm_X8_isKind 2 P_X8_isKind C_X8_isKind
theorem ca_X8_isKind : CalS yX8_isKind cX8_isKind 1 (some .boolean) 1 := ⟨⟨wcX8_isKind, wnX8, by decide +kernel, by decide +kernel, by decide +kernel⟩, wsX8_isKind⟩
def ct_X8_isKind : List (Nat × CS) := []
def J_X8_isKind  (k : Int) (M0 : Mem) : IT := fun pc ls st M μ => match pc, ls, st, M, μ with
  | _, _, _, _, _ => False
def JA_X8_isKind  (as : List AV) (M0 : Mem) : IT := match as with
  | [.inl k] => J_X8_isKind  k M0
  | _ => fun _ _ _ _ _ => False
set_option maxRecDepth 100000 in
set_option maxHeartbeats 4000000 in
theorem met_X8_isKind {l : Launch} {D : va_G} {cy : Nat → ClassId} {ad : Nat → Nat} (hA : jA ad 46)  
    (hent : ∀ (k : Int) (M0 : Mem), p_X8_isKind k M0 → okM M0 → inR k → (k < (0 : Int) → (((0 : Int) = 0 ∨ (0 : Int) = 1) ∧ c_X8_isKind k M0 0 M0)) ∧ (¬ k < (0 : Int) → (((6 : Int) ≤ k → (((0 : Int) = 0 ∨ (0 : Int) = 1) ∧ c_X8_isKind k M0 0 M0)) ∧ (¬ (6 : Int) ≤ k → (((1 : Int) = 0 ∨ (1 : Int) = 1) ∧ c_X8_isKind k M0 1 M0)))))
    : OK_X8_isKind l D cy ad := by
  refine met_of (tb := tbX8_isKind) (ft := ftX8) (cst := cst0) (ct := ct_X8_isKind) (cuts := []) 11 (JA_X8_isKind ) hA jWX (by decide) tbX8_isKind_ok (by decide) ftX8_ok cst0_ok (ldc_of (tb := tbX8_isKind) (cst := cst0) (by decide)) rfl (fun q h => absurd h List.not_mem_nil) ?_ ?_ ?_
  · intro as M0 h
    unfold P_X8_isKind at h
    split at h
    · exact Nat.le_of_ble_eq_true rfl
    · exact h.elim
  · intro as M0 h hM has
    unfold P_X8_isKind at h
    split at h
    next k => exact hent k M0 h hM (has k (by simp))
    · exact h.elim
  · intro as M0 h hM has pc ls st M n hI hM1
    unfold P_X8_isKind at h
    split at h
    · exact hI.elim
    · exact h.elim
abbrev p_X8_isDirection (d : Int) (M : Mem) : Prop := True
abbrev c_X8_isDirection (d : Int) (M : Mem) (x : Int) (M' : Mem) : Prop := x = (if 0 ≤ d ∧ d < 4 then 1 else 0) ∧ M' = M
def P_X8_isDirection (as : List AV) (M : Mem) : Prop := match as with
  | [.inl d] => p_X8_isDirection d M
  | _ => False
def C_X8_isDirection (as : List AV) (M : Mem) (x : Int) (M' : Mem) : Prop := match as with
  | [.inl d] => c_X8_isDirection d M x M'
  | _ => False
abbrev rm_X8_isDirection : Room := { frames := 0, cells := 0, slots := 0, locals := 0 }
abbrev OK_X8_isDirection (l : Launch) (D : va_G) (cy : Nat → ClassId) (ad : Nat → Nat) : Prop := MetA l D cy ad kdX lnX 46 yX8_isDirection cX8_isDirection 1 (some .boolean) rm_X8_isDirection 2 P_X8_isDirection C_X8_isDirection
theorem ca_X8_isDirection : CalS yX8_isDirection cX8_isDirection 1 (some .boolean) 1 := ⟨⟨wcX8_isDirection, wnX8, by decide +kernel, by decide +kernel, by decide +kernel⟩, wsX8_isDirection⟩
def ct_X8_isDirection : List (Nat × CS) := []
def J_X8_isDirection  (d : Int) (M0 : Mem) : IT := fun pc ls st M μ => match pc, ls, st, M, μ with
  | _, _, _, _, _ => False
def JA_X8_isDirection  (as : List AV) (M0 : Mem) : IT := match as with
  | [.inl d] => J_X8_isDirection  d M0
  | _ => fun _ _ _ _ _ => False
set_option maxRecDepth 100000 in
set_option maxHeartbeats 4000000 in
theorem met_X8_isDirection {l : Launch} {D : va_G} {cy : Nat → ClassId} {ad : Nat → Nat} (hA : jA ad 46)  
    (hent : ∀ (d : Int) (M0 : Mem), p_X8_isDirection d M0 → okM M0 → inR d → (d < (0 : Int) → (((0 : Int) = 0 ∨ (0 : Int) = 1) ∧ c_X8_isDirection d M0 0 M0)) ∧ (¬ d < (0 : Int) → (((4 : Int) ≤ d → (((0 : Int) = 0 ∨ (0 : Int) = 1) ∧ c_X8_isDirection d M0 0 M0)) ∧ (¬ (4 : Int) ≤ d → (((1 : Int) = 0 ∨ (1 : Int) = 1) ∧ c_X8_isDirection d M0 1 M0)))))
    : OK_X8_isDirection l D cy ad := by
  refine met_of (tb := tbX8_isDirection) (ft := ftX8) (cst := cst0) (ct := ct_X8_isDirection) (cuts := []) 11 (JA_X8_isDirection ) hA jWX (by decide) tbX8_isDirection_ok (by decide) ftX8_ok cst0_ok (ldc_of (tb := tbX8_isDirection) (cst := cst0) (by decide)) rfl (fun q h => absurd h List.not_mem_nil) ?_ ?_ ?_
  · intro as M0 h
    unfold P_X8_isDirection at h
    split at h
    · exact Nat.le_of_ble_eq_true rfl
    · exact h.elim
  · intro as M0 h hM has
    unfold P_X8_isDirection at h
    split at h
    next d => exact hent d M0 h hM (has d (by simp))
    · exact h.elim
  · intro as M0 h hM has pc ls st M n hI hM1
    unfold P_X8_isDirection at h
    split at h
    · exact hI.elim
    · exact h.elim
abbrev p_X8_beginAnew (p : Nat) (a : Int) (b : Int) (M : Mem) : Prop := kdX p = 8 ∧ p = 0 ∧ (3 ≤ a ∧ a ≤ 12) ∧ (3 ≤ b ∧ b ≤ 12) ∧ ((M 0 6 = 30 ∧ M 0 7 = 38) ∨ (M 0 6 = 38 ∧ M 0 7 = 30))
abbrev c_X8_beginAnew (p : Nat) (a : Int) (b : Int) (M : Mem) (x : Int) (M' : Mem) : Prop := kin M' (fun _ => 0) ∧ surf M' ∧ (gX M' 0 = a ∧ gX M' 1 = b ∧ gX M' 2 = 0 ∧ gX M' 3 = 0 ∧ gX M' 4 = 0 ∧ gX M' 5 = 0) ∧ (∀ k : Nat, k < 6 → M' 8 k = 1) ∧ (M' 16 1 = 0 ∧ M' 16 2 = 0) ∧ partsOK (M 0 6).toNat M' (gX M') (fun _ => 0) ∧ M' 0 = M 0 ∧ M' 12 = M 12 ∧ M' 13 = M 13
def P_X8_beginAnew (as : List AV) (M : Mem) : Prop := match as with
  | [.inr p, .inl a, .inl b] => p_X8_beginAnew p a b M
  | _ => False
def C_X8_beginAnew (as : List AV) (M : Mem) (x : Int) (M' : Mem) : Prop := match as with
  | [.inr p, .inl a, .inl b] => c_X8_beginAnew p a b M x M'
  | _ => False
abbrev rm_X8_beginAnew : Room := { frames := 5, cells := 0, slots := 0, locals := 112 }
abbrev OK_X8_beginAnew (l : Launch) (D : va_G) (cy : Nat → ClassId) (ad : Nat → Nat) : Prop := MetA l D cy ad kdX lnX 46 yX8_beginAnew cX8_beginAnew 4 none rm_X8_beginAnew 0 P_X8_beginAnew C_X8_beginAnew
theorem ca_X8_beginAnew : CalV yX8_beginAnew cX8_beginAnew 4 none 2 := ⟨⟨wcX8_beginAnew, wnX8, by decide +kernel, by decide +kernel, by decide +kernel⟩, wiX8_beginAnew, wlX8_beginAnew⟩
theorem rv_X8_beginAnew : ∀ as M, P_X8_beginAnew as M → ∃ a As q, as = .inr a :: As ∧ vwCl[kdX a]? = some q ∧ q.1 = yX8_beginAnew.cls := by
  intro as M h
  unfold P_X8_beginAnew at h
  split at h
  · exact ⟨_, _, (RX8, TX8, 8), rfl, by rw [h.1]; rfl, rfl⟩
  · exact h.elim
def ct_X8_beginAnew : List (Nat × CS) := [(28, (3, 0, P_X3_begin, C_X3_begin)), (35, (1, 0, P_X7_levelWeights, C_X7_levelWeights)), (42, (1, 0, P_X0_forget, C_X0_forget)), (49, (1, 0, P_X1_find, C_X1_find))]
def J_X8_beginAnew (I2 : Nat → Int → Int → Mem → Int → Mem → Nat → Prop) (p : Nat) (a : Int) (b : Int) (M0 : Mem) : IT := fun pc ls st M μ => match pc, ls, st, M, μ with
  | 2, [some (.inr p_), some (.inl a_), some (.inl b_), some (.inl k)], [], M, μ => p = p_ ∧ a = a_ ∧ b = b_ ∧ I2 p a b M0 k M μ
  | _, _, _, _, _ => False
def JA_X8_beginAnew (I2 : Nat → Int → Int → Mem → Int → Mem → Nat → Prop) (as : List AV) (M0 : Mem) : IT := match as with
  | [.inr p, .inl a, .inl b] => J_X8_beginAnew I2 p a b M0
  | _ => fun _ _ _ _ _ => False
theorem si_X8_beginAnew_28 {l : Launch} {D : va_G} {cy : Nat → ClassId} {ad : Nat → Nat} (o : OK_X3_begin l D cy ad) : Site l D cy ad kdX lnX 46 yX8_beginAnew.cls tbX8_beginAnew rm_X8_beginAnew 28 (3, 0, P_X3_begin, C_X3_begin) := Or.inl ⟨203, 2, yX3_begin, cX3_begin, 3, none, rm_X3_begin, rfl, rfl, o, ca_X3_begin, mkX8_203, ⟨rfl, rfl, by decide, by decide⟩, rv_X3_begin⟩
theorem si_X8_beginAnew_35 {l : Launch} {D : va_G} {cy : Nat → ClassId} {ad : Nat → Nat} (o : OK_X7_levelWeights l D cy ad) : Site l D cy ad kdX lnX 46 yX8_beginAnew.cls tbX8_beginAnew rm_X8_beginAnew 35 (1, 0, P_X7_levelWeights, C_X7_levelWeights) := Or.inl ⟨206, 0, yX7_levelWeights, cX7_levelWeights, 2, none, rm_X7_levelWeights, rfl, rfl, o, ca_X7_levelWeights, mkX8_206, ⟨rfl, rfl, by decide, by decide⟩, rv_X7_levelWeights⟩
theorem si_X8_beginAnew_42 {l : Launch} {D : va_G} {cy : Nat → ClassId} {ad : Nat → Nat} (o : OK_X0_forget l D cy ad) : Site l D cy ad kdX lnX 46 yX8_beginAnew.cls tbX8_beginAnew rm_X8_beginAnew 42 (1, 0, P_X0_forget, C_X0_forget) := Or.inl ⟨209, 0, yX0_forget, cX0_forget, 1, none, rm_X0_forget, rfl, rfl, o, ca_X0_forget, mkX8_209, ⟨rfl, rfl, by decide, by decide⟩, rv_X0_forget⟩
theorem si_X8_beginAnew_49 {l : Launch} {D : va_G} {cy : Nat → ClassId} {ad : Nat → Nat} (o : OK_X1_find l D cy ad) : Site l D cy ad kdX lnX 46 yX8_beginAnew.cls tbX8_beginAnew rm_X8_beginAnew 49 (1, 0, P_X1_find, C_X1_find) := Or.inl ⟨177, 0, yX1_find, cX1_find, 2, none, rm_X1_find, rfl, rfl, o, ca_X1_find, mkX8_177, ⟨rfl, rfl, by decide, by decide⟩, rv_X1_find⟩
set_option maxRecDepth 100000 in
set_option maxHeartbeats 4000000 in
theorem met_X8_beginAnew {l : Launch} {D : va_G} {cy : Nat → ClassId} {ad : Nat → Nat} (hA : jA ad 46) (o_X0_forget : OK_X0_forget l D cy ad) (o_X1_find : OK_X1_find l D cy ad) (o_X3_begin : OK_X3_begin l D cy ad) (o_X7_levelWeights : OK_X7_levelWeights l D cy ad) (I2 : Nat → Int → Int → Mem → Int → Mem → Nat → Prop)
    (hent : ∀ (p : Nat) (a : Int) (b : Int) (M0 : Mem), p_X8_beginAnew p a b M0 → okM M0 → inR a → inR b → ∃ μ : Nat, p = p ∧ a = a ∧ b = b ∧ I2 p a b M0 0 M0 μ)
    (hc2 : ∀ (p : Nat) (a : Int) (b : Int) (M0 : Mem), p_X8_beginAnew p a b M0 → okM M0 → inR a → inR b → ∀ (k : Int) (M : Mem) (n : Nat), I2 p a b M0 k M n → okM M → ((144 : Int) ≤ k → (kdX p = 8 ∧ (p_X3_begin 1 a b M ∧ ∀ (x2 : Int) (M1 : Mem), inR x2 → okM M1 → c_X3_begin 1 a b M x2 M1 → (kdX p = 8 ∧ (p_X7_levelWeights 7 M1 ∧ ∀ (x4 : Int) (M3 : Mem), inR x4 → okM M3 → c_X7_levelWeights 7 M1 x4 M3 → (kdX p = 8 ∧ (p_X0_forget 16 M3 ∧ ∀ (x6 : Int) (M5 : Mem), inR x6 → okM M5 → c_X0_forget 16 M3 x6 M5 → (kdX p = 8 ∧ (p_X1_find ((M5 p 6).toNat) M5 ∧ ∀ (x8 : Int) (M7 : Mem), inR x8 → okM M7 → c_X1_find ((M5 p 6).toNat) M5 x8 M7 → (0 = 0 ∧ c_X8_beginAnew p a b M0 0 M7)))))))))) ∧ (¬ (144 : Int) ≤ k → (kdX p = 8 ∧ (kdX 6 = 21 ∧ (0 ≤ k ∧ k < 144) ∧ (inR (k + 1) ∧ (∃ μ : Nat, μ < n ∧ p = p ∧ a = a ∧ b = b ∧ I2 p a b M0 (k + 1) (up M 6 (k).toNat 0) μ))))))
    : OK_X8_beginAnew l D cy ad := by
  refine met_of (tb := tbX8_beginAnew) (ft := ftX8) (cst := cst0) (ct := ct_X8_beginAnew) (cuts := [2]) 29 (JA_X8_beginAnew I2) hA jWX (by decide) tbX8_beginAnew_ok (by decide) ftX8_ok cst0_ok (ldc_of (tb := tbX8_beginAnew) (cst := cst0) (by decide)) rfl (List.forall_mem_cons.mpr ⟨si_X8_beginAnew_28 o_X3_begin, List.forall_mem_cons.mpr ⟨si_X8_beginAnew_35 o_X7_levelWeights, List.forall_mem_cons.mpr ⟨si_X8_beginAnew_42 o_X0_forget, List.forall_mem_cons.mpr ⟨si_X8_beginAnew_49 o_X1_find, fun q h => absurd h List.not_mem_nil⟩⟩⟩⟩) ?_ ?_ ?_
  · intro as M0 h
    unfold P_X8_beginAnew at h
    split at h
    · exact Nat.le_of_ble_eq_true rfl
    · exact h.elim
  · intro as M0 h hM has
    unfold P_X8_beginAnew at h
    split at h
    next p a b => exact hent p a b M0 h hM (has a (by simp)) (has b (by simp))
    · exact h.elim
  · intro as M0 h hM has pc ls st M n hI hM1
    unfold P_X8_beginAnew at h
    split at h
    next p a b =>
      unfold JA_X8_beginAnew J_X8_beginAnew at hI
      dsimp only at hI
      split at hI
      ·
        obtain ⟨rfl, rfl, rfl, hI⟩ := hI
        exact hc2 _ _ _ _ h hM (has _ (by simp)) (has _ (by simp)) _ _ _ hI hM1
      · exact hI.elim
    · exact h.elim
abbrev p_X8_repairParts (p : Nat) (M : Mem) : Prop := kdX p = 8 ∧ p = 0 ∧ surf M ∧ ((M 0 6 = 30 ∧ M 0 7 = 38) ∨ (M 0 6 = 38 ∧ M 0 7 = 30))
abbrev c_X8_repairParts (p : Nat) (M : Mem) (x : Int) (M' : Mem) : Prop := (∀ κ, kin M κ → partsOK (M 0 7).toNat M' (gX M) κ) ∧ M' 0 6 = M 0 7 ∧ M' 0 7 = M 0 6 ∧ (∀ b, b ≠ 0 → (b < (M 0 7).toNat ∨ (M 0 7).toNat + 7 < b) → M' b = M b)
def P_X8_repairParts (as : List AV) (M : Mem) : Prop := match as with
  | [.inr p] => p_X8_repairParts p M
  | _ => False
def C_X8_repairParts (as : List AV) (M : Mem) (x : Int) (M' : Mem) : Prop := match as with
  | [.inr p] => c_X8_repairParts p M x M'
  | _ => False
abbrev rm_X8_repairParts : Room := { frames := 5, cells := 0, slots := 0, locals := 112 }
abbrev OK_X8_repairParts (l : Launch) (D : va_G) (cy : Nat → ClassId) (ad : Nat → Nat) : Prop := MetA l D cy ad kdX lnX 46 yX8_repairParts cX8_repairParts 2 none rm_X8_repairParts 0 P_X8_repairParts C_X8_repairParts
theorem ca_X8_repairParts : CalV yX8_repairParts cX8_repairParts 2 none 0 := ⟨⟨wcX8_repairParts, wnX8, by decide +kernel, by decide +kernel, by decide +kernel⟩, wiX8_repairParts, wlX8_repairParts⟩
theorem rv_X8_repairParts : ∀ as M, P_X8_repairParts as M → ∃ a As q, as = .inr a :: As ∧ vwCl[kdX a]? = some q ∧ q.1 = yX8_repairParts.cls := by
  intro as M h
  unfold P_X8_repairParts at h
  split at h
  · exact ⟨_, _, (RX8, TX8, 8), rfl, by rw [h.1]; rfl, rfl⟩
  · exact h.elim
def ct_X8_repairParts : List (Nat × CS) := [(22, (1, 0, P_X1_find, C_X1_find))]
def J_X8_repairParts  (p : Nat) (M0 : Mem) : IT := fun pc ls st M μ => match pc, ls, st, M, μ with
  | _, _, _, _, _ => False
def JA_X8_repairParts  (as : List AV) (M0 : Mem) : IT := match as with
  | [.inr p] => J_X8_repairParts  p M0
  | _ => fun _ _ _ _ _ => False
theorem si_X8_repairParts_22 {l : Launch} {D : va_G} {cy : Nat → ClassId} {ad : Nat → Nat} (o : OK_X1_find l D cy ad) : Site l D cy ad kdX lnX 46 yX8_repairParts.cls tbX8_repairParts rm_X8_repairParts 22 (1, 0, P_X1_find, C_X1_find) := Or.inl ⟨177, 0, yX1_find, cX1_find, 2, none, rm_X1_find, rfl, rfl, o, ca_X1_find, mkX8_177, ⟨rfl, rfl, by decide, by decide⟩, rv_X1_find⟩
set_option maxRecDepth 100000 in
set_option maxHeartbeats 4000000 in
theorem met_X8_repairParts {l : Launch} {D : va_G} {cy : Nat → ClassId} {ad : Nat → Nat} (hA : jA ad 46) (o_X1_find : OK_X1_find l D cy ad) 
    (hent : ∀ (p : Nat) (M0 : Mem), p_X8_repairParts p M0 → okM M0 → kdX p = 8 ∧ (kdX p = 8 ∧ (kdX p = 8 ∧ kdX (M0 p 7).toNat = 1 ∧ (M0 p 7).toNat < 100 ∧ (kdX p = 8 ∧ kdX (M0 p 6).toNat = 1 ∧ (M0 p 6).toNat < 100 ∧ (kdX p = 8 ∧ (p_X1_find ((up (up M0 p 6 (((M0 p 7).toNat : Nat) : Int)) p 7 (((M0 p 6).toNat : Nat) : Int) p 6).toNat) (up (up M0 p 6 (((M0 p 7).toNat : Nat) : Int)) p 7 (((M0 p 6).toNat : Nat) : Int)) ∧ ∀ (x2 : Int) (M1 : Mem), inR x2 → okM M1 → c_X1_find ((up (up M0 p 6 (((M0 p 7).toNat : Nat) : Int)) p 7 (((M0 p 6).toNat : Nat) : Int) p 6).toNat) (up (up M0 p 6 (((M0 p 7).toNat : Nat) : Int)) p 7 (((M0 p 6).toNat : Nat) : Int)) x2 M1 → (0 = 0 ∧ c_X8_repairParts p M0 0 M1)))))))
    : OK_X8_repairParts l D cy ad := by
  refine met_of (tb := tbX8_repairParts) (ft := ftX8) (cst := cst0) (ct := ct_X8_repairParts) (cuts := []) 16 (JA_X8_repairParts ) hA jWX (by decide) tbX8_repairParts_ok (by decide) ftX8_ok cst0_ok (ldc_of (tb := tbX8_repairParts) (cst := cst0) (by decide)) rfl (List.forall_mem_cons.mpr ⟨si_X8_repairParts_22 o_X1_find, fun q h => absurd h List.not_mem_nil⟩) ?_ ?_ ?_
  · intro as M0 h
    unfold P_X8_repairParts at h
    split at h
    · exact Nat.le_of_ble_eq_true rfl
    · exact h.elim
  · intro as M0 h hM has
    unfold P_X8_repairParts at h
    split at h
    next p => exact hent p M0 h hM
    · exact h.elim
  · intro as M0 h hM has pc ls st M n hI hM1
    unfold P_X8_repairParts at h
    split at h
    · exact hI.elim
    · exact h.elim
abbrev p_X8_takeKindsFromText (p : Nat) (M : Mem) : Prop := kdX p = 8 ∧ p = 0 ∧ surf M ∧ ∀ j : Nat, (j : Int) < gX M 1 * (gX M 0 + 1) - 1 → 0 ≤ M 13 j
abbrev c_X8_takeKindsFromText (p : Nat) (M : Mem) (x : Int) (M' : Mem) : Prop := (∀ t : Nat, M' 6 t = if t < nT (gX M) then M 13 (tix (gX M 0) t) - 48 else M 6 t) ∧ x = sumF (fun t => if M 13 (tix (gX M 0) t) - 48 = M 6 t then 0 else 1) (nT (gX M)) ∧ (∀ b, b ≠ 6 → M' b = M b)
def P_X8_takeKindsFromText (as : List AV) (M : Mem) : Prop := match as with
  | [.inr p] => p_X8_takeKindsFromText p M
  | _ => False
def C_X8_takeKindsFromText (as : List AV) (M : Mem) (x : Int) (M' : Mem) : Prop := match as with
  | [.inr p] => c_X8_takeKindsFromText p M x M'
  | _ => False
abbrev rm_X8_takeKindsFromText : Room := { frames := 1, cells := 0, slots := 0, locals := 23 }
abbrev OK_X8_takeKindsFromText (l : Launch) (D : va_G) (cy : Nat → ClassId) (ad : Nat → Nat) : Prop := MetA l D cy ad kdX lnX 46 yX8_takeKindsFromText cX8_takeKindsFromText 6 (some .int) rm_X8_takeKindsFromText 1 P_X8_takeKindsFromText C_X8_takeKindsFromText
theorem ca_X8_takeKindsFromText : CalV yX8_takeKindsFromText cX8_takeKindsFromText 6 (some .int) 0 := ⟨⟨wcX8_takeKindsFromText, wnX8, by decide +kernel, by decide +kernel, by decide +kernel⟩, wiX8_takeKindsFromText, wlX8_takeKindsFromText⟩
theorem rv_X8_takeKindsFromText : ∀ as M, P_X8_takeKindsFromText as M → ∃ a As q, as = .inr a :: As ∧ vwCl[kdX a]? = some q ∧ q.1 = yX8_takeKindsFromText.cls := by
  intro as M h
  unfold P_X8_takeKindsFromText at h
  split at h
  · exact ⟨_, _, (RX8, TX8, 8), rfl, by rw [h.1]; rfl, rfl⟩
  · exact h.elim
def ct_X8_takeKindsFromText : List (Nat × CS) := [(11, (1, 1, P_X3_rows, C_X3_rows)), (26, (1, 1, P_X3_columns, C_X3_columns)), (43, (1, 1, P_X3_columns, C_X3_columns)), (46, (4, 1, P_X4_kindAt, C_X4_kindAt))]
def J_X8_takeKindsFromText (I6 : Nat → Mem → Int → Int → Int → Mem → Nat → Prop) (I20 : Nat → Mem → Int → Int → Int → Int → Mem → Nat → Prop) (p : Nat) (M0 : Mem) : IT := fun pc ls st M μ => match pc, ls, st, M, μ with
  | 6, [some (.inr p_), some (.inl c), some (.inl t), some (.inl r), _, _], [], M, μ => p = p_ ∧ I6 p M0 c t r M μ
  | 20, [some (.inr p_), some (.inl c), some (.inl t), some (.inl r), some (.inl y), _], [], M, μ => p = p_ ∧ I20 p M0 c t r y M μ
  | _, _, _, _, _ => False
def JA_X8_takeKindsFromText (I6 : Nat → Mem → Int → Int → Int → Mem → Nat → Prop) (I20 : Nat → Mem → Int → Int → Int → Int → Mem → Nat → Prop) (as : List AV) (M0 : Mem) : IT := match as with
  | [.inr p] => J_X8_takeKindsFromText I6 I20 p M0
  | _ => fun _ _ _ _ _ => False
theorem si_X8_takeKindsFromText_11 {l : Launch} {D : va_G} {cy : Nat → ClassId} {ad : Nat → Nat} (o : OK_X3_rows l D cy ad) : Site l D cy ad kdX lnX 46 yX8_takeKindsFromText.cls tbX8_takeKindsFromText rm_X8_takeKindsFromText 11 (1, 1, P_X3_rows, C_X3_rows) := Or.inl ⟨77, 0, yX3_rows, cX3_rows, 1, (some .int), rm_X3_rows, rfl, rfl, o, ca_X3_rows, mkX8_77, ⟨rfl, rfl, by decide, by decide⟩, rv_X3_rows⟩
theorem si_X8_takeKindsFromText_26 {l : Launch} {D : va_G} {cy : Nat → ClassId} {ad : Nat → Nat} (o : OK_X3_columns l D cy ad) : Site l D cy ad kdX lnX 46 yX8_takeKindsFromText.cls tbX8_takeKindsFromText rm_X8_takeKindsFromText 26 (1, 1, P_X3_columns, C_X3_columns) := Or.inl ⟨74, 0, yX3_columns, cX3_columns, 1, (some .int), rm_X3_columns, rfl, rfl, o, ca_X3_columns, mkX8_74, ⟨rfl, rfl, by decide, by decide⟩, rv_X3_columns⟩
theorem si_X8_takeKindsFromText_43 {l : Launch} {D : va_G} {cy : Nat → ClassId} {ad : Nat → Nat} (o : OK_X3_columns l D cy ad) : Site l D cy ad kdX lnX 46 yX8_takeKindsFromText.cls tbX8_takeKindsFromText rm_X8_takeKindsFromText 43 (1, 1, P_X3_columns, C_X3_columns) := Or.inl ⟨74, 0, yX3_columns, cX3_columns, 1, (some .int), rm_X3_columns, rfl, rfl, o, ca_X3_columns, mkX8_74, ⟨rfl, rfl, by decide, by decide⟩, rv_X3_columns⟩
theorem si_X8_takeKindsFromText_46 {l : Launch} {D : va_G} {cy : Nat → ClassId} {ad : Nat → Nat} (o : OK_X4_kindAt l D cy ad) : Site l D cy ad kdX lnX 46 yX8_takeKindsFromText.cls tbX8_takeKindsFromText rm_X8_takeKindsFromText 46 (4, 1, P_X4_kindAt, C_X4_kindAt) := Or.inl ⟨212, 3, yX4_kindAt, cX4_kindAt, 4, (some .int), rm_X4_kindAt, rfl, rfl, o, ca_X4_kindAt, mkX8_212, ⟨rfl, rfl, by decide, by decide⟩, rv_X4_kindAt⟩
set_option maxRecDepth 100000 in
set_option maxHeartbeats 4000000 in
theorem met_X8_takeKindsFromText {l : Launch} {D : va_G} {cy : Nat → ClassId} {ad : Nat → Nat} (hA : jA ad 46) (o_X3_columns : OK_X3_columns l D cy ad) (o_X3_rows : OK_X3_rows l D cy ad) (o_X4_kindAt : OK_X4_kindAt l D cy ad) (I6 : Nat → Mem → Int → Int → Int → Mem → Nat → Prop) (I20 : Nat → Mem → Int → Int → Int → Int → Mem → Nat → Prop)
    (hent : ∀ (p : Nat) (M0 : Mem), p_X8_takeKindsFromText p M0 → okM M0 → ∃ μ : Nat, p = p ∧ I6 p M0 0 0 0 M0 μ)
    (hc6 : ∀ (p : Nat) (M0 : Mem), p_X8_takeKindsFromText p M0 → okM M0 → ∀ (c : Int) (t : Int) (r : Int) (M : Mem) (n : Nat), I6 p M0 c t r M n → okM M → kdX p = 8 ∧ (p_X3_rows 1 M ∧ ∀ (x2 : Int) (M1 : Mem), inR x2 → okM M1 → c_X3_rows 1 M x2 M1 → ((x2 ≤ r → ((True) ∧ c_X8_takeKindsFromText p M0 c M1)) ∧ (¬ x2 ≤ r → (∃ μ : Nat, μ < n ∧ p = p ∧ I20 p M0 c t r 0 M1 μ)))))
    (hc20 : ∀ (p : Nat) (M0 : Mem), p_X8_takeKindsFromText p M0 → okM M0 → ∀ (c : Int) (t : Int) (r : Int) (y : Int) (M : Mem) (n : Nat), I20 p M0 c t r y M n → okM M → kdX p = 8 ∧ (p_X3_columns 1 M ∧ ∀ (x2 : Int) (M1 : Mem), inR x2 → okM M1 → c_X3_columns 1 M x2 M1 → ((x2 ≤ y → (inR (r + 1) ∧ (∃ μ : Nat, μ < n ∧ p = p ∧ I6 p M0 c t (r + 1) M1 μ))) ∧ (¬ x2 ≤ y → (kdX p = 8 ∧ (kdX p = 8 ∧ (p_X3_columns 1 M1 ∧ ∀ (x4 : Int) (M3 : Mem), inR x4 → okM M3 → c_X3_columns 1 M1 x4 M3 → (p_X4_kindAt 12 y r x4 M3 ∧ ∀ (x6 : Int) (M5 : Mem), inR x6 → okM M5 → c_X4_kindAt 12 y r x4 M3 x6 M5 → (kdX p = 8 ∧ (kdX 6 = 21 ∧ (0 ≤ t ∧ t < 144) ∧ (((M5 6 (t).toNat) = x6 → (inR (t + 1) ∧ (inR (y + 1) ∧ (∃ μ : Nat, μ < n ∧ p = p ∧ I20 p M0 c (t + 1) r (y + 1) M5 μ)))) ∧ (¬ (M5 6 (t).toNat) = x6 → (kdX p = 8 ∧ (kdX 6 = 21 ∧ (0 ≤ t ∧ t < 144) ∧ (inR (c + 1) ∧ (inR (t + 1) ∧ (inR (y + 1) ∧ (∃ μ : Nat, μ < n ∧ p = p ∧ I20 p M0 (c + 1) (t + 1) r (y + 1) (up M5 6 (t).toNat x6) μ))))))))))))))))))
    : OK_X8_takeKindsFromText l D cy ad := by
  refine met_of (tb := tbX8_takeKindsFromText) (ft := ftX8) (cst := cst0) (ct := ct_X8_takeKindsFromText) (cuts := [6, 20]) 48 (JA_X8_takeKindsFromText I6 I20) hA jWX (by decide) tbX8_takeKindsFromText_ok (by decide) ftX8_ok cst0_ok (ldc_of (tb := tbX8_takeKindsFromText) (cst := cst0) (by decide)) rfl (List.forall_mem_cons.mpr ⟨si_X8_takeKindsFromText_11 o_X3_rows, List.forall_mem_cons.mpr ⟨si_X8_takeKindsFromText_26 o_X3_columns, List.forall_mem_cons.mpr ⟨si_X8_takeKindsFromText_43 o_X3_columns, List.forall_mem_cons.mpr ⟨si_X8_takeKindsFromText_46 o_X4_kindAt, fun q h => absurd h List.not_mem_nil⟩⟩⟩⟩) ?_ ?_ ?_
  · intro as M0 h
    unfold P_X8_takeKindsFromText at h
    split at h
    · exact Nat.le_of_ble_eq_true rfl
    · exact h.elim
  · intro as M0 h hM has
    unfold P_X8_takeKindsFromText at h
    split at h
    next p => exact hent p M0 h hM
    · exact h.elim
  · intro as M0 h hM has pc ls st M n hI hM1
    unfold P_X8_takeKindsFromText at h
    split at h
    next p =>
      unfold JA_X8_takeKindsFromText J_X8_takeKindsFromText at hI
      dsimp only at hI
      split at hI
      ·
        obtain ⟨rfl, hI⟩ := hI
        exact hc6 _ _ h hM _ _ _ _ _ hI hM1
      ·
        obtain ⟨rfl, hI⟩ := hI
        exact hc20 _ _ h hM _ _ _ _ _ _ hI hM1
      · exact hI.elim
    · exact h.elim
abbrev p_X8_giveKindToPart (p : Nat) (f : Int) (k : Int) (M : Mem) : Prop := kdX p = 8 ∧ p = 0 ∧ surf M ∧ ((M 0 6 = 30 ∧ M 0 7 = 38) ∨ (M 0 6 = 38 ∧ M 0 7 = 30))
abbrev c_X8_giveKindToPart (p : Nat) (f : Int) (k : Int) (M : Mem) (x : Int) (M' : Mem) : Prop := (∀ L, labR (M 0 6).toNat M L → ∀ t : Nat, M' 6 t = if t < nT (gX M) ∧ L t = f then k else M 6 t) ∧ (∀ b, b ≠ 6 → M' b = M b)
def P_X8_giveKindToPart (as : List AV) (M : Mem) : Prop := match as with
  | [.inr p, .inl f, .inl k] => p_X8_giveKindToPart p f k M
  | _ => False
def C_X8_giveKindToPart (as : List AV) (M : Mem) (x : Int) (M' : Mem) : Prop := match as with
  | [.inr p, .inl f, .inl k] => c_X8_giveKindToPart p f k M x M'
  | _ => False
abbrev rm_X8_giveKindToPart : Room := { frames := 1, cells := 0, slots := 0, locals := 21 }
abbrev OK_X8_giveKindToPart (l : Launch) (D : va_G) (cy : Nat → ClassId) (ad : Nat → Nat) : Prop := MetA l D cy ad kdX lnX 46 yX8_giveKindToPart cX8_giveKindToPart 4 none rm_X8_giveKindToPart 0 P_X8_giveKindToPart C_X8_giveKindToPart
theorem ca_X8_giveKindToPart : CalV yX8_giveKindToPart cX8_giveKindToPart 4 none 2 := ⟨⟨wcX8_giveKindToPart, wnX8, by decide +kernel, by decide +kernel, by decide +kernel⟩, wiX8_giveKindToPart, wlX8_giveKindToPart⟩
theorem rv_X8_giveKindToPart : ∀ as M, P_X8_giveKindToPart as M → ∃ a As q, as = .inr a :: As ∧ vwCl[kdX a]? = some q ∧ q.1 = yX8_giveKindToPart.cls := by
  intro as M h
  unfold P_X8_giveKindToPart at h
  split at h
  · exact ⟨_, _, (RX8, TX8, 8), rfl, by rw [h.1]; rfl, rfl⟩
  · exact h.elim
def ct_X8_giveKindToPart : List (Nat × CS) := [(7, (1, 1, P_X3_tiles, C_X3_tiles)), (18, (2, 1, P_X1_labelOf, C_X1_labelOf))]
def J_X8_giveKindToPart (I2 : Nat → Int → Int → Mem → Int → Mem → Nat → Prop) (p : Nat) (f : Int) (k : Int) (M0 : Mem) : IT := fun pc ls st M μ => match pc, ls, st, M, μ with
  | 2, [some (.inr p_), some (.inl f_), some (.inl k_), some (.inl t)], [], M, μ => p = p_ ∧ f = f_ ∧ k = k_ ∧ I2 p f k M0 t M μ
  | _, _, _, _, _ => False
def JA_X8_giveKindToPart (I2 : Nat → Int → Int → Mem → Int → Mem → Nat → Prop) (as : List AV) (M0 : Mem) : IT := match as with
  | [.inr p, .inl f, .inl k] => J_X8_giveKindToPart I2 p f k M0
  | _ => fun _ _ _ _ _ => False
theorem si_X8_giveKindToPart_7 {l : Launch} {D : va_G} {cy : Nat → ClassId} {ad : Nat → Nat} (o : OK_X3_tiles l D cy ad) : Site l D cy ad kdX lnX 46 yX8_giveKindToPart.cls tbX8_giveKindToPart rm_X8_giveKindToPart 7 (1, 1, P_X3_tiles, C_X3_tiles) := Or.inl ⟨70, 0, yX3_tiles, cX3_tiles, 1, (some .int), rm_X3_tiles, rfl, rfl, o, ca_X3_tiles, mkX8_70, ⟨rfl, rfl, by decide, by decide⟩, rv_X3_tiles⟩
theorem si_X8_giveKindToPart_18 {l : Launch} {D : va_G} {cy : Nat → ClassId} {ad : Nat → Nat} (o : OK_X1_labelOf l D cy ad) : Site l D cy ad kdX lnX 46 yX8_giveKindToPart.cls tbX8_giveKindToPart rm_X8_giveKindToPart 18 (2, 1, P_X1_labelOf, C_X1_labelOf) := Or.inl ⟨156, 1, yX1_labelOf, cX1_labelOf, 2, (some .int), rm_X1_labelOf, rfl, rfl, o, ca_X1_labelOf, mkX8_156, ⟨rfl, rfl, by decide, by decide⟩, rv_X1_labelOf⟩
set_option maxRecDepth 100000 in
set_option maxHeartbeats 4000000 in
theorem met_X8_giveKindToPart {l : Launch} {D : va_G} {cy : Nat → ClassId} {ad : Nat → Nat} (hA : jA ad 46) (o_X1_labelOf : OK_X1_labelOf l D cy ad) (o_X3_tiles : OK_X3_tiles l D cy ad) (I2 : Nat → Int → Int → Mem → Int → Mem → Nat → Prop)
    (hent : ∀ (p : Nat) (f : Int) (k : Int) (M0 : Mem), p_X8_giveKindToPart p f k M0 → okM M0 → inR f → inR k → ∃ μ : Nat, p = p ∧ f = f ∧ k = k ∧ I2 p f k M0 0 M0 μ)
    (hc2 : ∀ (p : Nat) (f : Int) (k : Int) (M0 : Mem), p_X8_giveKindToPart p f k M0 → okM M0 → inR f → inR k → ∀ (t : Int) (M : Mem) (n : Nat), I2 p f k M0 t M n → okM M → kdX p = 8 ∧ (p_X3_tiles 1 M ∧ ∀ (x2 : Int) (M1 : Mem), inR x2 → okM M1 → c_X3_tiles 1 M x2 M1 → ((x2 ≤ t → (0 = 0 ∧ c_X8_giveKindToPart p f k M0 0 M1)) ∧ (¬ x2 ≤ t → (kdX p = 8 ∧ (p_X1_labelOf ((M1 p 6).toNat) t M1 ∧ ∀ (x4 : Int) (M3 : Mem), inR x4 → okM M3 → c_X1_labelOf ((M1 p 6).toNat) t M1 x4 M3 → ((¬ x4 = f → (inR (t + 1) ∧ (∃ μ : Nat, μ < n ∧ p = p ∧ f = f ∧ k = k ∧ I2 p f k M0 (t + 1) M3 μ))) ∧ (¬ (¬ x4 = f) → (kdX p = 8 ∧ (kdX 6 = 21 ∧ (0 ≤ t ∧ t < 144) ∧ (inR (t + 1) ∧ (∃ μ : Nat, μ < n ∧ p = p ∧ f = f ∧ k = k ∧ I2 p f k M0 (t + 1) (up M3 6 (t).toNat k) μ))))))))))))
    : OK_X8_giveKindToPart l D cy ad := by
  refine met_of (tb := tbX8_giveKindToPart) (ft := ftX8) (cst := cst0) (ct := ct_X8_giveKindToPart) (cuts := [2]) 23 (JA_X8_giveKindToPart I2) hA jWX (by decide) tbX8_giveKindToPart_ok (by decide) ftX8_ok cst0_ok (ldc_of (tb := tbX8_giveKindToPart) (cst := cst0) (by decide)) rfl (List.forall_mem_cons.mpr ⟨si_X8_giveKindToPart_7 o_X3_tiles, List.forall_mem_cons.mpr ⟨si_X8_giveKindToPart_18 o_X1_labelOf, fun q h => absurd h List.not_mem_nil⟩⟩) ?_ ?_ ?_
  · intro as M0 h
    unfold P_X8_giveKindToPart at h
    split at h
    · exact Nat.le_of_ble_eq_true rfl
    · exact h.elim
  · intro as M0 h hM has
    unfold P_X8_giveKindToPart at h
    split at h
    next p f k => exact hent p f k M0 h hM (has f (by simp)) (has k (by simp))
    · exact h.elim
  · intro as M0 h hM has pc ls st M n hI hM1
    unfold P_X8_giveKindToPart at h
    split at h
    next p f k =>
      unfold JA_X8_giveKindToPart J_X8_giveKindToPart at hI
      dsimp only at hI
      split at hI
      ·
        obtain ⟨rfl, rfl, rfl, hI⟩ := hI
        exact hc2 _ _ _ _ h hM (has _ (by simp)) (has _ (by simp)) _ _ _ hI hM1
      · exact hI.elim
    · exact h.elim
