abbrev p_X9_in (v : Int) (a : Int) (b : Int) (M : Mem) : Prop := True
abbrev c_X9_in (v : Int) (a : Int) (b : Int) (M : Mem) (x : Int) (M' : Mem) : Prop := x = (if a ≤ v ∧ v ≤ b then 1 else 0) ∧ M' = M
def P_X9_in (as : List AV) (M : Mem) : Prop := match as with
  | [.inl v, .inl a, .inl b] => p_X9_in v a b M
  | _ => False
def C_X9_in (as : List AV) (M : Mem) (x : Int) (M' : Mem) : Prop := match as with
  | [.inl v, .inl a, .inl b] => c_X9_in v a b M x M'
  | _ => False
abbrev rm_X9_in : Room := { frames := 0, cells := 0, slots := 0, locals := 0 }
abbrev OK_X9_in (l : Launch) (D : va_G) (cy : Nat → ClassId) (ad : Nat → Nat) : Prop := MetA l D cy ad kdY lnY 12 yX9_in cX9_in 3 (some .boolean) rm_X9_in 2 P_X9_in C_X9_in
theorem ca_X9_in : CalS yX9_in cX9_in 3 (some .boolean) 3 := ⟨⟨wcX9_in, wnX9, by decide +kernel, by decide +kernel, by decide +kernel⟩, wsX9_in⟩
def ct_X9_in : List (Nat × CS) := []
def J_X9_in  (v : Int) (a : Int) (b : Int) (M0 : Mem) : IT := fun pc ls st M μ => match pc, ls, st, M, μ with
  | _, _, _, _, _ => False
def JA_X9_in  (as : List AV) (M0 : Mem) : IT := match as with
  | [.inl v, .inl a, .inl b] => J_X9_in  v a b M0
  | _ => fun _ _ _ _ _ => False
set_option maxRecDepth 100000 in
set_option maxHeartbeats 4000000 in
theorem met_X9_in {l : Launch} {D : va_G} {cy : Nat → ClassId} {ad : Nat → Nat} (hA : jA ad 12)  
    (hent : ∀ (v : Int) (a : Int) (b : Int) (M0 : Mem), p_X9_in v a b M0 → okM M0 → inR v → inR a → inR b → (v < a → (((0 : Int) = 0 ∨ (0 : Int) = 1) ∧ c_X9_in v a b M0 0 M0)) ∧ (¬ v < a → ((b < v → (((0 : Int) = 0 ∨ (0 : Int) = 1) ∧ c_X9_in v a b M0 0 M0)) ∧ (¬ b < v → (((1 : Int) = 0 ∨ (1 : Int) = 1) ∧ c_X9_in v a b M0 1 M0)))))
    : OK_X9_in l D cy ad := by
  refine met_of (tb := tbX9_in) (ft := ftX9) (cst := cstY) (ct := ct_X9_in) (cuts := []) 12 (JA_X9_in ) hA jWY (by decide) tbX9_in_ok (by decide) ftX9_ok cstY_ok (ldc_of (tb := tbX9_in) (cst := cstY) (by decide)) rfl (fun q h => absurd h List.not_mem_nil) ?_ ?_ ?_
  · intro as M0 h
    unfold P_X9_in at h
    split at h
    · exact Nat.le_of_ble_eq_true rfl
    · exact h.elim
  · intro as M0 h hM has
    unfold P_X9_in at h
    split at h
    next v a b => exact hent v a b M0 h hM (has v (by simp)) (has a (by simp)) (has b (by simp))
    · exact h.elim
  · intro as M0 h hM has pc ls st M n hI hM1
    unfold P_X9_in at h
    split at h
    · exact hI.elim
    · exact h.elim
abbrev p_X9_modulo (v : Int) (b : Int) (M : Mem) : Prop := (-200 ≤ v ∧ v ≤ 200) ∧ 0 < b ∧ b ≤ 200
abbrev c_X9_modulo (v : Int) (b : Int) (M : Mem) (x : Int) (M' : Mem) : Prop := x = v % b ∧ M' = M
def P_X9_modulo (as : List AV) (M : Mem) : Prop := match as with
  | [.inl v, .inl b] => p_X9_modulo v b M
  | _ => False
def C_X9_modulo (as : List AV) (M : Mem) (x : Int) (M' : Mem) : Prop := match as with
  | [.inl v, .inl b] => c_X9_modulo v b M x M'
  | _ => False
abbrev rm_X9_modulo : Room := { frames := 0, cells := 0, slots := 0, locals := 0 }
abbrev OK_X9_modulo (l : Launch) (D : va_G) (cy : Nat → ClassId) (ad : Nat → Nat) : Prop := MetA l D cy ad kdY lnY 12 yX9_modulo cX9_modulo 2 (some .int) rm_X9_modulo 1 P_X9_modulo C_X9_modulo
theorem ca_X9_modulo : CalS yX9_modulo cX9_modulo 2 (some .int) 2 := ⟨⟨wcX9_modulo, wnX9, by decide +kernel, by decide +kernel, by decide +kernel⟩, wsX9_modulo⟩
def ct_X9_modulo : List (Nat × CS) := []
def J_X9_modulo  (v : Int) (b : Int) (M0 : Mem) : IT := fun pc ls st M μ => match pc, ls, st, M, μ with
  | _, _, _, _, _ => False
def JA_X9_modulo  (as : List AV) (M0 : Mem) : IT := match as with
  | [.inl v, .inl b] => J_X9_modulo  v b M0
  | _ => fun _ _ _ _ _ => False
set_option maxRecDepth 100000 in
set_option maxHeartbeats 4000000 in
theorem met_X9_modulo {l : Launch} {D : va_G} {cy : Nat → ClassId} {ad : Nat → Nat} (hA : jA ad 12)  
    (hent : ∀ (v : Int) (b : Int) (M0 : Mem), p_X9_modulo v b M0 → okM M0 → inR v → inR b → 0 < b ∧ (inR ((Int.tmod v b) + b) ∧ (0 < b ∧ ((True) ∧ c_X9_modulo v b M0 (Int.tmod ((Int.tmod v b) + b) b) M0))))
    : OK_X9_modulo l D cy ad := by
  refine met_of (tb := tbX9_modulo) (ft := ftX9) (cst := cstY) (ct := ct_X9_modulo) (cuts := []) 10 (JA_X9_modulo ) hA jWY (by decide) tbX9_modulo_ok (by decide) ftX9_ok cstY_ok (ldc_of (tb := tbX9_modulo) (cst := cstY) (by decide)) rfl (fun q h => absurd h List.not_mem_nil) ?_ ?_ ?_
  · intro as M0 h
    unfold P_X9_modulo at h
    split at h
    · exact Nat.le_of_ble_eq_true rfl
    · exact h.elim
  · intro as M0 h hM has
    unfold P_X9_modulo at h
    split at h
    next v b => exact hent v b M0 h hM (has v (by simp)) (has b (by simp))
    · exact h.elim
  · intro as M0 h hM has pc ls st M n hI hM1
    unfold P_X9_modulo at h
    split at h
    · exact hI.elim
    · exact h.elim
abbrev p_X9_isKind (v : Int) (M : Mem) : Prop := True
abbrev c_X9_isKind (v : Int) (M : Mem) (x : Int) (M' : Mem) : Prop := x = (if 0 ≤ v ∧ v ≤ 5 then 1 else 0) ∧ M' = M
def P_X9_isKind (as : List AV) (M : Mem) : Prop := match as with
  | [.inl v] => p_X9_isKind v M
  | _ => False
def C_X9_isKind (as : List AV) (M : Mem) (x : Int) (M' : Mem) : Prop := match as with
  | [.inl v] => c_X9_isKind v M x M'
  | _ => False
abbrev rm_X9_isKind : Room := { frames := 1, cells := 0, slots := 0, locals := 22 }
abbrev OK_X9_isKind (l : Launch) (D : va_G) (cy : Nat → ClassId) (ad : Nat → Nat) : Prop := MetA l D cy ad kdY lnY 12 yX9_isKind cX9_isKind 1 (some .boolean) rm_X9_isKind 2 P_X9_isKind C_X9_isKind
theorem ca_X9_isKind : CalS yX9_isKind cX9_isKind 1 (some .boolean) 1 := ⟨⟨wcX9_isKind, wnX9, by decide +kernel, by decide +kernel, by decide +kernel⟩, wsX9_isKind⟩
def ct_X9_isKind : List (Nat × CS) := [(3, (3, 2, P_X9_in, C_X9_in))]
def J_X9_isKind  (v : Int) (M0 : Mem) : IT := fun pc ls st M μ => match pc, ls, st, M, μ with
  | _, _, _, _, _ => False
def JA_X9_isKind  (as : List AV) (M0 : Mem) : IT := match as with
  | [.inl v] => J_X9_isKind  v M0
  | _ => fun _ _ _ _ _ => False
theorem si_X9_isKind_3 {l : Launch} {D : va_G} {cy : Nat → ClassId} {ad : Nat → Nat} (o : OK_X9_in l D cy ad) : Site l D cy ad kdY lnY 12 yX9_isKind.cls tbX9_isKind rm_X9_isKind 3 (3, 2, P_X9_in, C_X9_in) := Or.inr (Or.inl ⟨49, 3, yX9_in, cX9_in, 3, (some .boolean), rm_X9_in, rfl, rfl, o, ca_X9_in, mkX9_49, rfl, ⟨rfl, rfl, by decide, by decide⟩⟩)
set_option maxRecDepth 100000 in
set_option maxHeartbeats 4000000 in
theorem met_X9_isKind {l : Launch} {D : va_G} {cy : Nat → ClassId} {ad : Nat → Nat} (hA : jA ad 12) (o_X9_in : OK_X9_in l D cy ad) 
    (hent : ∀ (v : Int) (M0 : Mem), p_X9_isKind v M0 → okM M0 → inR v → p_X9_in v 0 5 M0 ∧ ∀ (x2 : Int) (M1 : Mem), inR x2 → okM M1 → c_X9_in v 0 5 M0 x2 M1 → ((x2 = 0 ∨ x2 = 1) ∧ c_X9_isKind v M0 x2 M1))
    : OK_X9_isKind l D cy ad := by
  refine met_of (tb := tbX9_isKind) (ft := ftX9) (cst := cstY) (ct := ct_X9_isKind) (cuts := []) 7 (JA_X9_isKind ) hA jWY (by decide) tbX9_isKind_ok (by decide) ftX9_ok cstY_ok (ldc_of (tb := tbX9_isKind) (cst := cstY) (by decide)) rfl (List.forall_mem_cons.mpr ⟨si_X9_isKind_3 o_X9_in, fun q h => absurd h List.not_mem_nil⟩) ?_ ?_ ?_
  · intro as M0 h
    unfold P_X9_isKind at h
    split at h
    · exact Nat.le_of_ble_eq_true rfl
    · exact h.elim
  · intro as M0 h hM has
    unfold P_X9_isKind at h
    split at h
    next v => exact hent v M0 h hM (has v (by simp))
    · exact h.elim
  · intro as M0 h hM has pc ls st M n hI hM1
    unfold P_X9_isKind at h
    split at h
    · exact hI.elim
    · exact h.elim
abbrev p_X9_noTile (p : Nat) (t : Int) (M : Mem) : Prop := kdY p = 9 ∧ p = 0 ∧ gyB M
abbrev c_X9_noTile (p : Nat) (t : Int) (M : Mem) (x : Int) (M' : Mem) : Prop := x = (if 0 ≤ t ∧ t < nT (gY M) then 0 else 1) ∧ M' = M
def P_X9_noTile (as : List AV) (M : Mem) : Prop := match as with
  | [.inr p, .inl t] => p_X9_noTile p t M
  | _ => False
def C_X9_noTile (as : List AV) (M : Mem) (x : Int) (M' : Mem) : Prop := match as with
  | [.inr p, .inl t] => c_X9_noTile p t M x M'
  | _ => False
abbrev rm_X9_noTile : Room := { frames := 1, cells := 0, slots := 0, locals := 22 }
abbrev OK_X9_noTile (l : Launch) (D : va_G) (cy : Nat → ClassId) (ad : Nat → Nat) : Prop := MetA l D cy ad kdY lnY 12 yX9_noTile cX9_noTile 2 (some .boolean) rm_X9_noTile 2 P_X9_noTile C_X9_noTile
theorem ca_X9_noTile : CalV yX9_noTile cX9_noTile 2 (some .boolean) 1 := ⟨⟨wcX9_noTile, wnX9, by decide +kernel, by decide +kernel, by decide +kernel⟩, wiX9_noTile, wlX9_noTile⟩
theorem rv_X9_noTile : ∀ as M, P_X9_noTile as M → ∃ a As q, as = .inr a :: As ∧ vwCl[kdY a]? = some q ∧ q.1 = yX9_noTile.cls := by
  intro as M h
  unfold P_X9_noTile at h
  split at h
  · exact ⟨_, _, (RX9, TX9, 20), rfl, by rw [h.1]; rfl, rfl⟩
  · exact h.elim
def ct_X9_noTile : List (Nat × CS) := [(8, (3, 2, P_X9_in, C_X9_in))]
def J_X9_noTile  (p : Nat) (t : Int) (M0 : Mem) : IT := fun pc ls st M μ => match pc, ls, st, M, μ with
  | _, _, _, _, _ => False
def JA_X9_noTile  (as : List AV) (M0 : Mem) : IT := match as with
  | [.inr p, .inl t] => J_X9_noTile  p t M0
  | _ => fun _ _ _ _ _ => False
theorem si_X9_noTile_8 {l : Launch} {D : va_G} {cy : Nat → ClassId} {ad : Nat → Nat} (o : OK_X9_in l D cy ad) : Site l D cy ad kdY lnY 12 yX9_noTile.cls tbX9_noTile rm_X9_noTile 8 (3, 2, P_X9_in, C_X9_in) := Or.inr (Or.inl ⟨49, 3, yX9_in, cX9_in, 3, (some .boolean), rm_X9_in, rfl, rfl, o, ca_X9_in, mkX9_49, rfl, ⟨rfl, rfl, by decide, by decide⟩⟩)
set_option maxRecDepth 100000 in
set_option maxHeartbeats 4000000 in
theorem met_X9_noTile {l : Launch} {D : va_G} {cy : Nat → ClassId} {ad : Nat → Nat} (hA : jA ad 12) (o_X9_in : OK_X9_in l D cy ad) 
    (hent : ∀ (p : Nat) (t : Int) (M0 : Mem), p_X9_noTile p t M0 → okM M0 → inR t → kdY p = 9 ∧ (inR ((M0 p 2) - 1) ∧ (p_X9_in t 0 ((M0 p 2) - 1) M0 ∧ ∀ (x2 : Int) (M1 : Mem), inR x2 → okM M1 → c_X9_in t 0 ((M0 p 2) - 1) M0 x2 M1 → ((¬ x2 = (0 : Int) → (((0 : Int) = 0 ∨ (0 : Int) = 1) ∧ c_X9_noTile p t M0 0 M1)) ∧ (¬ (¬ x2 = (0 : Int)) → (((1 : Int) = 0 ∨ (1 : Int) = 1) ∧ c_X9_noTile p t M0 1 M1))))))
    : OK_X9_noTile l D cy ad := by
  refine met_of (tb := tbX9_noTile) (ft := ftX9) (cst := cstY) (ct := ct_X9_noTile) (cuts := []) 14 (JA_X9_noTile ) hA jWY (by decide) tbX9_noTile_ok (by decide) ftX9_ok cstY_ok (ldc_of (tb := tbX9_noTile) (cst := cstY) (by decide)) rfl (List.forall_mem_cons.mpr ⟨si_X9_noTile_8 o_X9_in, fun q h => absurd h List.not_mem_nil⟩) ?_ ?_ ?_
  · intro as M0 h
    unfold P_X9_noTile at h
    split at h
    · exact Nat.le_of_ble_eq_true rfl
    · exact h.elim
  · intro as M0 h hM has
    unfold P_X9_noTile at h
    split at h
    next p t => exact hent p t M0 h hM (has t (by simp))
    · exact h.elim
  · intro as M0 h hM has pc ls st M n hI hM1
    unfold P_X9_noTile at h
    split at h
    · exact hI.elim
    · exact h.elim
abbrev p_X9_seamOf (p : Nat) (t : Int) (d : Int) (M : Mem) : Prop := kdY p = 9 ∧ p = 0 ∧ gyB M ∧ (0 ≤ t ∧ t < nT (gY M)) ∧ 0 ≤ d ∧ d < 4
abbrev c_X9_seamOf (p : Nat) (t : Int) (d : Int) (M : Mem) (x : Int) (M' : Mem) : Prop := x = sm (gY M) t d ∧ M' = M
def P_X9_seamOf (as : List AV) (M : Mem) : Prop := match as with
  | [.inr p, .inl t, .inl d] => p_X9_seamOf p t d M
  | _ => False
def C_X9_seamOf (as : List AV) (M : Mem) (x : Int) (M' : Mem) : Prop := match as with
  | [.inr p, .inl t, .inl d] => c_X9_seamOf p t d M x M'
  | _ => False
abbrev rm_X9_seamOf : Room := { frames := 0, cells := 0, slots := 0, locals := 0 }
abbrev OK_X9_seamOf (l : Launch) (D : va_G) (cy : Nat → ClassId) (ad : Nat → Nat) : Prop := MetA l D cy ad kdY lnY 12 yX9_seamOf cX9_seamOf 5 (some .int) rm_X9_seamOf 1 P_X9_seamOf C_X9_seamOf
theorem ca_X9_seamOf : CalV yX9_seamOf cX9_seamOf 5 (some .int) 2 := ⟨⟨wcX9_seamOf, wnX9, by decide +kernel, by decide +kernel, by decide +kernel⟩, wiX9_seamOf, wlX9_seamOf⟩
theorem rv_X9_seamOf : ∀ as M, P_X9_seamOf as M → ∃ a As q, as = .inr a :: As ∧ vwCl[kdY a]? = some q ∧ q.1 = yX9_seamOf.cls := by
  intro as M h
  unfold P_X9_seamOf at h
  split at h
  · exact ⟨_, _, (RX9, TX9, 20), rfl, by rw [h.1]; rfl, rfl⟩
  · exact h.elim
def ct_X9_seamOf : List (Nat × CS) := []
def J_X9_seamOf  (p : Nat) (t : Int) (d : Int) (M0 : Mem) : IT := fun pc ls st M μ => match pc, ls, st, M, μ with
  | _, _, _, _, _ => False
def JA_X9_seamOf  (as : List AV) (M0 : Mem) : IT := match as with
  | [.inr p, .inl t, .inl d] => J_X9_seamOf  p t d M0
  | _ => fun _ _ _ _ _ => False
set_option maxRecDepth 100000 in
set_option maxHeartbeats 4000000 in
theorem met_X9_seamOf {l : Launch} {D : va_G} {cy : Nat → ClassId} {ad : Nat → Nat} (hA : jA ad 12)  
    (hent : ∀ (p : Nat) (t : Int) (d : Int) (M0 : Mem), p_X9_seamOf p t d M0 → okM M0 → inR t → inR d → kdY p = 9 ∧ (0 < (M0 p 0) ∧ (kdY p = 9 ∧ ((0 ≤ t ∧ 0 < (M0 p 0)) ∧ ((¬ d = (0 : Int) → ((¬ d = (2 : Int) → ((¬ d = (1 : Int) → ((¬ d = (3 : Int) → ((True) ∧ c_X9_seamOf p t d M0 0 M0)) ∧ (¬ (¬ d = (3 : Int)) → ((¬ (t / (M0 p 0)) = (0 : Int) → ((True) ∧ c_X9_seamOf p t d M0 0 M0)) ∧ (¬ (¬ (t / (M0 p 0)) = (0 : Int)) → ((True) ∧ c_X9_seamOf p t d M0 2 M0)))))) ∧ (¬ (¬ d = (1 : Int)) → (kdY p = 9 ∧ (inR ((M0 p 1) - 1) ∧ (((t / (M0 p 0)) = ((M0 p 1) - 1) → ((True) ∧ c_X9_seamOf p t d M0 2 M0)) ∧ (¬ (t / (M0 p 0)) = ((M0 p 1) - 1) → ((¬ d = (3 : Int) → ((True) ∧ c_X9_seamOf p t d M0 0 M0)) ∧ (¬ (¬ d = (3 : Int)) → ((¬ (t / (M0 p 0)) = (0 : Int) → ((True) ∧ c_X9_seamOf p t d M0 0 M0)) ∧ (¬ (¬ (t / (M0 p 0)) = (0 : Int)) → ((True) ∧ c_X9_seamOf p t d M0 2 M0)))))))))))) ∧ (¬ (¬ d = (2 : Int)) → ((¬ (Int.tmod t (M0 p 0)) = (0 : Int) → ((¬ d = (1 : Int) → ((¬ d = (3 : Int) → ((True) ∧ c_X9_seamOf p t d M0 0 M0)) ∧ (¬ (¬ d = (3 : Int)) → ((¬ (t / (M0 p 0)) = (0 : Int) → ((True) ∧ c_X9_seamOf p t d M0 0 M0)) ∧ (¬ (¬ (t / (M0 p 0)) = (0 : Int)) → ((True) ∧ c_X9_seamOf p t d M0 2 M0)))))) ∧ (¬ (¬ d = (1 : Int)) → (kdY p = 9 ∧ (inR ((M0 p 1) - 1) ∧ (((t / (M0 p 0)) = ((M0 p 1) - 1) → ((True) ∧ c_X9_seamOf p t d M0 2 M0)) ∧ (¬ (t / (M0 p 0)) = ((M0 p 1) - 1) → ((¬ d = (3 : Int) → ((True) ∧ c_X9_seamOf p t d M0 0 M0)) ∧ (¬ (¬ d = (3 : Int)) → ((¬ (t / (M0 p 0)) = (0 : Int) → ((True) ∧ c_X9_seamOf p t d M0 0 M0)) ∧ (¬ (¬ (t / (M0 p 0)) = (0 : Int)) → ((True) ∧ c_X9_seamOf p t d M0 2 M0)))))))))))) ∧ (¬ (¬ (Int.tmod t (M0 p 0)) = (0 : Int)) → ((True) ∧ c_X9_seamOf p t d M0 1 M0)))))) ∧ (¬ (¬ d = (0 : Int)) → (kdY p = 9 ∧ (inR ((M0 p 0) - 1) ∧ (((Int.tmod t (M0 p 0)) = ((M0 p 0) - 1) → ((True) ∧ c_X9_seamOf p t d M0 1 M0)) ∧ (¬ (Int.tmod t (M0 p 0)) = ((M0 p 0) - 1) → ((¬ d = (2 : Int) → ((¬ d = (1 : Int) → ((¬ d = (3 : Int) → ((True) ∧ c_X9_seamOf p t d M0 0 M0)) ∧ (¬ (¬ d = (3 : Int)) → ((¬ (t / (M0 p 0)) = (0 : Int) → ((True) ∧ c_X9_seamOf p t d M0 0 M0)) ∧ (¬ (¬ (t / (M0 p 0)) = (0 : Int)) → ((True) ∧ c_X9_seamOf p t d M0 2 M0)))))) ∧ (¬ (¬ d = (1 : Int)) → (kdY p = 9 ∧ (inR ((M0 p 1) - 1) ∧ (((t / (M0 p 0)) = ((M0 p 1) - 1) → ((True) ∧ c_X9_seamOf p t d M0 2 M0)) ∧ (¬ (t / (M0 p 0)) = ((M0 p 1) - 1) → ((¬ d = (3 : Int) → ((True) ∧ c_X9_seamOf p t d M0 0 M0)) ∧ (¬ (¬ d = (3 : Int)) → ((¬ (t / (M0 p 0)) = (0 : Int) → ((True) ∧ c_X9_seamOf p t d M0 0 M0)) ∧ (¬ (¬ (t / (M0 p 0)) = (0 : Int)) → ((True) ∧ c_X9_seamOf p t d M0 2 M0)))))))))))) ∧ (¬ (¬ d = (2 : Int)) → ((¬ (Int.tmod t (M0 p 0)) = (0 : Int) → ((¬ d = (1 : Int) → ((¬ d = (3 : Int) → ((True) ∧ c_X9_seamOf p t d M0 0 M0)) ∧ (¬ (¬ d = (3 : Int)) → ((¬ (t / (M0 p 0)) = (0 : Int) → ((True) ∧ c_X9_seamOf p t d M0 0 M0)) ∧ (¬ (¬ (t / (M0 p 0)) = (0 : Int)) → ((True) ∧ c_X9_seamOf p t d M0 2 M0)))))) ∧ (¬ (¬ d = (1 : Int)) → (kdY p = 9 ∧ (inR ((M0 p 1) - 1) ∧ (((t / (M0 p 0)) = ((M0 p 1) - 1) → ((True) ∧ c_X9_seamOf p t d M0 2 M0)) ∧ (¬ (t / (M0 p 0)) = ((M0 p 1) - 1) → ((¬ d = (3 : Int) → ((True) ∧ c_X9_seamOf p t d M0 0 M0)) ∧ (¬ (¬ d = (3 : Int)) → ((¬ (t / (M0 p 0)) = (0 : Int) → ((True) ∧ c_X9_seamOf p t d M0 0 M0)) ∧ (¬ (¬ (t / (M0 p 0)) = (0 : Int)) → ((True) ∧ c_X9_seamOf p t d M0 2 M0)))))))))))) ∧ (¬ (¬ (Int.tmod t (M0 p 0)) = (0 : Int)) → ((True) ∧ c_X9_seamOf p t d M0 1 M0)))))))))))))))
    : OK_X9_seamOf l D cy ad := by
  refine met_of (tb := tbX9_seamOf) (ft := ftX9) (cst := cstY) (ct := ct_X9_seamOf) (cuts := []) 45 (JA_X9_seamOf ) hA jWY (by decide) tbX9_seamOf_ok (by decide) ftX9_ok cstY_ok (ldc_of (tb := tbX9_seamOf) (cst := cstY) (by decide)) rfl (fun q h => absurd h List.not_mem_nil) ?_ ?_ ?_
  · intro as M0 h
    unfold P_X9_seamOf at h
    split at h
    · exact Nat.le_of_ble_eq_true rfl
    · exact h.elim
  · intro as M0 h hM has
    unfold P_X9_seamOf at h
    split at h
    next p t d => exact hent p t d M0 h hM (has t (by simp)) (has d (by simp))
    · exact h.elim
  · intro as M0 h hM has pc ls st M n hI hM1
    unfold P_X9_seamOf at h
    split at h
    · exact hI.elim
    · exact h.elim
abbrev p_X9_across (k : Int) (s : Int) (a : Int) (b : Int) (f : Int) (M : Mem) : Prop := (0 ≤ a ∧ a < b) ∧ b ≤ 12 ∧ 0 ≤ s ∧ s < b
abbrev c_X9_across (k : Int) (s : Int) (a : Int) (b : Int) (f : Int) (M : Mem) (x : Int) (M' : Mem) : Prop := x = ac k s a b (decide (f ≠ 0)) ∧ M' = M
def P_X9_across (as : List AV) (M : Mem) : Prop := match as with
  | [.inl k, .inl s, .inl a, .inl b, .inl f] => p_X9_across k s a b f M
  | _ => False
def C_X9_across (as : List AV) (M : Mem) (x : Int) (M' : Mem) : Prop := match as with
  | [.inl k, .inl s, .inl a, .inl b, .inl f] => c_X9_across k s a b f M x M'
  | _ => False
abbrev rm_X9_across : Room := { frames := 1, cells := 0, slots := 0, locals := 21 }
abbrev OK_X9_across (l : Launch) (D : va_G) (cy : Nat → ClassId) (ad : Nat → Nat) : Prop := MetA l D cy ad kdY lnY 12 yX9_across cX9_across 5 (some .int) rm_X9_across 1 P_X9_across C_X9_across
theorem ca_X9_across : CalS yX9_across cX9_across 5 (some .int) 5 := ⟨⟨wcX9_across, wnX9, by decide +kernel, by decide +kernel, by decide +kernel⟩, wsX9_across⟩
def ct_X9_across : List (Nat × CS) := [(9, (2, 1, P_X9_modulo, C_X9_modulo)), (30, (2, 1, P_X9_modulo, C_X9_modulo))]
def J_X9_across  (k : Int) (s : Int) (a : Int) (b : Int) (f : Int) (M0 : Mem) : IT := fun pc ls st M μ => match pc, ls, st, M, μ with
  | _, _, _, _, _ => False
def JA_X9_across  (as : List AV) (M0 : Mem) : IT := match as with
  | [.inl k, .inl s, .inl a, .inl b, .inl f] => J_X9_across  k s a b f M0
  | _ => fun _ _ _ _ _ => False
theorem si_X9_across_9 {l : Launch} {D : va_G} {cy : Nat → ClassId} {ad : Nat → Nat} (o : OK_X9_modulo l D cy ad) : Site l D cy ad kdY lnY 12 yX9_across.cls tbX9_across rm_X9_across 9 (2, 1, P_X9_modulo, C_X9_modulo) := Or.inr (Or.inl ⟨78, 2, yX9_modulo, cX9_modulo, 2, (some .int), rm_X9_modulo, rfl, rfl, o, ca_X9_modulo, mkX9_78, rfl, ⟨rfl, rfl, by decide, by decide⟩⟩)
theorem si_X9_across_30 {l : Launch} {D : va_G} {cy : Nat → ClassId} {ad : Nat → Nat} (o : OK_X9_modulo l D cy ad) : Site l D cy ad kdY lnY 12 yX9_across.cls tbX9_across rm_X9_across 30 (2, 1, P_X9_modulo, C_X9_modulo) := Or.inr (Or.inl ⟨78, 2, yX9_modulo, cX9_modulo, 2, (some .int), rm_X9_modulo, rfl, rfl, o, ca_X9_modulo, mkX9_78, rfl, ⟨rfl, rfl, by decide, by decide⟩⟩)
set_option maxRecDepth 100000 in
set_option maxHeartbeats 4000000 in
theorem met_X9_across {l : Launch} {D : va_G} {cy : Nat → ClassId} {ad : Nat → Nat} (hA : jA ad 12) (o_X9_modulo : OK_X9_modulo l D cy ad) 
    (hent : ∀ (k : Int) (s : Int) (a : Int) (b : Int) (f : Int) (M0 : Mem), p_X9_across k s a b f M0 → okM M0 → inR k → inR s → inR a → inR b → inR f → (¬ k = (2 : Int) → ((f = (0 : Int) → (inR (a - s) ∧ (p_X9_modulo (a - s) b M0 ∧ ∀ (x2 : Int) (M1 : Mem), inR x2 → okM M1 → c_X9_modulo (a - s) b M0 x2 M1 → ((True) ∧ c_X9_across k s a b f M0 x2 M1)))) ∧ (¬ f = (0 : Int) → (inR (a + s) ∧ (p_X9_modulo (a + s) b M0 ∧ ∀ (x4 : Int) (M3 : Mem), inR x4 → okM M3 → c_X9_modulo (a + s) b M0 x4 M3 → ((True) ∧ c_X9_across k s a b f M0 x4 M3)))))) ∧ (¬ (¬ k = (2 : Int)) → (inR (s - a) ∧ (p_X9_modulo (s - a) b M0 ∧ ∀ (x6 : Int) (M5 : Mem), inR x6 → okM M5 → c_X9_modulo (s - a) b M0 x6 M5 → ((True) ∧ c_X9_across k s a b f M0 x6 M5)))))
    : OK_X9_across l D cy ad := by
  refine met_of (tb := tbX9_across) (ft := ftX9) (cst := cstY) (ct := ct_X9_across) (cuts := []) 23 (JA_X9_across ) hA jWY (by decide) tbX9_across_ok (by decide) ftX9_ok cstY_ok (ldc_of (tb := tbX9_across) (cst := cstY) (by decide)) rfl (List.forall_mem_cons.mpr ⟨si_X9_across_9 o_X9_modulo, List.forall_mem_cons.mpr ⟨si_X9_across_30 o_X9_modulo, fun q h => absurd h List.not_mem_nil⟩⟩) ?_ ?_ ?_
  · intro as M0 h
    unfold P_X9_across at h
    split at h
    · exact Nat.le_of_ble_eq_true rfl
    · exact h.elim
  · intro as M0 h hM has
    unfold P_X9_across at h
    split at h
    next k s a b f => exact hent k s a b f M0 h hM (has k (by simp)) (has s (by simp)) (has a (by simp)) (has b (by simp)) (has f (by simp))
    · exact h.elim
  · intro as M0 h hM has pc ls st M n hI hM1
    unfold P_X9_across at h
    split at h
    · exact hI.elim
    · exact h.elim
abbrev p_X9_next (p : Nat) (t : Int) (d : Int) (M : Mem) : Prop := kdY p = 9 ∧ p = 0 ∧ gyB M ∧ (0 ≤ t ∧ t < nT (gY M)) ∧ 0 ≤ d ∧ d < 4
abbrev c_X9_next (p : Nat) (t : Int) (d : Int) (M : Mem) (x : Int) (M' : Mem) : Prop := x = nx (gY M) t d ∧ M' = M
def P_X9_next (as : List AV) (M : Mem) : Prop := match as with
  | [.inr p, .inl t, .inl d] => p_X9_next p t d M
  | _ => False
def C_X9_next (as : List AV) (M : Mem) (x : Int) (M' : Mem) : Prop := match as with
  | [.inr p, .inl t, .inl d] => c_X9_next p t d M x M'
  | _ => False
abbrev rm_X9_next : Room := { frames := 2, cells := 0, slots := 0, locals := 45 }
abbrev OK_X9_next (l : Launch) (D : va_G) (cy : Nat → ClassId) (ad : Nat → Nat) : Prop := MetA l D cy ad kdY lnY 12 yX9_next cX9_next 6 (some .int) rm_X9_next 1 P_X9_next C_X9_next
theorem ca_X9_next : CalV yX9_next cX9_next 6 (some .int) 2 := ⟨⟨wcX9_next, wnX9, by decide +kernel, by decide +kernel, by decide +kernel⟩, wiX9_next, wlX9_next⟩
theorem rv_X9_next : ∀ as M, P_X9_next as M → ∃ a As q, as = .inr a :: As ∧ vwCl[kdY a]? = some q ∧ q.1 = yX9_next.cls := by
  intro as M h
  unfold P_X9_next at h
  split at h
  · exact ⟨_, _, (RX9, TX9, 20), rfl, by rw [h.1]; rfl, rfl⟩
  · exact h.elim
def ct_X9_next : List (Nat × CS) := [(18, (3, 1, P_X9_seamOf, C_X9_seamOf)), (68, (5, 1, P_X9_across, C_X9_across)), (129, (5, 1, P_X9_across, C_X9_across))]
def J_X9_next  (p : Nat) (t : Int) (d : Int) (M0 : Mem) : IT := fun pc ls st M μ => match pc, ls, st, M, μ with
  | _, _, _, _, _ => False
def JA_X9_next  (as : List AV) (M0 : Mem) : IT := match as with
  | [.inr p, .inl t, .inl d] => J_X9_next  p t d M0
  | _ => fun _ _ _ _ _ => False
theorem si_X9_next_18 {l : Launch} {D : va_G} {cy : Nat → ClassId} {ad : Nat → Nat} (o : OK_X9_seamOf l D cy ad) : Site l D cy ad kdY lnY 12 yX9_next.cls tbX9_next rm_X9_next 18 (3, 1, P_X9_seamOf, C_X9_seamOf) := Or.inl ⟨82, 2, yX9_seamOf, cX9_seamOf, 5, (some .int), rm_X9_seamOf, rfl, rfl, o, ca_X9_seamOf, mkX9_82, ⟨rfl, rfl, by decide, by decide⟩, rv_X9_seamOf⟩
theorem si_X9_next_68 {l : Launch} {D : va_G} {cy : Nat → ClassId} {ad : Nat → Nat} (o : OK_X9_across l D cy ad) : Site l D cy ad kdY lnY 12 yX9_next.cls tbX9_next rm_X9_next 68 (5, 1, P_X9_across, C_X9_across) := Or.inr (Or.inl ⟨85, 5, yX9_across, cX9_across, 5, (some .int), rm_X9_across, rfl, rfl, o, ca_X9_across, mkX9_85, rfl, ⟨rfl, rfl, by decide, by decide⟩⟩)
theorem si_X9_next_129 {l : Launch} {D : va_G} {cy : Nat → ClassId} {ad : Nat → Nat} (o : OK_X9_across l D cy ad) : Site l D cy ad kdY lnY 12 yX9_next.cls tbX9_next rm_X9_next 129 (5, 1, P_X9_across, C_X9_across) := Or.inr (Or.inl ⟨85, 5, yX9_across, cX9_across, 5, (some .int), rm_X9_across, rfl, rfl, o, ca_X9_across, mkX9_85, rfl, ⟨rfl, rfl, by decide, by decide⟩⟩)
set_option maxRecDepth 100000 in
set_option maxHeartbeats 4000000 in
theorem met_X9_next {l : Launch} {D : va_G} {cy : Nat → ClassId} {ad : Nat → Nat} (hA : jA ad 12) (o_X9_across : OK_X9_across l D cy ad) (o_X9_seamOf : OK_X9_seamOf l D cy ad) 
    (hent : ∀ (p : Nat) (t : Int) (d : Int) (M0 : Mem), p_X9_next p t d M0 → okM M0 → inR t → inR d → kdY p = 9 ∧ (0 < (M0 p 0) ∧ (kdY p = 9 ∧ ((0 ≤ t ∧ 0 < (M0 p 0)) ∧ (p_X9_seamOf p t d M0 ∧ ∀ (x2 : Int) (M1 : Mem), inR x2 → okM M1 → c_X9_seamOf p t d M0 x2 M1 → ((¬ x2 = (1 : Int) → ((¬ x2 = (2 : Int) → ((¬ d = (0 : Int) → ((¬ d = (1 : Int) → ((¬ d = (2 : Int) → (kdY p = 9 ∧ (inR (t - (M1 p 0)) ∧ ((True) ∧ c_X9_next p t d M0 (t - (M1 p 0)) M1)))) ∧ (¬ (¬ d = (2 : Int)) → (inR (t - 1) ∧ ((True) ∧ c_X9_next p t d M0 (t - 1) M1))))) ∧ (¬ (¬ d = (1 : Int)) → (kdY p = 9 ∧ (inR (t + (M1 p 0)) ∧ ((True) ∧ c_X9_next p t d M0 (t + (M1 p 0)) M1)))))) ∧ (¬ (¬ d = (0 : Int)) → (inR (t + 1) ∧ ((True) ∧ c_X9_next p t d M0 (t + 1) M1))))) ∧ (¬ (¬ x2 = (2 : Int)) → (kdY p = 9 ∧ ((¬ (M1 p 7) = (0 : Int) → (kdY p = 9 ∧ (kdY p = 9 ∧ (kdY p = 9 ∧ ((¬ d = (1 : Int) → (p_X9_across (M1 p 7) (M1 p 8) (Int.tmod t (M0 p 0)) (M1 p 0) 0 M1 ∧ ∀ (x4 : Int) (M3 : Mem), inR x4 → okM M3 → c_X9_across (M1 p 7) (M1 p 8) (Int.tmod t (M0 p 0)) (M1 p 0) 0 M1 x4 M3 → ((¬ d = (1 : Int) → (kdY p = 9 ∧ (kdY p = 9 ∧ (inR ((M3 p 1) - 1) ∧ (inR ((M3 p 0) * ((M3 p 1) - 1)) ∧ (inR (x4 + ((M3 p 0) * ((M3 p 1) - 1))) ∧ ((True) ∧ c_X9_next p t d M0 (x4 + ((M3 p 0) * ((M3 p 1) - 1))) M3))))))) ∧ (¬ (¬ d = (1 : Int)) → (inR (x4 + 0) ∧ ((True) ∧ c_X9_next p t d M0 (x4 + 0) M3)))))) ∧ (¬ (¬ d = (1 : Int)) → (p_X9_across (M1 p 7) (M1 p 8) (Int.tmod t (M0 p 0)) (M1 p 0) 1 M1 ∧ ∀ (x6 : Int) (M5 : Mem), inR x6 → okM M5 → c_X9_across (M1 p 7) (M1 p 8) (Int.tmod t (M0 p 0)) (M1 p 0) 1 M1 x6 M5 → ((¬ d = (1 : Int) → (kdY p = 9 ∧ (kdY p = 9 ∧ (inR ((M5 p 1) - 1) ∧ (inR ((M5 p 0) * ((M5 p 1) - 1)) ∧ (inR (x6 + ((M5 p 0) * ((M5 p 1) - 1))) ∧ ((True) ∧ c_X9_next p t d M0 (x6 + ((M5 p 0) * ((M5 p 1) - 1))) M5))))))) ∧ (¬ (¬ d = (1 : Int)) → (inR (x6 + 0) ∧ ((True) ∧ c_X9_next p t d M0 (x6 + 0) M5))))))))))) ∧ (¬ (¬ (M1 p 7) = (0 : Int)) → ((True) ∧ c_X9_next p t d M0 (-5) M1))))))) ∧ (¬ (¬ x2 = (1 : Int)) → (kdY p = 9 ∧ ((¬ (M1 p 5) = (0 : Int) → (kdY p = 9 ∧ (kdY p = 9 ∧ (kdY p = 9 ∧ (kdY p = 9 ∧ ((¬ d = (0 : Int) → (p_X9_across (M1 p 5) (M1 p 6) (t / (M0 p 0)) (M1 p 1) 0 M1 ∧ ∀ (x8 : Int) (M7 : Mem), inR x8 → okM M7 → c_X9_across (M1 p 5) (M1 p 6) (t / (M0 p 0)) (M1 p 1) 0 M1 x8 M7 → (inR ((M1 p 0) * x8) ∧ ((¬ d = (0 : Int) → (kdY p = 9 ∧ (inR ((M7 p 0) - 1) ∧ (inR (((M1 p 0) * x8) + ((M7 p 0) - 1)) ∧ ((True) ∧ c_X9_next p t d M0 (((M1 p 0) * x8) + ((M7 p 0) - 1)) M7))))) ∧ (¬ (¬ d = (0 : Int)) → (inR (((M1 p 0) * x8) + 0) ∧ ((True) ∧ c_X9_next p t d M0 (((M1 p 0) * x8) + 0) M7))))))) ∧ (¬ (¬ d = (0 : Int)) → (p_X9_across (M1 p 5) (M1 p 6) (t / (M0 p 0)) (M1 p 1) 1 M1 ∧ ∀ (x10 : Int) (M9 : Mem), inR x10 → okM M9 → c_X9_across (M1 p 5) (M1 p 6) (t / (M0 p 0)) (M1 p 1) 1 M1 x10 M9 → (inR ((M1 p 0) * x10) ∧ ((¬ d = (0 : Int) → (kdY p = 9 ∧ (inR ((M9 p 0) - 1) ∧ (inR (((M1 p 0) * x10) + ((M9 p 0) - 1)) ∧ ((True) ∧ c_X9_next p t d M0 (((M1 p 0) * x10) + ((M9 p 0) - 1)) M9))))) ∧ (¬ (¬ d = (0 : Int)) → (inR (((M1 p 0) * x10) + 0) ∧ ((True) ∧ c_X9_next p t d M0 (((M1 p 0) * x10) + 0) M9))))))))))))) ∧ (¬ (¬ (M1 p 5) = (0 : Int)) → ((True) ∧ c_X9_next p t d M0 (-5) M1)))))))))))
    : OK_X9_next l D cy ad := by
  refine met_of (tb := tbX9_next) (ft := ftX9) (cst := cstY) (ct := ct_X9_next) (cuts := []) 113 (JA_X9_next ) hA jWY (by decide) tbX9_next_ok (by decide) ftX9_ok cstY_ok (ldc_of (tb := tbX9_next) (cst := cstY) (by decide)) rfl (List.forall_mem_cons.mpr ⟨si_X9_next_18 o_X9_seamOf, List.forall_mem_cons.mpr ⟨si_X9_next_68 o_X9_across, List.forall_mem_cons.mpr ⟨si_X9_next_129 o_X9_across, fun q h => absurd h List.not_mem_nil⟩⟩⟩) ?_ ?_ ?_
  · intro as M0 h
    unfold P_X9_next at h
    split at h
    · exact Nat.le_of_ble_eq_true rfl
    · exact h.elim
  · intro as M0 h hM has
    unfold P_X9_next at h
    split at h
    next p t d => exact hent p t d M0 h hM (has t (by simp)) (has d (by simp))
    · exact h.elim
  · intro as M0 h hM has pc ls st M n hI hM1
    unfold P_X9_next at h
    split at h
    · exact hI.elim
    · exact h.elim
abbrev p_X9_pairs (p : Nat) (M : Mem) : Prop := kdY p = 9 ∧ p = 0 ∧ gyB M
abbrev c_X9_pairs (p : Nat) (M : Mem) (x : Int) (M' : Mem) : Prop := x = sumF (fun k => if 0 ≤ nxk (gY M) k then 1 else 0) (nT (gY M) * 4) ∧ M' = M
def P_X9_pairs (as : List AV) (M : Mem) : Prop := match as with
  | [.inr p] => p_X9_pairs p M
  | _ => False
def C_X9_pairs (as : List AV) (M : Mem) (x : Int) (M' : Mem) : Prop := match as with
  | [.inr p] => c_X9_pairs p M x M'
  | _ => False
abbrev rm_X9_pairs : Room := { frames := 3, cells := 0, slots := 0, locals := 70 }
abbrev OK_X9_pairs (l : Launch) (D : va_G) (cy : Nat → ClassId) (ad : Nat → Nat) : Prop := MetA l D cy ad kdY lnY 12 yX9_pairs cX9_pairs 3 (some .int) rm_X9_pairs 1 P_X9_pairs C_X9_pairs
theorem ca_X9_pairs : CalV yX9_pairs cX9_pairs 3 (some .int) 0 := ⟨⟨wcX9_pairs, wnX9, by decide +kernel, by decide +kernel, by decide +kernel⟩, wiX9_pairs, wlX9_pairs⟩
theorem rv_X9_pairs : ∀ as M, P_X9_pairs as M → ∃ a As q, as = .inr a :: As ∧ vwCl[kdY a]? = some q ∧ q.1 = yX9_pairs.cls := by
  intro as M h
  unfold P_X9_pairs at h
  split at h
  · exact ⟨_, _, (RX9, TX9, 20), rfl, by rw [h.1]; rfl, rfl⟩
  · exact h.elim
def ct_X9_pairs : List (Nat × CS) := [(22, (3, 1, P_X9_next, C_X9_next))]
def J_X9_pairs (I4 : Nat → Mem → Int → Int → Mem → Nat → Prop) (p : Nat) (M0 : Mem) : IT := fun pc ls st M μ => match pc, ls, st, M, μ with
  | 4, [some (.inr p_), some (.inl c), some (.inl k)], [], M, μ => p = p_ ∧ I4 p M0 c k M μ
  | _, _, _, _, _ => False
def JA_X9_pairs (I4 : Nat → Mem → Int → Int → Mem → Nat → Prop) (as : List AV) (M0 : Mem) : IT := match as with
  | [.inr p] => J_X9_pairs I4 p M0
  | _ => fun _ _ _ _ _ => False
theorem si_X9_pairs_22 {l : Launch} {D : va_G} {cy : Nat → ClassId} {ad : Nat → Nat} (o : OK_X9_next l D cy ad) : Site l D cy ad kdY lnY 12 yX9_pairs.cls tbX9_pairs rm_X9_pairs 22 (3, 1, P_X9_next, C_X9_next) := Or.inl ⟨89, 2, yX9_next, cX9_next, 6, (some .int), rm_X9_next, rfl, rfl, o, ca_X9_next, mkX9_89, ⟨rfl, rfl, by decide, by decide⟩, rv_X9_next⟩
set_option maxRecDepth 100000 in
set_option maxHeartbeats 4000000 in
theorem met_X9_pairs {l : Launch} {D : va_G} {cy : Nat → ClassId} {ad : Nat → Nat} (hA : jA ad 12) (o_X9_next : OK_X9_next l D cy ad) (I4 : Nat → Mem → Int → Int → Mem → Nat → Prop)
    (hent : ∀ (p : Nat) (M0 : Mem), p_X9_pairs p M0 → okM M0 → ∃ μ : Nat, p = p ∧ I4 p M0 0 0 M0 μ)
    (hc4 : ∀ (p : Nat) (M0 : Mem), p_X9_pairs p M0 → okM M0 → ∀ (c : Int) (k : Int) (M : Mem) (n : Nat), I4 p M0 c k M n → okM M → kdY p = 9 ∧ (inR (4 * (M p 2)) ∧ (((4 * (M p 2)) ≤ k → ((True) ∧ c_X9_pairs p M0 c M)) ∧ (¬ (4 * (M p 2)) ≤ k → ((0 ≤ k ∧ 0 < (4 : Int)) ∧ (0 < (4 : Int) ∧ (p_X9_next p (k / 4) (Int.tmod k 4) M ∧ ∀ (x2 : Int) (M1 : Mem), inR x2 → okM M1 → c_X9_next p (k / 4) (Int.tmod k 4) M x2 M1 → ((x2 < (0 : Int) → (inR (c + 0) ∧ (inR (k + 1) ∧ (∃ μ : Nat, μ < n ∧ p = p ∧ I4 p M0 (c + 0) (k + 1) M1 μ)))) ∧ (¬ x2 < (0 : Int) → (inR (c + 1) ∧ (inR (k + 1) ∧ (∃ μ : Nat, μ < n ∧ p = p ∧ I4 p M0 (c + 1) (k + 1) M1 μ))))))))))))
    : OK_X9_pairs l D cy ad := by
  refine met_of (tb := tbX9_pairs) (ft := ftX9) (cst := cstY) (ct := ct_X9_pairs) (cuts := [4]) 31 (JA_X9_pairs I4) hA jWY (by decide) tbX9_pairs_ok (by decide) ftX9_ok cstY_ok (ldc_of (tb := tbX9_pairs) (cst := cstY) (by decide)) rfl (List.forall_mem_cons.mpr ⟨si_X9_pairs_22 o_X9_next, fun q h => absurd h List.not_mem_nil⟩) ?_ ?_ ?_
  · intro as M0 h
    unfold P_X9_pairs at h
    split at h
    · exact Nat.le_of_ble_eq_true rfl
    · exact h.elim
  · intro as M0 h hM has
    unfold P_X9_pairs at h
    split at h
    next p => exact hent p M0 h hM
    · exact h.elim
  · intro as M0 h hM has pc ls st M n hI hM1
    unfold P_X9_pairs at h
    split at h
    next p =>
      unfold JA_X9_pairs J_X9_pairs at hI
      dsimp only at hI
      split at hI
      ·
        obtain ⟨rfl, hI⟩ := hI
        exact hc4 _ _ h hM _ _ _ _ hI hM1
      · exact hI.elim
    · exact h.elim
abbrev p_X9_stepLength (p : Nat) (t : Int) (u : Int) (M : Mem) : Prop := kdY p = 9 ∧ p = 0 ∧ gyB M ∧ woY M ∧ (0 ≤ t ∧ t < nT (gY M)) ∧ (u = -5 ∨ (0 ≤ u ∧ u < nT (gY M)))
abbrev c_X9_stepLength (p : Nat) (t : Int) (u : Int) (M : Mem) (x : Int) (M' : Mem) : Prop := x = (if u < 0 then 1000000 else if M 2 (M 1 t.toNat).toNat = 0 ∨ M 2 (M 1 u.toNat).toNat = 0 then 1000000 else M 2 (M 1 t.toNat).toNat + M 2 (M 1 u.toNat).toNat) ∧ M' = M
def P_X9_stepLength (as : List AV) (M : Mem) : Prop := match as with
  | [.inr p, .inl t, .inl u] => p_X9_stepLength p t u M
  | _ => False
def C_X9_stepLength (as : List AV) (M : Mem) (x : Int) (M' : Mem) : Prop := match as with
  | [.inr p, .inl t, .inl u] => c_X9_stepLength p t u M x M'
  | _ => False
abbrev rm_X9_stepLength : Room := { frames := 0, cells := 0, slots := 0, locals := 0 }
abbrev OK_X9_stepLength (l : Launch) (D : va_G) (cy : Nat → ClassId) (ad : Nat → Nat) : Prop := MetA l D cy ad kdY lnY 12 yX9_stepLength cX9_stepLength 5 (some .int) rm_X9_stepLength 1 P_X9_stepLength C_X9_stepLength
theorem ca_X9_stepLength : CalV yX9_stepLength cX9_stepLength 5 (some .int) 2 := ⟨⟨wcX9_stepLength, wnX9, by decide +kernel, by decide +kernel, by decide +kernel⟩, wiX9_stepLength, wlX9_stepLength⟩
theorem rv_X9_stepLength : ∀ as M, P_X9_stepLength as M → ∃ a As q, as = .inr a :: As ∧ vwCl[kdY a]? = some q ∧ q.1 = yX9_stepLength.cls := by
  intro as M h
  unfold P_X9_stepLength at h
  split at h
  · exact ⟨_, _, (RX9, TX9, 20), rfl, by rw [h.1]; rfl, rfl⟩
  · exact h.elim
def ct_X9_stepLength : List (Nat × CS) := []
def J_X9_stepLength  (p : Nat) (t : Int) (u : Int) (M0 : Mem) : IT := fun pc ls st M μ => match pc, ls, st, M, μ with
  | _, _, _, _, _ => False
def JA_X9_stepLength  (as : List AV) (M0 : Mem) : IT := match as with
  | [.inr p, .inl t, .inl u] => J_X9_stepLength  p t u M0
  | _ => fun _ _ _ _ _ => False
set_option maxRecDepth 100000 in
set_option maxHeartbeats 4000000 in
theorem met_X9_stepLength {l : Launch} {D : va_G} {cy : Nat → ClassId} {ad : Nat → Nat} (hA : jA ad 12)  
    (hent : ∀ (p : Nat) (t : Int) (u : Int) (M0 : Mem), p_X9_stepLength p t u M0 → okM M0 → inR t → inR u → ((0 : Int) ≤ u → (kdY p = 9 ∧ (kdY p = 9 ∧ (kdY 1 = 21 ∧ (0 ≤ t ∧ t < 144) ∧ (kdY 2 = 21 ∧ (0 ≤ (M0 1 (t).toNat) ∧ (M0 1 (t).toNat) < 6) ∧ (kdY p = 9 ∧ (kdY p = 9 ∧ (kdY 1 = 21 ∧ (0 ≤ u ∧ u < 144) ∧ (kdY 2 = 21 ∧ (0 ≤ (M0 1 (u).toNat) ∧ (M0 1 (u).toNat) < 6) ∧ (((M0 2 (M0 1 (t).toNat).toNat) = (0 : Int) → ((True) ∧ c_X9_stepLength p t u M0 1000000 M0)) ∧ (¬ (M0 2 (M0 1 (t).toNat).toNat) = (0 : Int) → ((¬ (M0 2 (M0 1 (u).toNat).toNat) = (0 : Int) → (inR ((M0 2 (M0 1 (t).toNat).toNat) + (M0 2 (M0 1 (u).toNat).toNat)) ∧ ((True) ∧ c_X9_stepLength p t u M0 ((M0 2 (M0 1 (t).toNat).toNat) + (M0 2 (M0 1 (u).toNat).toNat)) M0))) ∧ (¬ (¬ (M0 2 (M0 1 (u).toNat).toNat) = (0 : Int)) → ((True) ∧ c_X9_stepLength p t u M0 1000000 M0)))))))))))))) ∧ (¬ (0 : Int) ≤ u → ((True) ∧ c_X9_stepLength p t u M0 1000000 M0)))
    : OK_X9_stepLength l D cy ad := by
  refine met_of (tb := tbX9_stepLength) (ft := ftX9) (cst := cstY) (ct := ct_X9_stepLength) (cuts := []) 32 (JA_X9_stepLength ) hA jWY (by decide) tbX9_stepLength_ok (by decide) ftX9_ok cstY_ok (ldc_of (tb := tbX9_stepLength) (cst := cstY) (by decide)) rfl (fun q h => absurd h List.not_mem_nil) ?_ ?_ ?_
  · intro as M0 h
    unfold P_X9_stepLength at h
    split at h
    · exact Nat.le_of_ble_eq_true rfl
    · exact h.elim
  · intro as M0 h hM has
    unfold P_X9_stepLength at h
    split at h
    next p t u => exact hent p t u M0 h hM (has t (by simp)) (has u (by simp))
    · exact h.elim
  · intro as M0 h hM has pc ls st M n hI hM1
    unfold P_X9_stepLength at h
    split at h
    · exact hI.elim
    · exact h.elim
abbrev p_X9_begin (p : Nat) (a : Int) (b : Int) (M : Mem) : Prop := kdY p = 9 ∧ p = 0 ∧ szO a b
abbrev c_X9_begin (p : Nat) (a : Int) (b : Int) (M : Mem) (x : Int) (M' : Mem) : Prop := (∀ t : Nat, t < 144 → M' 1 t = 0) ∧ (∀ k : Nat, k < 6 → M' 2 k = 1) ∧ (M' 0 0 = a ∧ M' 0 1 = b ∧ M' 0 2 = a * b ∧ M' 0 5 = 0 ∧ M' 0 6 = 0 ∧ M' 0 7 = 0 ∧ M' 0 8 = 0 ∧ M' 0 16 = 0) ∧ M' 0 9 = M 0 9 ∧ M' 3 = M 3
def P_X9_begin (as : List AV) (M : Mem) : Prop := match as with
  | [.inr p, .inl a, .inl b] => p_X9_begin p a b M
  | _ => False
def C_X9_begin (as : List AV) (M : Mem) (x : Int) (M' : Mem) : Prop := match as with
  | [.inr p, .inl a, .inl b] => c_X9_begin p a b M x M'
  | _ => False
abbrev rm_X9_begin : Room := { frames := 0, cells := 0, slots := 0, locals := 0 }
abbrev OK_X9_begin (l : Launch) (D : va_G) (cy : Nat → ClassId) (ad : Nat → Nat) : Prop := MetA l D cy ad kdY lnY 12 yX9_begin cX9_begin 4 none rm_X9_begin 0 P_X9_begin C_X9_begin
theorem ca_X9_begin : CalV yX9_begin cX9_begin 4 none 2 := ⟨⟨wcX9_begin, wnX9, by decide +kernel, by decide +kernel, by decide +kernel⟩, wiX9_begin, wlX9_begin⟩
theorem rv_X9_begin : ∀ as M, P_X9_begin as M → ∃ a As q, as = .inr a :: As ∧ vwCl[kdY a]? = some q ∧ q.1 = yX9_begin.cls := by
  intro as M h
  unfold P_X9_begin at h
  split at h
  · exact ⟨_, _, (RX9, TX9, 20), rfl, by rw [h.1]; rfl, rfl⟩
  · exact h.elim
def ct_X9_begin : List (Nat × CS) := []
def J_X9_begin (I25 : Nat → Int → Int → Mem → Int → Mem → Nat → Prop) (I47 : Nat → Int → Int → Mem → Int → Mem → Nat → Prop) (p : Nat) (a : Int) (b : Int) (M0 : Mem) : IT := fun pc ls st M μ => match pc, ls, st, M, μ with
  | 25, [some (.inr p_), some (.inl a_), some (.inl b_), some (.inl k)], [], M, μ => p = p_ ∧ a = a_ ∧ b = b_ ∧ I25 p a b M0 k M μ
  | 47, [some (.inr p_), some (.inl a_), some (.inl b_), some (.inl k)], [], M, μ => p = p_ ∧ a = a_ ∧ b = b_ ∧ I47 p a b M0 k M μ
  | _, _, _, _, _ => False
def JA_X9_begin (I25 : Nat → Int → Int → Mem → Int → Mem → Nat → Prop) (I47 : Nat → Int → Int → Mem → Int → Mem → Nat → Prop) (as : List AV) (M0 : Mem) : IT := match as with
  | [.inr p, .inl a, .inl b] => J_X9_begin I25 I47 p a b M0
  | _ => fun _ _ _ _ _ => False
set_option maxRecDepth 100000 in
set_option maxHeartbeats 4000000 in
theorem met_X9_begin {l : Launch} {D : va_G} {cy : Nat → ClassId} {ad : Nat → Nat} (hA : jA ad 12)  (I25 : Nat → Int → Int → Mem → Int → Mem → Nat → Prop) (I47 : Nat → Int → Int → Mem → Int → Mem → Nat → Prop)
    (hent : ∀ (p : Nat) (a : Int) (b : Int) (M0 : Mem), p_X9_begin p a b M0 → okM M0 → inR a → inR b → kdY p = 9 ∧ (kdY p = 9 ∧ (kdY p = 9 ∧ (kdY p = 9 ∧ (inR (((up (up M0 p 0 a) p 1 b) p 0) * ((up (up M0 p 0 a) p 1 b) p 1)) ∧ (kdY p = 9 ∧ (∃ μ : Nat, p = p ∧ a = a ∧ b = b ∧ I25 p a b M0 0 (up (up (up M0 p 0 a) p 1 b) p 2 (((up (up M0 p 0 a) p 1 b) p 0) * ((up (up M0 p 0 a) p 1 b) p 1))) μ)))))))
    (hc25 : ∀ (p : Nat) (a : Int) (b : Int) (M0 : Mem), p_X9_begin p a b M0 → okM M0 → inR a → inR b → ∀ (k : Int) (M : Mem) (n : Nat), I25 p a b M0 k M n → okM M → ((144 : Int) ≤ k → (∃ μ : Nat, μ < n ∧ p = p ∧ a = a ∧ b = b ∧ I47 p a b M0 0 M μ)) ∧ (¬ (144 : Int) ≤ k → (kdY p = 9 ∧ (kdY 1 = 21 ∧ (0 ≤ k ∧ k < 144) ∧ (inR (k + 1) ∧ (∃ μ : Nat, μ < n ∧ p = p ∧ a = a ∧ b = b ∧ I25 p a b M0 (k + 1) (up M 1 (k).toNat 0) μ))))))
    (hc47 : ∀ (p : Nat) (a : Int) (b : Int) (M0 : Mem), p_X9_begin p a b M0 → okM M0 → inR a → inR b → ∀ (k : Int) (M : Mem) (n : Nat), I47 p a b M0 k M n → okM M → ((6 : Int) ≤ k → (kdY p = 9 ∧ (kdY p = 9 ∧ (kdY p = 9 ∧ (kdY p = 9 ∧ (kdY p = 9 ∧ (0 = 0 ∧ c_X9_begin p a b M0 0 (up (up (up (up (up M p 5 0) p 6 0) p 7 0) p 8 0) p 16 0)))))))) ∧ (¬ (6 : Int) ≤ k → (kdY p = 9 ∧ (kdY 2 = 21 ∧ (0 ≤ k ∧ k < 6) ∧ (inR (k + 1) ∧ (∃ μ : Nat, μ < n ∧ p = p ∧ a = a ∧ b = b ∧ I47 p a b M0 (k + 1) (up M 2 (k).toNat 1) μ))))))
    : OK_X9_begin l D cy ad := by
  refine met_of (tb := tbX9_begin) (ft := ftX9) (cst := cstY) (ct := ct_X9_begin) (cuts := [25, 47]) 55 (JA_X9_begin I25 I47) hA jWY (by decide) tbX9_begin_ok (by decide) ftX9_ok cstY_ok (ldc_of (tb := tbX9_begin) (cst := cstY) (by decide)) rfl (fun q h => absurd h List.not_mem_nil) ?_ ?_ ?_
  · intro as M0 h
    unfold P_X9_begin at h
    split at h
    · exact Nat.le_of_ble_eq_true rfl
    · exact h.elim
  · intro as M0 h hM has
    unfold P_X9_begin at h
    split at h
    next p a b => exact hent p a b M0 h hM (has a (by simp)) (has b (by simp))
    · exact h.elim
  · intro as M0 h hM has pc ls st M n hI hM1
    unfold P_X9_begin at h
    split at h
    next p a b =>
      unfold JA_X9_begin J_X9_begin at hI
      dsimp only at hI
      split at hI
      ·
        obtain ⟨rfl, rfl, rfl, hI⟩ := hI
        exact hc25 _ _ _ _ h hM (has _ (by simp)) (has _ (by simp)) _ _ _ hI hM1
      ·
        obtain ⟨rfl, rfl, rfl, hI⟩ := hI
        exact hc47 _ _ _ _ h hM (has _ (by simp)) (has _ (by simp)) _ _ _ hI hM1
      · exact hI.elim
    · exact h.elim
abbrev p_X9_keep (p : Nat) (M : Mem) : Prop := kdY p = 9 ∧ p = 0 ∧ 0 ≤ M 0 16 ∧ M 0 16 ≤ 12
abbrev c_X9_keep (p : Nat) (M : Mem) (x : Int) (M' : Mem) : Prop := (∀ i : Nat, (i : Int) < 144 * (if M 0 16 = 12 then 12 else M 0 16 + 1) → M' 9 i = kpH (M 9) (M 0 16) (M 1) i) ∧ M' 0 16 = (if M 0 16 = 12 then 12 else M 0 16 + 1) ∧ (∀ k, k ≠ 16 → M' 0 k = M 0 k) ∧ (∀ b, b ≠ 0 → b ≠ 9 → M' b = M b)
def P_X9_keep (as : List AV) (M : Mem) : Prop := match as with
  | [.inr p] => p_X9_keep p M
  | _ => False
def C_X9_keep (as : List AV) (M : Mem) (x : Int) (M' : Mem) : Prop := match as with
  | [.inr p] => c_X9_keep p M x M'
  | _ => False
abbrev rm_X9_keep : Room := { frames := 0, cells := 0, slots := 0, locals := 0 }
abbrev OK_X9_keep (l : Launch) (D : va_G) (cy : Nat → ClassId) (ad : Nat → Nat) : Prop := MetA l D cy ad kdY lnY 12 yX9_keep cX9_keep 2 none rm_X9_keep 0 P_X9_keep C_X9_keep
theorem ca_X9_keep : CalV yX9_keep cX9_keep 2 none 0 := ⟨⟨wcX9_keep, wnX9, by decide +kernel, by decide +kernel, by decide +kernel⟩, wiX9_keep, wlX9_keep⟩
theorem rv_X9_keep : ∀ as M, P_X9_keep as M → ∃ a As q, as = .inr a :: As ∧ vwCl[kdY a]? = some q ∧ q.1 = yX9_keep.cls := by
  intro as M h
  unfold P_X9_keep at h
  split at h
  · exact ⟨_, _, (RX9, TX9, 20), rfl, by rw [h.1]; rfl, rfl⟩
  · exact h.elim
def ct_X9_keep : List (Nat × CS) := []
def J_X9_keep (I21 : Nat → Mem → Int → Mem → Nat → Prop) (I57 : Nat → Mem → Int → Mem → Nat → Prop) (p : Nat) (M0 : Mem) : IT := fun pc ls st M μ => match pc, ls, st, M, μ with
  | 21, [some (.inr p_), some (.inl k)], [], M, μ => p = p_ ∧ I21 p M0 k M μ
  | 57, [some (.inr p_), some (.inl k)], [], M, μ => p = p_ ∧ I57 p M0 k M μ
  | _, _, _, _, _ => False
def JA_X9_keep (I21 : Nat → Mem → Int → Mem → Nat → Prop) (I57 : Nat → Mem → Int → Mem → Nat → Prop) (as : List AV) (M0 : Mem) : IT := match as with
  | [.inr p] => J_X9_keep I21 I57 p M0
  | _ => fun _ _ _ _ _ => False
set_option maxRecDepth 100000 in
set_option maxHeartbeats 4000000 in
theorem met_X9_keep {l : Launch} {D : va_G} {cy : Nat → ClassId} {ad : Nat → Nat} (hA : jA ad 12)  (I21 : Nat → Mem → Int → Mem → Nat → Prop) (I57 : Nat → Mem → Int → Mem → Nat → Prop)
    (hent : ∀ (p : Nat) (M0 : Mem), p_X9_keep p M0 → okM M0 → kdY p = 9 ∧ ((¬ (M0 p 16) = (12 : Int) → (∃ μ : Nat, p = p ∧ I57 p M0 0 M0 μ)) ∧ (¬ (¬ (M0 p 16) = (12 : Int)) → (kdY p = 9 ∧ (inR ((M0 p 16) - 1) ∧ (kdY p = 9 ∧ (∃ μ : Nat, p = p ∧ I21 p M0 0 (up M0 p 16 ((M0 p 16) - 1)) μ)))))))
    (hc21 : ∀ (p : Nat) (M0 : Mem), p_X9_keep p M0 → okM M0 → ∀ (k : Int) (M : Mem) (n : Nat), I21 p M0 k M n → okM M → kdY p = 9 ∧ (inR (144 * (M p 16)) ∧ (((144 * (M p 16)) ≤ k → (∃ μ : Nat, μ < n ∧ p = p ∧ I57 p M0 0 M μ)) ∧ (¬ (144 * (M p 16)) ≤ k → (kdY p = 9 ∧ (kdY p = 9 ∧ (inR (k + 144) ∧ (kdY 9 = 21 ∧ (0 ≤ (k + 144) ∧ (k + 144) < 1728) ∧ (kdY 9 = 21 ∧ (0 ≤ k ∧ k < 1728) ∧ (inR (k + 1) ∧ (∃ μ : Nat, μ < n ∧ p = p ∧ I21 p M0 (k + 1) (up M 9 (k).toNat (M 9 (k + 144).toNat)) μ)))))))))))
    (hc57 : ∀ (p : Nat) (M0 : Mem), p_X9_keep p M0 → okM M0 → ∀ (k : Int) (M : Mem) (n : Nat), I57 p M0 k M n → okM M → ((144 : Int) ≤ k → (kdY p = 9 ∧ (inR ((M p 16) + 1) ∧ (kdY p = 9 ∧ (0 = 0 ∧ c_X9_keep p M0 0 (up M p 16 ((M p 16) + 1))))))) ∧ (¬ (144 : Int) ≤ k → (kdY p = 9 ∧ (kdY p = 9 ∧ (inR (144 * (M p 16)) ∧ (inR ((144 * (M p 16)) + k) ∧ (kdY p = 9 ∧ (kdY 1 = 21 ∧ (0 ≤ k ∧ k < 144) ∧ (kdY 9 = 21 ∧ (0 ≤ ((144 * (M p 16)) + k) ∧ ((144 * (M p 16)) + k) < 1728) ∧ (inR (k + 1) ∧ (∃ μ : Nat, μ < n ∧ p = p ∧ I57 p M0 (k + 1) (up M 9 ((144 * (M p 16)) + k).toNat (M 1 (k).toNat)) μ)))))))))))
    : OK_X9_keep l D cy ad := by
  refine met_of (tb := tbX9_keep) (ft := ftX9) (cst := cstY) (ct := ct_X9_keep) (cuts := [21, 57]) 59 (JA_X9_keep I21 I57) hA jWY (by decide) tbX9_keep_ok (by decide) ftX9_ok cstY_ok (ldc_of (tb := tbX9_keep) (cst := cstY) (by decide)) rfl (fun q h => absurd h List.not_mem_nil) ?_ ?_ ?_
  · intro as M0 h
    unfold P_X9_keep at h
    split at h
    · exact Nat.le_of_ble_eq_true rfl
    · exact h.elim
  · intro as M0 h hM has
    unfold P_X9_keep at h
    split at h
    next p => exact hent p M0 h hM
    · exact h.elim
  · intro as M0 h hM has pc ls st M n hI hM1
    unfold P_X9_keep at h
    split at h
    next p =>
      unfold JA_X9_keep J_X9_keep at hI
      dsimp only at hI
      split at hI
      ·
        obtain ⟨rfl, hI⟩ := hI
        exact hc21 _ _ h hM _ _ _ hI hM1
      ·
        obtain ⟨rfl, hI⟩ := hI
        exact hc57 _ _ h hM _ _ _ hI hM1
      · exact hI.elim
    · exact h.elim
