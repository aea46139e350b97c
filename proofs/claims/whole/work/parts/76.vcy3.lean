abbrev p_X9_loops (p : Nat) (f : Int) (M : Mem) : Prop := kdY p = 9 ∧ p = 0 ∧ gyB M ∧ ∃ κ, kiY M κ ∧ layY M (gY M) κ
abbrev c_X9_loops (p : Nat) (f : Int) (M : Mem) (x : Int) (M' : Mem) : Prop := (∀ κ, kiY M κ → layY M (gY M) κ → x = lpF (lab (gY M) κ) (crs (gY M) κ) (gY M) f (nT (gY M) * 4)) ∧ M' = M
def P_X9_loops (as : List AV) (M : Mem) : Prop := match as with
  | [.inr p, .inl f] => p_X9_loops p f M
  | _ => False
def C_X9_loops (as : List AV) (M : Mem) (x : Int) (M' : Mem) : Prop := match as with
  | [.inr p, .inl f] => c_X9_loops p f M x M'
  | _ => False
abbrev rm_X9_loops : Room := { frames := 3, cells := 0, slots := 0, locals := 70 }
abbrev OK_X9_loops (l : Launch) (D : va_G) (cy : Nat → ClassId) (ad : Nat → Nat) : Prop := MetA l D cy ad kdY lnY 12 yX9_loops cX9_loops 9 (some .int) rm_X9_loops 1 P_X9_loops C_X9_loops
theorem ca_X9_loops : CalV yX9_loops cX9_loops 9 (some .int) 1 := ⟨⟨wcX9_loops, wnX9, by decide +kernel, by decide +kernel, by decide +kernel⟩, wiX9_loops, wlX9_loops⟩
theorem rv_X9_loops : ∀ as M, P_X9_loops as M → ∃ a As q, as = .inr a :: As ∧ vwCl[kdY a]? = some q ∧ q.1 = yX9_loops.cls := by
  intro as M h
  unfold P_X9_loops at h
  split at h
  · exact ⟨_, _, (RX9, TX9, 20), rfl, by rw [h.1]; rfl, rfl⟩
  · exact h.elim
def ct_X9_loops : List (Nat × CS) := [(25, (3, 1, P_X9_next, C_X9_next)), (78, (3, 1, P_X9_seamOf, C_X9_seamOf))]
def J_X9_loops (I4 : Nat → Int → Mem → Int → Int → Mem → Nat → Prop) (I90 : Nat → Int → Mem → Int → Int → Int → Int → Int → Int → Int → Mem → Nat → Prop) (p : Nat) (f : Int) (M0 : Mem) : IT := fun pc ls st M μ => match pc, ls, st, M, μ with
  | 4, [some (.inr p_), some (.inl f_), some (.inl s), some (.inl k), _, _, _, _, _], [], M, μ => p = p_ ∧ f = f_ ∧ I4 p f M0 s k M μ
  | 90, [some (.inr p_), some (.inl f_), some (.inl s), some (.inl k), some (.inl t), some (.inl u), some (.inl i), some (.inl m), some (.inl c)], [], M, μ => p = p_ ∧ f = f_ ∧ I90 p f M0 s k t u i m c M μ
  | _, _, _, _, _ => False
def JA_X9_loops (I4 : Nat → Int → Mem → Int → Int → Mem → Nat → Prop) (I90 : Nat → Int → Mem → Int → Int → Int → Int → Int → Int → Int → Mem → Nat → Prop) (as : List AV) (M0 : Mem) : IT := match as with
  | [.inr p, .inl f] => J_X9_loops I4 I90 p f M0
  | _ => fun _ _ _ _ _ => False
theorem si_X9_loops_25 {l : Launch} {D : va_G} {cy : Nat → ClassId} {ad : Nat → Nat} (o : OK_X9_next l D cy ad) : Site l D cy ad kdY lnY 12 yX9_loops.cls tbX9_loops rm_X9_loops 25 (3, 1, P_X9_next, C_X9_next) := Or.inl ⟨89, 2, yX9_next, cX9_next, 6, (some .int), rm_X9_next, rfl, rfl, o, ca_X9_next, mkX9_89, ⟨rfl, rfl, by decide, by decide⟩, rv_X9_next⟩
theorem si_X9_loops_78 {l : Launch} {D : va_G} {cy : Nat → ClassId} {ad : Nat → Nat} (o : OK_X9_seamOf l D cy ad) : Site l D cy ad kdY lnY 12 yX9_loops.cls tbX9_loops rm_X9_loops 78 (3, 1, P_X9_seamOf, C_X9_seamOf) := Or.inl ⟨82, 2, yX9_seamOf, cX9_seamOf, 5, (some .int), rm_X9_seamOf, rfl, rfl, o, ca_X9_seamOf, mkX9_82, ⟨rfl, rfl, by decide, by decide⟩, rv_X9_seamOf⟩
set_option maxRecDepth 100000 in
set_option maxHeartbeats 4000000 in
theorem met_X9_loops {l : Launch} {D : va_G} {cy : Nat → ClassId} {ad : Nat → Nat} (hA : jA ad 12) (o_X9_next : OK_X9_next l D cy ad) (o_X9_seamOf : OK_X9_seamOf l D cy ad) (I4 : Nat → Int → Mem → Int → Int → Mem → Nat → Prop) (I90 : Nat → Int → Mem → Int → Int → Int → Int → Int → Int → Int → Mem → Nat → Prop)
    (hent : ∀ (p : Nat) (f : Int) (M0 : Mem), p_X9_loops p f M0 → okM M0 → inR f → ∃ μ : Nat, p = p ∧ f = f ∧ I4 p f M0 1 0 M0 μ)
    (hc4 : ∀ (p : Nat) (f : Int) (M0 : Mem), p_X9_loops p f M0 → okM M0 → inR f → ∀ (s : Int) (k : Int) (M : Mem) (n : Nat), I4 p f M0 s k M n → okM M → kdY p = 9 ∧ (inR (4 * (M p 2)) ∧ (((4 * (M p 2)) ≤ k → ((True) ∧ c_X9_loops p f M0 s M)) ∧ (¬ (4 * (M p 2)) ≤ k → ((0 ≤ k ∧ 0 < (4 : Int)) ∧ (0 < (4 : Int) ∧ (p_X9_next p (k / 4) (Int.tmod k 4) M ∧ ∀ (x2 : Int) (M1 : Mem), inR x2 → okM M1 → c_X9_next p (k / 4) (Int.tmod k 4) M x2 M1 → (kdY p = 9 ∧ (kdY 5 = 21 ∧ (0 ≤ (k / 4) ∧ (k / 4) < 144) ∧ ((¬ (M1 5 (k / 4).toNat) = f → (inR (k + 1) ∧ (∃ μ : Nat, μ < n ∧ p = p ∧ f = f ∧ I4 p f M0 s (k + 1) M1 μ))) ∧ (¬ (¬ (M1 5 (k / 4).toNat) = f) → ((x2 < (0 : Int) → (inR (k + 1) ∧ (∃ μ : Nat, μ < n ∧ p = p ∧ f = f ∧ I4 p f M0 s (k + 1) M1 μ))) ∧ (¬ x2 < (0 : Int) → (kdY p = 9 ∧ (kdY 5 = 21 ∧ (0 ≤ x2 ∧ x2 < 144) ∧ ((¬ (M1 5 (x2).toNat) = f → (inR (k + 1) ∧ (∃ μ : Nat, μ < n ∧ p = p ∧ f = f ∧ I4 p f M0 s (k + 1) M1 μ))) ∧ (¬ (¬ (M1 5 (x2).toNat) = f) → (kdY p = 9 ∧ (kdY 6 = 21 ∧ (0 ≤ (k / 4) ∧ (k / 4) < 144) ∧ (kdY p = 9 ∧ (kdY 6 = 21 ∧ (0 ≤ x2 ∧ x2 < 144) ∧ (0 < (4 : Int) ∧ (p_X9_seamOf p (k / 4) (Int.tmod k 4) M1 ∧ ∀ (x4 : Int) (M3 : Mem), inR x4 → okM M3 → c_X9_seamOf p (k / 4) (Int.tmod k 4) M1 x4 M3 → (∃ μ : Nat, μ < n ∧ p = p ∧ f = f ∧ I90 p f M0 s k (k / 4) x2 (bXor (bXor (M1 6 (k / 4).toNat) (M1 6 (x2).toNat)) x4) 0 0 M3 μ))))))))))))))))))))))))
    (hc90 : ∀ (p : Nat) (f : Int) (M0 : Mem), p_X9_loops p f M0 → okM M0 → inR f → ∀ (s : Int) (k : Int) (t : Int) (u : Int) (i : Int) (m : Int) (c : Int) (M : Mem) (n : Nat), I90 p f M0 s k t u i m c M n → okM M → ((4 : Int) ≤ c → (inR (k + 1) ∧ (∃ μ : Nat, μ < n ∧ p = p ∧ f = f ∧ I4 p f M0 (bOr s m) (k + 1) M μ))) ∧ (¬ (4 : Int) ≤ c → ((¬ (bAnd (bShr s c) 1) = (1 : Int) → (inR (c + 1) ∧ (∃ μ : Nat, μ < n ∧ p = p ∧ f = f ∧ I90 p f M0 s k t u i (bOr m 0) (c + 1) M μ))) ∧ (¬ (¬ (bAnd (bShr s c) 1) = (1 : Int)) → (inR (c + 1) ∧ (∃ μ : Nat, μ < n ∧ p = p ∧ f = f ∧ I90 p f M0 s k t u i (bOr m (bShl 1 (bXor c i))) (c + 1) M μ))))))
    : OK_X9_loops l D cy ad := by
  refine met_of (tb := tbX9_loops) (ft := ftX9) (cst := cstY) (ct := ct_X9_loops) (cuts := [4, 90]) 88 (JA_X9_loops I4 I90) hA jWY (by decide) tbX9_loops_ok (by decide) ftX9_ok cstY_ok (ldc_of (tb := tbX9_loops) (cst := cstY) (by decide)) rfl (List.forall_mem_cons.mpr ⟨si_X9_loops_25 o_X9_next, List.forall_mem_cons.mpr ⟨si_X9_loops_78 o_X9_seamOf, fun q h => absurd h List.not_mem_nil⟩⟩) ?_ ?_ ?_
  · intro as M0 h
    unfold P_X9_loops at h
    split at h
    · exact Nat.le_of_ble_eq_true rfl
    · exact h.elim
  · intro as M0 h hM has
    unfold P_X9_loops at h
    split at h
    next p f => exact hent p f M0 h hM (has f (by simp))
    · exact h.elim
  · intro as M0 h hM has pc ls st M n hI hM1
    unfold P_X9_loops at h
    split at h
    next p f =>
      unfold JA_X9_loops J_X9_loops at hI
      dsimp only at hI
      split at hI
      ·
        obtain ⟨rfl, rfl, hI⟩ := hI
        exact hc4 _ _ _ h hM (has _ (by simp)) _ _ _ _ hI hM1
      ·
        obtain ⟨rfl, rfl, hI⟩ := hI
        exact hc90 _ _ _ h hM (has _ (by simp)) _ _ _ _ _ _ _ _ _ hI hM1
      · exact hI.elim
    · exact h.elim
abbrev p_X9_isOneSided (p : Nat) (f : Int) (M : Mem) : Prop := kdY p = 9 ∧ p = 0 ∧ gyB M ∧ ∃ κ, kiY M κ ∧ layY M (gY M) κ
abbrev c_X9_isOneSided (p : Nat) (f : Int) (M : Mem) (x : Int) (M' : Mem) : Prop := (∀ κ, kiY M κ → layY M (gY M) κ → x = propF (gY M) κ f 5) ∧ M' = M
def P_X9_isOneSided (as : List AV) (M : Mem) : Prop := match as with
  | [.inr p, .inl f] => p_X9_isOneSided p f M
  | _ => False
def C_X9_isOneSided (as : List AV) (M : Mem) (x : Int) (M' : Mem) : Prop := match as with
  | [.inr p, .inl f] => c_X9_isOneSided p f M x M'
  | _ => False
abbrev rm_X9_isOneSided : Room := { frames := 4, cells := 0, slots := 0, locals := 98 }
abbrev OK_X9_isOneSided (l : Launch) (D : va_G) (cy : Nat → ClassId) (ad : Nat → Nat) : Prop := MetA l D cy ad kdY lnY 12 yX9_isOneSided cX9_isOneSided 6 (some .boolean) rm_X9_isOneSided 2 P_X9_isOneSided C_X9_isOneSided
theorem ca_X9_isOneSided : CalV yX9_isOneSided cX9_isOneSided 6 (some .boolean) 1 := ⟨⟨wcX9_isOneSided, wnX9, by decide +kernel, by decide +kernel, by decide +kernel⟩, wiX9_isOneSided, wlX9_isOneSided⟩
theorem rv_X9_isOneSided : ∀ as M, P_X9_isOneSided as M → ∃ a As q, as = .inr a :: As ∧ vwCl[kdY a]? = some q ∧ q.1 = yX9_isOneSided.cls := by
  intro as M h
  unfold P_X9_isOneSided at h
  split at h
  · exact ⟨_, _, (RX9, TX9, 20), rfl, by rw [h.1]; rfl, rfl⟩
  · exact h.elim
def ct_X9_isOneSided : List (Nat × CS) := [(2, (2, 1, P_X9_loops, C_X9_loops))]
def J_X9_isOneSided (I11 : Nat → Int → Mem → Int → Int → Int → Mem → Nat → Prop) (p : Nat) (f : Int) (M0 : Mem) : IT := fun pc ls st M μ => match pc, ls, st, M, μ with
  | 11, [some (.inr p_), some (.inl f_), some (.inl s), some (.inl b), some (.inl c), _], [], M, μ => p = p_ ∧ f = f_ ∧ I11 p f M0 s b c M μ
  | _, _, _, _, _ => False
def JA_X9_isOneSided (I11 : Nat → Int → Mem → Int → Int → Int → Mem → Nat → Prop) (as : List AV) (M0 : Mem) : IT := match as with
  | [.inr p, .inl f] => J_X9_isOneSided I11 p f M0
  | _ => fun _ _ _ _ _ => False
theorem si_X9_isOneSided_2 {l : Launch} {D : va_G} {cy : Nat → ClassId} {ad : Nat → Nat} (o : OK_X9_loops l D cy ad) : Site l D cy ad kdY lnY 12 yX9_isOneSided.cls tbX9_isOneSided rm_X9_isOneSided 2 (2, 1, P_X9_loops, C_X9_loops) := Or.inl ⟨116, 1, yX9_loops, cX9_loops, 9, (some .int), rm_X9_loops, rfl, rfl, o, ca_X9_loops, mkX9_116, ⟨rfl, rfl, by decide, by decide⟩, rv_X9_loops⟩
set_option maxRecDepth 100000 in
set_option maxHeartbeats 4000000 in
theorem met_X9_isOneSided {l : Launch} {D : va_G} {cy : Nat → ClassId} {ad : Nat → Nat} (hA : jA ad 12) (o_X9_loops : OK_X9_loops l D cy ad) (I11 : Nat → Int → Mem → Int → Int → Int → Mem → Nat → Prop)
    (hent : ∀ (p : Nat) (f : Int) (M0 : Mem), p_X9_isOneSided p f M0 → okM M0 → inR f → p_X9_loops p f M0 ∧ ∀ (x2 : Int) (M1 : Mem), inR x2 → okM M1 → c_X9_loops p f M0 x2 M1 → (∃ μ : Nat, p = p ∧ f = f ∧ I11 p f M0 x2 0 1 M1 μ))
    (hc11 : ∀ (p : Nat) (f : Int) (M0 : Mem), p_X9_isOneSided p f M0 → okM M0 → inR f → ∀ (s : Int) (b : Int) (c : Int) (M : Mem) (n : Nat), I11 p f M0 s b c M n → okM M → ((4 : Int) ≤ c → ((b = 0 ∨ b = 1) ∧ c_X9_isOneSided p f M0 b M)) ∧ (¬ (4 : Int) ≤ c → ((¬ (bAnd c 1) = (1 : Int) → ((¬ (bAnd c 2) = (2 : Int) → (((0 : Int) = (0 : Int) → ((¬ b = (0 : Int) → (inR (c + 1) ∧ (∃ μ : Nat, μ < n ∧ p = p ∧ f = f ∧ I11 p f M0 s 1 (c + 1) M μ))) ∧ (¬ (¬ b = (0 : Int)) → ((¬ (bAnd (bShr s c) 1) = (1 : Int) → (inR (c + 1) ∧ (∃ μ : Nat, μ < n ∧ p = p ∧ f = f ∧ I11 p f M0 s 0 (c + 1) M μ))) ∧ (¬ (¬ (bAnd (bShr s c) 1) = (1 : Int)) → (((0 : Int) = (0 : Int) → (inR (c + 1) ∧ (∃ μ : Nat, μ < n ∧ p = p ∧ f = f ∧ I11 p f M0 s 0 (c + 1) M μ))) ∧ (¬ (0 : Int) = (0 : Int) → (inR (c + 1) ∧ (∃ μ : Nat, μ < n ∧ p = p ∧ f = f ∧ I11 p f M0 s 1 (c + 1) M μ))))))))) ∧ (¬ (0 : Int) = (0 : Int) → ((¬ b = (0 : Int) → (inR (c + 1) ∧ (∃ μ : Nat, μ < n ∧ p = p ∧ f = f ∧ I11 p f M0 s 1 (c + 1) M μ))) ∧ (¬ (¬ b = (0 : Int)) → ((¬ (bAnd (bShr s c) 1) = (1 : Int) → (inR (c + 1) ∧ (∃ μ : Nat, μ < n ∧ p = p ∧ f = f ∧ I11 p f M0 s 0 (c + 1) M μ))) ∧ (¬ (¬ (bAnd (bShr s c) 1) = (1 : Int)) → (((1 : Int) = (0 : Int) → (inR (c + 1) ∧ (∃ μ : Nat, μ < n ∧ p = p ∧ f = f ∧ I11 p f M0 s 0 (c + 1) M μ))) ∧ (¬ (1 : Int) = (0 : Int) → (inR (c + 1) ∧ (∃ μ : Nat, μ < n ∧ p = p ∧ f = f ∧ I11 p f M0 s 1 (c + 1) M μ))))))))))) ∧ (¬ (¬ (bAnd c 2) = (2 : Int)) → (kdY p = 9 ∧ ((¬ (M p 7) = (2 : Int) → (((0 : Int) = (0 : Int) → ((¬ b = (0 : Int) → (inR (c + 1) ∧ (∃ μ : Nat, μ < n ∧ p = p ∧ f = f ∧ I11 p f M0 s 1 (c + 1) M μ))) ∧ (¬ (¬ b = (0 : Int)) → ((¬ (bAnd (bShr s c) 1) = (1 : Int) → (inR (c + 1) ∧ (∃ μ : Nat, μ < n ∧ p = p ∧ f = f ∧ I11 p f M0 s 0 (c + 1) M μ))) ∧ (¬ (¬ (bAnd (bShr s c) 1) = (1 : Int)) → (((0 : Int) = (0 : Int) → (inR (c + 1) ∧ (∃ μ : Nat, μ < n ∧ p = p ∧ f = f ∧ I11 p f M0 s 0 (c + 1) M μ))) ∧ (¬ (0 : Int) = (0 : Int) → (inR (c + 1) ∧ (∃ μ : Nat, μ < n ∧ p = p ∧ f = f ∧ I11 p f M0 s 1 (c + 1) M μ))))))))) ∧ (¬ (0 : Int) = (0 : Int) → ((¬ b = (0 : Int) → (inR (c + 1) ∧ (∃ μ : Nat, μ < n ∧ p = p ∧ f = f ∧ I11 p f M0 s 1 (c + 1) M μ))) ∧ (¬ (¬ b = (0 : Int)) → ((¬ (bAnd (bShr s c) 1) = (1 : Int) → (inR (c + 1) ∧ (∃ μ : Nat, μ < n ∧ p = p ∧ f = f ∧ I11 p f M0 s 0 (c + 1) M μ))) ∧ (¬ (¬ (bAnd (bShr s c) 1) = (1 : Int)) → (((1 : Int) = (0 : Int) → (inR (c + 1) ∧ (∃ μ : Nat, μ < n ∧ p = p ∧ f = f ∧ I11 p f M0 s 0 (c + 1) M μ))) ∧ (¬ (1 : Int) = (0 : Int) → (inR (c + 1) ∧ (∃ μ : Nat, μ < n ∧ p = p ∧ f = f ∧ I11 p f M0 s 1 (c + 1) M μ))))))))))) ∧ (¬ (¬ (M p 7) = (2 : Int)) → (((0 : Int) = (1 : Int) → ((¬ b = (0 : Int) → (inR (c + 1) ∧ (∃ μ : Nat, μ < n ∧ p = p ∧ f = f ∧ I11 p f M0 s 1 (c + 1) M μ))) ∧ (¬ (¬ b = (0 : Int)) → ((¬ (bAnd (bShr s c) 1) = (1 : Int) → (inR (c + 1) ∧ (∃ μ : Nat, μ < n ∧ p = p ∧ f = f ∧ I11 p f M0 s 0 (c + 1) M μ))) ∧ (¬ (¬ (bAnd (bShr s c) 1) = (1 : Int)) → (((0 : Int) = (0 : Int) → (inR (c + 1) ∧ (∃ μ : Nat, μ < n ∧ p = p ∧ f = f ∧ I11 p f M0 s 0 (c + 1) M μ))) ∧ (¬ (0 : Int) = (0 : Int) → (inR (c + 1) ∧ (∃ μ : Nat, μ < n ∧ p = p ∧ f = f ∧ I11 p f M0 s 1 (c + 1) M μ))))))))) ∧ (¬ (0 : Int) = (1 : Int) → ((¬ b = (0 : Int) → (inR (c + 1) ∧ (∃ μ : Nat, μ < n ∧ p = p ∧ f = f ∧ I11 p f M0 s 1 (c + 1) M μ))) ∧ (¬ (¬ b = (0 : Int)) → ((¬ (bAnd (bShr s c) 1) = (1 : Int) → (inR (c + 1) ∧ (∃ μ : Nat, μ < n ∧ p = p ∧ f = f ∧ I11 p f M0 s 0 (c + 1) M μ))) ∧ (¬ (¬ (bAnd (bShr s c) 1) = (1 : Int)) → (((1 : Int) = (0 : Int) → (inR (c + 1) ∧ (∃ μ : Nat, μ < n ∧ p = p ∧ f = f ∧ I11 p f M0 s 0 (c + 1) M μ))) ∧ (¬ (1 : Int) = (0 : Int) → (inR (c + 1) ∧ (∃ μ : Nat, μ < n ∧ p = p ∧ f = f ∧ I11 p f M0 s 1 (c + 1) M μ)))))))))))))))) ∧ (¬ (¬ (bAnd c 1) = (1 : Int)) → (kdY p = 9 ∧ ((¬ (M p 5) = (2 : Int) → ((¬ (bAnd c 2) = (2 : Int) → (((0 : Int) = (0 : Int) → ((¬ b = (0 : Int) → (inR (c + 1) ∧ (∃ μ : Nat, μ < n ∧ p = p ∧ f = f ∧ I11 p f M0 s 1 (c + 1) M μ))) ∧ (¬ (¬ b = (0 : Int)) → ((¬ (bAnd (bShr s c) 1) = (1 : Int) → (inR (c + 1) ∧ (∃ μ : Nat, μ < n ∧ p = p ∧ f = f ∧ I11 p f M0 s 0 (c + 1) M μ))) ∧ (¬ (¬ (bAnd (bShr s c) 1) = (1 : Int)) → (((0 : Int) = (0 : Int) → (inR (c + 1) ∧ (∃ μ : Nat, μ < n ∧ p = p ∧ f = f ∧ I11 p f M0 s 0 (c + 1) M μ))) ∧ (¬ (0 : Int) = (0 : Int) → (inR (c + 1) ∧ (∃ μ : Nat, μ < n ∧ p = p ∧ f = f ∧ I11 p f M0 s 1 (c + 1) M μ))))))))) ∧ (¬ (0 : Int) = (0 : Int) → ((¬ b = (0 : Int) → (inR (c + 1) ∧ (∃ μ : Nat, μ < n ∧ p = p ∧ f = f ∧ I11 p f M0 s 1 (c + 1) M μ))) ∧ (¬ (¬ b = (0 : Int)) → ((¬ (bAnd (bShr s c) 1) = (1 : Int) → (inR (c + 1) ∧ (∃ μ : Nat, μ < n ∧ p = p ∧ f = f ∧ I11 p f M0 s 0 (c + 1) M μ))) ∧ (¬ (¬ (bAnd (bShr s c) 1) = (1 : Int)) → (((1 : Int) = (0 : Int) → (inR (c + 1) ∧ (∃ μ : Nat, μ < n ∧ p = p ∧ f = f ∧ I11 p f M0 s 0 (c + 1) M μ))) ∧ (¬ (1 : Int) = (0 : Int) → (inR (c + 1) ∧ (∃ μ : Nat, μ < n ∧ p = p ∧ f = f ∧ I11 p f M0 s 1 (c + 1) M μ))))))))))) ∧ (¬ (¬ (bAnd c 2) = (2 : Int)) → (kdY p = 9 ∧ ((¬ (M p 7) = (2 : Int) → (((0 : Int) = (0 : Int) → ((¬ b = (0 : Int) → (inR (c + 1) ∧ (∃ μ : Nat, μ < n ∧ p = p ∧ f = f ∧ I11 p f M0 s 1 (c + 1) M μ))) ∧ (¬ (¬ b = (0 : Int)) → ((¬ (bAnd (bShr s c) 1) = (1 : Int) → (inR (c + 1) ∧ (∃ μ : Nat, μ < n ∧ p = p ∧ f = f ∧ I11 p f M0 s 0 (c + 1) M μ))) ∧ (¬ (¬ (bAnd (bShr s c) 1) = (1 : Int)) → (((0 : Int) = (0 : Int) → (inR (c + 1) ∧ (∃ μ : Nat, μ < n ∧ p = p ∧ f = f ∧ I11 p f M0 s 0 (c + 1) M μ))) ∧ (¬ (0 : Int) = (0 : Int) → (inR (c + 1) ∧ (∃ μ : Nat, μ < n ∧ p = p ∧ f = f ∧ I11 p f M0 s 1 (c + 1) M μ))))))))) ∧ (¬ (0 : Int) = (0 : Int) → ((¬ b = (0 : Int) → (inR (c + 1) ∧ (∃ μ : Nat, μ < n ∧ p = p ∧ f = f ∧ I11 p f M0 s 1 (c + 1) M μ))) ∧ (¬ (¬ b = (0 : Int)) → ((¬ (bAnd (bShr s c) 1) = (1 : Int) → (inR (c + 1) ∧ (∃ μ : Nat, μ < n ∧ p = p ∧ f = f ∧ I11 p f M0 s 0 (c + 1) M μ))) ∧ (¬ (¬ (bAnd (bShr s c) 1) = (1 : Int)) → (((1 : Int) = (0 : Int) → (inR (c + 1) ∧ (∃ μ : Nat, μ < n ∧ p = p ∧ f = f ∧ I11 p f M0 s 0 (c + 1) M μ))) ∧ (¬ (1 : Int) = (0 : Int) → (inR (c + 1) ∧ (∃ μ : Nat, μ < n ∧ p = p ∧ f = f ∧ I11 p f M0 s 1 (c + 1) M μ))))))))))) ∧ (¬ (¬ (M p 7) = (2 : Int)) → (((0 : Int) = (1 : Int) → ((¬ b = (0 : Int) → (inR (c + 1) ∧ (∃ μ : Nat, μ < n ∧ p = p ∧ f = f ∧ I11 p f M0 s 1 (c + 1) M μ))) ∧ (¬ (¬ b = (0 : Int)) → ((¬ (bAnd (bShr s c) 1) = (1 : Int) → (inR (c + 1) ∧ (∃ μ : Nat, μ < n ∧ p = p ∧ f = f ∧ I11 p f M0 s 0 (c + 1) M μ))) ∧ (¬ (¬ (bAnd (bShr s c) 1) = (1 : Int)) → (((0 : Int) = (0 : Int) → (inR (c + 1) ∧ (∃ μ : Nat, μ < n ∧ p = p ∧ f = f ∧ I11 p f M0 s 0 (c + 1) M μ))) ∧ (¬ (0 : Int) = (0 : Int) → (inR (c + 1) ∧ (∃ μ : Nat, μ < n ∧ p = p ∧ f = f ∧ I11 p f M0 s 1 (c + 1) M μ))))))))) ∧ (¬ (0 : Int) = (1 : Int) → ((¬ b = (0 : Int) → (inR (c + 1) ∧ (∃ μ : Nat, μ < n ∧ p = p ∧ f = f ∧ I11 p f M0 s 1 (c + 1) M μ))) ∧ (¬ (¬ b = (0 : Int)) → ((¬ (bAnd (bShr s c) 1) = (1 : Int) → (inR (c + 1) ∧ (∃ μ : Nat, μ < n ∧ p = p ∧ f = f ∧ I11 p f M0 s 0 (c + 1) M μ))) ∧ (¬ (¬ (bAnd (bShr s c) 1) = (1 : Int)) → (((1 : Int) = (0 : Int) → (inR (c + 1) ∧ (∃ μ : Nat, μ < n ∧ p = p ∧ f = f ∧ I11 p f M0 s 0 (c + 1) M μ))) ∧ (¬ (1 : Int) = (0 : Int) → (inR (c + 1) ∧ (∃ μ : Nat, μ < n ∧ p = p ∧ f = f ∧ I11 p f M0 s 1 (c + 1) M μ)))))))))))))))) ∧ (¬ (¬ (M p 5) = (2 : Int)) → ((¬ (bAnd c 2) = (2 : Int) → (((1 : Int) = (0 : Int) → ((¬ b = (0 : Int) → (inR (c + 1) ∧ (∃ μ : Nat, μ < n ∧ p = p ∧ f = f ∧ I11 p f M0 s 1 (c + 1) M μ))) ∧ (¬ (¬ b = (0 : Int)) → ((¬ (bAnd (bShr s c) 1) = (1 : Int) → (inR (c + 1) ∧ (∃ μ : Nat, μ < n ∧ p = p ∧ f = f ∧ I11 p f M0 s 0 (c + 1) M μ))) ∧ (¬ (¬ (bAnd (bShr s c) 1) = (1 : Int)) → (((0 : Int) = (0 : Int) → (inR (c + 1) ∧ (∃ μ : Nat, μ < n ∧ p = p ∧ f = f ∧ I11 p f M0 s 0 (c + 1) M μ))) ∧ (¬ (0 : Int) = (0 : Int) → (inR (c + 1) ∧ (∃ μ : Nat, μ < n ∧ p = p ∧ f = f ∧ I11 p f M0 s 1 (c + 1) M μ))))))))) ∧ (¬ (1 : Int) = (0 : Int) → ((¬ b = (0 : Int) → (inR (c + 1) ∧ (∃ μ : Nat, μ < n ∧ p = p ∧ f = f ∧ I11 p f M0 s 1 (c + 1) M μ))) ∧ (¬ (¬ b = (0 : Int)) → ((¬ (bAnd (bShr s c) 1) = (1 : Int) → (inR (c + 1) ∧ (∃ μ : Nat, μ < n ∧ p = p ∧ f = f ∧ I11 p f M0 s 0 (c + 1) M μ))) ∧ (¬ (¬ (bAnd (bShr s c) 1) = (1 : Int)) → (((1 : Int) = (0 : Int) → (inR (c + 1) ∧ (∃ μ : Nat, μ < n ∧ p = p ∧ f = f ∧ I11 p f M0 s 0 (c + 1) M μ))) ∧ (¬ (1 : Int) = (0 : Int) → (inR (c + 1) ∧ (∃ μ : Nat, μ < n ∧ p = p ∧ f = f ∧ I11 p f M0 s 1 (c + 1) M μ))))))))))) ∧ (¬ (¬ (bAnd c 2) = (2 : Int)) → (kdY p = 9 ∧ ((¬ (M p 7) = (2 : Int) → (((1 : Int) = (0 : Int) → ((¬ b = (0 : Int) → (inR (c + 1) ∧ (∃ μ : Nat, μ < n ∧ p = p ∧ f = f ∧ I11 p f M0 s 1 (c + 1) M μ))) ∧ (¬ (¬ b = (0 : Int)) → ((¬ (bAnd (bShr s c) 1) = (1 : Int) → (inR (c + 1) ∧ (∃ μ : Nat, μ < n ∧ p = p ∧ f = f ∧ I11 p f M0 s 0 (c + 1) M μ))) ∧ (¬ (¬ (bAnd (bShr s c) 1) = (1 : Int)) → (((0 : Int) = (0 : Int) → (inR (c + 1) ∧ (∃ μ : Nat, μ < n ∧ p = p ∧ f = f ∧ I11 p f M0 s 0 (c + 1) M μ))) ∧ (¬ (0 : Int) = (0 : Int) → (inR (c + 1) ∧ (∃ μ : Nat, μ < n ∧ p = p ∧ f = f ∧ I11 p f M0 s 1 (c + 1) M μ))))))))) ∧ (¬ (1 : Int) = (0 : Int) → ((¬ b = (0 : Int) → (inR (c + 1) ∧ (∃ μ : Nat, μ < n ∧ p = p ∧ f = f ∧ I11 p f M0 s 1 (c + 1) M μ))) ∧ (¬ (¬ b = (0 : Int)) → ((¬ (bAnd (bShr s c) 1) = (1 : Int) → (inR (c + 1) ∧ (∃ μ : Nat, μ < n ∧ p = p ∧ f = f ∧ I11 p f M0 s 0 (c + 1) M μ))) ∧ (¬ (¬ (bAnd (bShr s c) 1) = (1 : Int)) → (((1 : Int) = (0 : Int) → (inR (c + 1) ∧ (∃ μ : Nat, μ < n ∧ p = p ∧ f = f ∧ I11 p f M0 s 0 (c + 1) M μ))) ∧ (¬ (1 : Int) = (0 : Int) → (inR (c + 1) ∧ (∃ μ : Nat, μ < n ∧ p = p ∧ f = f ∧ I11 p f M0 s 1 (c + 1) M μ))))))))))) ∧ (¬ (¬ (M p 7) = (2 : Int)) → (((1 : Int) = (1 : Int) → ((¬ b = (0 : Int) → (inR (c + 1) ∧ (∃ μ : Nat, μ < n ∧ p = p ∧ f = f ∧ I11 p f M0 s 1 (c + 1) M μ))) ∧ (¬ (¬ b = (0 : Int)) → ((¬ (bAnd (bShr s c) 1) = (1 : Int) → (inR (c + 1) ∧ (∃ μ : Nat, μ < n ∧ p = p ∧ f = f ∧ I11 p f M0 s 0 (c + 1) M μ))) ∧ (¬ (¬ (bAnd (bShr s c) 1) = (1 : Int)) → (((0 : Int) = (0 : Int) → (inR (c + 1) ∧ (∃ μ : Nat, μ < n ∧ p = p ∧ f = f ∧ I11 p f M0 s 0 (c + 1) M μ))) ∧ (¬ (0 : Int) = (0 : Int) → (inR (c + 1) ∧ (∃ μ : Nat, μ < n ∧ p = p ∧ f = f ∧ I11 p f M0 s 1 (c + 1) M μ))))))))) ∧ (¬ (1 : Int) = (1 : Int) → ((¬ b = (0 : Int) → (inR (c + 1) ∧ (∃ μ : Nat, μ < n ∧ p = p ∧ f = f ∧ I11 p f M0 s 1 (c + 1) M μ))) ∧ (¬ (¬ b = (0 : Int)) → ((¬ (bAnd (bShr s c) 1) = (1 : Int) → (inR (c + 1) ∧ (∃ μ : Nat, μ < n ∧ p = p ∧ f = f ∧ I11 p f M0 s 0 (c + 1) M μ))) ∧ (¬ (¬ (bAnd (bShr s c) 1) = (1 : Int)) → (((1 : Int) = (0 : Int) → (inR (c + 1) ∧ (∃ μ : Nat, μ < n ∧ p = p ∧ f = f ∧ I11 p f M0 s 0 (c + 1) M μ))) ∧ (¬ (1 : Int) = (0 : Int) → (inR (c + 1) ∧ (∃ μ : Nat, μ < n ∧ p = p ∧ f = f ∧ I11 p f M0 s 1 (c + 1) M μ))))))))))))))))))))))
    : OK_X9_isOneSided l D cy ad := by
  refine met_of (tb := tbX9_isOneSided) (ft := ftX9) (cst := cstY) (ct := ct_X9_isOneSided) (cuts := [11]) 61 (JA_X9_isOneSided I11) hA jWY (by decide) tbX9_isOneSided_ok (by decide) ftX9_ok cstY_ok (ldc_of (tb := tbX9_isOneSided) (cst := cstY) (by decide)) rfl (List.forall_mem_cons.mpr ⟨si_X9_isOneSided_2 o_X9_loops, fun q h => absurd h List.not_mem_nil⟩) ?_ ?_ ?_
  · intro as M0 h
    unfold P_X9_isOneSided at h
    split at h
    · exact Nat.le_of_ble_eq_true rfl
    · exact h.elim
  · intro as M0 h hM has
    unfold P_X9_isOneSided at h
    split at h
    next p f => exact hent p f M0 h hM (has f (by simp))
    · exact h.elim
  · intro as M0 h hM has pc ls st M n hI hM1
    unfold P_X9_isOneSided at h
    split at h
    next p f =>
      unfold JA_X9_isOneSided J_X9_isOneSided at hI
      dsimp only at hI
      split at hI
      ·
        obtain ⟨rfl, rfl, hI⟩ := hI
        exact hc11 _ _ _ h hM (has _ (by simp)) _ _ _ _ _ hI hM1
      · exact hI.elim
    · exact h.elim
abbrev p_X9_besides (p : Nat) (f : Int) (M : Mem) : Prop := kdY p = 9 ∧ p = 0 ∧ gyB M ∧ ∃ κ, kiY M κ ∧ layY M (gY M) κ
abbrev c_X9_besides (p : Nat) (f : Int) (M : Mem) (x : Int) (M' : Mem) : Prop := (∀ κ, kiY M κ → layY M (gY M) κ → x = bsF (lab (gY M) κ) (gY M) f (nT (gY M) * 4) 0 0) ∧ (∀ b, b ≠ 4 → M' b = M b)
def P_X9_besides (as : List AV) (M : Mem) : Prop := match as with
  | [.inr p, .inl f] => p_X9_besides p f M
  | _ => False
def C_X9_besides (as : List AV) (M : Mem) (x : Int) (M' : Mem) : Prop := match as with
  | [.inr p, .inl f] => c_X9_besides p f M x M'
  | _ => False
abbrev rm_X9_besides : Room := { frames := 3, cells := 0, slots := 0, locals := 70 }
abbrev OK_X9_besides (l : Launch) (D : va_G) (cy : Nat → ClassId) (ad : Nat → Nat) : Prop := MetA l D cy ad kdY lnY 12 yX9_besides cX9_besides 5 (some .int) rm_X9_besides 1 P_X9_besides C_X9_besides
theorem ca_X9_besides : CalV yX9_besides cX9_besides 5 (some .int) 1 := ⟨⟨wcX9_besides, wnX9, by decide +kernel, by decide +kernel, by decide +kernel⟩, wiX9_besides, wlX9_besides⟩
theorem rv_X9_besides : ∀ as M, P_X9_besides as M → ∃ a As q, as = .inr a :: As ∧ vwCl[kdY a]? = some q ∧ q.1 = yX9_besides.cls := by
  intro as M h
  unfold P_X9_besides at h
  split at h
  · exact ⟨_, _, (RX9, TX9, 20), rfl, by rw [h.1]; rfl, rfl⟩
  · exact h.elim
def ct_X9_besides : List (Nat × CS) := [(44, (3, 1, P_X9_next, C_X9_next))]
def J_X9_besides (I2 : Nat → Int → Mem → Int → Mem → Nat → Prop) (I27 : Nat → Int → Mem → Int → Int → Mem → Nat → Prop) (p : Nat) (f : Int) (M0 : Mem) : IT := fun pc ls st M μ => match pc, ls, st, M, μ with
  | 2, [some (.inr p_), some (.inl f_), some (.inl t), _, _], [], M, μ => p = p_ ∧ f = f_ ∧ I2 p f M0 t M μ
  | 27, [some (.inr p_), some (.inl f_), some (.inl c), some (.inl k), _], [], M, μ => p = p_ ∧ f = f_ ∧ I27 p f M0 c k M μ
  | _, _, _, _, _ => False
def JA_X9_besides (I2 : Nat → Int → Mem → Int → Mem → Nat → Prop) (I27 : Nat → Int → Mem → Int → Int → Mem → Nat → Prop) (as : List AV) (M0 : Mem) : IT := match as with
  | [.inr p, .inl f] => J_X9_besides I2 I27 p f M0
  | _ => fun _ _ _ _ _ => False
theorem si_X9_besides_44 {l : Launch} {D : va_G} {cy : Nat → ClassId} {ad : Nat → Nat} (o : OK_X9_next l D cy ad) : Site l D cy ad kdY lnY 12 yX9_besides.cls tbX9_besides rm_X9_besides 44 (3, 1, P_X9_next, C_X9_next) := Or.inl ⟨89, 2, yX9_next, cX9_next, 6, (some .int), rm_X9_next, rfl, rfl, o, ca_X9_next, mkX9_89, ⟨rfl, rfl, by decide, by decide⟩, rv_X9_next⟩
set_option maxRecDepth 100000 in
set_option maxHeartbeats 4000000 in
theorem met_X9_besides {l : Launch} {D : va_G} {cy : Nat → ClassId} {ad : Nat → Nat} (hA : jA ad 12) (o_X9_next : OK_X9_next l D cy ad) (I2 : Nat → Int → Mem → Int → Mem → Nat → Prop) (I27 : Nat → Int → Mem → Int → Int → Mem → Nat → Prop)
    (hent : ∀ (p : Nat) (f : Int) (M0 : Mem), p_X9_besides p f M0 → okM M0 → inR f → ∃ μ : Nat, p = p ∧ f = f ∧ I2 p f M0 0 M0 μ)
    (hc2 : ∀ (p : Nat) (f : Int) (M0 : Mem), p_X9_besides p f M0 → okM M0 → inR f → ∀ (t : Int) (M : Mem) (n : Nat), I2 p f M0 t M n → okM M → kdY p = 9 ∧ (((M p 2) ≤ t → (∃ μ : Nat, μ < n ∧ p = p ∧ f = f ∧ I27 p f M0 0 0 M μ)) ∧ (¬ (M p 2) ≤ t → (kdY p = 9 ∧ (kdY 4 = 22 ∧ (0 ≤ t ∧ t < 144) ∧ ((0 : Int) = 0 ∨ (0 : Int) = 1) ∧ (inR (t + 1) ∧ (∃ μ : Nat, μ < n ∧ p = p ∧ f = f ∧ I2 p f M0 (t + 1) (up M 4 (t).toNat 0) μ)))))))
    (hc27 : ∀ (p : Nat) (f : Int) (M0 : Mem), p_X9_besides p f M0 → okM M0 → inR f → ∀ (c : Int) (k : Int) (M : Mem) (n : Nat), I27 p f M0 c k M n → okM M → kdY p = 9 ∧ (inR (4 * (M p 2)) ∧ (((4 * (M p 2)) ≤ k → ((True) ∧ c_X9_besides p f M0 c M)) ∧ (¬ (4 * (M p 2)) ≤ k → ((0 ≤ k ∧ 0 < (4 : Int)) ∧ (0 < (4 : Int) ∧ (p_X9_next p (k / 4) (Int.tmod k 4) M ∧ ∀ (x2 : Int) (M1 : Mem), inR x2 → okM M1 → c_X9_next p (k / 4) (Int.tmod k 4) M x2 M1 → (kdY p = 9 ∧ ((0 ≤ k ∧ 0 < (4 : Int)) ∧ (kdY 5 = 21 ∧ (0 ≤ (k / 4) ∧ (k / 4) < 144) ∧ ((¬ (M1 5 (k / 4).toNat) = f → (inR (k + 1) ∧ (∃ μ : Nat, μ < n ∧ p = p ∧ f = f ∧ I27 p f M0 c (k + 1) M1 μ))) ∧ (¬ (¬ (M1 5 (k / 4).toNat) = f) → ((x2 < (0 : Int) → (inR (k + 1) ∧ (∃ μ : Nat, μ < n ∧ p = p ∧ f = f ∧ I27 p f M0 c (k + 1) M1 μ))) ∧ (¬ x2 < (0 : Int) → (kdY p = 9 ∧ (kdY 5 = 21 ∧ (0 ≤ x2 ∧ x2 < 144) ∧ (((M1 5 (x2).toNat) = f → (inR (k + 1) ∧ (∃ μ : Nat, μ < n ∧ p = p ∧ f = f ∧ I27 p f M0 c (k + 1) M1 μ))) ∧ (¬ (M1 5 (x2).toNat) = f → (kdY p = 9 ∧ (kdY p = 9 ∧ (kdY 5 = 21 ∧ (0 ≤ x2 ∧ x2 < 144) ∧ (kdY 4 = 22 ∧ (0 ≤ (M1 5 (x2).toNat) ∧ (M1 5 (x2).toNat) < 144) ∧ ((¬ (M1 4 (M1 5 (x2).toNat).toNat) = (0 : Int) → (inR (k + 1) ∧ (∃ μ : Nat, μ < n ∧ p = p ∧ f = f ∧ I27 p f M0 c (k + 1) M1 μ))) ∧ (¬ (¬ (M1 4 (M1 5 (x2).toNat).toNat) = (0 : Int)) → (kdY p = 9 ∧ (kdY p = 9 ∧ (kdY 5 = 21 ∧ (0 ≤ x2 ∧ x2 < 144) ∧ (kdY 4 = 22 ∧ (0 ≤ (M1 5 (x2).toNat) ∧ (M1 5 (x2).toNat) < 144) ∧ ((1 : Int) = 0 ∨ (1 : Int) = 1) ∧ (inR (c + 1) ∧ (inR (k + 1) ∧ (∃ μ : Nat, μ < n ∧ p = p ∧ f = f ∧ I27 p f M0 (c + 1) (k + 1) (up M1 4 (M1 5 (x2).toNat).toNat 1) μ)))))))))))))))))))))))))))))))
    : OK_X9_besides l D cy ad := by
  refine met_of (tb := tbX9_besides) (ft := ftX9) (cst := cstY) (ct := ct_X9_besides) (cuts := [2, 27]) 71 (JA_X9_besides I2 I27) hA jWY (by decide) tbX9_besides_ok (by decide) ftX9_ok cstY_ok (ldc_of (tb := tbX9_besides) (cst := cstY) (by decide)) rfl (List.forall_mem_cons.mpr ⟨si_X9_besides_44 o_X9_next, fun q h => absurd h List.not_mem_nil⟩) ?_ ?_ ?_
  · intro as M0 h
    unfold P_X9_besides at h
    split at h
    · exact Nat.le_of_ble_eq_true rfl
    · exact h.elim
  · intro as M0 h hM has
    unfold P_X9_besides at h
    split at h
    next p f => exact hent p f M0 h hM (has f (by simp))
    · exact h.elim
  · intro as M0 h hM has pc ls st M n hI hM1
    unfold P_X9_besides at h
    split at h
    next p f =>
      unfold JA_X9_besides J_X9_besides at hI
      dsimp only at hI
      split at hI
      ·
        obtain ⟨rfl, rfl, hI⟩ := hI
        exact hc2 _ _ _ h hM (has _ (by simp)) _ _ _ hI hM1
      ·
        obtain ⟨rfl, rfl, hI⟩ := hI
        exact hc27 _ _ _ h hM (has _ (by simp)) _ _ _ _ hI hM1
      · exact hI.elim
    · exact h.elim
abbrev p_X9_onward (p : Nat) (t : Int) (M : Mem) : Prop := kdY p = 9 ∧ p = 0 ∧ gyB M ∧ woY M ∧ (0 ≤ t ∧ t < nT (gY M)) ∧ (0 ≤ M 11 t.toNat ∧ M 11 t.toNat ≤ 10000) ∧ (∀ j : Nat, j < nT (gY M) → M 11 j = 1000000 ∨ (0 ≤ M 11 j ∧ M 11 j ≤ 10000)) ∧ ∀ e : Int, 0 ≤ e → e < 4 → 0 < stl (gY M) (M 1) (M 2) t e → M 11 (nx (gY M) t e).toNat ≠ 1000000
abbrev c_X9_onward (p : Nat) (t : Int) (M : Mem) (x : Int) (M' : Mem) : Prop := (∀ L, lnY_ M L → x = onw (gY M) (M 1) (M 2) L t 4) ∧ M' = M
def P_X9_onward (as : List AV) (M : Mem) : Prop := match as with
  | [.inr p, .inl t] => p_X9_onward p t M
  | _ => False
def C_X9_onward (as : List AV) (M : Mem) (x : Int) (M' : Mem) : Prop := match as with
  | [.inr p, .inl t] => c_X9_onward p t M x M'
  | _ => False
abbrev rm_X9_onward : Room := { frames := 3, cells := 0, slots := 0, locals := 70 }
abbrev OK_X9_onward (l : Launch) (D : va_G) (cy : Nat → ClassId) (ad : Nat → Nat) : Prop := MetA l D cy ad kdY lnY 12 yX9_onward cX9_onward 4 (some .int) rm_X9_onward 1 P_X9_onward C_X9_onward
theorem ca_X9_onward : CalV yX9_onward cX9_onward 4 (some .int) 1 := ⟨⟨wcX9_onward, wnX9, by decide +kernel, by decide +kernel, by decide +kernel⟩, wiX9_onward, wlX9_onward⟩
theorem rv_X9_onward : ∀ as M, P_X9_onward as M → ∃ a As q, as = .inr a :: As ∧ vwCl[kdY a]? = some q ∧ q.1 = yX9_onward.cls := by
  intro as M h
  unfold P_X9_onward at h
  split at h
  · exact ⟨_, _, (RX9, TX9, 20), rfl, by rw [h.1]; rfl, rfl⟩
  · exact h.elim
def ct_X9_onward : List (Nat × CS) := [(10, (3, 1, P_X9_next, C_X9_next)), (17, (3, 1, P_X9_stepLength, C_X9_stepLength)), (34, (3, 1, P_X9_stepLength, C_X9_stepLength))]
def J_X9_onward (I2 : Nat → Int → Mem → Int → Mem → Nat → Prop) (p : Nat) (t : Int) (M0 : Mem) : IT := fun pc ls st M μ => match pc, ls, st, M, μ with
  | 2, [some (.inr p_), some (.inl t_), some (.inl d), _], [], M, μ => p = p_ ∧ t = t_ ∧ I2 p t M0 d M μ
  | _, _, _, _, _ => False
def JA_X9_onward (I2 : Nat → Int → Mem → Int → Mem → Nat → Prop) (as : List AV) (M0 : Mem) : IT := match as with
  | [.inr p, .inl t] => J_X9_onward I2 p t M0
  | _ => fun _ _ _ _ _ => False
theorem si_X9_onward_10 {l : Launch} {D : va_G} {cy : Nat → ClassId} {ad : Nat → Nat} (o : OK_X9_next l D cy ad) : Site l D cy ad kdY lnY 12 yX9_onward.cls tbX9_onward rm_X9_onward 10 (3, 1, P_X9_next, C_X9_next) := Or.inl ⟨89, 2, yX9_next, cX9_next, 6, (some .int), rm_X9_next, rfl, rfl, o, ca_X9_next, mkX9_89, ⟨rfl, rfl, by decide, by decide⟩, rv_X9_next⟩
theorem si_X9_onward_17 {l : Launch} {D : va_G} {cy : Nat → ClassId} {ad : Nat → Nat} (o : OK_X9_stepLength l D cy ad) : Site l D cy ad kdY lnY 12 yX9_onward.cls tbX9_onward rm_X9_onward 17 (3, 1, P_X9_stepLength, C_X9_stepLength) := Or.inl ⟨140, 2, yX9_stepLength, cX9_stepLength, 5, (some .int), rm_X9_stepLength, rfl, rfl, o, ca_X9_stepLength, mkX9_140, ⟨rfl, rfl, by decide, by decide⟩, rv_X9_stepLength⟩
theorem si_X9_onward_34 {l : Launch} {D : va_G} {cy : Nat → ClassId} {ad : Nat → Nat} (o : OK_X9_stepLength l D cy ad) : Site l D cy ad kdY lnY 12 yX9_onward.cls tbX9_onward rm_X9_onward 34 (3, 1, P_X9_stepLength, C_X9_stepLength) := Or.inl ⟨140, 2, yX9_stepLength, cX9_stepLength, 5, (some .int), rm_X9_stepLength, rfl, rfl, o, ca_X9_stepLength, mkX9_140, ⟨rfl, rfl, by decide, by decide⟩, rv_X9_stepLength⟩
set_option maxRecDepth 100000 in
set_option maxHeartbeats 4000000 in
theorem met_X9_onward {l : Launch} {D : va_G} {cy : Nat → ClassId} {ad : Nat → Nat} (hA : jA ad 12) (o_X9_next : OK_X9_next l D cy ad) (o_X9_stepLength : OK_X9_stepLength l D cy ad) (I2 : Nat → Int → Mem → Int → Mem → Nat → Prop)
    (hent : ∀ (p : Nat) (t : Int) (M0 : Mem), p_X9_onward p t M0 → okM M0 → inR t → ∃ μ : Nat, p = p ∧ t = t ∧ I2 p t M0 0 M0 μ)
    (hc2 : ∀ (p : Nat) (t : Int) (M0 : Mem), p_X9_onward p t M0 → okM M0 → inR t → ∀ (d : Int) (M : Mem) (n : Nat), I2 p t M0 d M n → okM M → ((4 : Int) ≤ d → ((True) ∧ c_X9_onward p t M0 t M)) ∧ (¬ (4 : Int) ≤ d → (p_X9_next p t d M ∧ ∀ (x2 : Int) (M1 : Mem), inR x2 → okM M1 → c_X9_next p t d M x2 M1 → (p_X9_stepLength p t x2 M1 ∧ ∀ (x4 : Int) (M3 : Mem), inR x4 → okM M3 → c_X9_stepLength p t x2 M1 x4 M3 → (((1000000 : Int) ≤ x4 → (inR (d + 1) ∧ (∃ μ : Nat, μ < n ∧ p = p ∧ t = t ∧ I2 p t M0 (d + 1) M3 μ))) ∧ (¬ (1000000 : Int) ≤ x4 → (kdY p = 9 ∧ (kdY 11 = 21 ∧ (0 ≤ x2 ∧ x2 < 144) ∧ (p_X9_stepLength p t x2 M3 ∧ ∀ (x6 : Int) (M5 : Mem), inR x6 → okM M5 → c_X9_stepLength p t x2 M3 x6 M5 → (inR ((M3 11 (x2).toNat) + x6) ∧ (kdY p = 9 ∧ (kdY 11 = 21 ∧ (0 ≤ t ∧ t < 144) ∧ ((¬ ((M3 11 (x2).toNat) + x6) = (M5 11 (t).toNat) → (inR (d + 1) ∧ (∃ μ : Nat, μ < n ∧ p = p ∧ t = t ∧ I2 p t M0 (d + 1) M5 μ))) ∧ (¬ (¬ ((M3 11 (x2).toNat) + x6) = (M5 11 (t).toNat)) → ((True) ∧ c_X9_onward p t M0 x2 M5)))))))))))))))
    : OK_X9_onward l D cy ad := by
  refine met_of (tb := tbX9_onward) (ft := ftX9) (cst := cstY) (ct := ct_X9_onward) (cuts := [2]) 38 (JA_X9_onward I2) hA jWY (by decide) tbX9_onward_ok (by decide) ftX9_ok cstY_ok (ldc_of (tb := tbX9_onward) (cst := cstY) (by decide)) rfl (List.forall_mem_cons.mpr ⟨si_X9_onward_10 o_X9_next, List.forall_mem_cons.mpr ⟨si_X9_onward_17 o_X9_stepLength, List.forall_mem_cons.mpr ⟨si_X9_onward_34 o_X9_stepLength, fun q h => absurd h List.not_mem_nil⟩⟩⟩) ?_ ?_ ?_
  · intro as M0 h
    unfold P_X9_onward at h
    split at h
    · exact Nat.le_of_ble_eq_true rfl
    · exact h.elim
  · intro as M0 h hM has
    unfold P_X9_onward at h
    split at h
    next p t => exact hent p t M0 h hM (has t (by simp))
    · exact h.elim
  · intro as M0 h hM has pc ls st M n hI hM1
    unfold P_X9_onward at h
    split at h
    next p t =>
      unfold JA_X9_onward J_X9_onward at hI
      dsimp only at hI
      split at hI
      ·
        obtain ⟨rfl, rfl, hI⟩ := hI
        exact hc2 _ _ _ h hM (has _ (by simp)) _ _ _ hI hM1
      · exact hI.elim
    · exact h.elim
