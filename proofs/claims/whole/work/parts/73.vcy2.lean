abbrev p_X9_spread (p : Nat) (f : Int) (M : Mem) : Prop := kdY p = 9 ∧ p = 0 ∧ gyB M ∧ ∃ κ B, preFy f M κ B
abbrev c_X9_spread (p : Nat) (f : Int) (M : Mem) (x : Int) (M' : Mem) : Prop := ∀ κ B, preFy f M κ B → RYs M' (gY M) (bfl (gY M) κ f B 144) ∧ (∀ b, b ≠ 5 → b ≠ 6 → b ≠ 7 → b ≠ 8 → M' b = M b)
def P_X9_spread (as : List AV) (M : Mem) : Prop := match as with
  | [.inr p, .inl f] => p_X9_spread p f M
  | _ => False
def C_X9_spread (as : List AV) (M : Mem) (x : Int) (M' : Mem) : Prop := match as with
  | [.inr p, .inl f] => c_X9_spread p f M x M'
  | _ => False
abbrev rm_X9_spread : Room := { frames := 3, cells := 0, slots := 0, locals := 70 }
abbrev OK_X9_spread (l : Launch) (D : va_G) (cy : Nat → ClassId) (ad : Nat → Nat) : Prop := MetA l D cy ad kdY lnY 12 yX9_spread cX9_spread 7 none rm_X9_spread 0 P_X9_spread C_X9_spread
theorem ca_X9_spread : CalV yX9_spread cX9_spread 7 none 1 := ⟨⟨wcX9_spread, wnX9, by decide +kernel, by decide +kernel, by decide +kernel⟩, wiX9_spread, wlX9_spread⟩
theorem rv_X9_spread : ∀ as M, P_X9_spread as M → ∃ a As q, as = .inr a :: As ∧ vwCl[kdY a]? = some q ∧ q.1 = yX9_spread.cls := by
  intro as M h
  unfold P_X9_spread at h
  split at h
  · exact ⟨_, _, (RX9, TX9, 20), rfl, by rw [h.1]; rfl, rfl⟩
  · exact h.elim
def ct_X9_spread : List (Nat × CS) := [(62, (3, 1, P_X9_next, C_X9_next)), (125, (3, 1, P_X9_seamOf, C_X9_seamOf))]
def J_X9_spread (I32 : Nat → Int → Mem → Int → Int → Mem → Nat → Prop) (I51 : Nat → Int → Mem → Int → Int → Int → Int → Mem → Nat → Prop) (p : Nat) (f : Int) (M0 : Mem) : IT := fun pc ls st M μ => match pc, ls, st, M, μ with
  | 32, [some (.inr p_), some (.inl f_), some (.inl a), some (.inl e), _, _, _], [], M, μ => p = p_ ∧ f = f_ ∧ I32 p f M0 a e M μ
  | 51, [some (.inr p_), some (.inl f_), some (.inl a), some (.inl e), some (.inl t), some (.inl d), _], [], M, μ => p = p_ ∧ f = f_ ∧ I51 p f M0 a e t d M μ
  | _, _, _, _, _ => False
def JA_X9_spread (I32 : Nat → Int → Mem → Int → Int → Mem → Nat → Prop) (I51 : Nat → Int → Mem → Int → Int → Int → Int → Mem → Nat → Prop) (as : List AV) (M0 : Mem) : IT := match as with
  | [.inr p, .inl f] => J_X9_spread I32 I51 p f M0
  | _ => fun _ _ _ _ _ => False
theorem si_X9_spread_62 {l : Launch} {D : va_G} {cy : Nat → ClassId} {ad : Nat → Nat} (o : OK_X9_next l D cy ad) : Site l D cy ad kdY lnY 12 yX9_spread.cls tbX9_spread rm_X9_spread 62 (3, 1, P_X9_next, C_X9_next) := Or.inl ⟨89, 2, yX9_next, cX9_next, 6, (some .int), rm_X9_next, rfl, rfl, o, ca_X9_next, mkX9_89, ⟨rfl, rfl, by decide, by decide⟩, rv_X9_next⟩
theorem si_X9_spread_125 {l : Launch} {D : va_G} {cy : Nat → ClassId} {ad : Nat → Nat} (o : OK_X9_seamOf l D cy ad) : Site l D cy ad kdY lnY 12 yX9_spread.cls tbX9_spread rm_X9_spread 125 (3, 1, P_X9_seamOf, C_X9_seamOf) := Or.inl ⟨82, 2, yX9_seamOf, cX9_seamOf, 5, (some .int), rm_X9_seamOf, rfl, rfl, o, ca_X9_seamOf, mkX9_82, ⟨rfl, rfl, by decide, by decide⟩, rv_X9_seamOf⟩
set_option maxRecDepth 100000 in
set_option maxHeartbeats 4000000 in
theorem met_X9_spread {l : Launch} {D : va_G} {cy : Nat → ClassId} {ad : Nat → Nat} (hA : jA ad 12) (o_X9_next : OK_X9_next l D cy ad) (o_X9_seamOf : OK_X9_seamOf l D cy ad) (I32 : Nat → Int → Mem → Int → Int → Mem → Nat → Prop) (I51 : Nat → Int → Mem → Int → Int → Int → Int → Mem → Nat → Prop)
    (hent : ∀ (p : Nat) (f : Int) (M0 : Mem), p_X9_spread p f M0 → okM M0 → inR f → kdY p = 9 ∧ (kdY 8 = 21 ∧ (0 ≤ (0 : Int) ∧ (0 : Int) < 144) ∧ (kdY p = 9 ∧ (kdY 5 = 21 ∧ (0 ≤ f ∧ f < 144) ∧ (kdY p = 9 ∧ (kdY 6 = 21 ∧ (0 ≤ f ∧ f < 144) ∧ (kdY p = 9 ∧ (kdY 7 = 21 ∧ (0 ≤ f ∧ f < 144) ∧ (∃ μ : Nat, p = p ∧ f = f ∧ I32 p f M0 0 1 (up (up (up (up M0 8 ((0 : Int)).toNat f) 5 (f).toNat f) 6 (f).toNat 0) 7 (f).toNat 0) μ)))))))))
    (hc32 : ∀ (p : Nat) (f : Int) (M0 : Mem), p_X9_spread p f M0 → okM M0 → inR f → ∀ (a : Int) (e : Int) (M : Mem) (n : Nat), I32 p f M0 a e M n → okM M → (e ≤ a → (0 = 0 ∧ c_X9_spread p f M0 0 M)) ∧ (¬ e ≤ a → (kdY p = 9 ∧ (kdY 8 = 21 ∧ (0 ≤ a ∧ a < 144) ∧ (inR (a + 1) ∧ (∃ μ : Nat, μ < n ∧ p = p ∧ f = f ∧ I51 p f M0 (a + 1) e (M 8 (a).toNat) 0 M μ))))))
    (hc51 : ∀ (p : Nat) (f : Int) (M0 : Mem), p_X9_spread p f M0 → okM M0 → inR f → ∀ (a : Int) (e : Int) (t : Int) (d : Int) (M : Mem) (n : Nat), I51 p f M0 a e t d M n → okM M → ((4 : Int) ≤ d → (∃ μ : Nat, μ < n ∧ p = p ∧ f = f ∧ I32 p f M0 a e M μ)) ∧ (¬ (4 : Int) ≤ d → (p_X9_next p t d M ∧ ∀ (x2 : Int) (M1 : Mem), inR x2 → okM M1 → c_X9_next p t d M x2 M1 → ((x2 < (0 : Int) → (inR (d + 1) ∧ (∃ μ : Nat, μ < n ∧ p = p ∧ f = f ∧ I51 p f M0 a e t (d + 1) M1 μ))) ∧ (¬ x2 < (0 : Int) → (kdY p = 9 ∧ (kdY 5 = 21 ∧ (0 ≤ x2 ∧ x2 < 144) ∧ (((0 : Int) ≤ (M1 5 (x2).toNat) → (inR (d + 1) ∧ (∃ μ : Nat, μ < n ∧ p = p ∧ f = f ∧ I51 p f M0 a e t (d + 1) M1 μ))) ∧ (¬ (0 : Int) ≤ (M1 5 (x2).toNat) → (kdY p = 9 ∧ (kdY 1 = 21 ∧ (0 ≤ x2 ∧ x2 < 144) ∧ (kdY p = 9 ∧ (kdY 1 = 21 ∧ (0 ≤ t ∧ t < 144) ∧ ((¬ (M1 1 (x2).toNat) = (M1 1 (t).toNat) → (inR (d + 1) ∧ (∃ μ : Nat, μ < n ∧ p = p ∧ f = f ∧ I51 p f M0 a e t (d + 1) M1 μ))) ∧ (¬ (¬ (M1 1 (x2).toNat) = (M1 1 (t).toNat)) → (kdY p = 9 ∧ (kdY 5 = 21 ∧ (0 ≤ x2 ∧ x2 < 144) ∧ (kdY p = 9 ∧ (kdY p = 9 ∧ (kdY 6 = 21 ∧ (0 ≤ t ∧ t < 144) ∧ (p_X9_seamOf p t d (up M1 5 (x2).toNat f) ∧ ∀ (x4 : Int) (M3 : Mem), inR x4 → okM M3 → c_X9_seamOf p t d (up M1 5 (x2).toNat f) x4 M3 → (kdY 6 = 21 ∧ (0 ≤ x2 ∧ x2 < 144) ∧ (kdY p = 9 ∧ (kdY p = 9 ∧ (kdY 7 = 21 ∧ (0 ≤ t ∧ t < 144) ∧ (inR (((up M3 6 (x2).toNat (bXor ((up M1 5 (x2).toNat f) 6 (t).toNat) x4)) 7 (t).toNat) + 1) ∧ (kdY 7 = 21 ∧ (0 ≤ x2 ∧ x2 < 144) ∧ (kdY p = 9 ∧ (kdY 8 = 21 ∧ (0 ≤ e ∧ e < 144) ∧ (inR (e + 1) ∧ (inR (d + 1) ∧ (∃ μ : Nat, μ < n ∧ p = p ∧ f = f ∧ I51 p f M0 a (e + 1) t (d + 1) (up (up (up M3 6 (x2).toNat (bXor ((up M1 5 (x2).toNat f) 6 (t).toNat) x4)) 7 (x2).toNat (((up M3 6 (x2).toNat (bXor ((up M1 5 (x2).toNat f) 6 (t).toNat) x4)) 7 (t).toNat) + 1)) 8 (e).toNat x2) μ))))))))))))))))))))))))))))))))
    : OK_X9_spread l D cy ad := by
  refine met_of (tb := tbX9_spread) (ft := ftX9) (cst := cstY) (ct := ct_X9_spread) (cuts := [32, 51]) 99 (JA_X9_spread I32 I51) hA jWY (by decide) tbX9_spread_ok (by decide) ftX9_ok cstY_ok (ldc_of (tb := tbX9_spread) (cst := cstY) (by decide)) rfl (List.forall_mem_cons.mpr ⟨si_X9_spread_62 o_X9_next, List.forall_mem_cons.mpr ⟨si_X9_spread_125 o_X9_seamOf, fun q h => absurd h List.not_mem_nil⟩⟩) ?_ ?_ ?_
  · intro as M0 h
    unfold P_X9_spread at h
    split at h
    · exact Nat.le_of_ble_eq_true rfl
    · exact h.elim
  · intro as M0 h hM has
    unfold P_X9_spread at h
    split at h
    next p f => exact hent p f M0 h hM (has f (by simp))
    · exact h.elim
  · intro as M0 h hM has pc ls st M n hI hM1
    unfold P_X9_spread at h
    split at h
    next p f =>
      unfold JA_X9_spread J_X9_spread at hI
      dsimp only at hI
      split at hI
      ·
        obtain ⟨rfl, rfl, hI⟩ := hI
        exact hc32 _ _ _ h hM (has _ (by simp)) _ _ _ _ hI hM1
      ·
        obtain ⟨rfl, rfl, hI⟩ := hI
        exact hc51 _ _ _ h hM (has _ (by simp)) _ _ _ _ _ _ hI hM1
      · exact hI.elim
    · exact h.elim
abbrev p_X9_layLabels (p : Nat) (M : Mem) : Prop := kdY p = 9 ∧ p = 0 ∧ gyB M
abbrev c_X9_layLabels (p : Nat) (M : Mem) (x : Int) (M' : Mem) : Prop := ∀ κ, kiY M κ → layY M' (gY M) κ ∧ (∀ b, b ≠ 5 → b ≠ 6 → b ≠ 7 → b ≠ 8 → M' b = M b)
def P_X9_layLabels (as : List AV) (M : Mem) : Prop := match as with
  | [.inr p] => p_X9_layLabels p M
  | _ => False
def C_X9_layLabels (as : List AV) (M : Mem) (x : Int) (M' : Mem) : Prop := match as with
  | [.inr p] => c_X9_layLabels p M x M'
  | _ => False
abbrev rm_X9_layLabels : Room := { frames := 4, cells := 0, slots := 0, locals := 96 }
abbrev OK_X9_layLabels (l : Launch) (D : va_G) (cy : Nat → ClassId) (ad : Nat → Nat) : Prop := MetA l D cy ad kdY lnY 12 yX9_layLabels cX9_layLabels 2 none rm_X9_layLabels 0 P_X9_layLabels C_X9_layLabels
theorem ca_X9_layLabels : CalV yX9_layLabels cX9_layLabels 2 none 0 := ⟨⟨wcX9_layLabels, wnX9, by decide +kernel, by decide +kernel, by decide +kernel⟩, wiX9_layLabels, wlX9_layLabels⟩
theorem rv_X9_layLabels : ∀ as M, P_X9_layLabels as M → ∃ a As q, as = .inr a :: As ∧ vwCl[kdY a]? = some q ∧ q.1 = yX9_layLabels.cls := by
  intro as M h
  unfold P_X9_layLabels at h
  split at h
  · exact ⟨_, _, (RX9, TX9, 20), rfl, by rw [h.1]; rfl, rfl⟩
  · exact h.elim
def ct_X9_layLabels : List (Nat × CS) := [(44, (2, 0, P_X9_spread, C_X9_spread))]
def J_X9_layLabels (I2 : Nat → Mem → Int → Mem → Nat → Prop) (I25 : Nat → Mem → Int → Mem → Nat → Prop) (p : Nat) (M0 : Mem) : IT := fun pc ls st M μ => match pc, ls, st, M, μ with
  | 2, [some (.inr p_), some (.inl t)], [], M, μ => p = p_ ∧ I2 p M0 t M μ
  | 25, [some (.inr p_), some (.inl t)], [], M, μ => p = p_ ∧ I25 p M0 t M μ
  | _, _, _, _, _ => False
def JA_X9_layLabels (I2 : Nat → Mem → Int → Mem → Nat → Prop) (I25 : Nat → Mem → Int → Mem → Nat → Prop) (as : List AV) (M0 : Mem) : IT := match as with
  | [.inr p] => J_X9_layLabels I2 I25 p M0
  | _ => fun _ _ _ _ _ => False
theorem si_X9_layLabels_44 {l : Launch} {D : va_G} {cy : Nat → ClassId} {ad : Nat → Nat} (o : OK_X9_spread l D cy ad) : Site l D cy ad kdY lnY 12 yX9_layLabels.cls tbX9_layLabels rm_X9_layLabels 44 (2, 0, P_X9_spread, C_X9_spread) := Or.inl ⟨109, 1, yX9_spread, cX9_spread, 7, none, rm_X9_spread, rfl, rfl, o, ca_X9_spread, mkX9_109, ⟨rfl, rfl, by decide, by decide⟩, rv_X9_spread⟩
set_option maxRecDepth 100000 in
set_option maxHeartbeats 4000000 in
theorem met_X9_layLabels {l : Launch} {D : va_G} {cy : Nat → ClassId} {ad : Nat → Nat} (hA : jA ad 12) (o_X9_spread : OK_X9_spread l D cy ad) (I2 : Nat → Mem → Int → Mem → Nat → Prop) (I25 : Nat → Mem → Int → Mem → Nat → Prop)
    (hent : ∀ (p : Nat) (M0 : Mem), p_X9_layLabels p M0 → okM M0 → ∃ μ : Nat, p = p ∧ I2 p M0 0 M0 μ)
    (hc2 : ∀ (p : Nat) (M0 : Mem), p_X9_layLabels p M0 → okM M0 → ∀ (t : Int) (M : Mem) (n : Nat), I2 p M0 t M n → okM M → kdY p = 9 ∧ (((M p 2) ≤ t → (∃ μ : Nat, μ < n ∧ p = p ∧ I25 p M0 0 M μ)) ∧ (¬ (M p 2) ≤ t → (kdY p = 9 ∧ (kdY 5 = 21 ∧ (0 ≤ t ∧ t < 144) ∧ (inR (t + 1) ∧ (∃ μ : Nat, μ < n ∧ p = p ∧ I2 p M0 (t + 1) (up M 5 (t).toNat (-1)) μ)))))))
    (hc25 : ∀ (p : Nat) (M0 : Mem), p_X9_layLabels p M0 → okM M0 → ∀ (t : Int) (M : Mem) (n : Nat), I25 p M0 t M n → okM M → kdY p = 9 ∧ (((M p 2) ≤ t → (0 = 0 ∧ c_X9_layLabels p M0 0 M)) ∧ (¬ (M p 2) ≤ t → (kdY p = 9 ∧ (kdY 5 = 21 ∧ (0 ≤ t ∧ t < 144) ∧ (((0 : Int) ≤ (M 5 (t).toNat) → (inR (t + 1) ∧ (∃ μ : Nat, μ < n ∧ p = p ∧ I25 p M0 (t + 1) M μ))) ∧ (¬ (0 : Int) ≤ (M 5 (t).toNat) → (p_X9_spread p t M ∧ ∀ (x2 : Int) (M1 : Mem), inR x2 → okM M1 → c_X9_spread p t M x2 M1 → (inR (t + 1) ∧ (∃ μ : Nat, μ < n ∧ p = p ∧ I25 p M0 (t + 1) M1 μ))))))))))
    : OK_X9_layLabels l D cy ad := by
  refine met_of (tb := tbX9_layLabels) (ft := ftX9) (cst := cstY) (ct := ct_X9_layLabels) (cuts := [2, 25]) 32 (JA_X9_layLabels I2 I25) hA jWY (by decide) tbX9_layLabels_ok (by decide) ftX9_ok cstY_ok (ldc_of (tb := tbX9_layLabels) (cst := cstY) (by decide)) rfl (List.forall_mem_cons.mpr ⟨si_X9_layLabels_44 o_X9_spread, fun q h => absurd h List.not_mem_nil⟩) ?_ ?_ ?_
  · intro as M0 h
    unfold P_X9_layLabels at h
    split at h
    · exact Nat.le_of_ble_eq_true rfl
    · exact h.elim
  · intro as M0 h hM has
    unfold P_X9_layLabels at h
    split at h
    next p => exact hent p M0 h hM
    · exact h.elim
  · intro as M0 h hM has pc ls st M n hI hM1
    unfold P_X9_layLabels at h
    split at h
    next p =>
      unfold JA_X9_layLabels J_X9_layLabels at hI
      dsimp only at hI
      split at hI
      ·
        obtain ⟨rfl, hI⟩ := hI
        exact hc2 _ _ h hM _ _ _ hI hM1
      ·
        obtain ⟨rfl, hI⟩ := hI
        exact hc25 _ _ h hM _ _ _ hI hM1
      · exact hI.elim
    · exact h.elim
abbrev p_X9_parts (p : Nat) (M : Mem) : Prop := kdY p = 9 ∧ p = 0 ∧ gyB M
abbrev c_X9_parts (p : Nat) (M : Mem) (x : Int) (M' : Mem) : Prop := ∀ κ, kiY M κ → x = cntS (lab (gY M) κ) (nT (gY M)) ∧ layY M' (gY M) κ ∧ (∀ b, b ≠ 5 → b ≠ 6 → b ≠ 7 → b ≠ 8 → M' b = M b)
def P_X9_parts (as : List AV) (M : Mem) : Prop := match as with
  | [.inr p] => p_X9_parts p M
  | _ => False
def C_X9_parts (as : List AV) (M : Mem) (x : Int) (M' : Mem) : Prop := match as with
  | [.inr p] => c_X9_parts p M x M'
  | _ => False
abbrev rm_X9_parts : Room := { frames := 5, cells := 0, slots := 0, locals := 117 }
abbrev OK_X9_parts (l : Launch) (D : va_G) (cy : Nat → ClassId) (ad : Nat → Nat) : Prop := MetA l D cy ad kdY lnY 12 yX9_parts cX9_parts 3 (some .int) rm_X9_parts 1 P_X9_parts C_X9_parts
theorem ca_X9_parts : CalV yX9_parts cX9_parts 3 (some .int) 0 := ⟨⟨wcX9_parts, wnX9, by decide +kernel, by decide +kernel, by decide +kernel⟩, wiX9_parts, wlX9_parts⟩
theorem rv_X9_parts : ∀ as M, P_X9_parts as M → ∃ a As q, as = .inr a :: As ∧ vwCl[kdY a]? = some q ∧ q.1 = yX9_parts.cls := by
  intro as M h
  unfold P_X9_parts at h
  split at h
  · exact ⟨_, _, (RX9, TX9, 20), rfl, by rw [h.1]; rfl, rfl⟩
  · exact h.elim
def ct_X9_parts : List (Nat × CS) := [(1, (1, 0, P_X9_layLabels, C_X9_layLabels))]
def J_X9_parts (I8 : Nat → Mem → Int → Int → Mem → Nat → Prop) (p : Nat) (M0 : Mem) : IT := fun pc ls st M μ => match pc, ls, st, M, μ with
  | 8, [some (.inr p_), some (.inl c), some (.inl t)], [], M, μ => p = p_ ∧ I8 p M0 c t M μ
  | _, _, _, _, _ => False
def JA_X9_parts (I8 : Nat → Mem → Int → Int → Mem → Nat → Prop) (as : List AV) (M0 : Mem) : IT := match as with
  | [.inr p] => J_X9_parts I8 p M0
  | _ => fun _ _ _ _ _ => False
theorem si_X9_parts_1 {l : Launch} {D : va_G} {cy : Nat → ClassId} {ad : Nat → Nat} (o : OK_X9_layLabels l D cy ad) : Site l D cy ad kdY lnY 12 yX9_parts.cls tbX9_parts rm_X9_parts 1 (1, 0, P_X9_layLabels, C_X9_layLabels) := Or.inl ⟨113, 0, yX9_layLabels, cX9_layLabels, 2, none, rm_X9_layLabels, rfl, rfl, o, ca_X9_layLabels, mkX9_113, ⟨rfl, rfl, by decide, by decide⟩, rv_X9_layLabels⟩
set_option maxRecDepth 100000 in
set_option maxHeartbeats 4000000 in
theorem met_X9_parts {l : Launch} {D : va_G} {cy : Nat → ClassId} {ad : Nat → Nat} (hA : jA ad 12) (o_X9_layLabels : OK_X9_layLabels l D cy ad) (I8 : Nat → Mem → Int → Int → Mem → Nat → Prop)
    (hent : ∀ (p : Nat) (M0 : Mem), p_X9_parts p M0 → okM M0 → p_X9_layLabels p M0 ∧ ∀ (x2 : Int) (M1 : Mem), inR x2 → okM M1 → c_X9_layLabels p M0 x2 M1 → (∃ μ : Nat, p = p ∧ I8 p M0 0 0 M1 μ))
    (hc8 : ∀ (p : Nat) (M0 : Mem), p_X9_parts p M0 → okM M0 → ∀ (c : Int) (t : Int) (M : Mem) (n : Nat), I8 p M0 c t M n → okM M → kdY p = 9 ∧ (((M p 2) ≤ t → ((True) ∧ c_X9_parts p M0 c M)) ∧ (¬ (M p 2) ≤ t → (kdY p = 9 ∧ (kdY 5 = 21 ∧ (0 ≤ t ∧ t < 144) ∧ ((¬ (M 5 (t).toNat) = t → (inR (c + 0) ∧ (inR (t + 1) ∧ (∃ μ : Nat, μ < n ∧ p = p ∧ I8 p M0 (c + 0) (t + 1) M μ)))) ∧ (¬ (¬ (M 5 (t).toNat) = t) → (inR (c + 1) ∧ (inR (t + 1) ∧ (∃ μ : Nat, μ < n ∧ p = p ∧ I8 p M0 (c + 1) (t + 1) M μ))))))))))
    : OK_X9_parts l D cy ad := by
  refine met_of (tb := tbX9_parts) (ft := ftX9) (cst := cstY) (ct := ct_X9_parts) (cuts := [8]) 28 (JA_X9_parts I8) hA jWY (by decide) tbX9_parts_ok (by decide) ftX9_ok cstY_ok (ldc_of (tb := tbX9_parts) (cst := cstY) (by decide)) rfl (List.forall_mem_cons.mpr ⟨si_X9_parts_1 o_X9_layLabels, fun q h => absurd h List.not_mem_nil⟩) ?_ ?_ ?_
  · intro as M0 h
    unfold P_X9_parts at h
    split at h
    · exact Nat.le_of_ble_eq_true rfl
    · exact h.elim
  · intro as M0 h hM has
    unfold P_X9_parts at h
    split at h
    next p => exact hent p M0 h hM
    · exact h.elim
  · intro as M0 h hM has pc ls st M n hI hM1
    unfold P_X9_parts at h
    split at h
    next p =>
      unfold JA_X9_parts J_X9_parts at hI
      dsimp only at hI
      split at hI
      ·
        obtain ⟨rfl, hI⟩ := hI
        exact hc8 _ _ h hM _ _ _ _ hI hM1
      · exact hI.elim
    · exact h.elim
abbrev p_X9_sizeOf (p : Nat) (f : Int) (M : Mem) : Prop := kdY p = 9 ∧ p = 0 ∧ gyB M
abbrev c_X9_sizeOf (p : Nat) (f : Int) (M : Mem) (x : Int) (M' : Mem) : Prop := (∀ L, lbY M L → x = cntL L f (nT (gY M))) ∧ M' = M
def P_X9_sizeOf (as : List AV) (M : Mem) : Prop := match as with
  | [.inr p, .inl f] => p_X9_sizeOf p f M
  | _ => False
def C_X9_sizeOf (as : List AV) (M : Mem) (x : Int) (M' : Mem) : Prop := match as with
  | [.inr p, .inl f] => c_X9_sizeOf p f M x M'
  | _ => False
abbrev rm_X9_sizeOf : Room := { frames := 0, cells := 0, slots := 0, locals := 0 }
abbrev OK_X9_sizeOf (l : Launch) (D : va_G) (cy : Nat → ClassId) (ad : Nat → Nat) : Prop := MetA l D cy ad kdY lnY 12 yX9_sizeOf cX9_sizeOf 4 (some .int) rm_X9_sizeOf 1 P_X9_sizeOf C_X9_sizeOf
theorem ca_X9_sizeOf : CalV yX9_sizeOf cX9_sizeOf 4 (some .int) 1 := ⟨⟨wcX9_sizeOf, wnX9, by decide +kernel, by decide +kernel, by decide +kernel⟩, wiX9_sizeOf, wlX9_sizeOf⟩
theorem rv_X9_sizeOf : ∀ as M, P_X9_sizeOf as M → ∃ a As q, as = .inr a :: As ∧ vwCl[kdY a]? = some q ∧ q.1 = yX9_sizeOf.cls := by
  intro as M h
  unfold P_X9_sizeOf at h
  split at h
  · exact ⟨_, _, (RX9, TX9, 20), rfl, by rw [h.1]; rfl, rfl⟩
  · exact h.elim
def ct_X9_sizeOf : List (Nat × CS) := []
def J_X9_sizeOf (I4 : Nat → Int → Mem → Int → Int → Mem → Nat → Prop) (p : Nat) (f : Int) (M0 : Mem) : IT := fun pc ls st M μ => match pc, ls, st, M, μ with
  | 4, [some (.inr p_), some (.inl f_), some (.inl c), some (.inl t)], [], M, μ => p = p_ ∧ f = f_ ∧ I4 p f M0 c t M μ
  | _, _, _, _, _ => False
def JA_X9_sizeOf (I4 : Nat → Int → Mem → Int → Int → Mem → Nat → Prop) (as : List AV) (M0 : Mem) : IT := match as with
  | [.inr p, .inl f] => J_X9_sizeOf I4 p f M0
  | _ => fun _ _ _ _ _ => False
set_option maxRecDepth 100000 in
set_option maxHeartbeats 4000000 in
theorem met_X9_sizeOf {l : Launch} {D : va_G} {cy : Nat → ClassId} {ad : Nat → Nat} (hA : jA ad 12)  (I4 : Nat → Int → Mem → Int → Int → Mem → Nat → Prop)
    (hent : ∀ (p : Nat) (f : Int) (M0 : Mem), p_X9_sizeOf p f M0 → okM M0 → inR f → ∃ μ : Nat, p = p ∧ f = f ∧ I4 p f M0 0 0 M0 μ)
    (hc4 : ∀ (p : Nat) (f : Int) (M0 : Mem), p_X9_sizeOf p f M0 → okM M0 → inR f → ∀ (c : Int) (t : Int) (M : Mem) (n : Nat), I4 p f M0 c t M n → okM M → kdY p = 9 ∧ (((M p 2) ≤ t → ((True) ∧ c_X9_sizeOf p f M0 c M)) ∧ (¬ (M p 2) ≤ t → (kdY p = 9 ∧ (kdY 5 = 21 ∧ (0 ≤ t ∧ t < 144) ∧ ((¬ (M 5 (t).toNat) = f → (inR (c + 0) ∧ (inR (t + 1) ∧ (∃ μ : Nat, μ < n ∧ p = p ∧ f = f ∧ I4 p f M0 (c + 0) (t + 1) M μ)))) ∧ (¬ (¬ (M 5 (t).toNat) = f) → (inR (c + 1) ∧ (inR (t + 1) ∧ (∃ μ : Nat, μ < n ∧ p = p ∧ f = f ∧ I4 p f M0 (c + 1) (t + 1) M μ))))))))))
    : OK_X9_sizeOf l D cy ad := by
  refine met_of (tb := tbX9_sizeOf) (ft := ftX9) (cst := cstY) (ct := ct_X9_sizeOf) (cuts := [4]) 26 (JA_X9_sizeOf I4) hA jWY (by decide) tbX9_sizeOf_ok (by decide) ftX9_ok cstY_ok (ldc_of (tb := tbX9_sizeOf) (cst := cstY) (by decide)) rfl (fun q h => absurd h List.not_mem_nil) ?_ ?_ ?_
  · intro as M0 h
    unfold P_X9_sizeOf at h
    split at h
    · exact Nat.le_of_ble_eq_true rfl
    · exact h.elim
  · intro as M0 h hM has
    unfold P_X9_sizeOf at h
    split at h
    next p f => exact hent p f M0 h hM (has f (by simp))
    · exact h.elim
  · intro as M0 h hM has pc ls st M n hI hM1
    unfold P_X9_sizeOf at h
    split at h
    next p f =>
      unfold JA_X9_sizeOf J_X9_sizeOf at hI
      dsimp only at hI
      split at hI
      ·
        obtain ⟨rfl, rfl, hI⟩ := hI
        exact hc4 _ _ _ h hM (has _ (by simp)) _ _ _ _ hI hM1
      · exact hI.elim
    · exact h.elim
abbrev p_X9_border (p : Nat) (f : Int) (o : Int) (M : Mem) : Prop := kdY p = 9 ∧ p = 0 ∧ gyB M ∧ ∃ κ, kiY M κ ∧ layY M (gY M) κ
abbrev c_X9_border (p : Nat) (f : Int) (o : Int) (M : Mem) (x : Int) (M' : Mem) : Prop := (∀ κ, kiY M κ → layY M (gY M) κ → x = (if o = 0 then sumF (qO (lab (gY M) κ) (gY M) f) (nT (gY M) * 4) else sumF (qN (lab (gY M) κ) (gY M) f) (nT (gY M) * 4))) ∧ M' = M
def P_X9_border (as : List AV) (M : Mem) : Prop := match as with
  | [.inr p, .inl f, .inl o] => p_X9_border p f o M
  | _ => False
def C_X9_border (as : List AV) (M : Mem) (x : Int) (M' : Mem) : Prop := match as with
  | [.inr p, .inl f, .inl o] => c_X9_border p f o M x M'
  | _ => False
abbrev rm_X9_border : Room := { frames := 3, cells := 0, slots := 0, locals := 70 }
abbrev OK_X9_border (l : Launch) (D : va_G) (cy : Nat → ClassId) (ad : Nat → Nat) : Prop := MetA l D cy ad kdY lnY 12 yX9_border cX9_border 8 (some .int) rm_X9_border 1 P_X9_border C_X9_border
theorem ca_X9_border : CalV yX9_border cX9_border 8 (some .int) 2 := ⟨⟨wcX9_border, wnX9, by decide +kernel, by decide +kernel, by decide +kernel⟩, wiX9_border, wlX9_border⟩
theorem rv_X9_border : ∀ as M, P_X9_border as M → ∃ a As q, as = .inr a :: As ∧ vwCl[kdY a]? = some q ∧ q.1 = yX9_border.cls := by
  intro as M h
  unfold P_X9_border at h
  split at h
  · exact ⟨_, _, (RX9, TX9, 20), rfl, by rw [h.1]; rfl, rfl⟩
  · exact h.elim
def ct_X9_border : List (Nat × CS) := [(29, (3, 1, P_X9_next, C_X9_next))]
def J_X9_border (I5 : Nat → Int → Int → Mem → Int → Int → Mem → Nat → Prop) (p : Nat) (f : Int) (o : Int) (M0 : Mem) : IT := fun pc ls st M μ => match pc, ls, st, M, μ with
  | 5, [some (.inr p_), some (.inl f_), some (.inl o_), some (.inl c), some (.inl k), _, _, _], [], M, μ => p = p_ ∧ f = f_ ∧ o = o_ ∧ I5 p f o M0 c k M μ
  | _, _, _, _, _ => False
def JA_X9_border (I5 : Nat → Int → Int → Mem → Int → Int → Mem → Nat → Prop) (as : List AV) (M0 : Mem) : IT := match as with
  | [.inr p, .inl f, .inl o] => J_X9_border I5 p f o M0
  | _ => fun _ _ _ _ _ => False
theorem si_X9_border_29 {l : Launch} {D : va_G} {cy : Nat → ClassId} {ad : Nat → Nat} (o : OK_X9_next l D cy ad) : Site l D cy ad kdY lnY 12 yX9_border.cls tbX9_border rm_X9_border 29 (3, 1, P_X9_next, C_X9_next) := Or.inl ⟨89, 2, yX9_next, cX9_next, 6, (some .int), rm_X9_next, rfl, rfl, o, ca_X9_next, mkX9_89, ⟨rfl, rfl, by decide, by decide⟩, rv_X9_next⟩
set_option maxRecDepth 100000 in
set_option maxHeartbeats 4000000 in
theorem met_X9_border {l : Launch} {D : va_G} {cy : Nat → ClassId} {ad : Nat → Nat} (hA : jA ad 12) (o_X9_next : OK_X9_next l D cy ad) (I5 : Nat → Int → Int → Mem → Int → Int → Mem → Nat → Prop)
    (hent : ∀ (p : Nat) (f : Int) (o : Int) (M0 : Mem), p_X9_border p f o M0 → okM M0 → inR f → inR o → ∃ μ : Nat, p = p ∧ f = f ∧ o = o ∧ I5 p f o M0 0 0 M0 μ)
    (hc5 : ∀ (p : Nat) (f : Int) (o : Int) (M0 : Mem), p_X9_border p f o M0 → okM M0 → inR f → inR o → ∀ (c : Int) (k : Int) (M : Mem) (n : Nat), I5 p f o M0 c k M n → okM M → kdY p = 9 ∧ (inR (4 * (M p 2)) ∧ (((4 * (M p 2)) ≤ k → ((True) ∧ c_X9_border p f o M0 c M)) ∧ (¬ (4 * (M p 2)) ≤ k → ((0 ≤ k ∧ 0 < (4 : Int)) ∧ (0 < (4 : Int) ∧ (p_X9_next p (k / 4) (Int.tmod k 4) M ∧ ∀ (x2 : Int) (M1 : Mem), inR x2 → okM M1 → c_X9_next p (k / 4) (Int.tmod k 4) M x2 M1 → ((o = (0 : Int) → ((x2 < (0 : Int) → (kdY p = 9 ∧ (kdY 5 = 21 ∧ (0 ≤ (k / 4) ∧ (k / 4) < 144) ∧ ((¬ (M1 5 (k / 4).toNat) = f → (inR (c + 0) ∧ (inR (k + 1) ∧ (∃ μ : Nat, μ < n ∧ p = p ∧ f = f ∧ o = o ∧ I5 p f o M0 (c + 0) (k + 1) M1 μ)))) ∧ (¬ (¬ (M1 5 (k / 4).toNat) = f) → (((0 : Int) = (0 : Int) → (inR (c + 0) ∧ (inR (k + 1) ∧ (∃ μ : Nat, μ < n ∧ p = p ∧ f = f ∧ o = o ∧ I5 p f o M0 (c + 0) (k + 1) M1 μ)))) ∧ (¬ (0 : Int) = (0 : Int) → (inR (c + 1) ∧ (inR (k + 1) ∧ (∃ μ : Nat, μ < n ∧ p = p ∧ f = f ∧ o = o ∧ I5 p f o M0 (c + 1) (k + 1) M1 μ)))))))))) ∧ (¬ x2 < (0 : Int) → (kdY p = 9 ∧ (kdY 1 = 21 ∧ (0 ≤ x2 ∧ x2 < 144) ∧ (kdY p = 9 ∧ (kdY 1 = 21 ∧ (0 ≤ (k / 4) ∧ (k / 4) < 144) ∧ (((M1 1 (x2).toNat) = (M1 1 (k / 4).toNat) → (kdY p = 9 ∧ (kdY 5 = 21 ∧ (0 ≤ (k / 4) ∧ (k / 4) < 144) ∧ ((¬ (M1 5 (k / 4).toNat) = f → (inR (c + 0) ∧ (inR (k + 1) ∧ (∃ μ : Nat, μ < n ∧ p = p ∧ f = f ∧ o = o ∧ I5 p f o M0 (c + 0) (k + 1) M1 μ)))) ∧ (¬ (¬ (M1 5 (k / 4).toNat) = f) → (((0 : Int) = (0 : Int) → (inR (c + 0) ∧ (inR (k + 1) ∧ (∃ μ : Nat, μ < n ∧ p = p ∧ f = f ∧ o = o ∧ I5 p f o M0 (c + 0) (k + 1) M1 μ)))) ∧ (¬ (0 : Int) = (0 : Int) → (inR (c + 1) ∧ (inR (k + 1) ∧ (∃ μ : Nat, μ < n ∧ p = p ∧ f = f ∧ o = o ∧ I5 p f o M0 (c + 1) (k + 1) M1 μ)))))))))) ∧ (¬ (M1 1 (x2).toNat) = (M1 1 (k / 4).toNat) → (kdY p = 9 ∧ (kdY 5 = 21 ∧ (0 ≤ (k / 4) ∧ (k / 4) < 144) ∧ ((¬ (M1 5 (k / 4).toNat) = f → (inR (c + 0) ∧ (inR (k + 1) ∧ (∃ μ : Nat, μ < n ∧ p = p ∧ f = f ∧ o = o ∧ I5 p f o M0 (c + 0) (k + 1) M1 μ)))) ∧ (¬ (¬ (M1 5 (k / 4).toNat) = f) → (((1 : Int) = (0 : Int) → (inR (c + 0) ∧ (inR (k + 1) ∧ (∃ μ : Nat, μ < n ∧ p = p ∧ f = f ∧ o = o ∧ I5 p f o M0 (c + 0) (k + 1) M1 μ)))) ∧ (¬ (1 : Int) = (0 : Int) → (inR (c + 1) ∧ (inR (k + 1) ∧ (∃ μ : Nat, μ < n ∧ p = p ∧ f = f ∧ o = o ∧ I5 p f o M0 (c + 1) (k + 1) M1 μ)))))))))))))))))) ∧ (¬ o = (0 : Int) → (((0 : Int) ≤ x2 → (kdY p = 9 ∧ (kdY 5 = 21 ∧ (0 ≤ (k / 4) ∧ (k / 4) < 144) ∧ ((¬ (M1 5 (k / 4).toNat) = f → (inR (c + 0) ∧ (inR (k + 1) ∧ (∃ μ : Nat, μ < n ∧ p = p ∧ f = f ∧ o = o ∧ I5 p f o M0 (c + 0) (k + 1) M1 μ)))) ∧ (¬ (¬ (M1 5 (k / 4).toNat) = f) → (((0 : Int) = (0 : Int) → (inR (c + 0) ∧ (inR (k + 1) ∧ (∃ μ : Nat, μ < n ∧ p = p ∧ f = f ∧ o = o ∧ I5 p f o M0 (c + 0) (k + 1) M1 μ)))) ∧ (¬ (0 : Int) = (0 : Int) → (inR (c + 1) ∧ (inR (k + 1) ∧ (∃ μ : Nat, μ < n ∧ p = p ∧ f = f ∧ o = o ∧ I5 p f o M0 (c + 1) (k + 1) M1 μ)))))))))) ∧ (¬ (0 : Int) ≤ x2 → (kdY p = 9 ∧ (kdY 5 = 21 ∧ (0 ≤ (k / 4) ∧ (k / 4) < 144) ∧ ((¬ (M1 5 (k / 4).toNat) = f → (inR (c + 0) ∧ (inR (k + 1) ∧ (∃ μ : Nat, μ < n ∧ p = p ∧ f = f ∧ o = o ∧ I5 p f o M0 (c + 0) (k + 1) M1 μ)))) ∧ (¬ (¬ (M1 5 (k / 4).toNat) = f) → (((1 : Int) = (0 : Int) → (inR (c + 0) ∧ (inR (k + 1) ∧ (∃ μ : Nat, μ < n ∧ p = p ∧ f = f ∧ o = o ∧ I5 p f o M0 (c + 0) (k + 1) M1 μ)))) ∧ (¬ (1 : Int) = (0 : Int) → (inR (c + 1) ∧ (inR (k + 1) ∧ (∃ μ : Nat, μ < n ∧ p = p ∧ f = f ∧ o = o ∧ I5 p f o M0 (c + 1) (k + 1) M1 μ))))))))))))))))))))
    : OK_X9_border l D cy ad := by
  refine met_of (tb := tbX9_border) (ft := ftX9) (cst := cstY) (ct := ct_X9_border) (cuts := [5]) 64 (JA_X9_border I5) hA jWY (by decide) tbX9_border_ok (by decide) ftX9_ok cstY_ok (ldc_of (tb := tbX9_border) (cst := cstY) (by decide)) rfl (List.forall_mem_cons.mpr ⟨si_X9_border_29 o_X9_next, fun q h => absurd h List.not_mem_nil⟩) ?_ ?_ ?_
  · intro as M0 h
    unfold P_X9_border at h
    split at h
    · exact Nat.le_of_ble_eq_true rfl
    · exact h.elim
  · intro as M0 h hM has
    unfold P_X9_border at h
    split at h
    next p f o => exact hent p f o M0 h hM (has f (by simp)) (has o (by simp))
    · exact h.elim
  · intro as M0 h hM has pc ls st M n hI hM1
    unfold P_X9_border at h
    split at h
    next p f o =>
      unfold JA_X9_border J_X9_border at hI
      dsimp only at hI
      split at hI
      ·
        obtain ⟨rfl, rfl, rfl, hI⟩ := hI
        exact hc5 _ _ _ _ h hM (has _ (by simp)) (has _ (by simp)) _ _ _ _ hI hM1
      · exact hI.elim
    · exact h.elim
abbrev p_X9_reach (p : Nat) (f : Int) (M : Mem) : Prop := kdY p = 9 ∧ p = 0 ∧ gyB M
abbrev c_X9_reach (p : Nat) (f : Int) (M : Mem) (x : Int) (M' : Mem) : Prop := (∀ L E, lbY M L → (∀ t : Nat, t < nT (gY M) → M 7 t = E t) → x = gdF L E f (nT (gY M))) ∧ M' = M
def P_X9_reach (as : List AV) (M : Mem) : Prop := match as with
  | [.inr p, .inl f] => p_X9_reach p f M
  | _ => False
def C_X9_reach (as : List AV) (M : Mem) (x : Int) (M' : Mem) : Prop := match as with
  | [.inr p, .inl f] => c_X9_reach p f M x M'
  | _ => False
abbrev rm_X9_reach : Room := { frames := 0, cells := 0, slots := 0, locals := 0 }
abbrev OK_X9_reach (l : Launch) (D : va_G) (cy : Nat → ClassId) (ad : Nat → Nat) : Prop := MetA l D cy ad kdY lnY 12 yX9_reach cX9_reach 4 (some .int) rm_X9_reach 1 P_X9_reach C_X9_reach
theorem ca_X9_reach : CalV yX9_reach cX9_reach 4 (some .int) 1 := ⟨⟨wcX9_reach, wnX9, by decide +kernel, by decide +kernel, by decide +kernel⟩, wiX9_reach, wlX9_reach⟩
theorem rv_X9_reach : ∀ as M, P_X9_reach as M → ∃ a As q, as = .inr a :: As ∧ vwCl[kdY a]? = some q ∧ q.1 = yX9_reach.cls := by
  intro as M h
  unfold P_X9_reach at h
  split at h
  · exact ⟨_, _, (RX9, TX9, 20), rfl, by rw [h.1]; rfl, rfl⟩
  · exact h.elim
def ct_X9_reach : List (Nat × CS) := []
def J_X9_reach (I4 : Nat → Int → Mem → Int → Int → Mem → Nat → Prop) (p : Nat) (f : Int) (M0 : Mem) : IT := fun pc ls st M μ => match pc, ls, st, M, μ with
  | 4, [some (.inr p_), some (.inl f_), some (.inl b), some (.inl t)], [], M, μ => p = p_ ∧ f = f_ ∧ I4 p f M0 b t M μ
  | _, _, _, _, _ => False
def JA_X9_reach (I4 : Nat → Int → Mem → Int → Int → Mem → Nat → Prop) (as : List AV) (M0 : Mem) : IT := match as with
  | [.inr p, .inl f] => J_X9_reach I4 p f M0
  | _ => fun _ _ _ _ _ => False
set_option maxRecDepth 100000 in
set_option maxHeartbeats 4000000 in
theorem met_X9_reach {l : Launch} {D : va_G} {cy : Nat → ClassId} {ad : Nat → Nat} (hA : jA ad 12)  (I4 : Nat → Int → Mem → Int → Int → Mem → Nat → Prop)
    (hent : ∀ (p : Nat) (f : Int) (M0 : Mem), p_X9_reach p f M0 → okM M0 → inR f → ∃ μ : Nat, p = p ∧ f = f ∧ I4 p f M0 0 0 M0 μ)
    (hc4 : ∀ (p : Nat) (f : Int) (M0 : Mem), p_X9_reach p f M0 → okM M0 → inR f → ∀ (b : Int) (t : Int) (M : Mem) (n : Nat), I4 p f M0 b t M n → okM M → kdY p = 9 ∧ (((M p 2) ≤ t → ((True) ∧ c_X9_reach p f M0 b M)) ∧ (¬ (M p 2) ≤ t → (kdY p = 9 ∧ (kdY 5 = 21 ∧ (0 ≤ t ∧ t < 144) ∧ ((¬ (M 5 (t).toNat) = f → (inR (t + 1) ∧ (∃ μ : Nat, μ < n ∧ p = p ∧ f = f ∧ I4 p f M0 b (t + 1) M μ))) ∧ (¬ (¬ (M 5 (t).toNat) = f) → (kdY p = 9 ∧ (kdY 7 = 21 ∧ (0 ≤ t ∧ t < 144) ∧ (((M 7 (t).toNat) ≤ b → (inR (t + 1) ∧ (∃ μ : Nat, μ < n ∧ p = p ∧ f = f ∧ I4 p f M0 b (t + 1) M μ))) ∧ (¬ (M 7 (t).toNat) ≤ b → (kdY p = 9 ∧ (kdY 7 = 21 ∧ (0 ≤ t ∧ t < 144) ∧ (inR (t + 1) ∧ (∃ μ : Nat, μ < n ∧ p = p ∧ f = f ∧ I4 p f M0 (M 7 (t).toNat) (t + 1) M μ)))))))))))))))
    : OK_X9_reach l D cy ad := by
  refine met_of (tb := tbX9_reach) (ft := ftX9) (cst := cstY) (ct := ct_X9_reach) (cuts := [4]) 33 (JA_X9_reach I4) hA jWY (by decide) tbX9_reach_ok (by decide) ftX9_ok cstY_ok (ldc_of (tb := tbX9_reach) (cst := cstY) (by decide)) rfl (fun q h => absurd h List.not_mem_nil) ?_ ?_ ?_
  · intro as M0 h
    unfold P_X9_reach at h
    split at h
    · exact Nat.le_of_ble_eq_true rfl
    · exact h.elim
  · intro as M0 h hM has
    unfold P_X9_reach at h
    split at h
    next p f => exact hent p f M0 h hM (has f (by simp))
    · exact h.elim
  · intro as M0 h hM has pc ls st M n hI hM1
    unfold P_X9_reach at h
    split at h
    next p f =>
      unfold JA_X9_reach J_X9_reach at hI
      dsimp only at hI
      split at hI
      ·
        obtain ⟨rfl, rfl, hI⟩ := hI
        exact hc4 _ _ _ h hM (has _ (by simp)) _ _ _ _ hI hM1
      · exact hI.elim
    · exact h.elim
