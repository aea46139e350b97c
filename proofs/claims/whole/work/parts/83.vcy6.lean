abbrev p_X9_undo (p : Nat) (M : Mem) : Prop := kdY p = 9 ∧ p = 0 ∧ (∃ σ, absY M σ)
abbrev c_X9_undo (p : Nat) (M : Mem) (x : Int) (M' : Mem) : Prop := ∀ σ, absY M σ → x = F_undo σ ∧ absY M' (G_undo σ)
def P_X9_undo (as : List AV) (M : Mem) : Prop := match as with
  | [.inr p] => p_X9_undo p M
  | _ => False
def C_X9_undo (as : List AV) (M : Mem) (x : Int) (M' : Mem) : Prop := match as with
  | [.inr p] => c_X9_undo p M x M'
  | _ => False
abbrev rm_X9_undo : Room := { frames := 0, cells := 0, slots := 0, locals := 0 }
abbrev OK_X9_undo (l : Launch) (D : va_G) (cy : Nat → ClassId) (ad : Nat → Nat) : Prop := MetA l D cy ad kdY lnY 12 yX9_undo cX9_undo 2 (some .int) rm_X9_undo 1 P_X9_undo C_X9_undo
theorem ca_X9_undo : CalV yX9_undo cX9_undo 2 (some .int) 0 := ⟨⟨wcX9_undo, wnX9, by decide +kernel, by decide +kernel, by decide +kernel⟩, wiX9_undo, wlX9_undo⟩
theorem rv_X9_undo : ∀ as M, P_X9_undo as M → ∃ a As q, as = .inr a :: As ∧ vwCl[kdY a]? = some q ∧ q.1 = yX9_undo.cls := by
  intro as M h
  unfold P_X9_undo at h
  split at h
  · exact ⟨_, _, (RX9, TX9, 20), rfl, by rw [h.1]; rfl, rfl⟩
  · exact h.elim
def ct_X9_undo : List (Nat × CS) := []
def J_X9_undo (I22 : Nat → Mem → Int → Mem → Nat → Prop) (p : Nat) (M0 : Mem) : IT := fun pc ls st M μ => match pc, ls, st, M, μ with
  | 22, [some (.inr p_), some (.inl j)], [], M, μ => p = p_ ∧ I22 p M0 j M μ
  | _, _, _, _, _ => False
def JA_X9_undo (I22 : Nat → Mem → Int → Mem → Nat → Prop) (as : List AV) (M0 : Mem) : IT := match as with
  | [.inr p] => J_X9_undo I22 p M0
  | _ => fun _ _ _ _ _ => False
set_option maxRecDepth 100000 in
set_option maxHeartbeats 4000000 in
theorem met_X9_undo {l : Launch} {D : va_G} {cy : Nat → ClassId} {ad : Nat → Nat} (hA : jA ad 12)  (I22 : Nat → Mem → Int → Mem → Nat → Prop)
    (hent : ∀ (p : Nat) (M0 : Mem), p_X9_undo p M0 → okM M0 → kdY p = 9 ∧ ((¬ (M0 p 16) = (0 : Int) → (kdY p = 9 ∧ (inR ((M0 p 16) - 1) ∧ (kdY p = 9 ∧ (∃ μ : Nat, p = p ∧ I22 p M0 0 (up M0 p 16 ((M0 p 16) - 1)) μ))))) ∧ (¬ (¬ (M0 p 16) = (0 : Int)) → ((True) ∧ c_X9_undo p M0 (-5) M0))))
    (hc22 : ∀ (p : Nat) (M0 : Mem), p_X9_undo p M0 → okM M0 → ∀ (j : Int) (M : Mem) (n : Nat), I22 p M0 j M n → okM M → ((144 : Int) ≤ j → (kdY p = 9 ∧ ((True) ∧ c_X9_undo p M0 (M p 16) M))) ∧ (¬ (144 : Int) ≤ j → (kdY p = 9 ∧ (kdY p = 9 ∧ (kdY p = 9 ∧ (inR (144 * (M p 16)) ∧ (inR ((144 * (M p 16)) + j) ∧ (kdY 9 = 21 ∧ (0 ≤ ((144 * (M p 16)) + j) ∧ ((144 * (M p 16)) + j) < 1728) ∧ (kdY 1 = 21 ∧ (0 ≤ j ∧ j < 144) ∧ (inR (j + 1) ∧ (∃ μ : Nat, μ < n ∧ p = p ∧ I22 p M0 (j + 1) (up M 1 (j).toNat (M 9 ((144 * (M p 16)) + j).toNat)) μ)))))))))))
    : OK_X9_undo l D cy ad := by
  refine met_of (tb := tbX9_undo) (ft := ftX9) (cst := cstY) (ct := ct_X9_undo) (cuts := [22]) 36 (JA_X9_undo I22) hA jWY (by decide) tbX9_undo_ok (by decide) ftX9_ok cstY_ok (ldc_of (tb := tbX9_undo) (cst := cstY) (by decide)) rfl (fun q h => absurd h List.not_mem_nil) ?_ ?_ ?_
  · intro as M0 h
    unfold P_X9_undo at h
    split at h
    · exact Nat.le_of_ble_eq_true rfl
    · exact h.elim
  · intro as M0 h hM has
    unfold P_X9_undo at h
    split at h
    next p => exact hent p M0 h hM
    · exact h.elim
  · intro as M0 h hM has pc ls st M n hI hM1
    unfold P_X9_undo at h
    split at h
    next p =>
      unfold JA_X9_undo J_X9_undo at hI
      dsimp only at hI
      split at hI
      ·
        obtain ⟨rfl, hI⟩ := hI
        exact hc22 _ _ h hM _ _ _ hI hM1
      · exact hI.elim
    · exact h.elim
abbrev p_X9_setTile (p : Nat) (t : Int) (k : Int) (M : Mem) : Prop := kdY p = 9 ∧ p = 0 ∧ (∃ σ, absY M σ)
abbrev c_X9_setTile (p : Nat) (t : Int) (k : Int) (M : Mem) (x : Int) (M' : Mem) : Prop := ∀ σ, absY M σ → x = F_setTile σ t k ∧ absY M' (G_setTile σ t k)
def P_X9_setTile (as : List AV) (M : Mem) : Prop := match as with
  | [.inr p, .inl t, .inl k] => p_X9_setTile p t k M
  | _ => False
def C_X9_setTile (as : List AV) (M : Mem) (x : Int) (M' : Mem) : Prop := match as with
  | [.inr p, .inl t, .inl k] => c_X9_setTile p t k M x M'
  | _ => False
abbrev rm_X9_setTile : Room := { frames := 5, cells := 0, slots := 0, locals := 117 }
abbrev OK_X9_setTile (l : Launch) (D : va_G) (cy : Nat → ClassId) (ad : Nat → Nat) : Prop := MetA l D cy ad kdY lnY 12 yX9_setTile cX9_setTile 5 (some .int) rm_X9_setTile 1 P_X9_setTile C_X9_setTile
theorem ca_X9_setTile : CalV yX9_setTile cX9_setTile 5 (some .int) 2 := ⟨⟨wcX9_setTile, wnX9, by decide +kernel, by decide +kernel, by decide +kernel⟩, wiX9_setTile, wlX9_setTile⟩
theorem rv_X9_setTile : ∀ as M, P_X9_setTile as M → ∃ a As q, as = .inr a :: As ∧ vwCl[kdY a]? = some q ∧ q.1 = yX9_setTile.cls := by
  intro as M h
  unfold P_X9_setTile at h
  split at h
  · exact ⟨_, _, (RX9, TX9, 20), rfl, by rw [h.1]; rfl, rfl⟩
  · exact h.elim
def ct_X9_setTile : List (Nat × CS) := [(2, (2, 2, P_X9_noTile, C_X9_noTile)), (11, (1, 2, P_X9_isKind, C_X9_isKind)), (21, (1, 0, P_X9_keep, C_X9_keep)), (25, (1, 0, P_X9_layLabels, C_X9_layLabels)), (64, (1, 0, P_X9_layLabels, C_X9_layLabels))]
def J_X9_setTile (I30 : Nat → Int → Int → Mem → Int → Mem → Nat → Prop) (I72 : Nat → Int → Int → Mem → Int → Int → Mem → Nat → Prop) (p : Nat) (t : Int) (k : Int) (M0 : Mem) : IT := fun pc ls st M μ => match pc, ls, st, M, μ with
  | 30, [some (.inr p_), some (.inl t_), some (.inl k_), some (.inl j), _], [], M, μ => p = p_ ∧ t = t_ ∧ k = k_ ∧ I30 p t k M0 j M μ
  | 72, [some (.inr p_), some (.inl t_), some (.inl k_), some (.inl c), some (.inl j)], [], M, μ => p = p_ ∧ t = t_ ∧ k = k_ ∧ I72 p t k M0 c j M μ
  | _, _, _, _, _ => False
def JA_X9_setTile (I30 : Nat → Int → Int → Mem → Int → Mem → Nat → Prop) (I72 : Nat → Int → Int → Mem → Int → Int → Mem → Nat → Prop) (as : List AV) (M0 : Mem) : IT := match as with
  | [.inr p, .inl t, .inl k] => J_X9_setTile I30 I72 p t k M0
  | _ => fun _ _ _ _ _ => False
theorem si_X9_setTile_2 {l : Launch} {D : va_G} {cy : Nat → ClassId} {ad : Nat → Nat} (o : OK_X9_noTile l D cy ad) : Site l D cy ad kdY lnY 12 yX9_setTile.cls tbX9_setTile rm_X9_setTile 2 (2, 2, P_X9_noTile, C_X9_noTile) := Or.inl ⟨99, 1, yX9_noTile, cX9_noTile, 2, (some .boolean), rm_X9_noTile, rfl, rfl, o, ca_X9_noTile, mkX9_99, ⟨rfl, rfl, by decide, by decide⟩, rv_X9_noTile⟩
theorem si_X9_setTile_11 {l : Launch} {D : va_G} {cy : Nat → ClassId} {ad : Nat → Nat} (o : OK_X9_isKind l D cy ad) : Site l D cy ad kdY lnY 12 yX9_setTile.cls tbX9_setTile rm_X9_setTile 11 (1, 2, P_X9_isKind, C_X9_isKind) := Or.inr (Or.inl ⟨136, 1, yX9_isKind, cX9_isKind, 1, (some .boolean), rm_X9_isKind, rfl, rfl, o, ca_X9_isKind, mkX9_136, rfl, ⟨rfl, rfl, by decide, by decide⟩⟩)
theorem si_X9_setTile_21 {l : Launch} {D : va_G} {cy : Nat → ClassId} {ad : Nat → Nat} (o : OK_X9_keep l D cy ad) : Site l D cy ad kdY lnY 12 yX9_setTile.cls tbX9_setTile rm_X9_setTile 21 (1, 0, P_X9_keep, C_X9_keep) := Or.inl ⟨106, 0, yX9_keep, cX9_keep, 2, none, rm_X9_keep, rfl, rfl, o, ca_X9_keep, mkX9_106, ⟨rfl, rfl, by decide, by decide⟩, rv_X9_keep⟩
theorem si_X9_setTile_25 {l : Launch} {D : va_G} {cy : Nat → ClassId} {ad : Nat → Nat} (o : OK_X9_layLabels l D cy ad) : Site l D cy ad kdY lnY 12 yX9_setTile.cls tbX9_setTile rm_X9_setTile 25 (1, 0, P_X9_layLabels, C_X9_layLabels) := Or.inl ⟨113, 0, yX9_layLabels, cX9_layLabels, 2, none, rm_X9_layLabels, rfl, rfl, o, ca_X9_layLabels, mkX9_113, ⟨rfl, rfl, by decide, by decide⟩, rv_X9_layLabels⟩
theorem si_X9_setTile_64 {l : Launch} {D : va_G} {cy : Nat → ClassId} {ad : Nat → Nat} (o : OK_X9_layLabels l D cy ad) : Site l D cy ad kdY lnY 12 yX9_setTile.cls tbX9_setTile rm_X9_setTile 64 (1, 0, P_X9_layLabels, C_X9_layLabels) := Or.inl ⟨113, 0, yX9_layLabels, cX9_layLabels, 2, none, rm_X9_layLabels, rfl, rfl, o, ca_X9_layLabels, mkX9_113, ⟨rfl, rfl, by decide, by decide⟩, rv_X9_layLabels⟩
set_option maxRecDepth 100000 in
set_option maxHeartbeats 4000000 in
theorem met_X9_setTile {l : Launch} {D : va_G} {cy : Nat → ClassId} {ad : Nat → Nat} (hA : jA ad 12) (o_X9_isKind : OK_X9_isKind l D cy ad) (o_X9_keep : OK_X9_keep l D cy ad) (o_X9_layLabels : OK_X9_layLabels l D cy ad) (o_X9_noTile : OK_X9_noTile l D cy ad) (I30 : Nat → Int → Int → Mem → Int → Mem → Nat → Prop) (I72 : Nat → Int → Int → Mem → Int → Int → Mem → Nat → Prop)
    (hent : ∀ (p : Nat) (t : Int) (k : Int) (M0 : Mem), p_X9_setTile p t k M0 → okM M0 → inR t → inR k → p_X9_noTile p t M0 ∧ ∀ (x2 : Int) (M1 : Mem), inR x2 → okM M1 → c_X9_noTile p t M0 x2 M1 → ((x2 = (0 : Int) → (p_X9_isKind k M1 ∧ ∀ (x4 : Int) (M3 : Mem), inR x4 → okM M3 → c_X9_isKind k M1 x4 M3 → ((¬ x4 = (0 : Int) → (p_X9_keep p M3 ∧ ∀ (x6 : Int) (M5 : Mem), inR x6 → okM M5 → c_X9_keep p M3 x6 M5 → (p_X9_layLabels p M5 ∧ ∀ (x8 : Int) (M7 : Mem), inR x8 → okM M7 → c_X9_layLabels p M5 x8 M7 → (∃ μ : Nat, p = p ∧ t = t ∧ k = k ∧ I30 p t k M0 0 M7 μ)))) ∧ (¬ (¬ x4 = (0 : Int)) → ((True) ∧ c_X9_setTile p t k M0 (-2) M3))))) ∧ (¬ x2 = (0 : Int) → ((True) ∧ c_X9_setTile p t k M0 (-1) M1))))
    (hc30 : ∀ (p : Nat) (t : Int) (k : Int) (M0 : Mem), p_X9_setTile p t k M0 → okM M0 → inR t → inR k → ∀ (j : Int) (M : Mem) (n : Nat), I30 p t k M0 j M n → okM M → kdY p = 9 ∧ (((M p 2) ≤ j → (kdY p = 9 ∧ (kdY 1 = 21 ∧ (0 ≤ t ∧ t < 144) ∧ (p_X9_layLabels p (up M 1 (t).toNat k) ∧ ∀ (x2 : Int) (M1 : Mem), inR x2 → okM M1 → c_X9_layLabels p (up M 1 (t).toNat k) x2 M1 → (∃ μ : Nat, μ < n ∧ p = p ∧ t = t ∧ k = k ∧ I72 p t k M0 0 0 M1 μ))))) ∧ (¬ (M p 2) ≤ j → (kdY p = 9 ∧ (kdY p = 9 ∧ (kdY 5 = 21 ∧ (0 ≤ j ∧ j < 144) ∧ (kdY 10 = 21 ∧ (0 ≤ j ∧ j < 144) ∧ (inR (j + 1) ∧ (∃ μ : Nat, μ < n ∧ p = p ∧ t = t ∧ k = k ∧ I30 p t k M0 (j + 1) (up M 10 (j).toNat (M 5 (j).toNat)) μ)))))))))
    (hc72 : ∀ (p : Nat) (t : Int) (k : Int) (M0 : Mem), p_X9_setTile p t k M0 → okM M0 → inR t → inR k → ∀ (c : Int) (j : Int) (M : Mem) (n : Nat), I72 p t k M0 c j M n → okM M → kdY p = 9 ∧ (((M p 2) ≤ j → ((True) ∧ c_X9_setTile p t k M0 c M)) ∧ (¬ (M p 2) ≤ j → ((j = t → (inR (c + 0) ∧ (inR (j + 1) ∧ (∃ μ : Nat, μ < n ∧ p = p ∧ t = t ∧ k = k ∧ I72 p t k M0 (c + 0) (j + 1) M μ)))) ∧ (¬ j = t → (kdY p = 9 ∧ (kdY 5 = 21 ∧ (0 ≤ j ∧ j < 144) ∧ (kdY p = 9 ∧ (kdY 10 = 21 ∧ (0 ≤ j ∧ j < 144) ∧ (((M 5 (j).toNat) = (M 10 (j).toNat) → (inR (c + 0) ∧ (inR (j + 1) ∧ (∃ μ : Nat, μ < n ∧ p = p ∧ t = t ∧ k = k ∧ I72 p t k M0 (c + 0) (j + 1) M μ)))) ∧ (¬ (M 5 (j).toNat) = (M 10 (j).toNat) → (inR (c + 1) ∧ (inR (j + 1) ∧ (∃ μ : Nat, μ < n ∧ p = p ∧ t = t ∧ k = k ∧ I72 p t k M0 (c + 1) (j + 1) M μ))))))))))))))
    : OK_X9_setTile l D cy ad := by
  refine met_of (tb := tbX9_setTile) (ft := ftX9) (cst := cstY) (ct := ct_X9_setTile) (cuts := [30, 72]) 70 (JA_X9_setTile I30 I72) hA jWY (by decide) tbX9_setTile_ok (by decide) ftX9_ok cstY_ok (ldc_of (tb := tbX9_setTile) (cst := cstY) (by decide)) rfl (List.forall_mem_cons.mpr ⟨si_X9_setTile_2 o_X9_noTile, List.forall_mem_cons.mpr ⟨si_X9_setTile_11 o_X9_isKind, List.forall_mem_cons.mpr ⟨si_X9_setTile_21 o_X9_keep, List.forall_mem_cons.mpr ⟨si_X9_setTile_25 o_X9_layLabels, List.forall_mem_cons.mpr ⟨si_X9_setTile_64 o_X9_layLabels, fun q h => absurd h List.not_mem_nil⟩⟩⟩⟩⟩) ?_ ?_ ?_
  · intro as M0 h
    unfold P_X9_setTile at h
    split at h
    · exact Nat.le_of_ble_eq_true rfl
    · exact h.elim
  · intro as M0 h hM has
    unfold P_X9_setTile at h
    split at h
    next p t k => exact hent p t k M0 h hM (has t (by simp)) (has k (by simp))
    · exact h.elim
  · intro as M0 h hM has pc ls st M n hI hM1
    unfold P_X9_setTile at h
    split at h
    next p t k =>
      unfold JA_X9_setTile J_X9_setTile at hI
      dsimp only at hI
      split at hI
      ·
        obtain ⟨rfl, rfl, rfl, hI⟩ := hI
        exact hc30 _ _ _ _ h hM (has _ (by simp)) (has _ (by simp)) _ _ _ hI hM1
      ·
        obtain ⟨rfl, rfl, rfl, hI⟩ := hI
        exact hc72 _ _ _ _ h hM (has _ (by simp)) (has _ (by simp)) _ _ _ _ hI hM1
      · exact hI.elim
    · exact h.elim
abbrev p_X9_fill (p : Nat) (t : Int) (k : Int) (M : Mem) : Prop := kdY p = 9 ∧ p = 0 ∧ (∃ σ, absY M σ)
abbrev c_X9_fill (p : Nat) (t : Int) (k : Int) (M : Mem) (x : Int) (M' : Mem) : Prop := ∀ σ, absY M σ → x = F_fill σ t k ∧ absY M' (G_fill σ t k)
def P_X9_fill (as : List AV) (M : Mem) : Prop := match as with
  | [.inr p, .inl t, .inl k] => p_X9_fill p t k M
  | _ => False
def C_X9_fill (as : List AV) (M : Mem) (x : Int) (M' : Mem) : Prop := match as with
  | [.inr p, .inl t, .inl k] => c_X9_fill p t k M x M'
  | _ => False
abbrev rm_X9_fill : Room := { frames := 5, cells := 0, slots := 0, locals := 117 }
abbrev OK_X9_fill (l : Launch) (D : va_G) (cy : Nat → ClassId) (ad : Nat → Nat) : Prop := MetA l D cy ad kdY lnY 12 yX9_fill cX9_fill 5 (some .int) rm_X9_fill 1 P_X9_fill C_X9_fill
theorem ca_X9_fill : CalV yX9_fill cX9_fill 5 (some .int) 2 := ⟨⟨wcX9_fill, wnX9, by decide +kernel, by decide +kernel, by decide +kernel⟩, wiX9_fill, wlX9_fill⟩
theorem rv_X9_fill : ∀ as M, P_X9_fill as M → ∃ a As q, as = .inr a :: As ∧ vwCl[kdY a]? = some q ∧ q.1 = yX9_fill.cls := by
  intro as M h
  unfold P_X9_fill at h
  split at h
  · exact ⟨_, _, (RX9, TX9, 20), rfl, by rw [h.1]; rfl, rfl⟩
  · exact h.elim
def ct_X9_fill : List (Nat × CS) := [(2, (2, 2, P_X9_noTile, C_X9_noTile)), (11, (1, 2, P_X9_isKind, C_X9_isKind)), (21, (1, 0, P_X9_keep, C_X9_keep)), (25, (1, 0, P_X9_layLabels, C_X9_layLabels)), (83, (1, 0, P_X9_layLabels, C_X9_layLabels)), (93, (2, 1, P_X9_sizeOf, C_X9_sizeOf))]
def J_X9_fill (I38 : Nat → Int → Int → Mem → Int → Int → Mem → Nat → Prop) (p : Nat) (t : Int) (k : Int) (M0 : Mem) : IT := fun pc ls st M μ => match pc, ls, st, M, μ with
  | 38, [some (.inr p_), some (.inl t_), some (.inl k_), some (.inl i), some (.inl j)], [], M, μ => p = p_ ∧ t = t_ ∧ k = k_ ∧ I38 p t k M0 i j M μ
  | _, _, _, _, _ => False
def JA_X9_fill (I38 : Nat → Int → Int → Mem → Int → Int → Mem → Nat → Prop) (as : List AV) (M0 : Mem) : IT := match as with
  | [.inr p, .inl t, .inl k] => J_X9_fill I38 p t k M0
  | _ => fun _ _ _ _ _ => False
theorem si_X9_fill_2 {l : Launch} {D : va_G} {cy : Nat → ClassId} {ad : Nat → Nat} (o : OK_X9_noTile l D cy ad) : Site l D cy ad kdY lnY 12 yX9_fill.cls tbX9_fill rm_X9_fill 2 (2, 2, P_X9_noTile, C_X9_noTile) := Or.inl ⟨99, 1, yX9_noTile, cX9_noTile, 2, (some .boolean), rm_X9_noTile, rfl, rfl, o, ca_X9_noTile, mkX9_99, ⟨rfl, rfl, by decide, by decide⟩, rv_X9_noTile⟩
theorem si_X9_fill_11 {l : Launch} {D : va_G} {cy : Nat → ClassId} {ad : Nat → Nat} (o : OK_X9_isKind l D cy ad) : Site l D cy ad kdY lnY 12 yX9_fill.cls tbX9_fill rm_X9_fill 11 (1, 2, P_X9_isKind, C_X9_isKind) := Or.inr (Or.inl ⟨136, 1, yX9_isKind, cX9_isKind, 1, (some .boolean), rm_X9_isKind, rfl, rfl, o, ca_X9_isKind, mkX9_136, rfl, ⟨rfl, rfl, by decide, by decide⟩⟩)
theorem si_X9_fill_21 {l : Launch} {D : va_G} {cy : Nat → ClassId} {ad : Nat → Nat} (o : OK_X9_keep l D cy ad) : Site l D cy ad kdY lnY 12 yX9_fill.cls tbX9_fill rm_X9_fill 21 (1, 0, P_X9_keep, C_X9_keep) := Or.inl ⟨106, 0, yX9_keep, cX9_keep, 2, none, rm_X9_keep, rfl, rfl, o, ca_X9_keep, mkX9_106, ⟨rfl, rfl, by decide, by decide⟩, rv_X9_keep⟩
theorem si_X9_fill_25 {l : Launch} {D : va_G} {cy : Nat → ClassId} {ad : Nat → Nat} (o : OK_X9_layLabels l D cy ad) : Site l D cy ad kdY lnY 12 yX9_fill.cls tbX9_fill rm_X9_fill 25 (1, 0, P_X9_layLabels, C_X9_layLabels) := Or.inl ⟨113, 0, yX9_layLabels, cX9_layLabels, 2, none, rm_X9_layLabels, rfl, rfl, o, ca_X9_layLabels, mkX9_113, ⟨rfl, rfl, by decide, by decide⟩, rv_X9_layLabels⟩
theorem si_X9_fill_83 {l : Launch} {D : va_G} {cy : Nat → ClassId} {ad : Nat → Nat} (o : OK_X9_layLabels l D cy ad) : Site l D cy ad kdY lnY 12 yX9_fill.cls tbX9_fill rm_X9_fill 83 (1, 0, P_X9_layLabels, C_X9_layLabels) := Or.inl ⟨113, 0, yX9_layLabels, cX9_layLabels, 2, none, rm_X9_layLabels, rfl, rfl, o, ca_X9_layLabels, mkX9_113, ⟨rfl, rfl, by decide, by decide⟩, rv_X9_layLabels⟩
theorem si_X9_fill_93 {l : Launch} {D : va_G} {cy : Nat → ClassId} {ad : Nat → Nat} (o : OK_X9_sizeOf l D cy ad) : Site l D cy ad kdY lnY 12 yX9_fill.cls tbX9_fill rm_X9_fill 93 (2, 1, P_X9_sizeOf, C_X9_sizeOf) := Or.inl ⟨120, 1, yX9_sizeOf, cX9_sizeOf, 4, (some .int), rm_X9_sizeOf, rfl, rfl, o, ca_X9_sizeOf, mkX9_120, ⟨rfl, rfl, by decide, by decide⟩, rv_X9_sizeOf⟩
set_option maxRecDepth 100000 in
set_option maxHeartbeats 4000000 in
theorem met_X9_fill {l : Launch} {D : va_G} {cy : Nat → ClassId} {ad : Nat → Nat} (hA : jA ad 12) (o_X9_isKind : OK_X9_isKind l D cy ad) (o_X9_keep : OK_X9_keep l D cy ad) (o_X9_layLabels : OK_X9_layLabels l D cy ad) (o_X9_noTile : OK_X9_noTile l D cy ad) (o_X9_sizeOf : OK_X9_sizeOf l D cy ad) (I38 : Nat → Int → Int → Mem → Int → Int → Mem → Nat → Prop)
    (hent : ∀ (p : Nat) (t : Int) (k : Int) (M0 : Mem), p_X9_fill p t k M0 → okM M0 → inR t → inR k → p_X9_noTile p t M0 ∧ ∀ (x2 : Int) (M1 : Mem), inR x2 → okM M1 → c_X9_noTile p t M0 x2 M1 → ((x2 = (0 : Int) → (p_X9_isKind k M1 ∧ ∀ (x4 : Int) (M3 : Mem), inR x4 → okM M3 → c_X9_isKind k M1 x4 M3 → ((¬ x4 = (0 : Int) → (p_X9_keep p M3 ∧ ∀ (x6 : Int) (M5 : Mem), inR x6 → okM M5 → c_X9_keep p M3 x6 M5 → (p_X9_layLabels p M5 ∧ ∀ (x8 : Int) (M7 : Mem), inR x8 → okM M7 → c_X9_layLabels p M5 x8 M7 → (kdY p = 9 ∧ (kdY 5 = 21 ∧ (0 ≤ t ∧ t < 144) ∧ (∃ μ : Nat, p = p ∧ t = t ∧ k = k ∧ I38 p t k M0 (M7 5 (t).toNat) 0 M7 μ)))))) ∧ (¬ (¬ x4 = (0 : Int)) → ((True) ∧ c_X9_fill p t k M0 (-2) M3))))) ∧ (¬ x2 = (0 : Int) → ((True) ∧ c_X9_fill p t k M0 (-1) M1))))
    (hc38 : ∀ (p : Nat) (t : Int) (k : Int) (M0 : Mem), p_X9_fill p t k M0 → okM M0 → inR t → inR k → ∀ (i : Int) (j : Int) (M : Mem) (n : Nat), I38 p t k M0 i j M n → okM M → kdY p = 9 ∧ (((M p 2) ≤ j → (p_X9_layLabels p M ∧ ∀ (x2 : Int) (M1 : Mem), inR x2 → okM M1 → c_X9_layLabels p M x2 M1 → (kdY p = 9 ∧ (kdY 5 = 21 ∧ (0 ≤ t ∧ t < 144) ∧ (p_X9_sizeOf p (M1 5 (t).toNat) M1 ∧ ∀ (x4 : Int) (M3 : Mem), inR x4 → okM M3 → c_X9_sizeOf p (M1 5 (t).toNat) M1 x4 M3 → ((True) ∧ c_X9_fill p t k M0 x4 M3)))))) ∧ (¬ (M p 2) ≤ j → (kdY p = 9 ∧ (kdY p = 9 ∧ (kdY 5 = 21 ∧ (0 ≤ j ∧ j < 144) ∧ ((¬ (M 5 (j).toNat) = i → (kdY p = 9 ∧ (kdY 1 = 21 ∧ (0 ≤ j ∧ j < 144) ∧ (kdY 1 = 21 ∧ (0 ≤ j ∧ j < 144) ∧ (inR (j + 1) ∧ (∃ μ : Nat, μ < n ∧ p = p ∧ t = t ∧ k = k ∧ I38 p t k M0 i (j + 1) (up M 1 (j).toNat (M 1 (j).toNat)) μ)))))) ∧ (¬ (¬ (M 5 (j).toNat) = i) → (kdY 1 = 21 ∧ (0 ≤ j ∧ j < 144) ∧ (inR (j + 1) ∧ (∃ μ : Nat, μ < n ∧ p = p ∧ t = t ∧ k = k ∧ I38 p t k M0 i (j + 1) (up M 1 (j).toNat k) μ)))))))))))
    : OK_X9_fill l D cy ad := by
  refine met_of (tb := tbX9_fill) (ft := ftX9) (cst := cstY) (ct := ct_X9_fill) (cuts := [38]) 55 (JA_X9_fill I38) hA jWY (by decide) tbX9_fill_ok (by decide) ftX9_ok cstY_ok (ldc_of (tb := tbX9_fill) (cst := cstY) (by decide)) rfl (List.forall_mem_cons.mpr ⟨si_X9_fill_2 o_X9_noTile, List.forall_mem_cons.mpr ⟨si_X9_fill_11 o_X9_isKind, List.forall_mem_cons.mpr ⟨si_X9_fill_21 o_X9_keep, List.forall_mem_cons.mpr ⟨si_X9_fill_25 o_X9_layLabels, List.forall_mem_cons.mpr ⟨si_X9_fill_83 o_X9_layLabels, List.forall_mem_cons.mpr ⟨si_X9_fill_93 o_X9_sizeOf, fun q h => absurd h List.not_mem_nil⟩⟩⟩⟩⟩⟩) ?_ ?_ ?_
  · intro as M0 h
    unfold P_X9_fill at h
    split at h
    · exact Nat.le_of_ble_eq_true rfl
    · exact h.elim
  · intro as M0 h hM has
    unfold P_X9_fill at h
    split at h
    next p t k => exact hent p t k M0 h hM (has t (by simp)) (has k (by simp))
    · exact h.elim
  · intro as M0 h hM has pc ls st M n hI hM1
    unfold P_X9_fill at h
    split at h
    next p t k =>
      unfold JA_X9_fill J_X9_fill at hI
      dsimp only at hI
      split at hI
      ·
        obtain ⟨rfl, rfl, rfl, hI⟩ := hI
        exact hc38 _ _ _ _ h hM (has _ (by simp)) (has _ (by simp)) _ _ _ _ hI hM1
      · exact hI.elim
    · exact h.elim
abbrev p_X9_readTiles (p : Nat) (M : Mem) : Prop := kdY p = 9 ∧ p = 0 ∧ (∃ σ, absY M σ)
abbrev c_X9_readTiles (p : Nat) (M : Mem) (x : Int) (M' : Mem) : Prop := ∀ σ, absY M σ → x = F_readTiles σ ∧ absY M' (G_readTiles σ)
def P_X9_readTiles (as : List AV) (M : Mem) : Prop := match as with
  | [.inr p] => p_X9_readTiles p M
  | _ => False
def C_X9_readTiles (as : List AV) (M : Mem) (x : Int) (M' : Mem) : Prop := match as with
  | [.inr p] => c_X9_readTiles p M x M'
  | _ => False
abbrev rm_X9_readTiles : Room := { frames := 1, cells := 0, slots := 0, locals := 21 }
abbrev OK_X9_readTiles (l : Launch) (D : va_G) (cy : Nat → ClassId) (ad : Nat → Nat) : Prop := MetA l D cy ad kdY lnY 12 yX9_readTiles cX9_readTiles 5 (some .int) rm_X9_readTiles 1 P_X9_readTiles C_X9_readTiles
theorem ca_X9_readTiles : CalV yX9_readTiles cX9_readTiles 5 (some .int) 0 := ⟨⟨wcX9_readTiles, wnX9, by decide +kernel, by decide +kernel, by decide +kernel⟩, wiX9_readTiles, wlX9_readTiles⟩
theorem rv_X9_readTiles : ∀ as M, P_X9_readTiles as M → ∃ a As q, as = .inr a :: As ∧ vwCl[kdY a]? = some q ∧ q.1 = yX9_readTiles.cls := by
  intro as M h
  unfold P_X9_readTiles at h
  split at h
  · exact ⟨_, _, (RX9, TX9, 20), rfl, by rw [h.1]; rfl, rfl⟩
  · exact h.elim
def ct_X9_readTiles : List (Nat × CS) := [(118, (1, 0, P_X9_keep, C_X9_keep))]
def J_X9_readTiles (I16 : Nat → Mem → Int → Int → Mem → Nat → Prop) (I125 : Nat → Mem → Int → Int → Int → Mem → Nat → Prop) (p : Nat) (M0 : Mem) : IT := fun pc ls st M μ => match pc, ls, st, M, μ with
  | 16, [some (.inr p_), some (.inl u), some (.inl k), _, _], [], M, μ => p = p_ ∧ I16 p M0 u k M μ
  | 125, [some (.inr p_), some (.inl u), some (.inl c), some (.inl t), _], [], M, μ => p = p_ ∧ I125 p M0 u c t M μ
  | _, _, _, _, _ => False
def JA_X9_readTiles (I16 : Nat → Mem → Int → Int → Mem → Nat → Prop) (I125 : Nat → Mem → Int → Int → Int → Mem → Nat → Prop) (as : List AV) (M0 : Mem) : IT := match as with
  | [.inr p] => J_X9_readTiles I16 I125 p M0
  | _ => fun _ _ _ _ _ => False
theorem si_X9_readTiles_118 {l : Launch} {D : va_G} {cy : Nat → ClassId} {ad : Nat → Nat} (o : OK_X9_keep l D cy ad) : Site l D cy ad kdY lnY 12 yX9_readTiles.cls tbX9_readTiles rm_X9_readTiles 118 (1, 0, P_X9_keep, C_X9_keep) := Or.inl ⟨106, 0, yX9_keep, cX9_keep, 2, none, rm_X9_keep, rfl, rfl, o, ca_X9_keep, mkX9_106, ⟨rfl, rfl, by decide, by decide⟩, rv_X9_keep⟩
set_option maxRecDepth 100000 in
set_option maxHeartbeats 4000000 in
theorem met_X9_readTiles {l : Launch} {D : va_G} {cy : Nat → ClassId} {ad : Nat → Nat} (hA : jA ad 12) (o_X9_keep : OK_X9_keep l D cy ad) (I16 : Nat → Mem → Int → Int → Mem → Nat → Prop) (I125 : Nat → Mem → Int → Int → Int → Mem → Nat → Prop)
    (hent : ∀ (p : Nat) (M0 : Mem), p_X9_readTiles p M0 → okM M0 → kdY p = 9 ∧ (kdY p = 9 ∧ (inR ((M0 p 0) + 1) ∧ (inR ((M0 p 1) * ((M0 p 0) + 1)) ∧ (inR (((M0 p 1) * ((M0 p 0) + 1)) - 1) ∧ (∃ μ : Nat, p = p ∧ I16 p M0 (((M0 p 1) * ((M0 p 0) + 1)) - 1) 0 M0 μ))))))
    (hc16 : ∀ (p : Nat) (M0 : Mem), p_X9_readTiles p M0 → okM M0 → ∀ (u : Int) (k : Int) (M : Mem) (n : Nat), I16 p M0 u k M n → okM M → kdY p = 9 ∧ (((M p 9) ≤ k → (kdY p = 9 ∧ ((u ≤ (M p 9) → (p_X9_keep p M ∧ ∀ (x2 : Int) (M1 : Mem), inR x2 → okM M1 → c_X9_keep p M x2 M1 → (∃ μ : Nat, μ < n ∧ p = p ∧ I125 p M0 u 0 0 M1 μ))) ∧ (¬ u ≤ (M p 9) → (kdY p = 9 ∧ (inR ((-100) - (M p 9)) ∧ ((True) ∧ c_X9_readTiles p M0 ((-100) - (M p 9)) M))))))) ∧ (¬ (M p 9) ≤ k → ((u ≤ k → ((¬ (0 : Int) = (0 : Int) → (inR (k + 1) ∧ (∃ μ : Nat, μ < n ∧ p = p ∧ I16 p M0 u (k + 1) M μ))) ∧ (¬ (¬ (0 : Int) = (0 : Int)) → (inR ((-100) - k) ∧ ((True) ∧ c_X9_readTiles p M0 ((-100) - k) M))))) ∧ (¬ u ≤ k → (kdY p = 9 ∧ (inR ((M p 0) + 1) ∧ (0 < ((M p 0) + 1) ∧ (kdY p = 9 ∧ ((¬ (Int.tmod k ((M p 0) + 1)) = (M p 0) → (kdY p = 9 ∧ (kdY 3 = 20 ∧ (0 ≤ k ∧ k < 160) ∧ (((M 3 (k).toNat) < (48 : Int) → ((¬ (0 : Int) = (0 : Int) → (inR (k + 1) ∧ (∃ μ : Nat, μ < n ∧ p = p ∧ I16 p M0 u (k + 1) M μ))) ∧ (¬ (¬ (0 : Int) = (0 : Int)) → (inR ((-100) - k) ∧ ((True) ∧ c_X9_readTiles p M0 ((-100) - k) M))))) ∧ (¬ (M 3 (k).toNat) < (48 : Int) → (kdY p = 9 ∧ (kdY 3 = 20 ∧ (0 ≤ k ∧ k < 160) ∧ (((53 : Int) < (M 3 (k).toNat) → ((¬ (0 : Int) = (0 : Int) → (inR (k + 1) ∧ (∃ μ : Nat, μ < n ∧ p = p ∧ I16 p M0 u (k + 1) M μ))) ∧ (¬ (¬ (0 : Int) = (0 : Int)) → (inR ((-100) - k) ∧ ((True) ∧ c_X9_readTiles p M0 ((-100) - k) M))))) ∧ (¬ (53 : Int) < (M 3 (k).toNat) → ((¬ (1 : Int) = (0 : Int) → (inR (k + 1) ∧ (∃ μ : Nat, μ < n ∧ p = p ∧ I16 p M0 u (k + 1) M μ))) ∧ (¬ (¬ (1 : Int) = (0 : Int)) → (inR ((-100) - k) ∧ ((True) ∧ c_X9_readTiles p M0 ((-100) - k) M))))))))))))) ∧ (¬ (¬ (Int.tmod k ((M p 0) + 1)) = (M p 0)) → (kdY p = 9 ∧ (kdY 3 = 20 ∧ (0 ≤ k ∧ k < 160) ∧ ((¬ (M 3 (k).toNat) = (47 : Int) → ((¬ (0 : Int) = (0 : Int) → (inR (k + 1) ∧ (∃ μ : Nat, μ < n ∧ p = p ∧ I16 p M0 u (k + 1) M μ))) ∧ (¬ (¬ (0 : Int) = (0 : Int)) → (inR ((-100) - k) ∧ ((True) ∧ c_X9_readTiles p M0 ((-100) - k) M))))) ∧ (¬ (¬ (M 3 (k).toNat) = (47 : Int)) → ((¬ (1 : Int) = (0 : Int) → (inR (k + 1) ∧ (∃ μ : Nat, μ < n ∧ p = p ∧ I16 p M0 u (k + 1) M μ))) ∧ (¬ (¬ (1 : Int) = (0 : Int)) → (inR ((-100) - k) ∧ ((True) ∧ c_X9_readTiles p M0 ((-100) - k) M)))))))))))))))))))
    (hc125 : ∀ (p : Nat) (M0 : Mem), p_X9_readTiles p M0 → okM M0 → ∀ (u : Int) (c : Int) (t : Int) (M : Mem) (n : Nat), I125 p M0 u c t M n → okM M → kdY p = 9 ∧ (((M p 2) ≤ t → ((True) ∧ c_X9_readTiles p M0 c M)) ∧ (¬ (M p 2) ≤ t → (kdY p = 9 ∧ (kdY p = 9 ∧ ((0 ≤ t ∧ 0 < (M p 0)) ∧ (kdY p = 9 ∧ (inR ((M p 0) + 1) ∧ (inR ((t / (M p 0)) * ((M p 0) + 1)) ∧ (kdY p = 9 ∧ (0 < (M p 0) ∧ (inR (((t / (M p 0)) * ((M p 0) + 1)) + (Int.tmod t (M p 0))) ∧ (kdY 3 = 20 ∧ (0 ≤ (((t / (M p 0)) * ((M p 0) + 1)) + (Int.tmod t (M p 0))) ∧ (((t / (M p 0)) * ((M p 0) + 1)) + (Int.tmod t (M p 0))) < 160) ∧ (inR ((M 3 (((t / (M p 0)) * ((M p 0) + 1)) + (Int.tmod t (M p 0))).toNat) - 48) ∧ (kdY p = 9 ∧ (kdY 1 = 21 ∧ (0 ≤ t ∧ t < 144) ∧ ((((M 3 (((t / (M p 0)) * ((M p 0) + 1)) + (Int.tmod t (M p 0))).toNat) - 48) = (M 1 (t).toNat) → (inR (c + 0) ∧ (kdY p = 9 ∧ (kdY 1 = 21 ∧ (0 ≤ t ∧ t < 144) ∧ (inR (t + 1) ∧ (∃ μ : Nat, μ < n ∧ p = p ∧ I125 p M0 u (c + 0) (t + 1) (up M 1 (t).toNat ((M 3 (((t / (M p 0)) * ((M p 0) + 1)) + (Int.tmod t (M p 0))).toNat) - 48)) μ)))))) ∧ (¬ ((M 3 (((t / (M p 0)) * ((M p 0) + 1)) + (Int.tmod t (M p 0))).toNat) - 48) = (M 1 (t).toNat) → (inR (c + 1) ∧ (kdY p = 9 ∧ (kdY 1 = 21 ∧ (0 ≤ t ∧ t < 144) ∧ (inR (t + 1) ∧ (∃ μ : Nat, μ < n ∧ p = p ∧ I125 p M0 u (c + 1) (t + 1) (up M 1 (t).toNat ((M 3 (((t / (M p 0)) * ((M p 0) + 1)) + (Int.tmod t (M p 0))).toNat) - 48)) μ)))))))))))))))))))))))
    : OK_X9_readTiles l D cy ad := by
  refine met_of (tb := tbX9_readTiles) (ft := ftX9) (cst := cstY) (ct := ct_X9_readTiles) (cuts := [16, 125]) 121 (JA_X9_readTiles I16 I125) hA jWY (by decide) tbX9_readTiles_ok (by decide) ftX9_ok cstY_ok (ldc_of (tb := tbX9_readTiles) (cst := cstY) (by decide)) rfl (List.forall_mem_cons.mpr ⟨si_X9_readTiles_118 o_X9_keep, fun q h => absurd h List.not_mem_nil⟩) ?_ ?_ ?_
  · intro as M0 h
    unfold P_X9_readTiles at h
    split at h
    · exact Nat.le_of_ble_eq_true rfl
    · exact h.elim
  · intro as M0 h hM has
    unfold P_X9_readTiles at h
    split at h
    next p => exact hent p M0 h hM
    · exact h.elim
  · intro as M0 h hM has pc ls st M n hI hM1
    unfold P_X9_readTiles at h
    split at h
    next p =>
      unfold JA_X9_readTiles J_X9_readTiles at hI
      dsimp only at hI
      split at hI
      ·
        obtain ⟨rfl, hI⟩ := hI
        exact hc16 _ _ h hM _ _ _ _ hI hM1
      ·
        obtain ⟨rfl, hI⟩ := hI
        exact hc125 _ _ h hM _ _ _ _ _ hI hM1
      · exact hI.elim
    · exact h.elim
abbrev p_X9_route (p : Nat) (t : Int) (o : Int) (k : Int) (M : Mem) : Prop := kdY p = 9 ∧ p = 0 ∧ (∃ σ, absY M σ)
abbrev c_X9_route (p : Nat) (t : Int) (o : Int) (k : Int) (M : Mem) (x : Int) (M' : Mem) : Prop := ∀ σ, absY M σ → x = F_route σ t o k ∧ absY M' σ
def P_X9_route (as : List AV) (M : Mem) : Prop := match as with
  | [.inr p, .inl t, .inl o, .inl k] => p_X9_route p t o k M
  | _ => False
def C_X9_route (as : List AV) (M : Mem) (x : Int) (M' : Mem) : Prop := match as with
  | [.inr p, .inl t, .inl o, .inl k] => c_X9_route p t o k M x M'
  | _ => False
abbrev rm_X9_route : Room := { frames := 4, cells := 0, slots := 0, locals := 96 }
abbrev OK_X9_route (l : Launch) (D : va_G) (cy : Nat → ClassId) (ad : Nat → Nat) : Prop := MetA l D cy ad kdY lnY 12 yX9_route cX9_route 6 (some .int) rm_X9_route 1 P_X9_route C_X9_route
theorem ca_X9_route : CalV yX9_route cX9_route 6 (some .int) 3 := ⟨⟨wcX9_route, wnX9, by decide +kernel, by decide +kernel, by decide +kernel⟩, wiX9_route, wlX9_route⟩
theorem rv_X9_route : ∀ as M, P_X9_route as M → ∃ a As q, as = .inr a :: As ∧ vwCl[kdY a]? = some q ∧ q.1 = yX9_route.cls := by
  intro as M h
  unfold P_X9_route at h
  split at h
  · exact ⟨_, _, (RX9, TX9, 20), rfl, by rw [h.1]; rfl, rfl⟩
  · exact h.elim
def ct_X9_route : List (Nat × CS) := [(2, (2, 2, P_X9_noTile, C_X9_noTile)), (10, (2, 2, P_X9_noTile, C_X9_noTile)), (28, (2, 0, P_X9_layDistances, C_X9_layDistances)), (66, (2, 1, P_X9_onward, C_X9_onward))]
def J_X9_route (I51 : Nat → Int → Int → Int → Mem → Int → Int → Mem → Nat → Prop) (p : Nat) (t : Int) (o : Int) (k : Int) (M0 : Mem) : IT := fun pc ls st M μ => match pc, ls, st, M, μ with
  | 51, [some (.inr p_), some (.inl t_), some (.inl o_), some (.inl k_), some (.inl a), some (.inl c)], [], M, μ => p = p_ ∧ t = t_ ∧ o = o_ ∧ k = k_ ∧ I51 p t o k M0 a c M μ
  | _, _, _, _, _ => False
def JA_X9_route (I51 : Nat → Int → Int → Int → Mem → Int → Int → Mem → Nat → Prop) (as : List AV) (M0 : Mem) : IT := match as with
  | [.inr p, .inl t, .inl o, .inl k] => J_X9_route I51 p t o k M0
  | _ => fun _ _ _ _ _ => False
theorem si_X9_route_2 {l : Launch} {D : va_G} {cy : Nat → ClassId} {ad : Nat → Nat} (o : OK_X9_noTile l D cy ad) : Site l D cy ad kdY lnY 12 yX9_route.cls tbX9_route rm_X9_route 2 (2, 2, P_X9_noTile, C_X9_noTile) := Or.inl ⟨99, 1, yX9_noTile, cX9_noTile, 2, (some .boolean), rm_X9_noTile, rfl, rfl, o, ca_X9_noTile, mkX9_99, ⟨rfl, rfl, by decide, by decide⟩, rv_X9_noTile⟩
theorem si_X9_route_10 {l : Launch} {D : va_G} {cy : Nat → ClassId} {ad : Nat → Nat} (o : OK_X9_noTile l D cy ad) : Site l D cy ad kdY lnY 12 yX9_route.cls tbX9_route rm_X9_route 10 (2, 2, P_X9_noTile, C_X9_noTile) := Or.inl ⟨99, 1, yX9_noTile, cX9_noTile, 2, (some .boolean), rm_X9_noTile, rfl, rfl, o, ca_X9_noTile, mkX9_99, ⟨rfl, rfl, by decide, by decide⟩, rv_X9_noTile⟩
theorem si_X9_route_28 {l : Launch} {D : va_G} {cy : Nat → ClassId} {ad : Nat → Nat} (o : OK_X9_layDistances l D cy ad) : Site l D cy ad kdY lnY 12 yX9_route.cls tbX9_route rm_X9_route 28 (2, 0, P_X9_layDistances, C_X9_layDistances) := Or.inl ⟨143, 1, yX9_layDistances, cX9_layDistances, 7, none, rm_X9_layDistances, rfl, rfl, o, ca_X9_layDistances, mkX9_143, ⟨rfl, rfl, by decide, by decide⟩, rv_X9_layDistances⟩
theorem si_X9_route_66 {l : Launch} {D : va_G} {cy : Nat → ClassId} {ad : Nat → Nat} (o : OK_X9_onward l D cy ad) : Site l D cy ad kdY lnY 12 yX9_route.cls tbX9_route rm_X9_route 66 (2, 1, P_X9_onward, C_X9_onward) := Or.inl ⟨146, 1, yX9_onward, cX9_onward, 4, (some .int), rm_X9_onward, rfl, rfl, o, ca_X9_onward, mkX9_146, ⟨rfl, rfl, by decide, by decide⟩, rv_X9_onward⟩
set_option maxRecDepth 100000 in
set_option maxHeartbeats 4000000 in
theorem met_X9_route {l : Launch} {D : va_G} {cy : Nat → ClassId} {ad : Nat → Nat} (hA : jA ad 12) (o_X9_layDistances : OK_X9_layDistances l D cy ad) (o_X9_noTile : OK_X9_noTile l D cy ad) (o_X9_onward : OK_X9_onward l D cy ad) (I51 : Nat → Int → Int → Int → Mem → Int → Int → Mem → Nat → Prop)
    (hent : ∀ (p : Nat) (t : Int) (o : Int) (k : Int) (M0 : Mem), p_X9_route p t o k M0 → okM M0 → inR t → inR o → inR k → p_X9_noTile p t M0 ∧ ∀ (x2 : Int) (M1 : Mem), inR x2 → okM M1 → c_X9_noTile p t M0 x2 M1 → ((¬ x2 = (0 : Int) → ((True) ∧ c_X9_route p t o k M0 (-1) M1)) ∧ (¬ (¬ x2 = (0 : Int)) → (p_X9_noTile p o M1 ∧ ∀ (x4 : Int) (M3 : Mem), inR x4 → okM M3 → c_X9_noTile p o M1 x4 M3 → ((x4 = (0 : Int) → (((-1 : Int) ≤ k → (p_X9_layDistances p o M3 ∧ ∀ (x6 : Int) (M5 : Mem), inR x6 → okM M5 → c_X9_layDistances p o M3 x6 M5 → (kdY p = 9 ∧ (kdY 11 = 21 ∧ (0 ≤ t ∧ t < 144) ∧ (((M5 11 (t).toNat) < (1000000 : Int) → (∃ μ : Nat, p = p ∧ t = t ∧ o = o ∧ k = k ∧ I51 p t o k M0 t 0 M5 μ)) ∧ (¬ (M5 11 (t).toNat) < (1000000 : Int) → ((True) ∧ c_X9_route p t o k M0 (-4) M5))))))) ∧ (¬ (-1 : Int) ≤ k → ((True) ∧ c_X9_route p t o k M0 (-2) M3)))) ∧ (¬ x4 = (0 : Int) → ((True) ∧ c_X9_route p t o k M0 (-1) M3)))))))
    (hc51 : ∀ (p : Nat) (t : Int) (o : Int) (k : Int) (M0 : Mem), p_X9_route p t o k M0 → okM M0 → inR t → inR o → inR k → ∀ (a : Int) (c : Int) (M : Mem) (n : Nat), I51 p t o k M0 a c M n → okM M → (a = o → (((0 : Int) ≤ k → ((¬ c = k → ((True) ∧ c_X9_route p t o k M0 (-5) M)) ∧ (¬ (¬ c = k) → ((True) ∧ c_X9_route p t o k M0 a M)))) ∧ (¬ (0 : Int) ≤ k → ((True) ∧ c_X9_route p t o k M0 c M)))) ∧ (¬ a = o → ((c = k → (((0 : Int) ≤ k → ((¬ c = k → ((True) ∧ c_X9_route p t o k M0 (-5) M)) ∧ (¬ (¬ c = k) → ((True) ∧ c_X9_route p t o k M0 a M)))) ∧ (¬ (0 : Int) ≤ k → ((True) ∧ c_X9_route p t o k M0 c M)))) ∧ (¬ c = k → (p_X9_onward p a M ∧ ∀ (x2 : Int) (M1 : Mem), inR x2 → okM M1 → c_X9_onward p a M x2 M1 → (inR (c + 1) ∧ (∃ μ : Nat, μ < n ∧ p = p ∧ t = t ∧ o = o ∧ k = k ∧ I51 p t o k M0 x2 (c + 1) M1 μ)))))))
    : OK_X9_route l D cy ad := by
  refine met_of (tb := tbX9_route) (ft := ftX9) (cst := cstY) (ct := ct_X9_route) (cuts := [51]) 55 (JA_X9_route I51) hA jWY (by decide) tbX9_route_ok (by decide) ftX9_ok cstY_ok (ldc_of (tb := tbX9_route) (cst := cstY) (by decide)) rfl (List.forall_mem_cons.mpr ⟨si_X9_route_2 o_X9_noTile, List.forall_mem_cons.mpr ⟨si_X9_route_10 o_X9_noTile, List.forall_mem_cons.mpr ⟨si_X9_route_28 o_X9_layDistances, List.forall_mem_cons.mpr ⟨si_X9_route_66 o_X9_onward, fun q h => absurd h List.not_mem_nil⟩⟩⟩⟩) ?_ ?_ ?_
  · intro as M0 h
    unfold P_X9_route at h
    split at h
    · exact Nat.le_of_ble_eq_true rfl
    · exact h.elim
  · intro as M0 h hM has
    unfold P_X9_route at h
    split at h
    next p t o k => exact hent p t o k M0 h hM (has t (by simp)) (has o (by simp)) (has k (by simp))
    · exact h.elim
  · intro as M0 h hM has pc ls st M n hI hM1
    unfold P_X9_route at h
    split at h
    next p t o k =>
      unfold JA_X9_route J_X9_route at hI
      dsimp only at hI
      split at hI
      ·
        obtain ⟨rfl, rfl, rfl, rfl, hI⟩ := hI
        exact hc51 _ _ _ _ _ h hM (has _ (by simp)) (has _ (by simp)) (has _ (by simp)) _ _ _ _ hI hM1
      · exact hI.elim
    · exact h.elim
abbrev p_X9_farthest (p : Nat) (t : Int) (M : Mem) : Prop := kdY p = 9 ∧ p = 0 ∧ (∃ σ, absY M σ)
abbrev c_X9_farthest (p : Nat) (t : Int) (M : Mem) (x : Int) (M' : Mem) : Prop := ∀ σ, absY M σ → x = F_farthest σ t ∧ absY M' σ
def P_X9_farthest (as : List AV) (M : Mem) : Prop := match as with
  | [.inr p, .inl t] => p_X9_farthest p t M
  | _ => False
def C_X9_farthest (as : List AV) (M : Mem) (x : Int) (M' : Mem) : Prop := match as with
  | [.inr p, .inl t] => c_X9_farthest p t M x M'
  | _ => False
abbrev rm_X9_farthest : Room := { frames := 4, cells := 0, slots := 0, locals := 96 }
abbrev OK_X9_farthest (l : Launch) (D : va_G) (cy : Nat → ClassId) (ad : Nat → Nat) : Prop := MetA l D cy ad kdY lnY 12 yX9_farthest cX9_farthest 5 (some .int) rm_X9_farthest 1 P_X9_farthest C_X9_farthest
theorem ca_X9_farthest : CalV yX9_farthest cX9_farthest 5 (some .int) 1 := ⟨⟨wcX9_farthest, wnX9, by decide +kernel, by decide +kernel, by decide +kernel⟩, wiX9_farthest, wlX9_farthest⟩
theorem rv_X9_farthest : ∀ as M, P_X9_farthest as M → ∃ a As q, as = .inr a :: As ∧ vwCl[kdY a]? = some q ∧ q.1 = yX9_farthest.cls := by
  intro as M h
  unfold P_X9_farthest at h
  split at h
  · exact ⟨_, _, (RX9, TX9, 20), rfl, by rw [h.1]; rfl, rfl⟩
  · exact h.elim
def ct_X9_farthest : List (Nat × CS) := [(2, (2, 2, P_X9_noTile, C_X9_noTile)), (12, (2, 0, P_X9_layDistances, C_X9_layDistances))]
def J_X9_farthest (I19 : Nat → Int → Mem → Int → Int → Mem → Nat → Prop) (p : Nat) (t : Int) (M0 : Mem) : IT := fun pc ls st M μ => match pc, ls, st, M, μ with
  | 19, [some (.inr p_), some (.inl t_), some (.inl b), some (.inl j), _], [], M, μ => p = p_ ∧ t = t_ ∧ I19 p t M0 b j M μ
  | _, _, _, _, _ => False
def JA_X9_farthest (I19 : Nat → Int → Mem → Int → Int → Mem → Nat → Prop) (as : List AV) (M0 : Mem) : IT := match as with
  | [.inr p, .inl t] => J_X9_farthest I19 p t M0
  | _ => fun _ _ _ _ _ => False
theorem si_X9_farthest_2 {l : Launch} {D : va_G} {cy : Nat → ClassId} {ad : Nat → Nat} (o : OK_X9_noTile l D cy ad) : Site l D cy ad kdY lnY 12 yX9_farthest.cls tbX9_farthest rm_X9_farthest 2 (2, 2, P_X9_noTile, C_X9_noTile) := Or.inl ⟨99, 1, yX9_noTile, cX9_noTile, 2, (some .boolean), rm_X9_noTile, rfl, rfl, o, ca_X9_noTile, mkX9_99, ⟨rfl, rfl, by decide, by decide⟩, rv_X9_noTile⟩
theorem si_X9_farthest_12 {l : Launch} {D : va_G} {cy : Nat → ClassId} {ad : Nat → Nat} (o : OK_X9_layDistances l D cy ad) : Site l D cy ad kdY lnY 12 yX9_farthest.cls tbX9_farthest rm_X9_farthest 12 (2, 0, P_X9_layDistances, C_X9_layDistances) := Or.inl ⟨143, 1, yX9_layDistances, cX9_layDistances, 7, none, rm_X9_layDistances, rfl, rfl, o, ca_X9_layDistances, mkX9_143, ⟨rfl, rfl, by decide, by decide⟩, rv_X9_layDistances⟩
set_option maxRecDepth 100000 in
set_option maxHeartbeats 4000000 in
theorem met_X9_farthest {l : Launch} {D : va_G} {cy : Nat → ClassId} {ad : Nat → Nat} (hA : jA ad 12) (o_X9_layDistances : OK_X9_layDistances l D cy ad) (o_X9_noTile : OK_X9_noTile l D cy ad) (I19 : Nat → Int → Mem → Int → Int → Mem → Nat → Prop)
    (hent : ∀ (p : Nat) (t : Int) (M0 : Mem), p_X9_farthest p t M0 → okM M0 → inR t → p_X9_noTile p t M0 ∧ ∀ (x2 : Int) (M1 : Mem), inR x2 → okM M1 → c_X9_noTile p t M0 x2 M1 → ((x2 = (0 : Int) → (p_X9_layDistances p t M1 ∧ ∀ (x4 : Int) (M3 : Mem), inR x4 → okM M3 → c_X9_layDistances p t M1 x4 M3 → (∃ μ : Nat, p = p ∧ t = t ∧ I19 p t M0 t 0 M3 μ))) ∧ (¬ x2 = (0 : Int) → ((True) ∧ c_X9_farthest p t M0 (-1) M1))))
    (hc19 : ∀ (p : Nat) (t : Int) (M0 : Mem), p_X9_farthest p t M0 → okM M0 → inR t → ∀ (b : Int) (j : Int) (M : Mem) (n : Nat), I19 p t M0 b j M n → okM M → kdY p = 9 ∧ (((M p 2) ≤ j → ((True) ∧ c_X9_farthest p t M0 b M)) ∧ (¬ (M p 2) ≤ j → (kdY p = 9 ∧ (kdY 11 = 21 ∧ (0 ≤ j ∧ j < 144) ∧ (((1000000 : Int) ≤ (M 11 (j).toNat) → (((0 : Int) = (0 : Int) → (inR (j + 1) ∧ (∃ μ : Nat, μ < n ∧ p = p ∧ t = t ∧ I19 p t M0 b (j + 1) M μ))) ∧ (¬ (0 : Int) = (0 : Int) → (inR (j + 1) ∧ (∃ μ : Nat, μ < n ∧ p = p ∧ t = t ∧ I19 p t M0 j (j + 1) M μ))))) ∧ (¬ (1000000 : Int) ≤ (M 11 (j).toNat) → (kdY p = 9 ∧ (kdY 11 = 21 ∧ (0 ≤ j ∧ j < 144) ∧ (kdY p = 9 ∧ (kdY 11 = 21 ∧ (0 ≤ b ∧ b < 144) ∧ (((M 11 (b).toNat) < (M 11 (j).toNat) → (((1 : Int) = (0 : Int) → (inR (j + 1) ∧ (∃ μ : Nat, μ < n ∧ p = p ∧ t = t ∧ I19 p t M0 b (j + 1) M μ))) ∧ (¬ (1 : Int) = (0 : Int) → (inR (j + 1) ∧ (∃ μ : Nat, μ < n ∧ p = p ∧ t = t ∧ I19 p t M0 j (j + 1) M μ))))) ∧ (¬ (M 11 (b).toNat) < (M 11 (j).toNat) → (kdY p = 9 ∧ (kdY 11 = 21 ∧ (0 ≤ j ∧ j < 144) ∧ (kdY p = 9 ∧ (kdY 11 = 21 ∧ (0 ≤ b ∧ b < 144) ∧ ((¬ (M 11 (j).toNat) = (M 11 (b).toNat) → (((0 : Int) = (0 : Int) → (inR (j + 1) ∧ (∃ μ : Nat, μ < n ∧ p = p ∧ t = t ∧ I19 p t M0 b (j + 1) M μ))) ∧ (¬ (0 : Int) = (0 : Int) → (inR (j + 1) ∧ (∃ μ : Nat, μ < n ∧ p = p ∧ t = t ∧ I19 p t M0 j (j + 1) M μ))))) ∧ (¬ (¬ (M 11 (j).toNat) = (M 11 (b).toNat)) → ((b ≤ j → (((0 : Int) = (0 : Int) → (inR (j + 1) ∧ (∃ μ : Nat, μ < n ∧ p = p ∧ t = t ∧ I19 p t M0 b (j + 1) M μ))) ∧ (¬ (0 : Int) = (0 : Int) → (inR (j + 1) ∧ (∃ μ : Nat, μ < n ∧ p = p ∧ t = t ∧ I19 p t M0 j (j + 1) M μ))))) ∧ (¬ b ≤ j → (((1 : Int) = (0 : Int) → (inR (j + 1) ∧ (∃ μ : Nat, μ < n ∧ p = p ∧ t = t ∧ I19 p t M0 b (j + 1) M μ))) ∧ (¬ (1 : Int) = (0 : Int) → (inR (j + 1) ∧ (∃ μ : Nat, μ < n ∧ p = p ∧ t = t ∧ I19 p t M0 j (j + 1) M μ)))))))))))))))))))))))))
    : OK_X9_farthest l D cy ad := by
  refine met_of (tb := tbX9_farthest) (ft := ftX9) (cst := cstY) (ct := ct_X9_farthest) (cuts := [19]) 60 (JA_X9_farthest I19) hA jWY (by decide) tbX9_farthest_ok (by decide) ftX9_ok cstY_ok (ldc_of (tb := tbX9_farthest) (cst := cstY) (by decide)) rfl (List.forall_mem_cons.mpr ⟨si_X9_farthest_2 o_X9_noTile, List.forall_mem_cons.mpr ⟨si_X9_farthest_12 o_X9_layDistances, fun q h => absurd h List.not_mem_nil⟩⟩) ?_ ?_ ?_
  · intro as M0 h
    unfold P_X9_farthest at h
    split at h
    · exact Nat.le_of_ble_eq_true rfl
    · exact h.elim
  · intro as M0 h hM has
    unfold P_X9_farthest at h
    split at h
    next p t => exact hent p t M0 h hM (has t (by simp))
    · exact h.elim
  · intro as M0 h hM has pc ls st M n hI hM1
    unfold P_X9_farthest at h
    split at h
    next p t =>
      unfold JA_X9_farthest J_X9_farthest at hI
      dsimp only at hI
      split at hI
      ·
        obtain ⟨rfl, rfl, hI⟩ := hI
        exact hc19 _ _ _ h hM (has _ (by simp)) _ _ _ _ hI hM1
      · exact hI.elim
    · exact h.elim
abbrev p_X9_within (p : Nat) (t : Int) (v : Int) (M : Mem) : Prop := kdY p = 9 ∧ p = 0 ∧ (∃ σ, absY M σ)
abbrev c_X9_within (p : Nat) (t : Int) (v : Int) (M : Mem) (x : Int) (M' : Mem) : Prop := ∀ σ, absY M σ → x = F_within σ t v ∧ absY M' σ
def P_X9_within (as : List AV) (M : Mem) : Prop := match as with
  | [.inr p, .inl t, .inl v] => p_X9_within p t v M
  | _ => False
def C_X9_within (as : List AV) (M : Mem) (x : Int) (M' : Mem) : Prop := match as with
  | [.inr p, .inl t, .inl v] => c_X9_within p t v M x M'
  | _ => False
abbrev rm_X9_within : Room := { frames := 4, cells := 0, slots := 0, locals := 96 }
abbrev OK_X9_within (l : Launch) (D : va_G) (cy : Nat → ClassId) (ad : Nat → Nat) : Prop := MetA l D cy ad kdY lnY 12 yX9_within cX9_within 5 (some .int) rm_X9_within 1 P_X9_within C_X9_within
theorem ca_X9_within : CalV yX9_within cX9_within 5 (some .int) 2 := ⟨⟨wcX9_within, wnX9, by decide +kernel, by decide +kernel, by decide +kernel⟩, wiX9_within, wlX9_within⟩
theorem rv_X9_within : ∀ as M, P_X9_within as M → ∃ a As q, as = .inr a :: As ∧ vwCl[kdY a]? = some q ∧ q.1 = yX9_within.cls := by
  intro as M h
  unfold P_X9_within at h
  split at h
  · exact ⟨_, _, (RX9, TX9, 20), rfl, by rw [h.1]; rfl, rfl⟩
  · exact h.elim
def ct_X9_within : List (Nat × CS) := [(2, (2, 2, P_X9_noTile, C_X9_noTile)), (19, (2, 0, P_X9_layDistances, C_X9_layDistances))]
def J_X9_within (I27 : Nat → Int → Int → Mem → Int → Int → Mem → Nat → Prop) (p : Nat) (t : Int) (v : Int) (M0 : Mem) : IT := fun pc ls st M μ => match pc, ls, st, M, μ with
  | 27, [some (.inr p_), some (.inl t_), some (.inl v_), some (.inl c), some (.inl j)], [], M, μ => p = p_ ∧ t = t_ ∧ v = v_ ∧ I27 p t v M0 c j M μ
  | _, _, _, _, _ => False
def JA_X9_within (I27 : Nat → Int → Int → Mem → Int → Int → Mem → Nat → Prop) (as : List AV) (M0 : Mem) : IT := match as with
  | [.inr p, .inl t, .inl v] => J_X9_within I27 p t v M0
  | _ => fun _ _ _ _ _ => False
theorem si_X9_within_2 {l : Launch} {D : va_G} {cy : Nat → ClassId} {ad : Nat → Nat} (o : OK_X9_noTile l D cy ad) : Site l D cy ad kdY lnY 12 yX9_within.cls tbX9_within rm_X9_within 2 (2, 2, P_X9_noTile, C_X9_noTile) := Or.inl ⟨99, 1, yX9_noTile, cX9_noTile, 2, (some .boolean), rm_X9_noTile, rfl, rfl, o, ca_X9_noTile, mkX9_99, ⟨rfl, rfl, by decide, by decide⟩, rv_X9_noTile⟩
theorem si_X9_within_19 {l : Launch} {D : va_G} {cy : Nat → ClassId} {ad : Nat → Nat} (o : OK_X9_layDistances l D cy ad) : Site l D cy ad kdY lnY 12 yX9_within.cls tbX9_within rm_X9_within 19 (2, 0, P_X9_layDistances, C_X9_layDistances) := Or.inl ⟨143, 1, yX9_layDistances, cX9_layDistances, 7, none, rm_X9_layDistances, rfl, rfl, o, ca_X9_layDistances, mkX9_143, ⟨rfl, rfl, by decide, by decide⟩, rv_X9_layDistances⟩
set_option maxRecDepth 100000 in
set_option maxHeartbeats 4000000 in
theorem met_X9_within {l : Launch} {D : va_G} {cy : Nat → ClassId} {ad : Nat → Nat} (hA : jA ad 12) (o_X9_layDistances : OK_X9_layDistances l D cy ad) (o_X9_noTile : OK_X9_noTile l D cy ad) (I27 : Nat → Int → Int → Mem → Int → Int → Mem → Nat → Prop)
    (hent : ∀ (p : Nat) (t : Int) (v : Int) (M0 : Mem), p_X9_within p t v M0 → okM M0 → inR t → inR v → p_X9_noTile p t M0 ∧ ∀ (x2 : Int) (M1 : Mem), inR x2 → okM M1 → c_X9_noTile p t M0 x2 M1 → ((x2 = (0 : Int) → (((0 : Int) ≤ v → (p_X9_layDistances p t M1 ∧ ∀ (x4 : Int) (M3 : Mem), inR x4 → okM M3 → c_X9_layDistances p t M1 x4 M3 → (∃ μ : Nat, p = p ∧ t = t ∧ v = v ∧ I27 p t v M0 0 0 M3 μ))) ∧ (¬ (0 : Int) ≤ v → ((True) ∧ c_X9_within p t v M0 (-2) M1)))) ∧ (¬ x2 = (0 : Int) → ((True) ∧ c_X9_within p t v M0 (-1) M1))))
    (hc27 : ∀ (p : Nat) (t : Int) (v : Int) (M0 : Mem), p_X9_within p t v M0 → okM M0 → inR t → inR v → ∀ (c : Int) (j : Int) (M : Mem) (n : Nat), I27 p t v M0 c j M n → okM M → kdY p = 9 ∧ (((M p 2) ≤ j → ((True) ∧ c_X9_within p t v M0 c M)) ∧ (¬ (M p 2) ≤ j → (kdY p = 9 ∧ (kdY 11 = 21 ∧ (0 ≤ j ∧ j < 144) ∧ (((1000000 : Int) ≤ (M 11 (j).toNat) → (inR (c + 0) ∧ (inR (j + 1) ∧ (∃ μ : Nat, μ < n ∧ p = p ∧ t = t ∧ v = v ∧ I27 p t v M0 (c + 0) (j + 1) M μ)))) ∧ (¬ (1000000 : Int) ≤ (M 11 (j).toNat) → (kdY p = 9 ∧ (kdY 11 = 21 ∧ (0 ≤ j ∧ j < 144) ∧ ((v < (M 11 (j).toNat) → (inR (c + 0) ∧ (inR (j + 1) ∧ (∃ μ : Nat, μ < n ∧ p = p ∧ t = t ∧ v = v ∧ I27 p t v M0 (c + 0) (j + 1) M μ)))) ∧ (¬ v < (M 11 (j).toNat) → (inR (c + 1) ∧ (inR (j + 1) ∧ (∃ μ : Nat, μ < n ∧ p = p ∧ t = t ∧ v = v ∧ I27 p t v M0 (c + 1) (j + 1) M μ))))))))))))))
    : OK_X9_within l D cy ad := by
  refine met_of (tb := tbX9_within) (ft := ftX9) (cst := cstY) (ct := ct_X9_within) (cuts := [27]) 45 (JA_X9_within I27) hA jWY (by decide) tbX9_within_ok (by decide) ftX9_ok cstY_ok (ldc_of (tb := tbX9_within) (cst := cstY) (by decide)) rfl (List.forall_mem_cons.mpr ⟨si_X9_within_2 o_X9_noTile, List.forall_mem_cons.mpr ⟨si_X9_within_19 o_X9_layDistances, fun q h => absurd h List.not_mem_nil⟩⟩) ?_ ?_ ?_
  · intro as M0 h
    unfold P_X9_within at h
    split at h
    · exact Nat.le_of_ble_eq_true rfl
    · exact h.elim
  · intro as M0 h hM has
    unfold P_X9_within at h
    split at h
    next p t v => exact hent p t v M0 h hM (has t (by simp)) (has v (by simp))
    · exact h.elim
  · intro as M0 h hM has pc ls st M n hI hM1
    unfold P_X9_within at h
    split at h
    next p t v =>
      unfold JA_X9_within J_X9_within at hI
      dsimp only at hI
      split at hI
      ·
        obtain ⟨rfl, rfl, rfl, hI⟩ := hI
        exact hc27 _ _ _ _ h hM (has _ (by simp)) (has _ (by simp)) _ _ _ _ hI hM1
      · exact hI.elim
    · exact h.elim
abbrev p_X9_nearest (p : Nat) (t : Int) (k : Int) (M : Mem) : Prop := kdY p = 9 ∧ p = 0 ∧ (∃ σ, absY M σ)
abbrev c_X9_nearest (p : Nat) (t : Int) (k : Int) (M : Mem) (x : Int) (M' : Mem) : Prop := ∀ σ, absY M σ → x = F_nearest σ t k ∧ absY M' σ
def P_X9_nearest (as : List AV) (M : Mem) : Prop := match as with
  | [.inr p, .inl t, .inl k] => p_X9_nearest p t k M
  | _ => False
def C_X9_nearest (as : List AV) (M : Mem) (x : Int) (M' : Mem) : Prop := match as with
  | [.inr p, .inl t, .inl k] => c_X9_nearest p t k M x M'
  | _ => False
abbrev rm_X9_nearest : Room := { frames := 4, cells := 0, slots := 0, locals := 96 }
abbrev OK_X9_nearest (l : Launch) (D : va_G) (cy : Nat → ClassId) (ad : Nat → Nat) : Prop := MetA l D cy ad kdY lnY 12 yX9_nearest cX9_nearest 6 (some .int) rm_X9_nearest 1 P_X9_nearest C_X9_nearest
theorem ca_X9_nearest : CalV yX9_nearest cX9_nearest 6 (some .int) 2 := ⟨⟨wcX9_nearest, wnX9, by decide +kernel, by decide +kernel, by decide +kernel⟩, wiX9_nearest, wlX9_nearest⟩
theorem rv_X9_nearest : ∀ as M, P_X9_nearest as M → ∃ a As q, as = .inr a :: As ∧ vwCl[kdY a]? = some q ∧ q.1 = yX9_nearest.cls := by
  intro as M h
  unfold P_X9_nearest at h
  split at h
  · exact ⟨_, _, (RX9, TX9, 20), rfl, by rw [h.1]; rfl, rfl⟩
  · exact h.elim
def ct_X9_nearest : List (Nat × CS) := [(2, (2, 2, P_X9_noTile, C_X9_noTile)), (11, (1, 2, P_X9_isKind, C_X9_isKind)), (22, (2, 0, P_X9_layDistances, C_X9_layDistances))]
def J_X9_nearest (I31 : Nat → Int → Int → Mem → Int → Int → Mem → Nat → Prop) (p : Nat) (t : Int) (k : Int) (M0 : Mem) : IT := fun pc ls st M μ => match pc, ls, st, M, μ with
  | 31, [some (.inr p_), some (.inl t_), some (.inl k_), some (.inl b), some (.inl j), _], [], M, μ => p = p_ ∧ t = t_ ∧ k = k_ ∧ I31 p t k M0 b j M μ
  | _, _, _, _, _ => False
def JA_X9_nearest (I31 : Nat → Int → Int → Mem → Int → Int → Mem → Nat → Prop) (as : List AV) (M0 : Mem) : IT := match as with
  | [.inr p, .inl t, .inl k] => J_X9_nearest I31 p t k M0
  | _ => fun _ _ _ _ _ => False
theorem si_X9_nearest_2 {l : Launch} {D : va_G} {cy : Nat → ClassId} {ad : Nat → Nat} (o : OK_X9_noTile l D cy ad) : Site l D cy ad kdY lnY 12 yX9_nearest.cls tbX9_nearest rm_X9_nearest 2 (2, 2, P_X9_noTile, C_X9_noTile) := Or.inl ⟨99, 1, yX9_noTile, cX9_noTile, 2, (some .boolean), rm_X9_noTile, rfl, rfl, o, ca_X9_noTile, mkX9_99, ⟨rfl, rfl, by decide, by decide⟩, rv_X9_noTile⟩
theorem si_X9_nearest_11 {l : Launch} {D : va_G} {cy : Nat → ClassId} {ad : Nat → Nat} (o : OK_X9_isKind l D cy ad) : Site l D cy ad kdY lnY 12 yX9_nearest.cls tbX9_nearest rm_X9_nearest 11 (1, 2, P_X9_isKind, C_X9_isKind) := Or.inr (Or.inl ⟨136, 1, yX9_isKind, cX9_isKind, 1, (some .boolean), rm_X9_isKind, rfl, rfl, o, ca_X9_isKind, mkX9_136, rfl, ⟨rfl, rfl, by decide, by decide⟩⟩)
theorem si_X9_nearest_22 {l : Launch} {D : va_G} {cy : Nat → ClassId} {ad : Nat → Nat} (o : OK_X9_layDistances l D cy ad) : Site l D cy ad kdY lnY 12 yX9_nearest.cls tbX9_nearest rm_X9_nearest 22 (2, 0, P_X9_layDistances, C_X9_layDistances) := Or.inl ⟨143, 1, yX9_layDistances, cX9_layDistances, 7, none, rm_X9_layDistances, rfl, rfl, o, ca_X9_layDistances, mkX9_143, ⟨rfl, rfl, by decide, by decide⟩, rv_X9_layDistances⟩
set_option maxRecDepth 100000 in
set_option maxHeartbeats 4000000 in
theorem met_X9_nearest {l : Launch} {D : va_G} {cy : Nat → ClassId} {ad : Nat → Nat} (hA : jA ad 12) (o_X9_isKind : OK_X9_isKind l D cy ad) (o_X9_layDistances : OK_X9_layDistances l D cy ad) (o_X9_noTile : OK_X9_noTile l D cy ad) (I31 : Nat → Int → Int → Mem → Int → Int → Mem → Nat → Prop)
    (hent : ∀ (p : Nat) (t : Int) (k : Int) (M0 : Mem), p_X9_nearest p t k M0 → okM M0 → inR t → inR k → p_X9_noTile p t M0 ∧ ∀ (x2 : Int) (M1 : Mem), inR x2 → okM M1 → c_X9_noTile p t M0 x2 M1 → ((x2 = (0 : Int) → (p_X9_isKind k M1 ∧ ∀ (x4 : Int) (M3 : Mem), inR x4 → okM M3 → c_X9_isKind k M1 x4 M3 → ((¬ x4 = (0 : Int) → (p_X9_layDistances p t M3 ∧ ∀ (x6 : Int) (M5 : Mem), inR x6 → okM M5 → c_X9_layDistances p t M3 x6 M5 → (∃ μ : Nat, p = p ∧ t = t ∧ k = k ∧ I31 p t k M0 (-5) 0 M5 μ))) ∧ (¬ (¬ x4 = (0 : Int)) → ((True) ∧ c_X9_nearest p t k M0 (-2) M3))))) ∧ (¬ x2 = (0 : Int) → ((True) ∧ c_X9_nearest p t k M0 (-1) M1))))
    (hc31 : ∀ (p : Nat) (t : Int) (k : Int) (M0 : Mem), p_X9_nearest p t k M0 → okM M0 → inR t → inR k → ∀ (b : Int) (j : Int) (M : Mem) (n : Nat), I31 p t k M0 b j M n → okM M → kdY p = 9 ∧ (((M p 2) ≤ j → ((True) ∧ c_X9_nearest p t k M0 b M)) ∧ (¬ (M p 2) ≤ j → (kdY p = 9 ∧ (kdY 1 = 21 ∧ (0 ≤ j ∧ j < 144) ∧ ((¬ (M 1 (j).toNat) = k → (((0 : Int) = (0 : Int) → (inR (j + 1) ∧ (∃ μ : Nat, μ < n ∧ p = p ∧ t = t ∧ k = k ∧ I31 p t k M0 b (j + 1) M μ))) ∧ (¬ (0 : Int) = (0 : Int) → ((b < (0 : Int) → (inR (j + 1) ∧ (∃ μ : Nat, μ < n ∧ p = p ∧ t = t ∧ k = k ∧ I31 p t k M0 j (j + 1) M μ))) ∧ (¬ b < (0 : Int) → (kdY p = 9 ∧ (kdY 11 = 21 ∧ (0 ≤ j ∧ j < 144) ∧ (kdY p = 9 ∧ (kdY 11 = 21 ∧ (0 ≤ b ∧ b < 144) ∧ (((M 11 (b).toNat) ≤ (M 11 (j).toNat) → (inR (j + 1) ∧ (∃ μ : Nat, μ < n ∧ p = p ∧ t = t ∧ k = k ∧ I31 p t k M0 b (j + 1) M μ))) ∧ (¬ (M 11 (b).toNat) ≤ (M 11 (j).toNat) → (inR (j + 1) ∧ (∃ μ : Nat, μ < n ∧ p = p ∧ t = t ∧ k = k ∧ I31 p t k M0 j (j + 1) M μ))))))))))))) ∧ (¬ (¬ (M 1 (j).toNat) = k) → (kdY p = 9 ∧ (kdY 11 = 21 ∧ (0 ≤ j ∧ j < 144) ∧ (((1000000 : Int) ≤ (M 11 (j).toNat) → (((0 : Int) = (0 : Int) → (inR (j + 1) ∧ (∃ μ : Nat, μ < n ∧ p = p ∧ t = t ∧ k = k ∧ I31 p t k M0 b (j + 1) M μ))) ∧ (¬ (0 : Int) = (0 : Int) → ((b < (0 : Int) → (inR (j + 1) ∧ (∃ μ : Nat, μ < n ∧ p = p ∧ t = t ∧ k = k ∧ I31 p t k M0 j (j + 1) M μ))) ∧ (¬ b < (0 : Int) → (kdY p = 9 ∧ (kdY 11 = 21 ∧ (0 ≤ j ∧ j < 144) ∧ (kdY p = 9 ∧ (kdY 11 = 21 ∧ (0 ≤ b ∧ b < 144) ∧ (((M 11 (b).toNat) ≤ (M 11 (j).toNat) → (inR (j + 1) ∧ (∃ μ : Nat, μ < n ∧ p = p ∧ t = t ∧ k = k ∧ I31 p t k M0 b (j + 1) M μ))) ∧ (¬ (M 11 (b).toNat) ≤ (M 11 (j).toNat) → (inR (j + 1) ∧ (∃ μ : Nat, μ < n ∧ p = p ∧ t = t ∧ k = k ∧ I31 p t k M0 j (j + 1) M μ))))))))))))) ∧ (¬ (1000000 : Int) ≤ (M 11 (j).toNat) → (((1 : Int) = (0 : Int) → (inR (j + 1) ∧ (∃ μ : Nat, μ < n ∧ p = p ∧ t = t ∧ k = k ∧ I31 p t k M0 b (j + 1) M μ))) ∧ (¬ (1 : Int) = (0 : Int) → ((b < (0 : Int) → (inR (j + 1) ∧ (∃ μ : Nat, μ < n ∧ p = p ∧ t = t ∧ k = k ∧ I31 p t k M0 j (j + 1) M μ))) ∧ (¬ b < (0 : Int) → (kdY p = 9 ∧ (kdY 11 = 21 ∧ (0 ≤ j ∧ j < 144) ∧ (kdY p = 9 ∧ (kdY 11 = 21 ∧ (0 ≤ b ∧ b < 144) ∧ (((M 11 (b).toNat) ≤ (M 11 (j).toNat) → (inR (j + 1) ∧ (∃ μ : Nat, μ < n ∧ p = p ∧ t = t ∧ k = k ∧ I31 p t k M0 b (j + 1) M μ))) ∧ (¬ (M 11 (b).toNat) ≤ (M 11 (j).toNat) → (inR (j + 1) ∧ (∃ μ : Nat, μ < n ∧ p = p ∧ t = t ∧ k = k ∧ I31 p t k M0 j (j + 1) M μ)))))))))))))))))))))))
    : OK_X9_nearest l D cy ad := by
  refine met_of (tb := tbX9_nearest) (ft := ftX9) (cst := cstY) (ct := ct_X9_nearest) (cuts := [31]) 61 (JA_X9_nearest I31) hA jWY (by decide) tbX9_nearest_ok (by decide) ftX9_ok cstY_ok (ldc_of (tb := tbX9_nearest) (cst := cstY) (by decide)) rfl (List.forall_mem_cons.mpr ⟨si_X9_nearest_2 o_X9_noTile, List.forall_mem_cons.mpr ⟨si_X9_nearest_11 o_X9_isKind, List.forall_mem_cons.mpr ⟨si_X9_nearest_22 o_X9_layDistances, fun q h => absurd h List.not_mem_nil⟩⟩⟩) ?_ ?_ ?_
  · intro as M0 h
    unfold P_X9_nearest at h
    split at h
    · exact Nat.le_of_ble_eq_true rfl
    · exact h.elim
  · intro as M0 h hM has
    unfold P_X9_nearest at h
    split at h
    next p t k => exact hent p t k M0 h hM (has t (by simp)) (has k (by simp))
    · exact h.elim
  · intro as M0 h hM has pc ls st M n hI hM1
    unfold P_X9_nearest at h
    split at h
    next p t k =>
      unfold JA_X9_nearest J_X9_nearest at hI
      dsimp only at hI
      split at hI
      ·
        obtain ⟨rfl, rfl, rfl, hI⟩ := hI
        exact hc31 _ _ _ _ h hM (has _ (by simp)) (has _ (by simp)) _ _ _ _ hI hM1
      · exact hI.elim
    · exact h.elim
abbrev p_X9_setSeam (p : Nat) (e : Int) (k : Int) (s : Int) (M : Mem) : Prop := kdY p = 9 ∧ p = 0 ∧ (∃ σ, absY M σ)
abbrev c_X9_setSeam (p : Nat) (e : Int) (k : Int) (s : Int) (M : Mem) (x : Int) (M' : Mem) : Prop := ∀ σ, absY M σ → x = F_setSeam σ e k s ∧ absY M' (G_setSeam σ e k s)
def P_X9_setSeam (as : List AV) (M : Mem) : Prop := match as with
  | [.inr p, .inl e, .inl k, .inl s] => p_X9_setSeam p e k s M
  | _ => False
def C_X9_setSeam (as : List AV) (M : Mem) (x : Int) (M' : Mem) : Prop := match as with
  | [.inr p, .inl e, .inl k, .inl s] => c_X9_setSeam p e k s M x M'
  | _ => False
abbrev rm_X9_setSeam : Room := { frames := 1, cells := 0, slots := 0, locals := 22 }
abbrev OK_X9_setSeam (l : Launch) (D : va_G) (cy : Nat → ClassId) (ad : Nat → Nat) : Prop := MetA l D cy ad kdY lnY 12 yX9_setSeam cX9_setSeam 5 (some .int) rm_X9_setSeam 1 P_X9_setSeam C_X9_setSeam
theorem ca_X9_setSeam : CalV yX9_setSeam cX9_setSeam 5 (some .int) 3 := ⟨⟨wcX9_setSeam, wnX9, by decide +kernel, by decide +kernel, by decide +kernel⟩, wiX9_setSeam, wlX9_setSeam⟩
theorem rv_X9_setSeam : ∀ as M, P_X9_setSeam as M → ∃ a As q, as = .inr a :: As ∧ vwCl[kdY a]? = some q ∧ q.1 = yX9_setSeam.cls := by
  intro as M h
  unfold P_X9_setSeam at h
  split at h
  · exact ⟨_, _, (RX9, TX9, 20), rfl, by rw [h.1]; rfl, rfl⟩
  · exact h.elim
def ct_X9_setSeam : List (Nat × CS) := [(3, (3, 2, P_X9_in, C_X9_in)), (28, (3, 2, P_X9_in, C_X9_in))]
def J_X9_setSeam (I83 : Nat → Int → Int → Int → Mem → Int → Mem → Nat → Prop) (p : Nat) (e : Int) (k : Int) (s : Int) (M0 : Mem) : IT := fun pc ls st M μ => match pc, ls, st, M, μ with
  | 83, [some (.inr p_), some (.inl e_), some (.inl k_), some (.inl s_), some (.inl i)], [], M, μ => p = p_ ∧ e = e_ ∧ k = k_ ∧ s = s_ ∧ I83 p e k s M0 i M μ
  | _, _, _, _, _ => False
def JA_X9_setSeam (I83 : Nat → Int → Int → Int → Mem → Int → Mem → Nat → Prop) (as : List AV) (M0 : Mem) : IT := match as with
  | [.inr p, .inl e, .inl k, .inl s] => J_X9_setSeam I83 p e k s M0
  | _ => fun _ _ _ _ _ => False
theorem si_X9_setSeam_3 {l : Launch} {D : va_G} {cy : Nat → ClassId} {ad : Nat → Nat} (o : OK_X9_in l D cy ad) : Site l D cy ad kdY lnY 12 yX9_setSeam.cls tbX9_setSeam rm_X9_setSeam 3 (3, 2, P_X9_in, C_X9_in) := Or.inr (Or.inl ⟨49, 3, yX9_in, cX9_in, 3, (some .boolean), rm_X9_in, rfl, rfl, o, ca_X9_in, mkX9_49, rfl, ⟨rfl, rfl, by decide, by decide⟩⟩)
theorem si_X9_setSeam_28 {l : Launch} {D : va_G} {cy : Nat → ClassId} {ad : Nat → Nat} (o : OK_X9_in l D cy ad) : Site l D cy ad kdY lnY 12 yX9_setSeam.cls tbX9_setSeam rm_X9_setSeam 28 (3, 2, P_X9_in, C_X9_in) := Or.inr (Or.inl ⟨49, 3, yX9_in, cX9_in, 3, (some .boolean), rm_X9_in, rfl, rfl, o, ca_X9_in, mkX9_49, rfl, ⟨rfl, rfl, by decide, by decide⟩⟩)
set_option maxRecDepth 100000 in
set_option maxHeartbeats 4000000 in
theorem met_X9_setSeam {l : Launch} {D : va_G} {cy : Nat → ClassId} {ad : Nat → Nat} (hA : jA ad 12) (o_X9_in : OK_X9_in l D cy ad) (I83 : Nat → Int → Int → Int → Mem → Int → Mem → Nat → Prop)
    (hent : ∀ (p : Nat) (e : Int) (k : Int) (s : Int) (M0 : Mem), p_X9_setSeam p e k s M0 → okM M0 → inR e → inR k → inR s → p_X9_in k 0 2 M0 ∧ ∀ (x2 : Int) (M1 : Mem), inR x2 → okM M1 → c_X9_in k 0 2 M0 x2 M1 → ((x2 = (0 : Int) → ((True) ∧ c_X9_setSeam p e k s M0 (-2) M1)) ∧ (¬ x2 = (0 : Int) → ((e = (0 : Int) → (kdY p = 9 ∧ (inR ((M1 p 1) - 1) ∧ (p_X9_in s 0 ((M1 p 1) - 1) M1 ∧ ∀ (x4 : Int) (M3 : Mem), inR x4 → okM M3 → c_X9_in s 0 ((M1 p 1) - 1) M1 x4 M3 → ((¬ x4 = (0 : Int) → ((e = (0 : Int) → (kdY p = 9 ∧ ((¬ (M3 p 5) = k → (∃ μ : Nat, p = p ∧ e = e ∧ k = k ∧ s = s ∧ I83 p e k s M0 1 M3 μ)) ∧ (¬ (¬ (M3 p 5) = k) → (kdY p = 9 ∧ (((M3 p 6) = s → (∃ μ : Nat, p = p ∧ e = e ∧ k = k ∧ s = s ∧ I83 p e k s M0 0 M3 μ)) ∧ (¬ (M3 p 6) = s → (∃ μ : Nat, p = p ∧ e = e ∧ k = k ∧ s = s ∧ I83 p e k s M0 1 M3 μ)))))))) ∧ (¬ e = (0 : Int) → (kdY p = 9 ∧ ((¬ (M3 p 7) = k → (∃ μ : Nat, p = p ∧ e = e ∧ k = k ∧ s = s ∧ I83 p e k s M0 1 M3 μ)) ∧ (¬ (¬ (M3 p 7) = k) → (kdY p = 9 ∧ (((M3 p 8) = s → (∃ μ : Nat, p = p ∧ e = e ∧ k = k ∧ s = s ∧ I83 p e k s M0 0 M3 μ)) ∧ (¬ (M3 p 8) = s → (∃ μ : Nat, p = p ∧ e = e ∧ k = k ∧ s = s ∧ I83 p e k s M0 1 M3 μ)))))))))) ∧ (¬ (¬ x4 = (0 : Int)) → ((True) ∧ c_X9_setSeam p e k s M0 (-2) M3))))))) ∧ (¬ e = (0 : Int) → (kdY p = 9 ∧ (inR ((M1 p 0) - 1) ∧ (p_X9_in s 0 ((M1 p 0) - 1) M1 ∧ ∀ (x6 : Int) (M5 : Mem), inR x6 → okM M5 → c_X9_in s 0 ((M1 p 0) - 1) M1 x6 M5 → ((¬ x6 = (0 : Int) → ((e = (0 : Int) → (kdY p = 9 ∧ ((¬ (M5 p 5) = k → (∃ μ : Nat, p = p ∧ e = e ∧ k = k ∧ s = s ∧ I83 p e k s M0 1 M5 μ)) ∧ (¬ (¬ (M5 p 5) = k) → (kdY p = 9 ∧ (((M5 p 6) = s → (∃ μ : Nat, p = p ∧ e = e ∧ k = k ∧ s = s ∧ I83 p e k s M0 0 M5 μ)) ∧ (¬ (M5 p 6) = s → (∃ μ : Nat, p = p ∧ e = e ∧ k = k ∧ s = s ∧ I83 p e k s M0 1 M5 μ)))))))) ∧ (¬ e = (0 : Int) → (kdY p = 9 ∧ ((¬ (M5 p 7) = k → (∃ μ : Nat, p = p ∧ e = e ∧ k = k ∧ s = s ∧ I83 p e k s M0 1 M5 μ)) ∧ (¬ (¬ (M5 p 7) = k) → (kdY p = 9 ∧ (((M5 p 8) = s → (∃ μ : Nat, p = p ∧ e = e ∧ k = k ∧ s = s ∧ I83 p e k s M0 0 M5 μ)) ∧ (¬ (M5 p 8) = s → (∃ μ : Nat, p = p ∧ e = e ∧ k = k ∧ s = s ∧ I83 p e k s M0 1 M5 μ)))))))))) ∧ (¬ (¬ x6 = (0 : Int)) → ((True) ∧ c_X9_setSeam p e k s M0 (-2) M5)))))))))))
    (hc83 : ∀ (p : Nat) (e : Int) (k : Int) (s : Int) (M0 : Mem), p_X9_setSeam p e k s M0 → okM M0 → inR e → inR k → inR s → ∀ (i : Int) (M : Mem) (n : Nat), I83 p e k s M0 i M n → okM M → (e = (0 : Int) → (kdY p = 9 ∧ (kdY p = 9 ∧ ((e = (0 : Int) → (kdY p = 9 ∧ (kdY p = 9 ∧ ((e = (0 : Int) → (kdY p = 9 ∧ ((e = (0 : Int) → (kdY p = 9 ∧ ((True) ∧ c_X9_setSeam p e k s M0 i (up (up (up (up M p 7 (M p 7)) p 8 ((up M p 7 (M p 7)) p 8)) p 5 k) p 6 s)))) ∧ (¬ e = (0 : Int) → (kdY p = 9 ∧ (kdY p = 9 ∧ ((True) ∧ c_X9_setSeam p e k s M0 i (up (up (up (up M p 7 (M p 7)) p 8 ((up M p 7 (M p 7)) p 8)) p 5 k) p 6 ((up (up (up M p 7 (M p 7)) p 8 ((up M p 7 (M p 7)) p 8)) p 5 k) p 6))))))))) ∧ (¬ e = (0 : Int) → (kdY p = 9 ∧ (kdY p = 9 ∧ ((e = (0 : Int) → (kdY p = 9 ∧ ((True) ∧ c_X9_setSeam p e k s M0 i (up (up (up (up M p 7 (M p 7)) p 8 ((up M p 7 (M p 7)) p 8)) p 5 ((up (up M p 7 (M p 7)) p 8 ((up M p 7 (M p 7)) p 8)) p 5)) p 6 s)))) ∧ (¬ e = (0 : Int) → (kdY p = 9 ∧ (kdY p = 9 ∧ ((True) ∧ c_X9_setSeam p e k s M0 i (up (up (up (up M p 7 (M p 7)) p 8 ((up M p 7 (M p 7)) p 8)) p 5 ((up (up M p 7 (M p 7)) p 8 ((up M p 7 (M p 7)) p 8)) p 5)) p 6 ((up (up (up M p 7 (M p 7)) p 8 ((up M p 7 (M p 7)) p 8)) p 5 ((up (up M p 7 (M p 7)) p 8 ((up M p 7 (M p 7)) p 8)) p 5)) p 6)))))))))))))) ∧ (¬ e = (0 : Int) → (kdY p = 9 ∧ ((e = (0 : Int) → (kdY p = 9 ∧ ((e = (0 : Int) → (kdY p = 9 ∧ ((True) ∧ c_X9_setSeam p e k s M0 i (up (up (up (up M p 7 (M p 7)) p 8 s) p 5 k) p 6 s)))) ∧ (¬ e = (0 : Int) → (kdY p = 9 ∧ (kdY p = 9 ∧ ((True) ∧ c_X9_setSeam p e k s M0 i (up (up (up (up M p 7 (M p 7)) p 8 s) p 5 k) p 6 ((up (up (up M p 7 (M p 7)) p 8 s) p 5 k) p 6))))))))) ∧ (¬ e = (0 : Int) → (kdY p = 9 ∧ (kdY p = 9 ∧ ((e = (0 : Int) → (kdY p = 9 ∧ ((True) ∧ c_X9_setSeam p e k s M0 i (up (up (up (up M p 7 (M p 7)) p 8 s) p 5 ((up (up M p 7 (M p 7)) p 8 s) p 5)) p 6 s)))) ∧ (¬ e = (0 : Int) → (kdY p = 9 ∧ (kdY p = 9 ∧ ((True) ∧ c_X9_setSeam p e k s M0 i (up (up (up (up M p 7 (M p 7)) p 8 s) p 5 ((up (up M p 7 (M p 7)) p 8 s) p 5)) p 6 ((up (up (up M p 7 (M p 7)) p 8 s) p 5 ((up (up M p 7 (M p 7)) p 8 s) p 5)) p 6))))))))))))))))) ∧ (¬ e = (0 : Int) → (kdY p = 9 ∧ ((e = (0 : Int) → (kdY p = 9 ∧ (kdY p = 9 ∧ ((e = (0 : Int) → (kdY p = 9 ∧ ((e = (0 : Int) → (kdY p = 9 ∧ ((True) ∧ c_X9_setSeam p e k s M0 i (up (up (up (up M p 7 k) p 8 ((up M p 7 k) p 8)) p 5 k) p 6 s)))) ∧ (¬ e = (0 : Int) → (kdY p = 9 ∧ (kdY p = 9 ∧ ((True) ∧ c_X9_setSeam p e k s M0 i (up (up (up (up M p 7 k) p 8 ((up M p 7 k) p 8)) p 5 k) p 6 ((up (up (up M p 7 k) p 8 ((up M p 7 k) p 8)) p 5 k) p 6))))))))) ∧ (¬ e = (0 : Int) → (kdY p = 9 ∧ (kdY p = 9 ∧ ((e = (0 : Int) → (kdY p = 9 ∧ ((True) ∧ c_X9_setSeam p e k s M0 i (up (up (up (up M p 7 k) p 8 ((up M p 7 k) p 8)) p 5 ((up (up M p 7 k) p 8 ((up M p 7 k) p 8)) p 5)) p 6 s)))) ∧ (¬ e = (0 : Int) → (kdY p = 9 ∧ (kdY p = 9 ∧ ((True) ∧ c_X9_setSeam p e k s M0 i (up (up (up (up M p 7 k) p 8 ((up M p 7 k) p 8)) p 5 ((up (up M p 7 k) p 8 ((up M p 7 k) p 8)) p 5)) p 6 ((up (up (up M p 7 k) p 8 ((up M p 7 k) p 8)) p 5 ((up (up M p 7 k) p 8 ((up M p 7 k) p 8)) p 5)) p 6)))))))))))))) ∧ (¬ e = (0 : Int) → (kdY p = 9 ∧ ((e = (0 : Int) → (kdY p = 9 ∧ ((e = (0 : Int) → (kdY p = 9 ∧ ((True) ∧ c_X9_setSeam p e k s M0 i (up (up (up (up M p 7 k) p 8 s) p 5 k) p 6 s)))) ∧ (¬ e = (0 : Int) → (kdY p = 9 ∧ (kdY p = 9 ∧ ((True) ∧ c_X9_setSeam p e k s M0 i (up (up (up (up M p 7 k) p 8 s) p 5 k) p 6 ((up (up (up M p 7 k) p 8 s) p 5 k) p 6))))))))) ∧ (¬ e = (0 : Int) → (kdY p = 9 ∧ (kdY p = 9 ∧ ((e = (0 : Int) → (kdY p = 9 ∧ ((True) ∧ c_X9_setSeam p e k s M0 i (up (up (up (up M p 7 k) p 8 s) p 5 ((up (up M p 7 k) p 8 s) p 5)) p 6 s)))) ∧ (¬ e = (0 : Int) → (kdY p = 9 ∧ (kdY p = 9 ∧ ((True) ∧ c_X9_setSeam p e k s M0 i (up (up (up (up M p 7 k) p 8 s) p 5 ((up (up M p 7 k) p 8 s) p 5)) p 6 ((up (up (up M p 7 k) p 8 s) p 5 ((up (up M p 7 k) p 8 s) p 5)) p 6)))))))))))))))))
    : OK_X9_setSeam l D cy ad := by
  refine met_of (tb := tbX9_setSeam) (ft := ftX9) (cst := cstY) (ct := ct_X9_setSeam) (cuts := [83]) 79 (JA_X9_setSeam I83) hA jWY (by decide) tbX9_setSeam_ok (by decide) ftX9_ok cstY_ok (ldc_of (tb := tbX9_setSeam) (cst := cstY) (by decide)) rfl (List.forall_mem_cons.mpr ⟨si_X9_setSeam_3 o_X9_in, List.forall_mem_cons.mpr ⟨si_X9_setSeam_28 o_X9_in, fun q h => absurd h List.not_mem_nil⟩⟩) ?_ ?_ ?_
  · intro as M0 h
    unfold P_X9_setSeam at h
    split at h
    · exact Nat.le_of_ble_eq_true rfl
    · exact h.elim
  · intro as M0 h hM has
    unfold P_X9_setSeam at h
    split at h
    next p e k s => exact hent p e k s M0 h hM (has e (by simp)) (has k (by simp)) (has s (by simp))
    · exact h.elim
  · intro as M0 h hM has pc ls st M n hI hM1
    unfold P_X9_setSeam at h
    split at h
    next p e k s =>
      unfold JA_X9_setSeam J_X9_setSeam at hI
      dsimp only at hI
      split at hI
      ·
        obtain ⟨rfl, rfl, rfl, rfl, hI⟩ := hI
        exact hc83 _ _ _ _ _ h hM (has _ (by simp)) (has _ (by simp)) (has _ (by simp)) _ _ _ hI hM1
      · exact hI.elim
    · exact h.elim
