abbrev p_X9_reset (p : Nat) (a : Int) (b : Int) (M : Mem) : Prop := kdY p = 9 ∧ p = 0 ∧ (∃ σ, absY M σ)
abbrev c_X9_reset (p : Nat) (a : Int) (b : Int) (M : Mem) (x : Int) (M' : Mem) : Prop := ∀ σ, absY M σ → x = F_reset σ a b ∧ absY M' (G_reset σ a b)
def P_X9_reset (as : List AV) (M : Mem) : Prop := match as with
  | [.inr p, .inl a, .inl b] => p_X9_reset p a b M
  | _ => False
def C_X9_reset (as : List AV) (M : Mem) (x : Int) (M' : Mem) : Prop := match as with
  | [.inr p, .inl a, .inl b] => c_X9_reset p a b M x M'
  | _ => False
abbrev rm_X9_reset : Room := { frames := 1, cells := 0, slots := 0, locals := 23 }
abbrev OK_X9_reset (l : Launch) (D : va_G) (cy : Nat → ClassId) (ad : Nat → Nat) : Prop := MetA l D cy ad kdY lnY 12 yX9_reset cX9_reset 3 (some .int) rm_X9_reset 1 P_X9_reset C_X9_reset
theorem ca_X9_reset : CalV yX9_reset cX9_reset 3 (some .int) 2 := ⟨⟨wcX9_reset, wnX9, by decide +kernel, by decide +kernel, by decide +kernel⟩, wiX9_reset, wlX9_reset⟩
theorem rv_X9_reset : ∀ as M, P_X9_reset as M → ∃ a As q, as = .inr a :: As ∧ vwCl[kdY a]? = some q ∧ q.1 = yX9_reset.cls := by
  intro as M h
  unfold P_X9_reset at h
  split at h
  · exact ⟨_, _, (RX9, TX9, 20), rfl, by rw [h.1]; rfl, rfl⟩
  · exact h.elim
def ct_X9_reset : List (Nat × CS) := [(4, (3, 2, P_X9_in, C_X9_in)), (14, (3, 2, P_X9_in, C_X9_in)), (26, (3, 0, P_X9_begin, C_X9_begin))]
def J_X9_reset  (p : Nat) (a : Int) (b : Int) (M0 : Mem) : IT := fun pc ls st M μ => match pc, ls, st, M, μ with
  | _, _, _, _, _ => False
def JA_X9_reset  (as : List AV) (M0 : Mem) : IT := match as with
  | [.inr p, .inl a, .inl b] => J_X9_reset  p a b M0
  | _ => fun _ _ _ _ _ => False
theorem si_X9_reset_4 {l : Launch} {D : va_G} {cy : Nat → ClassId} {ad : Nat → Nat} (o : OK_X9_in l D cy ad) : Site l D cy ad kdY lnY 12 yX9_reset.cls tbX9_reset rm_X9_reset 4 (3, 2, P_X9_in, C_X9_in) := Or.inr (Or.inl ⟨49, 3, yX9_in, cX9_in, 3, (some .boolean), rm_X9_in, rfl, rfl, o, ca_X9_in, mkX9_49, rfl, ⟨rfl, rfl, by decide, by decide⟩⟩)
theorem si_X9_reset_14 {l : Launch} {D : va_G} {cy : Nat → ClassId} {ad : Nat → Nat} (o : OK_X9_in l D cy ad) : Site l D cy ad kdY lnY 12 yX9_reset.cls tbX9_reset rm_X9_reset 14 (3, 2, P_X9_in, C_X9_in) := Or.inr (Or.inl ⟨49, 3, yX9_in, cX9_in, 3, (some .boolean), rm_X9_in, rfl, rfl, o, ca_X9_in, mkX9_49, rfl, ⟨rfl, rfl, by decide, by decide⟩⟩)
theorem si_X9_reset_26 {l : Launch} {D : va_G} {cy : Nat → ClassId} {ad : Nat → Nat} (o : OK_X9_begin l D cy ad) : Site l D cy ad kdY lnY 12 yX9_reset.cls tbX9_reset rm_X9_reset 26 (3, 0, P_X9_begin, C_X9_begin) := Or.inl ⟨45, 2, yX9_begin, cX9_begin, 4, none, rm_X9_begin, rfl, rfl, o, ca_X9_begin, mkX9_45, ⟨rfl, rfl, by decide, by decide⟩, rv_X9_begin⟩
set_option maxRecDepth 100000 in
set_option maxHeartbeats 4000000 in
theorem met_X9_reset {l : Launch} {D : va_G} {cy : Nat → ClassId} {ad : Nat → Nat} (hA : jA ad 12) (o_X9_begin : OK_X9_begin l D cy ad) (o_X9_in : OK_X9_in l D cy ad) 
    (hent : ∀ (p : Nat) (a : Int) (b : Int) (M0 : Mem), p_X9_reset p a b M0 → okM M0 → inR a → inR b → p_X9_in a 3 12 M0 ∧ ∀ (x2 : Int) (M1 : Mem), inR x2 → okM M1 → c_X9_in a 3 12 M0 x2 M1 → ((x2 = (0 : Int) → ((True) ∧ c_X9_reset p a b M0 (-2) M1)) ∧ (¬ x2 = (0 : Int) → (p_X9_in b 3 12 M1 ∧ ∀ (x4 : Int) (M3 : Mem), inR x4 → okM M3 → c_X9_in b 3 12 M1 x4 M3 → ((¬ x4 = (0 : Int) → (p_X9_begin p a b M3 ∧ ∀ (x6 : Int) (M5 : Mem), inR x6 → okM M5 → c_X9_begin p a b M3 x6 M5 → (kdY p = 9 ∧ ((True) ∧ c_X9_reset p a b M0 (M5 p 2) M5)))) ∧ (¬ (¬ x4 = (0 : Int)) → ((True) ∧ c_X9_reset p a b M0 (-2) M3)))))))
    : OK_X9_reset l D cy ad := by
  refine met_of (tb := tbX9_reset) (ft := ftX9) (cst := cstY) (ct := ct_X9_reset) (cuts := []) 21 (JA_X9_reset ) hA jWY (by decide) tbX9_reset_ok (by decide) ftX9_ok cstY_ok (ldc_of (tb := tbX9_reset) (cst := cstY) (by decide)) rfl (List.forall_mem_cons.mpr ⟨si_X9_reset_4 o_X9_in, List.forall_mem_cons.mpr ⟨si_X9_reset_14 o_X9_in, List.forall_mem_cons.mpr ⟨si_X9_reset_26 o_X9_begin, fun q h => absurd h List.not_mem_nil⟩⟩⟩) ?_ ?_ ?_
  · intro as M0 h
    unfold P_X9_reset at h
    split at h
    · exact Nat.le_of_ble_eq_true rfl
    · exact h.elim
  · intro as M0 h hM has
    unfold P_X9_reset at h
    split at h
    next p a b => exact hent p a b M0 h hM (has a (by simp)) (has b (by simp))
    · exact h.elim
  · intro as M0 h hM has pc ls st M n hI hM1
    unfold P_X9_reset at h
    split at h
    · exact hI.elim
    · exact h.elim
abbrev p_X9_value (p : Nat) (w : Int) (M : Mem) : Prop := kdY p = 9 ∧ p = 0 ∧ (∃ σ, absY M σ)
abbrev c_X9_value (p : Nat) (w : Int) (M : Mem) (x : Int) (M' : Mem) : Prop := ∀ σ, absY M σ → x = F_value σ w ∧ absY M' σ
def P_X9_value (as : List AV) (M : Mem) : Prop := match as with
  | [.inr p, .inl w] => p_X9_value p w M
  | _ => False
def C_X9_value (as : List AV) (M : Mem) (x : Int) (M' : Mem) : Prop := match as with
  | [.inr p, .inl w] => c_X9_value p w M x M'
  | _ => False
abbrev rm_X9_value : Room := { frames := 6, cells := 0, slots := 0, locals := 139 }
abbrev OK_X9_value (l : Launch) (D : va_G) (cy : Nat → ClassId) (ad : Nat → Nat) : Prop := MetA l D cy ad kdY lnY 12 yX9_value cX9_value 2 (some .int) rm_X9_value 1 P_X9_value C_X9_value
theorem ca_X9_value : CalV yX9_value cX9_value 2 (some .int) 1 := ⟨⟨wcX9_value, wnX9, by decide +kernel, by decide +kernel, by decide +kernel⟩, wiX9_value, wlX9_value⟩
theorem rv_X9_value : ∀ as M, P_X9_value as M → ∃ a As q, as = .inr a :: As ∧ vwCl[kdY a]? = some q ∧ q.1 = yX9_value.cls := by
  intro as M h
  unfold P_X9_value at h
  split at h
  · exact ⟨_, _, (RX9, TX9, 20), rfl, by rw [h.1]; rfl, rfl⟩
  · exact h.elim
def ct_X9_value : List (Nat × CS) := [(83, (1, 1, P_X9_parts, C_X9_parts)), (88, (1, 1, P_X9_pairs, C_X9_pairs))]
def J_X9_value  (p : Nat) (w : Int) (M0 : Mem) : IT := fun pc ls st M μ => match pc, ls, st, M, μ with
  | _, _, _, _, _ => False
def JA_X9_value  (as : List AV) (M0 : Mem) : IT := match as with
  | [.inr p, .inl w] => J_X9_value  p w M0
  | _ => fun _ _ _ _ _ => False
theorem si_X9_value_83 {l : Launch} {D : va_G} {cy : Nat → ClassId} {ad : Nat → Nat} (o : OK_X9_parts l D cy ad) : Site l D cy ad kdY lnY 12 yX9_value.cls tbX9_value rm_X9_value 83 (1, 1, P_X9_parts, C_X9_parts) := Or.inl ⟨92, 0, yX9_parts, cX9_parts, 3, (some .int), rm_X9_parts, rfl, rfl, o, ca_X9_parts, mkX9_92, ⟨rfl, rfl, by decide, by decide⟩, rv_X9_parts⟩
theorem si_X9_value_88 {l : Launch} {D : va_G} {cy : Nat → ClassId} {ad : Nat → Nat} (o : OK_X9_pairs l D cy ad) : Site l D cy ad kdY lnY 12 yX9_value.cls tbX9_value rm_X9_value 88 (1, 1, P_X9_pairs, C_X9_pairs) := Or.inl ⟨96, 0, yX9_pairs, cX9_pairs, 3, (some .int), rm_X9_pairs, rfl, rfl, o, ca_X9_pairs, mkX9_96, ⟨rfl, rfl, by decide, by decide⟩, rv_X9_pairs⟩
set_option maxRecDepth 100000 in
set_option maxHeartbeats 4000000 in
theorem met_X9_value {l : Launch} {D : va_G} {cy : Nat → ClassId} {ad : Nat → Nat} (hA : jA ad 12) (o_X9_pairs : OK_X9_pairs l D cy ad) (o_X9_parts : OK_X9_parts l D cy ad) 
    (hent : ∀ (p : Nat) (w : Int) (M0 : Mem), p_X9_value p w M0 → okM M0 → inR w → ((w < 0 ∨ 8 < w) → ((True) ∧ c_X9_value p w M0 (-2) M0)) ∧ ((w = 0 → (kdY p = 9 ∧ ((True) ∧ c_X9_value p w M0 (M0 p 0) M0))) ∧ ((w = 0 + 1 → (kdY p = 9 ∧ ((True) ∧ c_X9_value p w M0 (M0 p 1) M0))) ∧ ((w = 0 + 1 + 1 → (kdY p = 9 ∧ ((True) ∧ c_X9_value p w M0 (M0 p 5) M0))) ∧ ((w = 0 + 1 + 1 + 1 → (kdY p = 9 ∧ ((True) ∧ c_X9_value p w M0 (M0 p 6) M0))) ∧ ((w = 0 + 1 + 1 + 1 + 1 → (kdY p = 9 ∧ ((True) ∧ c_X9_value p w M0 (M0 p 7) M0))) ∧ ((w = 0 + 1 + 1 + 1 + 1 + 1 → (kdY p = 9 ∧ ((True) ∧ c_X9_value p w M0 (M0 p 8) M0))) ∧ ((w = 0 + 1 + 1 + 1 + 1 + 1 + 1 → (p_X9_parts p M0 ∧ ∀ (x2 : Int) (M1 : Mem), inR x2 → okM M1 → c_X9_parts p M0 x2 M1 → ((True) ∧ c_X9_value p w M0 x2 M1))) ∧ ((w = 0 + 1 + 1 + 1 + 1 + 1 + 1 + 1 → (p_X9_pairs p M0 ∧ ∀ (x4 : Int) (M3 : Mem), inR x4 → okM M3 → c_X9_pairs p M0 x4 M3 → ((True) ∧ c_X9_value p w M0 x4 M3))) ∧ ((w = 0 + 1 + 1 + 1 + 1 + 1 + 1 + 1 + 1 → (kdY p = 9 ∧ ((True) ∧ c_X9_value p w M0 (M0 p 16) M0))) ∧ (True)))))))))))
    : OK_X9_value l D cy ad := by
  refine met_of (tb := tbX9_value) (ft := ftX9) (cst := cstY) (ct := ct_X9_value) (cuts := []) 33 (JA_X9_value ) hA jWY (by decide) tbX9_value_ok (by decide) ftX9_ok cstY_ok (ldc_of (tb := tbX9_value) (cst := cstY) (by decide)) rfl (List.forall_mem_cons.mpr ⟨si_X9_value_83 o_X9_parts, List.forall_mem_cons.mpr ⟨si_X9_value_88 o_X9_pairs, fun q h => absurd h List.not_mem_nil⟩⟩) ?_ ?_ ?_
  · intro as M0 h
    unfold P_X9_value at h
    split at h
    · exact Nat.le_of_ble_eq_true rfl
    · exact h.elim
  · intro as M0 h hM has
    unfold P_X9_value at h
    split at h
    next p w => exact hent p w M0 h hM (has w (by simp))
    · exact h.elim
  · intro as M0 h hM has pc ls st M n hI hM1
    unfold P_X9_value at h
    split at h
    · exact hI.elim
    · exact h.elim
abbrev p_X9_kind (p : Nat) (t : Int) (M : Mem) : Prop := kdY p = 9 ∧ p = 0 ∧ (∃ σ, absY M σ)
abbrev c_X9_kind (p : Nat) (t : Int) (M : Mem) (x : Int) (M' : Mem) : Prop := ∀ σ, absY M σ → x = F_kind σ t ∧ absY M' σ
def P_X9_kind (as : List AV) (M : Mem) : Prop := match as with
  | [.inr p, .inl t] => p_X9_kind p t M
  | _ => False
def C_X9_kind (as : List AV) (M : Mem) (x : Int) (M' : Mem) : Prop := match as with
  | [.inr p, .inl t] => c_X9_kind p t M x M'
  | _ => False
abbrev rm_X9_kind : Room := { frames := 2, cells := 0, slots := 0, locals := 43 }
abbrev OK_X9_kind (l : Launch) (D : va_G) (cy : Nat → ClassId) (ad : Nat → Nat) : Prop := MetA l D cy ad kdY lnY 12 yX9_kind cX9_kind 2 (some .int) rm_X9_kind 1 P_X9_kind C_X9_kind
theorem ca_X9_kind : CalV yX9_kind cX9_kind 2 (some .int) 1 := ⟨⟨wcX9_kind, wnX9, by decide +kernel, by decide +kernel, by decide +kernel⟩, wiX9_kind, wlX9_kind⟩
theorem rv_X9_kind : ∀ as M, P_X9_kind as M → ∃ a As q, as = .inr a :: As ∧ vwCl[kdY a]? = some q ∧ q.1 = yX9_kind.cls := by
  intro as M h
  unfold P_X9_kind at h
  split at h
  · exact ⟨_, _, (RX9, TX9, 20), rfl, by rw [h.1]; rfl, rfl⟩
  · exact h.elim
def ct_X9_kind : List (Nat × CS) := [(2, (2, 2, P_X9_noTile, C_X9_noTile))]
def J_X9_kind  (p : Nat) (t : Int) (M0 : Mem) : IT := fun pc ls st M μ => match pc, ls, st, M, μ with
  | _, _, _, _, _ => False
def JA_X9_kind  (as : List AV) (M0 : Mem) : IT := match as with
  | [.inr p, .inl t] => J_X9_kind  p t M0
  | _ => fun _ _ _ _ _ => False
theorem si_X9_kind_2 {l : Launch} {D : va_G} {cy : Nat → ClassId} {ad : Nat → Nat} (o : OK_X9_noTile l D cy ad) : Site l D cy ad kdY lnY 12 yX9_kind.cls tbX9_kind rm_X9_kind 2 (2, 2, P_X9_noTile, C_X9_noTile) := Or.inl ⟨99, 1, yX9_noTile, cX9_noTile, 2, (some .boolean), rm_X9_noTile, rfl, rfl, o, ca_X9_noTile, mkX9_99, ⟨rfl, rfl, by decide, by decide⟩, rv_X9_noTile⟩
set_option maxRecDepth 100000 in
set_option maxHeartbeats 4000000 in
theorem met_X9_kind {l : Launch} {D : va_G} {cy : Nat → ClassId} {ad : Nat → Nat} (hA : jA ad 12) (o_X9_noTile : OK_X9_noTile l D cy ad) 
    (hent : ∀ (p : Nat) (t : Int) (M0 : Mem), p_X9_kind p t M0 → okM M0 → inR t → p_X9_noTile p t M0 ∧ ∀ (x2 : Int) (M1 : Mem), inR x2 → okM M1 → c_X9_noTile p t M0 x2 M1 → ((x2 = (0 : Int) → (kdY p = 9 ∧ (kdY 1 = 21 ∧ (0 ≤ t ∧ t < 144) ∧ ((True) ∧ c_X9_kind p t M0 (M1 1 (t).toNat) M1)))) ∧ (¬ x2 = (0 : Int) → ((True) ∧ c_X9_kind p t M0 (-1) M1))))
    : OK_X9_kind l D cy ad := by
  refine met_of (tb := tbX9_kind) (ft := ftX9) (cst := cstY) (ct := ct_X9_kind) (cuts := []) 13 (JA_X9_kind ) hA jWY (by decide) tbX9_kind_ok (by decide) ftX9_ok cstY_ok (ldc_of (tb := tbX9_kind) (cst := cstY) (by decide)) rfl (List.forall_mem_cons.mpr ⟨si_X9_kind_2 o_X9_noTile, fun q h => absurd h List.not_mem_nil⟩) ?_ ?_ ?_
  · intro as M0 h
    unfold P_X9_kind at h
    split at h
    · exact Nat.le_of_ble_eq_true rfl
    · exact h.elim
  · intro as M0 h hM has
    unfold P_X9_kind at h
    split at h
    next p t => exact hent p t M0 h hM (has t (by simp))
    · exact h.elim
  · intro as M0 h hM has pc ls st M n hI hM1
    unfold P_X9_kind at h
    split at h
    · exact hI.elim
    · exact h.elim
abbrev p_X9_neighbour (p : Nat) (t : Int) (d : Int) (M : Mem) : Prop := kdY p = 9 ∧ p = 0 ∧ (∃ σ, absY M σ)
abbrev c_X9_neighbour (p : Nat) (t : Int) (d : Int) (M : Mem) (x : Int) (M' : Mem) : Prop := ∀ σ, absY M σ → x = F_neighbour σ t d ∧ absY M' σ
def P_X9_neighbour (as : List AV) (M : Mem) : Prop := match as with
  | [.inr p, .inl t, .inl d] => p_X9_neighbour p t d M
  | _ => False
def C_X9_neighbour (as : List AV) (M : Mem) (x : Int) (M' : Mem) : Prop := match as with
  | [.inr p, .inl t, .inl d] => c_X9_neighbour p t d M x M'
  | _ => False
abbrev rm_X9_neighbour : Room := { frames := 3, cells := 0, slots := 0, locals := 70 }
abbrev OK_X9_neighbour (l : Launch) (D : va_G) (cy : Nat → ClassId) (ad : Nat → Nat) : Prop := MetA l D cy ad kdY lnY 12 yX9_neighbour cX9_neighbour 3 (some .int) rm_X9_neighbour 1 P_X9_neighbour C_X9_neighbour
theorem ca_X9_neighbour : CalV yX9_neighbour cX9_neighbour 3 (some .int) 2 := ⟨⟨wcX9_neighbour, wnX9, by decide +kernel, by decide +kernel, by decide +kernel⟩, wiX9_neighbour, wlX9_neighbour⟩
theorem rv_X9_neighbour : ∀ as M, P_X9_neighbour as M → ∃ a As q, as = .inr a :: As ∧ vwCl[kdY a]? = some q ∧ q.1 = yX9_neighbour.cls := by
  intro as M h
  unfold P_X9_neighbour at h
  split at h
  · exact ⟨_, _, (RX9, TX9, 20), rfl, by rw [h.1]; rfl, rfl⟩
  · exact h.elim
def ct_X9_neighbour : List (Nat × CS) := [(2, (2, 2, P_X9_noTile, C_X9_noTile)), (13, (3, 2, P_X9_in, C_X9_in)), (22, (3, 1, P_X9_next, C_X9_next))]
def J_X9_neighbour  (p : Nat) (t : Int) (d : Int) (M0 : Mem) : IT := fun pc ls st M μ => match pc, ls, st, M, μ with
  | _, _, _, _, _ => False
def JA_X9_neighbour  (as : List AV) (M0 : Mem) : IT := match as with
  | [.inr p, .inl t, .inl d] => J_X9_neighbour  p t d M0
  | _ => fun _ _ _ _ _ => False
theorem si_X9_neighbour_2 {l : Launch} {D : va_G} {cy : Nat → ClassId} {ad : Nat → Nat} (o : OK_X9_noTile l D cy ad) : Site l D cy ad kdY lnY 12 yX9_neighbour.cls tbX9_neighbour rm_X9_neighbour 2 (2, 2, P_X9_noTile, C_X9_noTile) := Or.inl ⟨99, 1, yX9_noTile, cX9_noTile, 2, (some .boolean), rm_X9_noTile, rfl, rfl, o, ca_X9_noTile, mkX9_99, ⟨rfl, rfl, by decide, by decide⟩, rv_X9_noTile⟩
theorem si_X9_neighbour_13 {l : Launch} {D : va_G} {cy : Nat → ClassId} {ad : Nat → Nat} (o : OK_X9_in l D cy ad) : Site l D cy ad kdY lnY 12 yX9_neighbour.cls tbX9_neighbour rm_X9_neighbour 13 (3, 2, P_X9_in, C_X9_in) := Or.inr (Or.inl ⟨49, 3, yX9_in, cX9_in, 3, (some .boolean), rm_X9_in, rfl, rfl, o, ca_X9_in, mkX9_49, rfl, ⟨rfl, rfl, by decide, by decide⟩⟩)
theorem si_X9_neighbour_22 {l : Launch} {D : va_G} {cy : Nat → ClassId} {ad : Nat → Nat} (o : OK_X9_next l D cy ad) : Site l D cy ad kdY lnY 12 yX9_neighbour.cls tbX9_neighbour rm_X9_neighbour 22 (3, 1, P_X9_next, C_X9_next) := Or.inl ⟨89, 2, yX9_next, cX9_next, 6, (some .int), rm_X9_next, rfl, rfl, o, ca_X9_next, mkX9_89, ⟨rfl, rfl, by decide, by decide⟩, rv_X9_next⟩
set_option maxRecDepth 100000 in
set_option maxHeartbeats 4000000 in
theorem met_X9_neighbour {l : Launch} {D : va_G} {cy : Nat → ClassId} {ad : Nat → Nat} (hA : jA ad 12) (o_X9_in : OK_X9_in l D cy ad) (o_X9_next : OK_X9_next l D cy ad) (o_X9_noTile : OK_X9_noTile l D cy ad) 
    (hent : ∀ (p : Nat) (t : Int) (d : Int) (M0 : Mem), p_X9_neighbour p t d M0 → okM M0 → inR t → inR d → p_X9_noTile p t M0 ∧ ∀ (x2 : Int) (M1 : Mem), inR x2 → okM M1 → c_X9_noTile p t M0 x2 M1 → ((x2 = (0 : Int) → (p_X9_in d 0 3 M1 ∧ ∀ (x4 : Int) (M3 : Mem), inR x4 → okM M3 → c_X9_in d 0 3 M1 x4 M3 → ((x4 = (0 : Int) → ((True) ∧ c_X9_neighbour p t d M0 (-2) M3)) ∧ (¬ x4 = (0 : Int) → (p_X9_next p t d M3 ∧ ∀ (x6 : Int) (M5 : Mem), inR x6 → okM M5 → c_X9_next p t d M3 x6 M5 → ((True) ∧ c_X9_neighbour p t d M0 x6 M5)))))) ∧ (¬ x2 = (0 : Int) → ((True) ∧ c_X9_neighbour p t d M0 (-1) M1))))
    : OK_X9_neighbour l D cy ad := by
  refine met_of (tb := tbX9_neighbour) (ft := ftX9) (cst := cstY) (ct := ct_X9_neighbour) (cuts := []) 20 (JA_X9_neighbour ) hA jWY (by decide) tbX9_neighbour_ok (by decide) ftX9_ok cstY_ok (ldc_of (tb := tbX9_neighbour) (cst := cstY) (by decide)) rfl (List.forall_mem_cons.mpr ⟨si_X9_neighbour_2 o_X9_noTile, List.forall_mem_cons.mpr ⟨si_X9_neighbour_13 o_X9_in, List.forall_mem_cons.mpr ⟨si_X9_neighbour_22 o_X9_next, fun q h => absurd h List.not_mem_nil⟩⟩⟩) ?_ ?_ ?_
  · intro as M0 h
    unfold P_X9_neighbour at h
    split at h
    · exact Nat.le_of_ble_eq_true rfl
    · exact h.elim
  · intro as M0 h hM has
    unfold P_X9_neighbour at h
    split at h
    next p t d => exact hent p t d M0 h hM (has t (by simp)) (has d (by simp))
    · exact h.elim
  · intro as M0 h hM has pc ls st M n hI hM1
    unfold P_X9_neighbour at h
    split at h
    · exact hI.elim
    · exact h.elim
abbrev p_X9_type (p : Nat) (c : Int) (M : Mem) : Prop := kdY p = 9 ∧ p = 0 ∧ (∃ σ, absY M σ) ∧ 0 ≤ c ∧ c < 65536
abbrev c_X9_type (p : Nat) (c : Int) (M : Mem) (x : Int) (M' : Mem) : Prop := ∀ σ, absY M σ → x = F_type σ c ∧ absY M' (G_type σ c)
def P_X9_type (as : List AV) (M : Mem) : Prop := match as with
  | [.inr p, .inl c] => p_X9_type p c M
  | _ => False
def C_X9_type (as : List AV) (M : Mem) (x : Int) (M' : Mem) : Prop := match as with
  | [.inr p, .inl c] => c_X9_type p c M x M'
  | _ => False
abbrev rm_X9_type : Room := { frames := 0, cells := 0, slots := 0, locals := 0 }
abbrev OK_X9_type (l : Launch) (D : va_G) (cy : Nat → ClassId) (ad : Nat → Nat) : Prop := MetA l D cy ad kdY lnY 12 yX9_type cX9_type 2 (some .int) rm_X9_type 1 P_X9_type C_X9_type
theorem ca_X9_type : CalV yX9_type cX9_type 2 (some .int) 1 := ⟨⟨wcX9_type, wnX9, by decide +kernel, by decide +kernel, by decide +kernel⟩, wiX9_type, wlX9_type⟩
theorem rv_X9_type : ∀ as M, P_X9_type as M → ∃ a As q, as = .inr a :: As ∧ vwCl[kdY a]? = some q ∧ q.1 = yX9_type.cls := by
  intro as M h
  unfold P_X9_type at h
  split at h
  · exact ⟨_, _, (RX9, TX9, 20), rfl, by rw [h.1]; rfl, rfl⟩
  · exact h.elim
def ct_X9_type : List (Nat × CS) := []
def J_X9_type  (p : Nat) (c : Int) (M0 : Mem) : IT := fun pc ls st M μ => match pc, ls, st, M, μ with
  | _, _, _, _, _ => False
def JA_X9_type  (as : List AV) (M0 : Mem) : IT := match as with
  | [.inr p, .inl c] => J_X9_type  p c M0
  | _ => fun _ _ _ _ _ => False
set_option maxRecDepth 100000 in
set_option maxHeartbeats 4000000 in
theorem met_X9_type {l : Launch} {D : va_G} {cy : Nat → ClassId} {ad : Nat → Nat} (hA : jA ad 12)  
    (hent : ∀ (p : Nat) (c : Int) (M0 : Mem), p_X9_type p c M0 → okM M0 → inR c → kdY p = 9 ∧ ((¬ (M0 p 9) = (160 : Int) → (kdY p = 9 ∧ (kdY p = 9 ∧ (kdY 3 = 20 ∧ (0 ≤ (M0 p 9) ∧ (M0 p 9) < 160) ∧ (0 ≤ c ∧ c < 65536) ∧ (kdY p = 9 ∧ (inR (((up M0 3 (M0 p 9).toNat c) p 9) + 1) ∧ (kdY p = 9 ∧ (kdY p = 9 ∧ ((True) ∧ c_X9_type p c M0 ((up (up M0 3 (M0 p 9).toNat c) p 9 (((up M0 3 (M0 p 9).toNat c) p 9) + 1)) p 9) (up (up M0 3 (M0 p 9).toNat c) p 9 (((up M0 3 (M0 p 9).toNat c) p 9) + 1))))))))))) ∧ (¬ (¬ (M0 p 9) = (160 : Int)) → ((True) ∧ c_X9_type p c M0 (-3) M0))))
    : OK_X9_type l D cy ad := by
  refine met_of (tb := tbX9_type) (ft := ftX9) (cst := cstY) (ct := ct_X9_type) (cuts := []) 23 (JA_X9_type ) hA jWY (by decide) tbX9_type_ok (by decide) ftX9_ok cstY_ok (ldc_of (tb := tbX9_type) (cst := cstY) (by decide)) rfl (fun q h => absurd h List.not_mem_nil) ?_ ?_ ?_
  · intro as M0 h
    unfold P_X9_type at h
    split at h
    · exact Nat.le_of_ble_eq_true rfl
    · exact h.elim
  · intro as M0 h hM has
    unfold P_X9_type at h
    split at h
    next p c => exact hent p c M0 h hM (has c (by simp))
    · exact h.elim
  · intro as M0 h hM has pc ls st M n hI hM1
    unfold P_X9_type at h
    split at h
    · exact hI.elim
    · exact h.elim
abbrev p_X9_clearText (p : Nat) (M : Mem) : Prop := kdY p = 9 ∧ p = 0 ∧ (∃ σ, absY M σ)
abbrev c_X9_clearText (p : Nat) (M : Mem) (x : Int) (M' : Mem) : Prop := ∀ σ, absY M σ → x = F_clearText σ ∧ absY M' (G_clearText σ)
def P_X9_clearText (as : List AV) (M : Mem) : Prop := match as with
  | [.inr p] => p_X9_clearText p M
  | _ => False
def C_X9_clearText (as : List AV) (M : Mem) (x : Int) (M' : Mem) : Prop := match as with
  | [.inr p] => c_X9_clearText p M x M'
  | _ => False
abbrev rm_X9_clearText : Room := { frames := 0, cells := 0, slots := 0, locals := 0 }
abbrev OK_X9_clearText (l : Launch) (D : va_G) (cy : Nat → ClassId) (ad : Nat → Nat) : Prop := MetA l D cy ad kdY lnY 12 yX9_clearText cX9_clearText 2 (some .int) rm_X9_clearText 1 P_X9_clearText C_X9_clearText
theorem ca_X9_clearText : CalV yX9_clearText cX9_clearText 2 (some .int) 0 := ⟨⟨wcX9_clearText, wnX9, by decide +kernel, by decide +kernel, by decide +kernel⟩, wiX9_clearText, wlX9_clearText⟩
theorem rv_X9_clearText : ∀ as M, P_X9_clearText as M → ∃ a As q, as = .inr a :: As ∧ vwCl[kdY a]? = some q ∧ q.1 = yX9_clearText.cls := by
  intro as M h
  unfold P_X9_clearText at h
  split at h
  · exact ⟨_, _, (RX9, TX9, 20), rfl, by rw [h.1]; rfl, rfl⟩
  · exact h.elim
def ct_X9_clearText : List (Nat × CS) := []
def J_X9_clearText  (p : Nat) (M0 : Mem) : IT := fun pc ls st M μ => match pc, ls, st, M, μ with
  | _, _, _, _, _ => False
def JA_X9_clearText  (as : List AV) (M0 : Mem) : IT := match as with
  | [.inr p] => J_X9_clearText  p M0
  | _ => fun _ _ _ _ _ => False
set_option maxRecDepth 100000 in
set_option maxHeartbeats 4000000 in
theorem met_X9_clearText {l : Launch} {D : va_G} {cy : Nat → ClassId} {ad : Nat → Nat} (hA : jA ad 12)  
    (hent : ∀ (p : Nat) (M0 : Mem), p_X9_clearText p M0 → okM M0 → kdY p = 9 ∧ (kdY p = 9 ∧ ((True) ∧ c_X9_clearText p M0 (M0 p 9) (up M0 p 9 0))))
    : OK_X9_clearText l D cy ad := by
  refine met_of (tb := tbX9_clearText) (ft := ftX9) (cst := cstY) (ct := ct_X9_clearText) (cuts := []) 10 (JA_X9_clearText ) hA jWY (by decide) tbX9_clearText_ok (by decide) ftX9_ok cstY_ok (ldc_of (tb := tbX9_clearText) (cst := cstY) (by decide)) rfl (fun q h => absurd h List.not_mem_nil) ?_ ?_ ?_
  · intro as M0 h
    unfold P_X9_clearText at h
    split at h
    · exact Nat.le_of_ble_eq_true rfl
    · exact h.elim
  · intro as M0 h hM has
    unfold P_X9_clearText at h
    split at h
    next p => exact hent p M0 h hM
    · exact h.elim
  · intro as M0 h hM has pc ls st M n hI hM1
    unfold P_X9_clearText at h
    split at h
    · exact hI.elim
    · exact h.elim
abbrev p_X9_label (p : Nat) (t : Int) (M : Mem) : Prop := kdY p = 9 ∧ p = 0 ∧ (∃ σ, absY M σ)
abbrev c_X9_label (p : Nat) (t : Int) (M : Mem) (x : Int) (M' : Mem) : Prop := ∀ σ, absY M σ → x = F_label σ t ∧ absY M' σ
def P_X9_label (as : List AV) (M : Mem) : Prop := match as with
  | [.inr p, .inl t] => p_X9_label p t M
  | _ => False
def C_X9_label (as : List AV) (M : Mem) (x : Int) (M' : Mem) : Prop := match as with
  | [.inr p, .inl t] => c_X9_label p t M x M'
  | _ => False
abbrev rm_X9_label : Room := { frames := 5, cells := 0, slots := 0, locals := 117 }
abbrev OK_X9_label (l : Launch) (D : va_G) (cy : Nat → ClassId) (ad : Nat → Nat) : Prop := MetA l D cy ad kdY lnY 12 yX9_label cX9_label 2 (some .int) rm_X9_label 1 P_X9_label C_X9_label
theorem ca_X9_label : CalV yX9_label cX9_label 2 (some .int) 1 := ⟨⟨wcX9_label, wnX9, by decide +kernel, by decide +kernel, by decide +kernel⟩, wiX9_label, wlX9_label⟩
theorem rv_X9_label : ∀ as M, P_X9_label as M → ∃ a As q, as = .inr a :: As ∧ vwCl[kdY a]? = some q ∧ q.1 = yX9_label.cls := by
  intro as M h
  unfold P_X9_label at h
  split at h
  · exact ⟨_, _, (RX9, TX9, 20), rfl, by rw [h.1]; rfl, rfl⟩
  · exact h.elim
def ct_X9_label : List (Nat × CS) := [(2, (2, 2, P_X9_noTile, C_X9_noTile)), (11, (1, 0, P_X9_layLabels, C_X9_layLabels))]
def J_X9_label  (p : Nat) (t : Int) (M0 : Mem) : IT := fun pc ls st M μ => match pc, ls, st, M, μ with
  | _, _, _, _, _ => False
def JA_X9_label  (as : List AV) (M0 : Mem) : IT := match as with
  | [.inr p, .inl t] => J_X9_label  p t M0
  | _ => fun _ _ _ _ _ => False
theorem si_X9_label_2 {l : Launch} {D : va_G} {cy : Nat → ClassId} {ad : Nat → Nat} (o : OK_X9_noTile l D cy ad) : Site l D cy ad kdY lnY 12 yX9_label.cls tbX9_label rm_X9_label 2 (2, 2, P_X9_noTile, C_X9_noTile) := Or.inl ⟨99, 1, yX9_noTile, cX9_noTile, 2, (some .boolean), rm_X9_noTile, rfl, rfl, o, ca_X9_noTile, mkX9_99, ⟨rfl, rfl, by decide, by decide⟩, rv_X9_noTile⟩
theorem si_X9_label_11 {l : Launch} {D : va_G} {cy : Nat → ClassId} {ad : Nat → Nat} (o : OK_X9_layLabels l D cy ad) : Site l D cy ad kdY lnY 12 yX9_label.cls tbX9_label rm_X9_label 11 (1, 0, P_X9_layLabels, C_X9_layLabels) := Or.inl ⟨113, 0, yX9_layLabels, cX9_layLabels, 2, none, rm_X9_layLabels, rfl, rfl, o, ca_X9_layLabels, mkX9_113, ⟨rfl, rfl, by decide, by decide⟩, rv_X9_layLabels⟩
set_option maxRecDepth 100000 in
set_option maxHeartbeats 4000000 in
theorem met_X9_label {l : Launch} {D : va_G} {cy : Nat → ClassId} {ad : Nat → Nat} (hA : jA ad 12) (o_X9_layLabels : OK_X9_layLabels l D cy ad) (o_X9_noTile : OK_X9_noTile l D cy ad) 
    (hent : ∀ (p : Nat) (t : Int) (M0 : Mem), p_X9_label p t M0 → okM M0 → inR t → p_X9_noTile p t M0 ∧ ∀ (x2 : Int) (M1 : Mem), inR x2 → okM M1 → c_X9_noTile p t M0 x2 M1 → ((x2 = (0 : Int) → (p_X9_layLabels p M1 ∧ ∀ (x4 : Int) (M3 : Mem), inR x4 → okM M3 → c_X9_layLabels p M1 x4 M3 → (kdY p = 9 ∧ (kdY 5 = 21 ∧ (0 ≤ t ∧ t < 144) ∧ ((True) ∧ c_X9_label p t M0 (M3 5 (t).toNat) M3))))) ∧ (¬ x2 = (0 : Int) → ((True) ∧ c_X9_label p t M0 (-1) M1))))
    : OK_X9_label l D cy ad := by
  refine met_of (tb := tbX9_label) (ft := ftX9) (cst := cstY) (ct := ct_X9_label) (cuts := []) 15 (JA_X9_label ) hA jWY (by decide) tbX9_label_ok (by decide) ftX9_ok cstY_ok (ldc_of (tb := tbX9_label) (cst := cstY) (by decide)) rfl (List.forall_mem_cons.mpr ⟨si_X9_label_2 o_X9_noTile, List.forall_mem_cons.mpr ⟨si_X9_label_11 o_X9_layLabels, fun q h => absurd h List.not_mem_nil⟩⟩) ?_ ?_ ?_
  · intro as M0 h
    unfold P_X9_label at h
    split at h
    · exact Nat.le_of_ble_eq_true rfl
    · exact h.elim
  · intro as M0 h hM has
    unfold P_X9_label at h
    split at h
    next p t => exact hent p t M0 h hM (has t (by simp))
    · exact h.elim
  · intro as M0 h hM has pc ls st M n hI hM1
    unfold P_X9_label at h
    split at h
    · exact hI.elim
    · exact h.elim
abbrev p_X9_part (p : Nat) (k : Int) (M : Mem) : Prop := kdY p = 9 ∧ p = 0 ∧ (∃ σ, absY M σ)
abbrev c_X9_part (p : Nat) (k : Int) (M : Mem) (x : Int) (M' : Mem) : Prop := ∀ σ, absY M σ → x = F_part σ k ∧ absY M' σ
def P_X9_part (as : List AV) (M : Mem) : Prop := match as with
  | [.inr p, .inl k] => p_X9_part p k M
  | _ => False
def C_X9_part (as : List AV) (M : Mem) (x : Int) (M' : Mem) : Prop := match as with
  | [.inr p, .inl k] => c_X9_part p k M x M'
  | _ => False
abbrev rm_X9_part : Room := { frames := 5, cells := 0, slots := 0, locals := 117 }
abbrev OK_X9_part (l : Launch) (D : va_G) (cy : Nat → ClassId) (ad : Nat → Nat) : Prop := MetA l D cy ad kdY lnY 12 yX9_part cX9_part 4 (some .int) rm_X9_part 1 P_X9_part C_X9_part
theorem ca_X9_part : CalV yX9_part cX9_part 4 (some .int) 1 := ⟨⟨wcX9_part, wnX9, by decide +kernel, by decide +kernel, by decide +kernel⟩, wiX9_part, wlX9_part⟩
theorem rv_X9_part : ∀ as M, P_X9_part as M → ∃ a As q, as = .inr a :: As ∧ vwCl[kdY a]? = some q ∧ q.1 = yX9_part.cls := by
  intro as M h
  unfold P_X9_part at h
  split at h
  · exact ⟨_, _, (RX9, TX9, 20), rfl, by rw [h.1]; rfl, rfl⟩
  · exact h.elim
def ct_X9_part : List (Nat × CS) := [(8, (1, 0, P_X9_layLabels, C_X9_layLabels))]
def J_X9_part (I15 : Nat → Int → Mem → Int → Int → Mem → Nat → Prop) (p : Nat) (k : Int) (M0 : Mem) : IT := fun pc ls st M μ => match pc, ls, st, M, μ with
  | 15, [some (.inr p_), some (.inl k_), some (.inl c), some (.inl t)], [], M, μ => p = p_ ∧ k = k_ ∧ I15 p k M0 c t M μ
  | _, _, _, _, _ => False
def JA_X9_part (I15 : Nat → Int → Mem → Int → Int → Mem → Nat → Prop) (as : List AV) (M0 : Mem) : IT := match as with
  | [.inr p, .inl k] => J_X9_part I15 p k M0
  | _ => fun _ _ _ _ _ => False
theorem si_X9_part_8 {l : Launch} {D : va_G} {cy : Nat → ClassId} {ad : Nat → Nat} (o : OK_X9_layLabels l D cy ad) : Site l D cy ad kdY lnY 12 yX9_part.cls tbX9_part rm_X9_part 8 (1, 0, P_X9_layLabels, C_X9_layLabels) := Or.inl ⟨113, 0, yX9_layLabels, cX9_layLabels, 2, none, rm_X9_layLabels, rfl, rfl, o, ca_X9_layLabels, mkX9_113, ⟨rfl, rfl, by decide, by decide⟩, rv_X9_layLabels⟩
set_option maxRecDepth 100000 in
set_option maxHeartbeats 4000000 in
theorem met_X9_part {l : Launch} {D : va_G} {cy : Nat → ClassId} {ad : Nat → Nat} (hA : jA ad 12) (o_X9_layLabels : OK_X9_layLabels l D cy ad) (I15 : Nat → Int → Mem → Int → Int → Mem → Nat → Prop)
    (hent : ∀ (p : Nat) (k : Int) (M0 : Mem), p_X9_part p k M0 → okM M0 → inR k → ((0 : Int) ≤ k → (p_X9_layLabels p M0 ∧ ∀ (x2 : Int) (M1 : Mem), inR x2 → okM M1 → c_X9_layLabels p M0 x2 M1 → (∃ μ : Nat, p = p ∧ k = k ∧ I15 p k M0 0 0 M1 μ))) ∧ (¬ (0 : Int) ≤ k → ((True) ∧ c_X9_part p k M0 (-2) M0)))
    (hc15 : ∀ (p : Nat) (k : Int) (M0 : Mem), p_X9_part p k M0 → okM M0 → inR k → ∀ (c : Int) (t : Int) (M : Mem) (n : Nat), I15 p k M0 c t M n → okM M → kdY p = 9 ∧ (((M p 2) ≤ t → ((True) ∧ c_X9_part p k M0 (-5) M)) ∧ (¬ (M p 2) ≤ t → (kdY p = 9 ∧ (kdY 5 = 21 ∧ (0 ≤ t ∧ t < 144) ∧ ((¬ (M 5 (t).toNat) = t → (inR (t + 1) ∧ (∃ μ : Nat, μ < n ∧ p = p ∧ k = k ∧ I15 p k M0 c (t + 1) M μ))) ∧ (¬ (¬ (M 5 (t).toNat) = t) → ((¬ c = k → (inR (c + 1) ∧ (inR (t + 1) ∧ (∃ μ : Nat, μ < n ∧ p = p ∧ k = k ∧ I15 p k M0 (c + 1) (t + 1) M μ)))) ∧ (¬ (¬ c = k) → ((True) ∧ c_X9_part p k M0 t M))))))))))
    : OK_X9_part l D cy ad := by
  refine met_of (tb := tbX9_part) (ft := ftX9) (cst := cstY) (ct := ct_X9_part) (cuts := [15]) 32 (JA_X9_part I15) hA jWY (by decide) tbX9_part_ok (by decide) ftX9_ok cstY_ok (ldc_of (tb := tbX9_part) (cst := cstY) (by decide)) rfl (List.forall_mem_cons.mpr ⟨si_X9_part_8 o_X9_layLabels, fun q h => absurd h List.not_mem_nil⟩) ?_ ?_ ?_
  · intro as M0 h
    unfold P_X9_part at h
    split at h
    · exact Nat.le_of_ble_eq_true rfl
    · exact h.elim
  · intro as M0 h hM has
    unfold P_X9_part at h
    split at h
    next p k => exact hent p k M0 h hM (has k (by simp))
    · exact h.elim
  · intro as M0 h hM has pc ls st M n hI hM1
    unfold P_X9_part at h
    split at h
    next p k =>
      unfold JA_X9_part J_X9_part at hI
      dsimp only at hI
      split at hI
      ·
        obtain ⟨rfl, rfl, hI⟩ := hI
        exact hc15 _ _ _ h hM (has _ (by simp)) _ _ _ _ hI hM1
      · exact hI.elim
    · exact h.elim
abbrev p_X9_ofPart (p : Nat) (f : Int) (w : Int) (M : Mem) : Prop := kdY p = 9 ∧ p = 0 ∧ (∃ σ, absY M σ)
abbrev c_X9_ofPart (p : Nat) (f : Int) (w : Int) (M : Mem) (x : Int) (M' : Mem) : Prop := ∀ σ, absY M σ → x = F_ofPart σ f w ∧ absY M' σ
def P_X9_ofPart (as : List AV) (M : Mem) : Prop := match as with
  | [.inr p, .inl f, .inl w] => p_X9_ofPart p f w M
  | _ => False
def C_X9_ofPart (as : List AV) (M : Mem) (x : Int) (M' : Mem) : Prop := match as with
  | [.inr p, .inl f, .inl w] => c_X9_ofPart p f w M x M'
  | _ => False
abbrev rm_X9_ofPart : Room := { frames := 5, cells := 0, slots := 0, locals := 123 }
abbrev OK_X9_ofPart (l : Launch) (D : va_G) (cy : Nat → ClassId) (ad : Nat → Nat) : Prop := MetA l D cy ad kdY lnY 12 yX9_ofPart cX9_ofPart 3 (some .int) rm_X9_ofPart 1 P_X9_ofPart C_X9_ofPart
theorem ca_X9_ofPart : CalV yX9_ofPart cX9_ofPart 3 (some .int) 2 := ⟨⟨wcX9_ofPart, wnX9, by decide +kernel, by decide +kernel, by decide +kernel⟩, wiX9_ofPart, wlX9_ofPart⟩
theorem rv_X9_ofPart : ∀ as M, P_X9_ofPart as M → ∃ a As q, as = .inr a :: As ∧ vwCl[kdY a]? = some q ∧ q.1 = yX9_ofPart.cls := by
  intro as M h
  unfold P_X9_ofPart at h
  split at h
  · exact ⟨_, _, (RX9, TX9, 20), rfl, by rw [h.1]; rfl, rfl⟩
  · exact h.elim
def ct_X9_ofPart : List (Nat × CS) := [(1, (1, 0, P_X9_layLabels, C_X9_layLabels)), (6, (2, 2, P_X9_noTile, C_X9_noTile)), (81, (2, 1, P_X9_sizeOf, C_X9_sizeOf)), (88, (3, 1, P_X9_border, C_X9_border)), (95, (3, 1, P_X9_border, C_X9_border)), (101, (2, 1, P_X9_loops, C_X9_loops)), (107, (2, 2, P_X9_isOneSided, C_X9_isOneSided)), (121, (2, 1, P_X9_besides, C_X9_besides)), (127, (2, 1, P_X9_reach, C_X9_reach))]
def J_X9_ofPart  (p : Nat) (f : Int) (w : Int) (M0 : Mem) : IT := fun pc ls st M μ => match pc, ls, st, M, μ with
  | _, _, _, _, _ => False
def JA_X9_ofPart  (as : List AV) (M0 : Mem) : IT := match as with
  | [.inr p, .inl f, .inl w] => J_X9_ofPart  p f w M0
  | _ => fun _ _ _ _ _ => False
theorem si_X9_ofPart_1 {l : Launch} {D : va_G} {cy : Nat → ClassId} {ad : Nat → Nat} (o : OK_X9_layLabels l D cy ad) : Site l D cy ad kdY lnY 12 yX9_ofPart.cls tbX9_ofPart rm_X9_ofPart 1 (1, 0, P_X9_layLabels, C_X9_layLabels) := Or.inl ⟨113, 0, yX9_layLabels, cX9_layLabels, 2, none, rm_X9_layLabels, rfl, rfl, o, ca_X9_layLabels, mkX9_113, ⟨rfl, rfl, by decide, by decide⟩, rv_X9_layLabels⟩
theorem si_X9_ofPart_6 {l : Launch} {D : va_G} {cy : Nat → ClassId} {ad : Nat → Nat} (o : OK_X9_noTile l D cy ad) : Site l D cy ad kdY lnY 12 yX9_ofPart.cls tbX9_ofPart rm_X9_ofPart 6 (2, 2, P_X9_noTile, C_X9_noTile) := Or.inl ⟨99, 1, yX9_noTile, cX9_noTile, 2, (some .boolean), rm_X9_noTile, rfl, rfl, o, ca_X9_noTile, mkX9_99, ⟨rfl, rfl, by decide, by decide⟩, rv_X9_noTile⟩
theorem si_X9_ofPart_81 {l : Launch} {D : va_G} {cy : Nat → ClassId} {ad : Nat → Nat} (o : OK_X9_sizeOf l D cy ad) : Site l D cy ad kdY lnY 12 yX9_ofPart.cls tbX9_ofPart rm_X9_ofPart 81 (2, 1, P_X9_sizeOf, C_X9_sizeOf) := Or.inl ⟨120, 1, yX9_sizeOf, cX9_sizeOf, 4, (some .int), rm_X9_sizeOf, rfl, rfl, o, ca_X9_sizeOf, mkX9_120, ⟨rfl, rfl, by decide, by decide⟩, rv_X9_sizeOf⟩
theorem si_X9_ofPart_88 {l : Launch} {D : va_G} {cy : Nat → ClassId} {ad : Nat → Nat} (o : OK_X9_border l D cy ad) : Site l D cy ad kdY lnY 12 yX9_ofPart.cls tbX9_ofPart rm_X9_ofPart 88 (3, 1, P_X9_border, C_X9_border) := Or.inl ⟨123, 2, yX9_border, cX9_border, 8, (some .int), rm_X9_border, rfl, rfl, o, ca_X9_border, mkX9_123, ⟨rfl, rfl, by decide, by decide⟩, rv_X9_border⟩
theorem si_X9_ofPart_95 {l : Launch} {D : va_G} {cy : Nat → ClassId} {ad : Nat → Nat} (o : OK_X9_border l D cy ad) : Site l D cy ad kdY lnY 12 yX9_ofPart.cls tbX9_ofPart rm_X9_ofPart 95 (3, 1, P_X9_border, C_X9_border) := Or.inl ⟨123, 2, yX9_border, cX9_border, 8, (some .int), rm_X9_border, rfl, rfl, o, ca_X9_border, mkX9_123, ⟨rfl, rfl, by decide, by decide⟩, rv_X9_border⟩
theorem si_X9_ofPart_101 {l : Launch} {D : va_G} {cy : Nat → ClassId} {ad : Nat → Nat} (o : OK_X9_loops l D cy ad) : Site l D cy ad kdY lnY 12 yX9_ofPart.cls tbX9_ofPart rm_X9_ofPart 101 (2, 1, P_X9_loops, C_X9_loops) := Or.inl ⟨116, 1, yX9_loops, cX9_loops, 9, (some .int), rm_X9_loops, rfl, rfl, o, ca_X9_loops, mkX9_116, ⟨rfl, rfl, by decide, by decide⟩, rv_X9_loops⟩
theorem si_X9_ofPart_107 {l : Launch} {D : va_G} {cy : Nat → ClassId} {ad : Nat → Nat} (o : OK_X9_isOneSided l D cy ad) : Site l D cy ad kdY lnY 12 yX9_ofPart.cls tbX9_ofPart rm_X9_ofPart 107 (2, 2, P_X9_isOneSided, C_X9_isOneSided) := Or.inl ⟨127, 1, yX9_isOneSided, cX9_isOneSided, 6, (some .boolean), rm_X9_isOneSided, rfl, rfl, o, ca_X9_isOneSided, mkX9_127, ⟨rfl, rfl, by decide, by decide⟩, rv_X9_isOneSided⟩
theorem si_X9_ofPart_121 {l : Launch} {D : va_G} {cy : Nat → ClassId} {ad : Nat → Nat} (o : OK_X9_besides l D cy ad) : Site l D cy ad kdY lnY 12 yX9_ofPart.cls tbX9_ofPart rm_X9_ofPart 121 (2, 1, P_X9_besides, C_X9_besides) := Or.inl ⟨130, 1, yX9_besides, cX9_besides, 5, (some .int), rm_X9_besides, rfl, rfl, o, ca_X9_besides, mkX9_130, ⟨rfl, rfl, by decide, by decide⟩, rv_X9_besides⟩
theorem si_X9_ofPart_127 {l : Launch} {D : va_G} {cy : Nat → ClassId} {ad : Nat → Nat} (o : OK_X9_reach l D cy ad) : Site l D cy ad kdY lnY 12 yX9_ofPart.cls tbX9_ofPart rm_X9_ofPart 127 (2, 1, P_X9_reach, C_X9_reach) := Or.inl ⟨133, 1, yX9_reach, cX9_reach, 4, (some .int), rm_X9_reach, rfl, rfl, o, ca_X9_reach, mkX9_133, ⟨rfl, rfl, by decide, by decide⟩, rv_X9_reach⟩
set_option maxRecDepth 100000 in
set_option maxHeartbeats 4000000 in
theorem met_X9_ofPart {l : Launch} {D : va_G} {cy : Nat → ClassId} {ad : Nat → Nat} (hA : jA ad 12) (o_X9_besides : OK_X9_besides l D cy ad) (o_X9_border : OK_X9_border l D cy ad) (o_X9_isOneSided : OK_X9_isOneSided l D cy ad) (o_X9_layLabels : OK_X9_layLabels l D cy ad) (o_X9_loops : OK_X9_loops l D cy ad) (o_X9_noTile : OK_X9_noTile l D cy ad) (o_X9_reach : OK_X9_reach l D cy ad) (o_X9_sizeOf : OK_X9_sizeOf l D cy ad) 
    (hent : ∀ (p : Nat) (f : Int) (w : Int) (M0 : Mem), p_X9_ofPart p f w M0 → okM M0 → inR f → inR w → p_X9_layLabels p M0 ∧ ∀ (x2 : Int) (M1 : Mem), inR x2 → okM M1 → c_X9_layLabels p M0 x2 M1 → (p_X9_noTile p f M1 ∧ ∀ (x4 : Int) (M3 : Mem), inR x4 → okM M3 → c_X9_noTile p f M1 x4 M3 → ((¬ x4 = (0 : Int) → ((True) ∧ c_X9_ofPart p f w M0 (-1) M3)) ∧ (¬ (¬ x4 = (0 : Int)) → (kdY p = 9 ∧ (kdY 5 = 21 ∧ (0 ≤ f ∧ f < 144) ∧ (((M3 5 (f).toNat) = f → (((w < 0 ∨ 7 < w) → ((True) ∧ c_X9_ofPart p f w M0 (-2) M3)) ∧ ((w = 0 → (kdY p = 9 ∧ (kdY 1 = 21 ∧ (0 ≤ f ∧ f < 144) ∧ ((True) ∧ c_X9_ofPart p f w M0 (M3 1 (f).toNat) M3)))) ∧ ((w = 0 + 1 → (p_X9_sizeOf p f M3 ∧ ∀ (x6 : Int) (M5 : Mem), inR x6 → okM M5 → c_X9_sizeOf p f M3 x6 M5 → ((True) ∧ c_X9_ofPart p f w M0 x6 M5))) ∧ ((w = 0 + 1 + 1 → (p_X9_border p f 0 M3 ∧ ∀ (x8 : Int) (M7 : Mem), inR x8 → okM M7 → c_X9_border p f 0 M3 x8 M7 → ((True) ∧ c_X9_ofPart p f w M0 x8 M7))) ∧ ((w = 0 + 1 + 1 + 1 → (p_X9_border p f 1 M3 ∧ ∀ (x10 : Int) (M9 : Mem), inR x10 → okM M9 → c_X9_border p f 1 M3 x10 M9 → ((True) ∧ c_X9_ofPart p f w M0 x10 M9))) ∧ ((w = 0 + 1 + 1 + 1 + 1 → (p_X9_loops p f M3 ∧ ∀ (x12 : Int) (M11 : Mem), inR x12 → okM M11 → c_X9_loops p f M3 x12 M11 → ((True) ∧ c_X9_ofPart p f w M0 x12 M11))) ∧ ((w = 0 + 1 + 1 + 1 + 1 + 1 → (p_X9_isOneSided p f M3 ∧ ∀ (x14 : Int) (M13 : Mem), inR x14 → okM M13 → c_X9_isOneSided p f M3 x14 M13 → ((x14 = (0 : Int) → ((True) ∧ c_X9_ofPart p f w M0 0 M13)) ∧ (¬ x14 = (0 : Int) → ((True) ∧ c_X9_ofPart p f w M0 1 M13))))) ∧ ((w = 0 + 1 + 1 + 1 + 1 + 1 + 1 → (p_X9_besides p f M3 ∧ ∀ (x16 : Int) (M15 : Mem), inR x16 → okM M15 → c_X9_besides p f M3 x16 M15 → ((True) ∧ c_X9_ofPart p f w M0 x16 M15))) ∧ ((w = 0 + 1 + 1 + 1 + 1 + 1 + 1 + 1 → (p_X9_reach p f M3 ∧ ∀ (x18 : Int) (M17 : Mem), inR x18 → okM M17 → c_X9_reach p f M3 x18 M17 → ((True) ∧ c_X9_ofPart p f w M0 x18 M17))) ∧ (True))))))))))) ∧ (¬ (M3 5 (f).toNat) = f → ((True) ∧ c_X9_ofPart p f w M0 (-1) M3)))))))))
    : OK_X9_ofPart l D cy ad := by
  refine met_of (tb := tbX9_ofPart) (ft := ftX9) (cst := cstY) (ct := ct_X9_ofPart) (cuts := []) 59 (JA_X9_ofPart ) hA jWY (by decide) tbX9_ofPart_ok (by decide) ftX9_ok cstY_ok (ldc_of (tb := tbX9_ofPart) (cst := cstY) (by decide)) rfl (List.forall_mem_cons.mpr ⟨si_X9_ofPart_1 o_X9_layLabels, List.forall_mem_cons.mpr ⟨si_X9_ofPart_6 o_X9_noTile, List.forall_mem_cons.mpr ⟨si_X9_ofPart_81 o_X9_sizeOf, List.forall_mem_cons.mpr ⟨si_X9_ofPart_88 o_X9_border, List.forall_mem_cons.mpr ⟨si_X9_ofPart_95 o_X9_border, List.forall_mem_cons.mpr ⟨si_X9_ofPart_101 o_X9_loops, List.forall_mem_cons.mpr ⟨si_X9_ofPart_107 o_X9_isOneSided, List.forall_mem_cons.mpr ⟨si_X9_ofPart_121 o_X9_besides, List.forall_mem_cons.mpr ⟨si_X9_ofPart_127 o_X9_reach, fun q h => absurd h List.not_mem_nil⟩⟩⟩⟩⟩⟩⟩⟩⟩) ?_ ?_ ?_
  · intro as M0 h
    unfold P_X9_ofPart at h
    split at h
    · exact Nat.le_of_ble_eq_true rfl
    · exact h.elim
  · intro as M0 h hM has
    unfold P_X9_ofPart at h
    split at h
    next p f w => exact hent p f w M0 h hM (has f (by simp)) (has w (by simp))
    · exact h.elim
  · intro as M0 h hM has pc ls st M n hI hM1
    unfold P_X9_ofPart at h
    split at h
    · exact hI.elim
    · exact h.elim
abbrev p_X9_greatestPart (p : Nat) (k : Int) (M : Mem) : Prop := kdY p = 9 ∧ p = 0 ∧ (∃ σ, absY M σ)
abbrev c_X9_greatestPart (p : Nat) (k : Int) (M : Mem) (x : Int) (M' : Mem) : Prop := ∀ σ, absY M σ → x = F_greatestPart σ k ∧ absY M' σ
def P_X9_greatestPart (as : List AV) (M : Mem) : Prop := match as with
  | [.inr p, .inl k] => p_X9_greatestPart p k M
  | _ => False
def C_X9_greatestPart (as : List AV) (M : Mem) (x : Int) (M' : Mem) : Prop := match as with
  | [.inr p, .inl k] => c_X9_greatestPart p k M x M'
  | _ => False
abbrev rm_X9_greatestPart : Room := { frames := 5, cells := 0, slots := 0, locals := 117 }
abbrev OK_X9_greatestPart (l : Launch) (D : va_G) (cy : Nat → ClassId) (ad : Nat → Nat) : Prop := MetA l D cy ad kdY lnY 12 yX9_greatestPart cX9_greatestPart 5 (some .int) rm_X9_greatestPart 1 P_X9_greatestPart C_X9_greatestPart
theorem ca_X9_greatestPart : CalV yX9_greatestPart cX9_greatestPart 5 (some .int) 1 := ⟨⟨wcX9_greatestPart, wnX9, by decide +kernel, by decide +kernel, by decide +kernel⟩, wiX9_greatestPart, wlX9_greatestPart⟩
theorem rv_X9_greatestPart : ∀ as M, P_X9_greatestPart as M → ∃ a As q, as = .inr a :: As ∧ vwCl[kdY a]? = some q ∧ q.1 = yX9_greatestPart.cls := by
  intro as M h
  unfold P_X9_greatestPart at h
  split at h
  · exact ⟨_, _, (RX9, TX9, 20), rfl, by rw [h.1]; rfl, rfl⟩
  · exact h.elim
def ct_X9_greatestPart : List (Nat × CS) := [(1, (1, 2, P_X9_isKind, C_X9_isKind)), (11, (1, 0, P_X9_layLabels, C_X9_layLabels)), (57, (2, 1, P_X9_sizeOf, C_X9_sizeOf)), (70, (2, 1, P_X9_sizeOf, C_X9_sizeOf))]
def J_X9_greatestPart (I22 : Nat → Int → Mem → Int → Int → Int → Mem → Nat → Prop) (p : Nat) (k : Int) (M0 : Mem) : IT := fun pc ls st M μ => match pc, ls, st, M, μ with
  | 22, [some (.inr p_), some (.inl k_), some (.inl b), some (.inl m), some (.inl t)], [], M, μ => p = p_ ∧ k = k_ ∧ I22 p k M0 b m t M μ
  | _, _, _, _, _ => False
def JA_X9_greatestPart (I22 : Nat → Int → Mem → Int → Int → Int → Mem → Nat → Prop) (as : List AV) (M0 : Mem) : IT := match as with
  | [.inr p, .inl k] => J_X9_greatestPart I22 p k M0
  | _ => fun _ _ _ _ _ => False
theorem si_X9_greatestPart_1 {l : Launch} {D : va_G} {cy : Nat → ClassId} {ad : Nat → Nat} (o : OK_X9_isKind l D cy ad) : Site l D cy ad kdY lnY 12 yX9_greatestPart.cls tbX9_greatestPart rm_X9_greatestPart 1 (1, 2, P_X9_isKind, C_X9_isKind) := Or.inr (Or.inl ⟨136, 1, yX9_isKind, cX9_isKind, 1, (some .boolean), rm_X9_isKind, rfl, rfl, o, ca_X9_isKind, mkX9_136, rfl, ⟨rfl, rfl, by decide, by decide⟩⟩)
theorem si_X9_greatestPart_11 {l : Launch} {D : va_G} {cy : Nat → ClassId} {ad : Nat → Nat} (o : OK_X9_layLabels l D cy ad) : Site l D cy ad kdY lnY 12 yX9_greatestPart.cls tbX9_greatestPart rm_X9_greatestPart 11 (1, 0, P_X9_layLabels, C_X9_layLabels) := Or.inl ⟨113, 0, yX9_layLabels, cX9_layLabels, 2, none, rm_X9_layLabels, rfl, rfl, o, ca_X9_layLabels, mkX9_113, ⟨rfl, rfl, by decide, by decide⟩, rv_X9_layLabels⟩
theorem si_X9_greatestPart_57 {l : Launch} {D : va_G} {cy : Nat → ClassId} {ad : Nat → Nat} (o : OK_X9_sizeOf l D cy ad) : Site l D cy ad kdY lnY 12 yX9_greatestPart.cls tbX9_greatestPart rm_X9_greatestPart 57 (2, 1, P_X9_sizeOf, C_X9_sizeOf) := Or.inl ⟨120, 1, yX9_sizeOf, cX9_sizeOf, 4, (some .int), rm_X9_sizeOf, rfl, rfl, o, ca_X9_sizeOf, mkX9_120, ⟨rfl, rfl, by decide, by decide⟩, rv_X9_sizeOf⟩
theorem si_X9_greatestPart_70 {l : Launch} {D : va_G} {cy : Nat → ClassId} {ad : Nat → Nat} (o : OK_X9_sizeOf l D cy ad) : Site l D cy ad kdY lnY 12 yX9_greatestPart.cls tbX9_greatestPart rm_X9_greatestPart 70 (2, 1, P_X9_sizeOf, C_X9_sizeOf) := Or.inl ⟨120, 1, yX9_sizeOf, cX9_sizeOf, 4, (some .int), rm_X9_sizeOf, rfl, rfl, o, ca_X9_sizeOf, mkX9_120, ⟨rfl, rfl, by decide, by decide⟩, rv_X9_sizeOf⟩
set_option maxRecDepth 100000 in
set_option maxHeartbeats 4000000 in
theorem met_X9_greatestPart {l : Launch} {D : va_G} {cy : Nat → ClassId} {ad : Nat → Nat} (hA : jA ad 12) (o_X9_isKind : OK_X9_isKind l D cy ad) (o_X9_layLabels : OK_X9_layLabels l D cy ad) (o_X9_sizeOf : OK_X9_sizeOf l D cy ad) (I22 : Nat → Int → Mem → Int → Int → Int → Mem → Nat → Prop)
    (hent : ∀ (p : Nat) (k : Int) (M0 : Mem), p_X9_greatestPart p k M0 → okM M0 → inR k → p_X9_isKind k M0 ∧ ∀ (x2 : Int) (M1 : Mem), inR x2 → okM M1 → c_X9_isKind k M0 x2 M1 → ((¬ x2 = (0 : Int) → (p_X9_layLabels p M1 ∧ ∀ (x4 : Int) (M3 : Mem), inR x4 → okM M3 → c_X9_layLabels p M1 x4 M3 → (∃ μ : Nat, p = p ∧ k = k ∧ I22 p k M0 (-5) 0 0 M3 μ))) ∧ (¬ (¬ x2 = (0 : Int)) → ((True) ∧ c_X9_greatestPart p k M0 (-2) M1))))
    (hc22 : ∀ (p : Nat) (k : Int) (M0 : Mem), p_X9_greatestPart p k M0 → okM M0 → inR k → ∀ (b : Int) (m : Int) (t : Int) (M : Mem) (n : Nat), I22 p k M0 b m t M n → okM M → kdY p = 9 ∧ (((M p 2) ≤ t → ((True) ∧ c_X9_greatestPart p k M0 b M)) ∧ (¬ (M p 2) ≤ t → (kdY p = 9 ∧ (kdY 5 = 21 ∧ (0 ≤ t ∧ t < 144) ∧ ((¬ (M 5 (t).toNat) = t → (inR (t + 1) ∧ (∃ μ : Nat, μ < n ∧ p = p ∧ k = k ∧ I22 p k M0 b m (t + 1) M μ))) ∧ (¬ (¬ (M 5 (t).toNat) = t) → (kdY p = 9 ∧ (kdY 1 = 21 ∧ (0 ≤ t ∧ t < 144) ∧ ((¬ (M 1 (t).toNat) = k → (inR (t + 1) ∧ (∃ μ : Nat, μ < n ∧ p = p ∧ k = k ∧ I22 p k M0 b m (t + 1) M μ))) ∧ (¬ (¬ (M 1 (t).toNat) = k) → (p_X9_sizeOf p t M ∧ ∀ (x2 : Int) (M1 : Mem), inR x2 → okM M1 → c_X9_sizeOf p t M x2 M1 → ((x2 ≤ m → (inR (t + 1) ∧ (∃ μ : Nat, μ < n ∧ p = p ∧ k = k ∧ I22 p k M0 b m (t + 1) M1 μ))) ∧ (¬ x2 ≤ m → (p_X9_sizeOf p t M1 ∧ ∀ (x4 : Int) (M3 : Mem), inR x4 → okM M3 → c_X9_sizeOf p t M1 x4 M3 → (inR (t + 1) ∧ (∃ μ : Nat, μ < n ∧ p = p ∧ k = k ∧ I22 p k M0 t x4 (t + 1) M3 μ)))))))))))))))))
    : OK_X9_greatestPart l D cy ad := by
  refine met_of (tb := tbX9_greatestPart) (ft := ftX9) (cst := cstY) (ct := ct_X9_greatestPart) (cuts := [22]) 46 (JA_X9_greatestPart I22) hA jWY (by decide) tbX9_greatestPart_ok (by decide) ftX9_ok cstY_ok (ldc_of (tb := tbX9_greatestPart) (cst := cstY) (by decide)) rfl (List.forall_mem_cons.mpr ⟨si_X9_greatestPart_1 o_X9_isKind, List.forall_mem_cons.mpr ⟨si_X9_greatestPart_11 o_X9_layLabels, List.forall_mem_cons.mpr ⟨si_X9_greatestPart_57 o_X9_sizeOf, List.forall_mem_cons.mpr ⟨si_X9_greatestPart_70 o_X9_sizeOf, fun q h => absurd h List.not_mem_nil⟩⟩⟩⟩) ?_ ?_ ?_
  · intro as M0 h
    unfold P_X9_greatestPart at h
    split at h
    · exact Nat.le_of_ble_eq_true rfl
    · exact h.elim
  · intro as M0 h hM has
    unfold P_X9_greatestPart at h
    split at h
    next p k => exact hent p k M0 h hM (has k (by simp))
    · exact h.elim
  · intro as M0 h hM has pc ls st M n hI hM1
    unfold P_X9_greatestPart at h
    split at h
    next p k =>
      unfold JA_X9_greatestPart J_X9_greatestPart at hI
      dsimp only at hI
      split at hI
      ·
        obtain ⟨rfl, rfl, hI⟩ := hI
        exact hc22 _ _ _ h hM (has _ (by simp)) _ _ _ _ _ hI hM1
      · exact hI.elim
    · exact h.elim
abbrev p_X9_partsIf (p : Nat) (t : Int) (k : Int) (M : Mem) : Prop := kdY p = 9 ∧ p = 0 ∧ (∃ σ, absY M σ)
abbrev c_X9_partsIf (p : Nat) (t : Int) (k : Int) (M : Mem) (x : Int) (M' : Mem) : Prop := ∀ σ, absY M σ → x = F_partsIf σ t k ∧ absY M' σ
def P_X9_partsIf (as : List AV) (M : Mem) : Prop := match as with
  | [.inr p, .inl t, .inl k] => p_X9_partsIf p t k M
  | _ => False
def C_X9_partsIf (as : List AV) (M : Mem) (x : Int) (M' : Mem) : Prop := match as with
  | [.inr p, .inl t, .inl k] => c_X9_partsIf p t k M x M'
  | _ => False
abbrev rm_X9_partsIf : Room := { frames := 6, cells := 0, slots := 0, locals := 139 }
abbrev OK_X9_partsIf (l : Launch) (D : va_G) (cy : Nat → ClassId) (ad : Nat → Nat) : Prop := MetA l D cy ad kdY lnY 12 yX9_partsIf cX9_partsIf 5 (some .int) rm_X9_partsIf 1 P_X9_partsIf C_X9_partsIf
theorem ca_X9_partsIf : CalV yX9_partsIf cX9_partsIf 5 (some .int) 2 := ⟨⟨wcX9_partsIf, wnX9, by decide +kernel, by decide +kernel, by decide +kernel⟩, wiX9_partsIf, wlX9_partsIf⟩
theorem rv_X9_partsIf : ∀ as M, P_X9_partsIf as M → ∃ a As q, as = .inr a :: As ∧ vwCl[kdY a]? = some q ∧ q.1 = yX9_partsIf.cls := by
  intro as M h
  unfold P_X9_partsIf at h
  split at h
  · exact ⟨_, _, (RX9, TX9, 20), rfl, by rw [h.1]; rfl, rfl⟩
  · exact h.elim
def ct_X9_partsIf : List (Nat × CS) := [(2, (2, 2, P_X9_noTile, C_X9_noTile)), (11, (1, 2, P_X9_isKind, C_X9_isKind)), (35, (1, 1, P_X9_parts, C_X9_parts))]
def J_X9_partsIf  (p : Nat) (t : Int) (k : Int) (M0 : Mem) : IT := fun pc ls st M μ => match pc, ls, st, M, μ with
  | _, _, _, _, _ => False
def JA_X9_partsIf  (as : List AV) (M0 : Mem) : IT := match as with
  | [.inr p, .inl t, .inl k] => J_X9_partsIf  p t k M0
  | _ => fun _ _ _ _ _ => False
theorem si_X9_partsIf_2 {l : Launch} {D : va_G} {cy : Nat → ClassId} {ad : Nat → Nat} (o : OK_X9_noTile l D cy ad) : Site l D cy ad kdY lnY 12 yX9_partsIf.cls tbX9_partsIf rm_X9_partsIf 2 (2, 2, P_X9_noTile, C_X9_noTile) := Or.inl ⟨99, 1, yX9_noTile, cX9_noTile, 2, (some .boolean), rm_X9_noTile, rfl, rfl, o, ca_X9_noTile, mkX9_99, ⟨rfl, rfl, by decide, by decide⟩, rv_X9_noTile⟩
theorem si_X9_partsIf_11 {l : Launch} {D : va_G} {cy : Nat → ClassId} {ad : Nat → Nat} (o : OK_X9_isKind l D cy ad) : Site l D cy ad kdY lnY 12 yX9_partsIf.cls tbX9_partsIf rm_X9_partsIf 11 (1, 2, P_X9_isKind, C_X9_isKind) := Or.inr (Or.inl ⟨136, 1, yX9_isKind, cX9_isKind, 1, (some .boolean), rm_X9_isKind, rfl, rfl, o, ca_X9_isKind, mkX9_136, rfl, ⟨rfl, rfl, by decide, by decide⟩⟩)
theorem si_X9_partsIf_35 {l : Launch} {D : va_G} {cy : Nat → ClassId} {ad : Nat → Nat} (o : OK_X9_parts l D cy ad) : Site l D cy ad kdY lnY 12 yX9_partsIf.cls tbX9_partsIf rm_X9_partsIf 35 (1, 1, P_X9_parts, C_X9_parts) := Or.inl ⟨92, 0, yX9_parts, cX9_parts, 3, (some .int), rm_X9_parts, rfl, rfl, o, ca_X9_parts, mkX9_92, ⟨rfl, rfl, by decide, by decide⟩, rv_X9_parts⟩
set_option maxRecDepth 100000 in
set_option maxHeartbeats 4000000 in
theorem met_X9_partsIf {l : Launch} {D : va_G} {cy : Nat → ClassId} {ad : Nat → Nat} (hA : jA ad 12) (o_X9_isKind : OK_X9_isKind l D cy ad) (o_X9_noTile : OK_X9_noTile l D cy ad) (o_X9_parts : OK_X9_parts l D cy ad) 
    (hent : ∀ (p : Nat) (t : Int) (k : Int) (M0 : Mem), p_X9_partsIf p t k M0 → okM M0 → inR t → inR k → p_X9_noTile p t M0 ∧ ∀ (x2 : Int) (M1 : Mem), inR x2 → okM M1 → c_X9_noTile p t M0 x2 M1 → ((x2 = (0 : Int) → (p_X9_isKind k M1 ∧ ∀ (x4 : Int) (M3 : Mem), inR x4 → okM M3 → c_X9_isKind k M1 x4 M3 → ((¬ x4 = (0 : Int) → (kdY p = 9 ∧ (kdY 1 = 21 ∧ (0 ≤ t ∧ t < 144) ∧ (kdY p = 9 ∧ (kdY 1 = 21 ∧ (0 ≤ t ∧ t < 144) ∧ (p_X9_parts p (up M3 1 (t).toNat k) ∧ ∀ (x6 : Int) (M5 : Mem), inR x6 → okM M5 → c_X9_parts p (up M3 1 (t).toNat k) x6 M5 → (kdY p = 9 ∧ (kdY 1 = 21 ∧ (0 ≤ t ∧ t < 144) ∧ ((True) ∧ c_X9_partsIf p t k M0 x6 (up M5 1 (t).toNat (M3 1 (t).toNat))))))))))) ∧ (¬ (¬ x4 = (0 : Int)) → ((True) ∧ c_X9_partsIf p t k M0 (-2) M3))))) ∧ (¬ x2 = (0 : Int) → ((True) ∧ c_X9_partsIf p t k M0 (-1) M1))))
    : OK_X9_partsIf l D cy ad := by
  refine met_of (tb := tbX9_partsIf) (ft := ftX9) (cst := cstY) (ct := ct_X9_partsIf) (cuts := []) 33 (JA_X9_partsIf ) hA jWY (by decide) tbX9_partsIf_ok (by decide) ftX9_ok cstY_ok (ldc_of (tb := tbX9_partsIf) (cst := cstY) (by decide)) rfl (List.forall_mem_cons.mpr ⟨si_X9_partsIf_2 o_X9_noTile, List.forall_mem_cons.mpr ⟨si_X9_partsIf_11 o_X9_isKind, List.forall_mem_cons.mpr ⟨si_X9_partsIf_35 o_X9_parts, fun q h => absurd h List.not_mem_nil⟩⟩⟩) ?_ ?_ ?_
  · intro as M0 h
    unfold P_X9_partsIf at h
    split at h
    · exact Nat.le_of_ble_eq_true rfl
    · exact h.elim
  · intro as M0 h hM has
    unfold P_X9_partsIf at h
    split at h
    next p t k => exact hent p t k M0 h hM (has t (by simp)) (has k (by simp))
    · exact h.elim
  · intro as M0 h hM has pc ls st M n hI hM1
    unfold P_X9_partsIf at h
    split at h
    · exact hI.elim
    · exact h.elim
abbrev p_X9_setWeight (p : Nat) (k : Int) (v : Int) (M : Mem) : Prop := kdY p = 9 ∧ p = 0 ∧ (∃ σ, absY M σ)
abbrev c_X9_setWeight (p : Nat) (k : Int) (v : Int) (M : Mem) (x : Int) (M' : Mem) : Prop := ∀ σ, absY M σ → x = F_setWeight σ k v ∧ absY M' (G_setWeight σ k v)
def P_X9_setWeight (as : List AV) (M : Mem) : Prop := match as with
  | [.inr p, .inl k, .inl v] => p_X9_setWeight p k v M
  | _ => False
def C_X9_setWeight (as : List AV) (M : Mem) (x : Int) (M' : Mem) : Prop := match as with
  | [.inr p, .inl k, .inl v] => c_X9_setWeight p k v M x M'
  | _ => False
abbrev rm_X9_setWeight : Room := { frames := 2, cells := 0, slots := 0, locals := 42 }
abbrev OK_X9_setWeight (l : Launch) (D : va_G) (cy : Nat → ClassId) (ad : Nat → Nat) : Prop := MetA l D cy ad kdY lnY 12 yX9_setWeight cX9_setWeight 4 (some .int) rm_X9_setWeight 1 P_X9_setWeight C_X9_setWeight
theorem ca_X9_setWeight : CalV yX9_setWeight cX9_setWeight 4 (some .int) 2 := ⟨⟨wcX9_setWeight, wnX9, by decide +kernel, by decide +kernel, by decide +kernel⟩, wiX9_setWeight, wlX9_setWeight⟩
theorem rv_X9_setWeight : ∀ as M, P_X9_setWeight as M → ∃ a As q, as = .inr a :: As ∧ vwCl[kdY a]? = some q ∧ q.1 = yX9_setWeight.cls := by
  intro as M h
  unfold P_X9_setWeight at h
  split at h
  · exact ⟨_, _, (RX9, TX9, 20), rfl, by rw [h.1]; rfl, rfl⟩
  · exact h.elim
def ct_X9_setWeight : List (Nat × CS) := [(1, (1, 2, P_X9_isKind, C_X9_isKind)), (11, (3, 2, P_X9_in, C_X9_in))]
def J_X9_setWeight  (p : Nat) (k : Int) (v : Int) (M0 : Mem) : IT := fun pc ls st M μ => match pc, ls, st, M, μ with
  | _, _, _, _, _ => False
def JA_X9_setWeight  (as : List AV) (M0 : Mem) : IT := match as with
  | [.inr p, .inl k, .inl v] => J_X9_setWeight  p k v M0
  | _ => fun _ _ _ _ _ => False
theorem si_X9_setWeight_1 {l : Launch} {D : va_G} {cy : Nat → ClassId} {ad : Nat → Nat} (o : OK_X9_isKind l D cy ad) : Site l D cy ad kdY lnY 12 yX9_setWeight.cls tbX9_setWeight rm_X9_setWeight 1 (1, 2, P_X9_isKind, C_X9_isKind) := Or.inr (Or.inl ⟨136, 1, yX9_isKind, cX9_isKind, 1, (some .boolean), rm_X9_isKind, rfl, rfl, o, ca_X9_isKind, mkX9_136, rfl, ⟨rfl, rfl, by decide, by decide⟩⟩)
theorem si_X9_setWeight_11 {l : Launch} {D : va_G} {cy : Nat → ClassId} {ad : Nat → Nat} (o : OK_X9_in l D cy ad) : Site l D cy ad kdY lnY 12 yX9_setWeight.cls tbX9_setWeight rm_X9_setWeight 11 (3, 2, P_X9_in, C_X9_in) := Or.inr (Or.inl ⟨49, 3, yX9_in, cX9_in, 3, (some .boolean), rm_X9_in, rfl, rfl, o, ca_X9_in, mkX9_49, rfl, ⟨rfl, rfl, by decide, by decide⟩⟩)
set_option maxRecDepth 100000 in
set_option maxHeartbeats 4000000 in
theorem met_X9_setWeight {l : Launch} {D : va_G} {cy : Nat → ClassId} {ad : Nat → Nat} (hA : jA ad 12) (o_X9_in : OK_X9_in l D cy ad) (o_X9_isKind : OK_X9_isKind l D cy ad) 
    (hent : ∀ (p : Nat) (k : Int) (v : Int) (M0 : Mem), p_X9_setWeight p k v M0 → okM M0 → inR k → inR v → p_X9_isKind k M0 ∧ ∀ (x2 : Int) (M1 : Mem), inR x2 → okM M1 → c_X9_isKind k M0 x2 M1 → ((x2 = (0 : Int) → ((True) ∧ c_X9_setWeight p k v M0 (-2) M1)) ∧ (¬ x2 = (0 : Int) → (p_X9_in v 0 9 M1 ∧ ∀ (x4 : Int) (M3 : Mem), inR x4 → okM M3 → c_X9_in v 0 9 M1 x4 M3 → ((¬ x4 = (0 : Int) → (kdY p = 9 ∧ (kdY 2 = 21 ∧ (0 ≤ k ∧ k < 6) ∧ (kdY p = 9 ∧ (kdY 2 = 21 ∧ (0 ≤ k ∧ k < 6) ∧ ((True) ∧ c_X9_setWeight p k v M0 (M3 2 (k).toNat) (up M3 2 (k).toNat v))))))) ∧ (¬ (¬ x4 = (0 : Int)) → ((True) ∧ c_X9_setWeight p k v M0 (-2) M3)))))))
    : OK_X9_setWeight l D cy ad := by
  refine met_of (tb := tbX9_setWeight) (ft := ftX9) (cst := cstY) (ct := ct_X9_setWeight) (cuts := []) 24 (JA_X9_setWeight ) hA jWY (by decide) tbX9_setWeight_ok (by decide) ftX9_ok cstY_ok (ldc_of (tb := tbX9_setWeight) (cst := cstY) (by decide)) rfl (List.forall_mem_cons.mpr ⟨si_X9_setWeight_1 o_X9_isKind, List.forall_mem_cons.mpr ⟨si_X9_setWeight_11 o_X9_in, fun q h => absurd h List.not_mem_nil⟩⟩) ?_ ?_ ?_
  · intro as M0 h
    unfold P_X9_setWeight at h
    split at h
    · exact Nat.le_of_ble_eq_true rfl
    · exact h.elim
  · intro as M0 h hM has
    unfold P_X9_setWeight at h
    split at h
    next p k v => exact hent p k v M0 h hM (has k (by simp)) (has v (by simp))
    · exact h.elim
  · intro as M0 h hM has pc ls st M n hI hM1
    unfold P_X9_setWeight at h
    split at h
    · exact hI.elim
    · exact h.elim
abbrev p_X9_distance (p : Nat) (t : Int) (o : Int) (M : Mem) : Prop := kdY p = 9 ∧ p = 0 ∧ (∃ σ, absY M σ)
abbrev c_X9_distance (p : Nat) (t : Int) (o : Int) (M : Mem) (x : Int) (M' : Mem) : Prop := ∀ σ, absY M σ → x = F_distance σ t o ∧ absY M' σ
def P_X9_distance (as : List AV) (M : Mem) : Prop := match as with
  | [.inr p, .inl t, .inl o] => p_X9_distance p t o M
  | _ => False
def C_X9_distance (as : List AV) (M : Mem) (x : Int) (M' : Mem) : Prop := match as with
  | [.inr p, .inl t, .inl o] => c_X9_distance p t o M x M'
  | _ => False
abbrev rm_X9_distance : Room := { frames := 4, cells := 0, slots := 0, locals := 96 }
abbrev OK_X9_distance (l : Launch) (D : va_G) (cy : Nat → ClassId) (ad : Nat → Nat) : Prop := MetA l D cy ad kdY lnY 12 yX9_distance cX9_distance 3 (some .int) rm_X9_distance 1 P_X9_distance C_X9_distance
theorem ca_X9_distance : CalV yX9_distance cX9_distance 3 (some .int) 2 := ⟨⟨wcX9_distance, wnX9, by decide +kernel, by decide +kernel, by decide +kernel⟩, wiX9_distance, wlX9_distance⟩
theorem rv_X9_distance : ∀ as M, P_X9_distance as M → ∃ a As q, as = .inr a :: As ∧ vwCl[kdY a]? = some q ∧ q.1 = yX9_distance.cls := by
  intro as M h
  unfold P_X9_distance at h
  split at h
  · exact ⟨_, _, (RX9, TX9, 20), rfl, by rw [h.1]; rfl, rfl⟩
  · exact h.elim
def ct_X9_distance : List (Nat × CS) := [(2, (2, 2, P_X9_noTile, C_X9_noTile)), (10, (2, 2, P_X9_noTile, C_X9_noTile)), (20, (2, 0, P_X9_layDistances, C_X9_layDistances))]
def J_X9_distance  (p : Nat) (t : Int) (o : Int) (M0 : Mem) : IT := fun pc ls st M μ => match pc, ls, st, M, μ with
  | _, _, _, _, _ => False
def JA_X9_distance  (as : List AV) (M0 : Mem) : IT := match as with
  | [.inr p, .inl t, .inl o] => J_X9_distance  p t o M0
  | _ => fun _ _ _ _ _ => False
theorem si_X9_distance_2 {l : Launch} {D : va_G} {cy : Nat → ClassId} {ad : Nat → Nat} (o : OK_X9_noTile l D cy ad) : Site l D cy ad kdY lnY 12 yX9_distance.cls tbX9_distance rm_X9_distance 2 (2, 2, P_X9_noTile, C_X9_noTile) := Or.inl ⟨99, 1, yX9_noTile, cX9_noTile, 2, (some .boolean), rm_X9_noTile, rfl, rfl, o, ca_X9_noTile, mkX9_99, ⟨rfl, rfl, by decide, by decide⟩, rv_X9_noTile⟩
theorem si_X9_distance_10 {l : Launch} {D : va_G} {cy : Nat → ClassId} {ad : Nat → Nat} (o : OK_X9_noTile l D cy ad) : Site l D cy ad kdY lnY 12 yX9_distance.cls tbX9_distance rm_X9_distance 10 (2, 2, P_X9_noTile, C_X9_noTile) := Or.inl ⟨99, 1, yX9_noTile, cX9_noTile, 2, (some .boolean), rm_X9_noTile, rfl, rfl, o, ca_X9_noTile, mkX9_99, ⟨rfl, rfl, by decide, by decide⟩, rv_X9_noTile⟩
theorem si_X9_distance_20 {l : Launch} {D : va_G} {cy : Nat → ClassId} {ad : Nat → Nat} (o : OK_X9_layDistances l D cy ad) : Site l D cy ad kdY lnY 12 yX9_distance.cls tbX9_distance rm_X9_distance 20 (2, 0, P_X9_layDistances, C_X9_layDistances) := Or.inl ⟨143, 1, yX9_layDistances, cX9_layDistances, 7, none, rm_X9_layDistances, rfl, rfl, o, ca_X9_layDistances, mkX9_143, ⟨rfl, rfl, by decide, by decide⟩, rv_X9_layDistances⟩
set_option maxRecDepth 100000 in
set_option maxHeartbeats 4000000 in
theorem met_X9_distance {l : Launch} {D : va_G} {cy : Nat → ClassId} {ad : Nat → Nat} (hA : jA ad 12) (o_X9_layDistances : OK_X9_layDistances l D cy ad) (o_X9_noTile : OK_X9_noTile l D cy ad) 
    (hent : ∀ (p : Nat) (t : Int) (o : Int) (M0 : Mem), p_X9_distance p t o M0 → okM M0 → inR t → inR o → p_X9_noTile p t M0 ∧ ∀ (x2 : Int) (M1 : Mem), inR x2 → okM M1 → c_X9_noTile p t M0 x2 M1 → ((¬ x2 = (0 : Int) → ((True) ∧ c_X9_distance p t o M0 (-1) M1)) ∧ (¬ (¬ x2 = (0 : Int)) → (p_X9_noTile p o M1 ∧ ∀ (x4 : Int) (M3 : Mem), inR x4 → okM M3 → c_X9_noTile p o M1 x4 M3 → ((x4 = (0 : Int) → (p_X9_layDistances p t M3 ∧ ∀ (x6 : Int) (M5 : Mem), inR x6 → okM M5 → c_X9_layDistances p t M3 x6 M5 → (kdY p = 9 ∧ (kdY 11 = 21 ∧ (0 ≤ o ∧ o < 144) ∧ (((1000000 : Int) ≤ (M5 11 (o).toNat) → ((True) ∧ c_X9_distance p t o M0 (-4) M5)) ∧ (¬ (1000000 : Int) ≤ (M5 11 (o).toNat) → (kdY p = 9 ∧ (kdY 11 = 21 ∧ (0 ≤ o ∧ o < 144) ∧ ((True) ∧ c_X9_distance p t o M0 (M5 11 (o).toNat) M5))))))))) ∧ (¬ x4 = (0 : Int) → ((True) ∧ c_X9_distance p t o M0 (-1) M3)))))))
    : OK_X9_distance l D cy ad := by
  refine met_of (tb := tbX9_distance) (ft := ftX9) (cst := cstY) (ct := ct_X9_distance) (cuts := []) 28 (JA_X9_distance ) hA jWY (by decide) tbX9_distance_ok (by decide) ftX9_ok cstY_ok (ldc_of (tb := tbX9_distance) (cst := cstY) (by decide)) rfl (List.forall_mem_cons.mpr ⟨si_X9_distance_2 o_X9_noTile, List.forall_mem_cons.mpr ⟨si_X9_distance_10 o_X9_noTile, List.forall_mem_cons.mpr ⟨si_X9_distance_20 o_X9_layDistances, fun q h => absurd h List.not_mem_nil⟩⟩⟩) ?_ ?_ ?_
  · intro as M0 h
    unfold P_X9_distance at h
    split at h
    · exact Nat.le_of_ble_eq_true rfl
    · exact h.elim
  · intro as M0 h hM has
    unfold P_X9_distance at h
    split at h
    next p t o => exact hent p t o M0 h hM (has t (by simp)) (has o (by simp))
    · exact h.elim
  · intro as M0 h hM has pc ls st M n hI hM1
    unfold P_X9_distance at h
    split at h
    · exact hI.elim
    · exact h.elim
